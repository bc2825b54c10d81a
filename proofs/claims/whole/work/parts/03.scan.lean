/-- a truth value as Java holds it -/
def es_b : Bool → Int32
  | true => 1
  | false => 0
/-- the scan: d tokens from p on, o brackets open, an operand wanted or not -/
def es_sd (a : Nat → Int32) : Nat → Nat → Nat → Bool → Bool
  | 0, _, o, w => decide (o = 0) && !w
  | d + 1, p, o, w =>
    if a p = 5 then w && es_sd a d (p + 1) (o + 1) true
    else if a p = 6 then !w && (decide (0 < o) && es_sd a d (p + 1) (o - 1) false)
    else if a p = 0 then w && es_sd a d (p + 1) o false
    else !w && es_sd a d (p + 1) o true
theorem es_sd5 {a : Nat → Int32} {d p o : Nat} {w : Bool} (k : a p = 5) : es_sd a (d + 1) p o w = (w && es_sd a d (p + 1) (o + 1) true) := if_pos k
theorem es_sd6 {a : Nat → Int32} {d p o : Nat} {w : Bool} (k : a p = 6) : es_sd a (d + 1) p o w = (!w && (decide (0 < o) && es_sd a d (p + 1) (o - 1) false)) := by
  have n : ¬ a p = 5 := by rw [k]; decide
  exact (if_neg n).trans (if_pos k)
theorem es_sd0 {a : Nat → Int32} {d p o : Nat} {w : Bool} (k : a p = 0) : es_sd a (d + 1) p o w = (w && es_sd a d (p + 1) o false) := by
  have n : ¬ a p = 5 := by rw [k]; decide
  have n2 : ¬ a p = 6 := by rw [k]; decide
  exact (if_neg n).trans ((if_neg n2).trans (if_pos k))
theorem es_sdo {a : Nat → Int32} {d p o : Nat} {w : Bool} (k5 : ¬ a p = 5) (k6 : ¬ a p = 6) (k0 : ¬ a p = 0) : es_sd a (d + 1) p o w = (!w && es_sd a d (p + 1) o true) :=
  (if_neg k5).trans ((if_neg k6).trans (if_neg k0))
section
variable {post : Int32 → Prop} {f : Int32} {a b s1 s2 s3 s4 h1 h2 t1 t2 t3 t4 t5 : Nat → Int32}
theorem es_sdX : ∀ (d p o : Nat) (w : Bool), p + d ≤ 60 → o ≤ p → post (es_b (es_sd a d p o w)) → wX_isSound_8 post (nI (p + d)) f a b s1 s2 s3 s4 (d + 1) (nI o) (es_b w) (nI p) := by
  intro d
  induction d with
  | zero =>
    intro p o w hd ho h
    refine br_t (nI_le (by omega) (by omega)) ?_
    cases o with
    | zero =>
      cases w with
      | true => exact br_t (nI_0) (br_f (by decide) h)
      | false => exact br_t (nI_0) (br_t rfl h)
    | succ o =>
      refine br_f (nI_ne0 (by omega) (by omega)) ?_
      have e : es_sd a 0 p (o + 1) w = false := by simp [es_sd]
      rw [e] at h
      exact h
  | succ d ih =>
    intro p o w hd ho h
    rw [show p + (d + 1) = p + 1 + d by omega]
    refine br_f (nI_ge (by omega) (by omega)) ⟨vp_in_nI (by omega) (by omega), nm_r (e' := a p) (by rw [nI_clamp (by omega)]) ?_⟩
    by_cases k5 : a p = 5
    · have k0 : ¬ a p = 0 := by rw [k5]; decide
      rw [es_sd5 k5] at h
      refine br_f k0 (br_t k5 ?_)
      cases w with
      | false => exact br_f (by decide) h
      | true => exact br_t rfl (br_t k5 (nm_r (nI_1 o) (nm_r (nI_1 p) (ih _ _ true (by omega) (by omega) h))))
    · by_cases k6 : a p = 6
      · have k0 : ¬ a p = 0 := by rw [k6]; decide
        rw [es_sd6 k6] at h
        refine br_f k0 (br_f k5 ?_)
        cases w with
        | true => exact br_f (by decide) h
        | false =>
          refine br_t rfl (br_f k5 (br_t k6 ?_))
          cases o with
          | zero => exact nm_r (e' := (-1 : Int32)) (by decide) (br_f (by decide) h)
          | succ o => exact nm_r (pk_m1 o) (br_t (nI_pos' (by omega)) (nm_r (nI_1 p) (ih (p + 1) o false (by omega) (by omega) (by simpa using h))))
      · by_cases k0 : a p = 0
        · rw [es_sd0 k0] at h
          refine br_t k0 ?_
          cases w with
          | false => exact br_f (by decide) h
          | true => exact br_t rfl (br_f k5 (br_f k6 (br_t k0 (nm_r (nI_1 p) (ih (p + 1) o false (by omega) (by omega) h)))))
        · rw [es_sdo k5 k6 k0] at h
          refine br_f k0 (br_f k5 ?_)
          cases w with
          | true => exact br_f (by decide) h
          | false => exact br_t rfl (br_f k5 (br_f k6 (br_f k0 (nm_r (nI_1 p) (ih (p + 1) o true (by omega) (by omega) h)))))
theorem es_sdY : ∀ (d p o : Nat) (w : Bool), p + d ≤ 60 → o ≤ p → post (es_b (es_sd a d p o w)) → wY_reads_8 post (nI (p + d)) f a b h1 h2 t1 t2 t3 t4 t5 (d + 1) (es_b w) (nI o) (nI p) := by
  intro d
  induction d with
  | zero =>
    intro p o w hd ho h
    refine br_t (nI_le (by omega) (by omega)) ?_
    cases w with
    | true =>
      have e : es_sd a 0 p o true = false := by simp [es_sd]
      rw [e] at h
      exact br_f (by decide) h
    | false =>
      refine br_t rfl ?_
      cases o with
      | zero => exact br_t (nI_0) h
      | succ o =>
        have e : es_sd a 0 p (o + 1) false = false := by simp [es_sd]
        rw [e] at h
        exact br_f (nI_ne0 (by omega) (by omega)) h
  | succ d ih =>
    intro p o w hd ho h
    rw [show p + (d + 1) = p + 1 + d by omega]
    refine br_f (nI_ge (by omega) (by omega)) ⟨vp_in_nI (by omega) (by omega), nm_r (e' := a p) (by rw [nI_clamp (by omega)]) ?_⟩
    by_cases k5 : a p = 5
    · have k0 : ¬ a p = 0 := by rw [k5]; decide
      have k6 : ¬ a p = 6 := by rw [k5]; decide
      rw [es_sd5 k5] at h
      refine br_f k0 (br_t k5 ?_)
      cases w with
      | false => exact br_f (by decide) h
      | true =>
        refine br_t rfl (br_f k6 (br_t k5 (br_f k0 (br_f k6 (nm_r (nI_1 p) ?_)))))
        rw [nI_1 o]
        exact ih _ _ true (by omega) (by omega) h
    · by_cases k6 : a p = 6
      · have k0 : ¬ a p = 0 := by rw [k6]; decide
        rw [es_sd6 k6] at h
        refine br_f k0 (br_f k5 ?_)
        cases w with
        | true => exact br_f (by decide) h
        | false =>
          refine br_t rfl (br_t k6 ?_)
          cases o with
          | zero => exact br_t (nI_0) h
          | succ o =>
            refine br_f (nI_ne0 (by omega) (by omega)) (br_f k5 (br_t k6 (br_f k0 (br_t k6 (nm_r (nI_1 p) ?_)))))
            rw [nI_pred o]
            exact ih (p + 1) o false (by omega) (by omega) (by simpa using h)
      · by_cases k0 : a p = 0
        · rw [es_sd0 k0] at h
          refine br_t k0 ?_
          cases w with
          | false => exact br_f (by decide) h
          | true => exact br_t rfl (br_f k6 (br_f k5 (br_f k6 (br_t k0 (nm_r (nI_1 p) (ih (p + 1) o false (by omega) (by omega) h))))))
        · rw [es_sdo k5 k6 k0] at h
          refine br_f k0 (br_f k5 ?_)
          cases w with
          | true => exact br_f (by decide) h
          | false => exact br_t rfl (br_f k6 (br_f k5 (br_f k6 (br_f k0 (br_f k6 (nm_r (nI_1 p) (ih (p + 1) o true (by omega) (by omega) h)))))))
theorem es_soundX {i d : Nat} (hd : i + d ≤ 60) (h : post (es_b (es_sd a d i 0 true))) : wpX_isSound post (f, a, b, s1, s2, s3, s4) (nI i) (nI (i + d)) :=
  ⟨d + 1, es_sdX d i 0 true hd (Nat.zero_le _) h⟩
theorem es_soundY {i d : Nat} (hd : i + d ≤ 60) (h : post (es_b (es_sd a d i 0 true))) : wpY_reads post (f, a, b, h1, h2, t1, t2, t3, t4, t5) (nI i) (nI (i + d)) :=
  ⟨d + 1, es_sdY d i 0 true hd (Nat.zero_le _) h⟩
end
