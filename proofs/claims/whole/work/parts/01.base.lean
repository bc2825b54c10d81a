theorem pk_us {f : Nat → Int32} {k : Nat} {x : Int32} : upd f k x k = x := if_pos rfl
theorem pk_un {f : Nat → Int32} {k j : Nat} {x : Int32} (h : j ≠ k) : upd f k x j = f j := if_neg h
theorem pk_sub {a b : Nat} (h : b ≤ a) : nI a - nI b = nI (a - b) := by
  obtain ⟨c, rfl⟩ : ∃ c, a = c + b := ⟨a - b, by omega⟩
  rw [← nI_add, Int32.add_sub_cancel, Nat.add_sub_cancel]
theorem pk_m1 (n : Nat) : nI (n + 1) + (-1) = nI n := by
  rw [← nI_1, Int32.add_assoc, show (1 : Int32) + (-1) = 0 from rfl, Int32.add_zero]

/-- one of the seven kinds -/
def es_K (x : Int32) : Prop := x = 0 ∨ x = 1 ∨ x = 2 ∨ x = 3 ∨ x = 4 ∨ x = 5 ∨ x = 6
/-- both hold the same text: one count, one row of kinds, one row of numbers; all else is free -/
def i_Rel (_ : Nat) (u : SX) (v : SY) : Prop :=
  ∃ (c : Nat) (a b s1 s2 s3 s4 h1 h2 t1 t2 t3 t4 t5 : Nat → Int32), c ≤ 60 ∧ (∀ j, es_K (a j)) ∧ u = (nI c, a, b, s1, s2, s3, s4) ∧ v = (nI c, a, b, h1, h2, t1, t2, t3, t4, t5)
theorem es_rel {k c : Nat} {a b s1 s2 s3 s4 h1 h2 t1 t2 t3 t4 t5 : Nat → Int32} (hc : c ≤ 60) (ha : ∀ j, es_K (a j)) :
    i_Rel k (nI c, a, b, s1, s2, s3, s4) (nI c, a, b, h1, h2, t1, t2, t3, t4, t5) :=
  ⟨c, a, b, s1, s2, s3, s4, h1, h2, t1, t2, t3, t4, t5, hc, ha, rfl, rfl⟩
theorem i_up {k : Nat} {u : SX} {v : SY} (h : i_Rel k u v) : i_Rel (k + 4) u v := h
theorem i_vc0 : wpX_init (fun u => wpY_init (fun v => i_Rel 0 u v)) := es_rel (k := 0) (c := 0) (by omega) (fun _ => Or.inl rfl)

theorem es_sm (x : Int32) : x + (-1) = x - 1 := by rw [Int32.sub_eq_add_neg]
theorem es_pd {n : Nat} (h : n < 2 ^ 31) : nI n - 1 < nI n := by
  cases n with
  | zero => decide
  | succ n => rw [nI_pred]; exact nI_lt (by omega) h
theorem es_nn {x : Int32} {n : Nat} (h0 : ¬ x < 0) (h1 : ¬ nI n < x) (hn : n < 2 ^ 31) : ∃ j, j ≤ n ∧ x = nI j := by
  obtain ⟨j, hj, rfl⟩ := nI_of h0
  rw [nI_ltI hn hj] at h1
  exact ⟨j, by omega, rfl⟩

/-- no part -/
def es_NP (c : Nat) (x y : Int32) : Prop := x < 0 ∨ nI c < y ∨ y ≤ x
theorem es_part {c : Nat} (hc : c ≤ 60) (x y : Int32) : es_NP c x y ∨ ∃ i d, 0 < d ∧ i + d ≤ c ∧ x = nI i ∧ y = nI (i + d) := by
  by_cases h0 : x < 0
  · exact Or.inl (Or.inl h0)
  by_cases h1 : nI c < y
  · exact Or.inl (Or.inr (Or.inl h1))
  by_cases h2 : y ≤ x
  · exact Or.inl (Or.inr (Or.inr h2))
  obtain ⟨i, hi, rfl⟩ := nI_of h0
  have h3 : ¬ y < 0 := by
    intro z
    apply h2
    exact Int32.le_trans (Int32.le_of_lt z) (nI_pos' hi)
  obtain ⟨j, hj, rfl⟩ := es_nn h3 h1 (by omega)
  rw [nI_leI (by omega) hi] at h2
  exact Or.inr ⟨i, j - i, by omega, by omega, rfl, by rw [show i + (j - i) = j by omega]⟩
section
variable {post : Int32 → Prop} {c : Nat} {a b s1 s2 s3 s4 h1 h2 t1 t2 t3 t4 t5 : Nat → Int32}
theorem es_partX0 {x y : Int32} (h : es_NP c x y) (hp : post 0) : wpX_isPart post (nI c, a, b, s1, s2, s3, s4) x y :=
  br_c (fun _ => hp) fun h0 => br_c (fun _ => hp) fun h1 => br_c (fun _ => hp) fun h2 => absurd h fun z => z.elim h0 fun z => z.elim h1 h2
theorem es_partY0 {x y : Int32} (h : es_NP c x y) (hp : post 0) : wpY_isPart post (nI c, a, b, h1, h2, t1, t2, t3, t4, t5) x y :=
  br_c (fun _ => hp) fun h0 => br_c (fun _ => hp) fun h1 => br_c (fun _ => hp) fun h2 => absurd h fun z => z.elim h0 fun z => z.elim h1 h2
theorem es_partX1 {i d : Nat} (hc : c ≤ 60) (hd : 0 < d) (h : i + d ≤ c) (hp : post 1) : wpX_isPart post (nI c, a, b, s1, s2, s3, s4) (nI i) (nI (i + d)) :=
  br_f (nI_pos (by omega)) (br_f (nI_nlt (by omega) (by omega)) (br_f (nI_ge (by omega) (by omega)) hp))
theorem es_partY1 {i d : Nat} (hc : c ≤ 60) (hd : 0 < d) (h : i + d ≤ c) (hp : post 1) : wpY_isPart post (nI c, a, b, h1, h2, t1, t2, t3, t4, t5) (nI i) (nI (i + d)) :=
  br_f (nI_pos (by omega)) (br_f (nI_nlt (by omega) (by omega)) (br_f (nI_ge (by omega) (by omega)) hp))
end
/-- no place -/
def es_NQ (c : Nat) (x : Int32) : Prop := x < 0 ∨ nI c ≤ x
theorem es_place {c : Nat} (hc : c ≤ 60) (x : Int32) : es_NQ c x ∨ ∃ i, i < c ∧ x = nI i := by
  by_cases h0 : x < 0
  · exact Or.inl (Or.inl h0)
  by_cases h1 : nI c ≤ x
  · exact Or.inl (Or.inr h1)
  obtain ⟨i, hi, rfl⟩ := nI_of h0
  rw [nI_leI (by omega) hi] at h1
  exact Or.inr ⟨i, by omega, rfl⟩
section
variable {post : Int32 → Prop} {c : Nat} {a b s1 s2 s3 s4 h1 h2 t1 t2 t3 t4 t5 : Nat → Int32}
theorem es_placeX0 {x : Int32} (h : es_NQ c x) (hp : post 0) : wpX_isPlace post (nI c, a, b, s1, s2, s3, s4) x :=
  br_c (fun _ => hp) fun h0 => br_c (fun _ => hp) fun h1 => absurd h fun z => z.elim h0 h1
theorem es_placeY0 {x : Int32} (h : es_NQ c x) (hp : post 0) : wpY_isPlace post (nI c, a, b, h1, h2, t1, t2, t3, t4, t5) x :=
  br_c (fun _ => hp) fun h0 => br_c (fun _ => hp) fun h1 => absurd h fun z => z.elim h0 h1
theorem es_placeX1 {i : Nat} (hc : c ≤ 60) (h : i < c) (hp : post 1) : wpX_isPlace post (nI c, a, b, s1, s2, s3, s4) (nI i) :=
  br_f (nI_pos (by omega)) (br_f (nI_ge (by omega) (by omega)) hp)
theorem es_placeY1 {i : Nat} (hc : c ≤ 60) (h : i < c) (hp : post 1) : wpY_isPlace post (nI c, a, b, h1, h2, t1, t2, t3, t4, t5) (nI i) :=
  br_f (nI_pos (by omega)) (br_f (nI_ge (by omega) (by omega)) hp)
theorem es_gapX0 {x : Int32} (h : x < 0 ∨ nI c < x) (hp : post 0) : wpX_isGap post (nI c, a, b, s1, s2, s3, s4) x :=
  br_c (fun _ => hp) fun h0 => br_c (fun _ => hp) fun h1 => absurd h fun z => z.elim h0 h1
theorem es_gapX1 {i : Nat} (hc : c ≤ 60) (h : i ≤ c) (hp : post 1) : wpX_isGap post (nI c, a, b, s1, s2, s3, s4) (nI i) :=
  br_f (nI_pos (by omega)) (br_f (nI_nlt (by omega) (by omega)) hp)
end
