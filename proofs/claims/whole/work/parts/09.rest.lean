section
variable {a b h1 h2 : Nat → Int32}
theorem es_bs {c i : Nat} (hc : c ≤ 60) (hi : i < c) (ha : ∀ j, es_K (a j)) : ∀ n d (x y : Int32) (s1 s2 s3 s4 t1 t2 t3 t4 t5 : Nat → Int32), i + d + n = c →
    ∃ (r : Int32) (z1 z2 z3 z4 y1 y2 y3 y4 y5 : Nat → Int32),
      (∀ post : Int32 → SX → Prop, post r (nI c, a, b, z1, z2, z3, z4) → wX_best_19 post (nI i) (n + 1) x y (nI (i + d + 1)) (nI c) a b s1 s2 s3 s4) ∧
      (∀ post : Int32 → SY → Prop, post r (nI c, a, b, h1, h2, y1, y2, y3, y4, y5) → wY_best_9 post (nI i) (n + 1) x y (nI (i + d + 1)) (nI c) a b h1 h2 t1 t2 t3 t4 t5) := by
  intro n
  induction n with
  | zero => intro d x y s1 s2 s3 s4 t1 t2 t3 t4 t5 hd; exact ⟨y, s1, s2, s3, s4, t1, t2, t3, t4, t5, fun post h => br_t (nI_lt (by omega) (by omega)) h, fun post h => br_t (nI_lt (by omega) (by omega)) h⟩
  | succ n ih =>
    intro d x y s1 s2 s3 s4 t1 t2 t3 t4 t5 hd
    have l : ¬ nI c < nI (i + d + 1) := nI_nlt (by omega) (by omega)
    cases hs : es_sd a (d + 1) i 0 true with
    | false =>
      obtain ⟨r, z1, z2, z3, z4, y1, y2, y3, y4, y5, hX, hY⟩ := ih (d + 1) x y s1 s2 s3 s4 t1 t2 t3 t4 t5 (by omega)
      refine ⟨r, z1, z2, z3, z4, y1, y2, y3, y4, y5, fun post h => br_f l (es_soundX (d := d + 1) (by omega) ?_), fun post h => br_f l (es_placeY1 hc hi (br_f (by decide) (es_soundY (d := d + 1) (by omega) ?_)))⟩
      · rw [hs]; exact br_t rfl (nm_r (nI_1 _) (hX post h))
      · rw [hs]; exact br_t rfl (nm_r (nI_1 _) (hY post h))
    | true =>
      obtain ⟨q, p1, p2, p3, p4, q1, q2, q3, q4, q5, gX, gY⟩ := es_value (f := nI c) (b := b) (h1 := h1) (h2 := h2) ha (i := i) (d := d + 1) (by omega) hs s1 s2 s3 s4 t1 t2 t3 t4 t5
      by_cases hx : x = 0
      · obtain ⟨r, z1, z2, z3, z4, y1, y2, y3, y4, y5, hX, hY⟩ := ih (d + 1) 1 q p1 p2 p3 p4 q1 q2 q3 q4 q5 (by omega)
        refine ⟨r, z1, z2, z3, z4, y1, y2, y3, y4, y5, fun post h => br_f l (es_soundX (d := d + 1) (by omega) ?_), fun post h => br_f l (es_placeY1 hc hi (br_f (by decide) (es_soundY (d := d + 1) (by omega) ?_)))⟩
        · rw [hs]; exact br_f (by decide) (gX _ (br_t hx (nm_r (nI_1 _) (hX post h))))
        · rw [hs]; exact br_f (by decide) (gY _ (br_t hx (nm_r (nI_1 _) (hY post h))))
      · by_cases h1 : y ≤ q
        · obtain ⟨r, z1, z2, z3, z4, y1, y2, y3, y4, y5, hX, hY⟩ := ih (d + 1) 1 q p1 p2 p3 p4 q1 q2 q3 q4 q5 (by omega)
          refine ⟨r, z1, z2, z3, z4, y1, y2, y3, y4, y5, fun post h => br_f l (es_soundX (d := d + 1) (by omega) ?_), fun post h => br_f l (es_placeY1 hc hi (br_f (by decide) (es_soundY (d := d + 1) (by omega) ?_)))⟩
          · rw [hs]; exact br_f (by decide) (gX _ (br_f hx (br_t h1 (nm_r (nI_1 _) (hX post h)))))
          · rw [hs]
            refine br_f (by decide) (gY _ (br_f hx (br_c (fun z => nm_r (nI_1 _) ?_) fun z => nm_r (nI_1 _) (hY post h))))
            rw [Int32.le_antisymm h1 z]
            exact hY post h
        · have h2 : q ≤ y := Int32.le_of_lt (Int32.not_le.mp h1)
          obtain ⟨r, z1, z2, z3, z4, y1, y2, y3, y4, y5, hX, hY⟩ := ih (d + 1) 1 y p1 p2 p3 p4 q1 q2 q3 q4 q5 (by omega)
          refine ⟨r, z1, z2, z3, z4, y1, y2, y3, y4, y5, fun post h => br_f l (es_soundX (d := d + 1) (by omega) ?_), fun post h => br_f l (es_placeY1 hc hi (br_f (by decide) (es_soundY (d := d + 1) (by omega) ?_)))⟩
          · rw [hs]; exact br_f (by decide) (gX _ (br_f hx (br_f h1 (nm_r (nI_1 _) (hX post h)))))
          · rw [hs]; exact br_f (by decide) (gY _ (br_f hx (br_t h2 (nm_r (nI_1 _) (hY post h)))))
end
theorem i_vc_best {k : Nat} {u : SX} {v : SY} (I : i_Rel k u v) (hk : k + 4 ≤ 2048) (v1 : Int32) : wpX_best (fun r u' => wpY_best (fun r' v' => r' = r ∧ i_Rel (k + 4) u' v') v v1) u v1 := by
  obtain ⟨c, a, b, s1, s2, s3, s4, h1, h2, t1, t2, t3, t4, t5, hc, ha, rfl, rfl⟩ := I
  have R : i_Rel (k + 4) (nI c, a, b, s1, s2, s3, s4) (nI c, a, b, h1, h2, t1, t2, t3, t4, t5) := es_rel hc ha
  unfold wpX_best wpY_best
  rcases es_place hc v1 with z | ⟨i, hi, rfl⟩
  · exact es_placeX0 z (br_t rfl (nm_e ⟨1, br_c (fun _ => ⟨rfl, R⟩) fun _ => es_placeY0 z (br_t rfl ⟨rfl, R⟩)⟩))
  · obtain ⟨r, z1, z2, z3, z4, y1, y2, y3, y4, y5, hX, hY⟩ := es_bs (b := b) (h1 := h1) (h2 := h2) hc hi ha (c - i) 0 0 0 s1 s2 s3 s4 t1 t2 t3 t4 t5 (by omega)
    exact es_placeX1 hc hi (br_f (by decide) (nm_r (nI_1 i) ⟨_, hX _ (nm_r (nI_1 i) ⟨_, hY _ ⟨rfl, es_rel hc ha⟩⟩)⟩))
section
variable {a b s1 s2 s3 s4 h1 h2 t1 t2 t3 t4 t5 : Nat → Int32}
theorem es_cb {c : Nat} (hc : c ≤ 60) : ∀ n p (x : Int32), p + n = c → ∃ r : Int32,
    (∀ post : Int32 → Prop, post r → wX_closeBehind_6 post (nI c) a b s1 s2 s3 s4 (n + 1) x (nI p)) ∧
    (∀ post : Int32 → Prop, post r → wY_partner_63 post 5 1 6 (nI c) a b h1 h2 t1 t2 t3 t4 t5 (n + 1) x (nI p)) := by
  intro n
  induction n with
  | zero =>
    intro p x hd
    have l : nI c ≤ nI p := nI_le (by omega) (by omega)
    exact ⟨-2, fun post h => br_t l h, fun post h => br_f (nI_pos (by omega)) (br_t l h)⟩
  | succ n ih =>
    intro p x hd
    have l : ¬ nI c ≤ nI p := nI_ge (by omega) (by omega)
    have l0 : ¬ nI p < 0 := nI_pos (by omega)
    have i1 : vp_in (nI p) 60 := vp_in_nI (by omega) (by omega)
    by_cases k5 : a (nI p).toNatClampNeg = 5
    · have k6 : ¬ a (nI p).toNatClampNeg = 6 := by rw [k5]; decide
      obtain ⟨r, hX, hY⟩ := ih (p + 1) (x + 1) (by omega)
      exact ⟨r, fun post h => br_f l ⟨i1, br_t k5 (nm_e (nm_r (nI_1 p) (hX post h)))⟩, fun post h => br_f l0 (br_f l ⟨i1, br_f k6 ⟨i1, br_t k5 (nm_e (nm_r (nI_1 p) (hY post h)))⟩⟩)⟩
    · by_cases k6 : a (nI p).toNatClampNeg = 6
      · by_cases hx : x = 0
        · exact ⟨nI p, fun post h => br_f l ⟨i1, br_f k5 ⟨i1, br_t k6 (br_t hx h)⟩⟩, fun post h => br_f l0 (br_f l ⟨i1, br_t k6 (br_t hx h)⟩)⟩
        · obtain ⟨r, hX, hY⟩ := ih (p + 1) (x - 1) (by omega)
          exact ⟨r, fun post h => br_f l ⟨i1, br_f k5 ⟨i1, br_t k6 (br_f hx (nm_r (es_sm x) (nm_r (nI_1 p) (hX post h))))⟩⟩, fun post h => br_f l0 (br_f l ⟨i1, br_t k6 (br_f hx ⟨i1, br_f k5 ⟨i1, br_t k6 (nm_e (nm_r (nI_1 p) (hY post h)))⟩⟩)⟩)⟩
      · obtain ⟨r, hX, hY⟩ := ih (p + 1) x (by omega)
        exact ⟨r, fun post h => br_f l ⟨i1, br_f k5 ⟨i1, br_f k6 (nm_r (nI_1 p) (hX post h))⟩⟩, fun post h => br_f l0 (br_f l ⟨i1, br_f k6 ⟨i1, br_f k5 ⟨i1, br_f k6 (nm_r (nI_1 p) (hY post h))⟩⟩⟩)⟩
theorem es_ob {c : Nat} (hc : c ≤ 60) : ∀ p (x : Int32), p ≤ c → ∃ r : Int32,
    (∀ post : Int32 → Prop, post r → wX_openBefore_6 post (nI c) a b s1 s2 s3 s4 (p + 1) x (nI p - 1)) ∧
    (∀ post : Int32 → Prop, post r → wY_partner_63 post 6 (-1) 5 (nI c) a b h1 h2 t1 t2 t3 t4 t5 (p + 1) x (nI p - 1)) := by
  intro p
  induction p with
  | zero =>
    intro x hd
    have l : nI 0 - 1 < 0 := by decide
    exact ⟨-2, fun post h => br_t l h, fun post h => br_t l h⟩
  | succ p ih =>
    intro x hd
    rw [nI_pred]
    have l : ¬ nI c ≤ nI p := nI_ge (by omega) (by omega)
    have l0 : ¬ nI p < 0 := nI_pos (by omega)
    have i1 : vp_in (nI p) 60 := vp_in_nI (by omega) (by omega)
    have e1 := es_sm (nI p)
    by_cases k6 : a (nI p).toNatClampNeg = 6
    · have k5 : ¬ a (nI p).toNatClampNeg = 5 := by rw [k6]; decide
      obtain ⟨r, hX, hY⟩ := ih (x + 1) (by omega)
      exact ⟨r, fun post h => br_f l0 ⟨i1, br_t k6 (nm_e (nm_r e1 (hX post h)))⟩, fun post h => br_f l0 (br_f l ⟨i1, br_f k5 ⟨i1, br_t k6 (nm_e (nm_r e1 (hY post h)))⟩⟩)⟩
    · by_cases k5 : a (nI p).toNatClampNeg = 5
      · by_cases hx : x = 0
        · exact ⟨nI p, fun post h => br_f l0 ⟨i1, br_f k6 ⟨i1, br_t k5 (br_t hx h)⟩⟩, fun post h => br_f l0 (br_f l ⟨i1, br_t k5 (br_t hx h)⟩)⟩
        · obtain ⟨r, hX, hY⟩ := ih (x - 1) (by omega)
          exact ⟨r, fun post h => br_f l0 ⟨i1, br_f k6 ⟨i1, br_t k5 (br_f hx (nm_r (es_sm x) (nm_r e1 (hX post h))))⟩⟩, fun post h => br_f l0 (br_f l ⟨i1, br_t k5 (br_f hx ⟨i1, br_f k6 ⟨i1, br_t k5 (nm_e (nm_r e1 (hY post h)))⟩⟩)⟩)⟩
      · obtain ⟨r, hX, hY⟩ := ih x (by omega)
        exact ⟨r, fun post h => br_f l0 ⟨i1, br_f k6 ⟨i1, br_f k5 (nm_r e1 (hX post h))⟩⟩, fun post h => br_f l0 (br_f l ⟨i1, br_f k5 ⟨i1, br_f k6 ⟨i1, br_f k5 (nm_r e1 (hY post h))⟩⟩⟩)⟩
theorem es_dp {f : Int32} : ∀ n p (x y : Int32), p + n ≤ 60 → ∃ r : Int32,
    (∀ post : Int32 → Prop, post r → wX_depth_19 post (nI (p + n)) f a b s1 s2 s3 s4 (n + 1) x y (nI p)) ∧
    (∀ post : Int32 → Prop, post r → wY_depth_19 post (nI (p + n)) f a b h1 h2 t1 t2 t3 t4 t5 (n + 1) y x (nI p)) := by
  intro n
  induction n with
  | zero =>
    intro p x y hd
    have l : nI (p + 0) ≤ nI p := nI_le (by omega) (by omega)
    exact ⟨y, fun post h => br_t l h, fun post h => br_t l h⟩
  | succ n ih =>
    intro p x y hd
    rw [show p + (n + 1) = p + 1 + n by omega]
    have l : ¬ nI (p + 1 + n) ≤ nI p := nI_ge (by omega) (by omega)
    have i1 : vp_in (nI p) 60 := vp_in_nI (by omega) (by omega)
    have key : ∀ q : Int32, ∃ r : Int32,
        (∀ post : Int32 → Prop, post r → wX_depth_57 post (wX_depth_19 post (nI (p + 1 + n)) f a b s1 s2 s3 s4 (n + 1)) (nI (p + 1 + n)) q y (nI p) f a b s1 s2 s3 s4) ∧
        (∀ post : Int32 → Prop, post r → wY_depth_64 post (wY_depth_19 post (nI (p + 1 + n)) f a b h1 h2 t1 t2 t3 t4 t5 (n + 1)) (nI (p + 1 + n)) y (nI p) q f a b h1 h2 t1 t2 t3 t4 t5) := by
      intro q
      by_cases z : y ≤ q
      · obtain ⟨r, hX, hY⟩ := ih (p + 1) q q (by omega)
        refine ⟨r, fun post h => br_t z (nm_r (nI_1 p) (hX post h)), fun post h => br_c (fun z' => nm_r (nI_1 p) ?_) fun _ => nm_r (nI_1 p) (hY post h)⟩
        have e : y = q := Int32.le_antisymm z z'
        subst e
        exact hY post h
      · have z' : q ≤ y := Int32.le_of_lt (Int32.not_le.mp z)
        obtain ⟨r, hX, hY⟩ := ih (p + 1) q y (by omega)
        exact ⟨r, fun post h => br_f z (nm_r (nI_1 p) (hX post h)), fun post h => br_t z' (nm_r (nI_1 p) (hY post h))⟩
    by_cases k5 : a (nI p).toNatClampNeg = 5
    · obtain ⟨r, hX, hY⟩ := key (x + 1)
      exact ⟨r, fun post h => br_f l ⟨i1, br_t k5 (nm_e (hX post h))⟩, fun post h => br_f l ⟨i1, br_t k5 (hY post h)⟩⟩
    · by_cases k6 : a (nI p).toNatClampNeg = 6
      · obtain ⟨r, hX, hY⟩ := key (x - 1)
        exact ⟨r, fun post h => br_f l ⟨i1, br_f k5 ⟨i1, br_t k6 (nm_r (es_sm x) (hX post h))⟩⟩, fun post h => br_f l ⟨i1, br_f k5 ⟨i1, br_t k6 (hY post h)⟩⟩⟩
      · obtain ⟨r, hX, hY⟩ := key x
        exact ⟨r, fun post h => br_f l ⟨i1, br_f k5 ⟨i1, br_f k6 (hX post h)⟩⟩, fun post h => br_f l ⟨i1, br_f k5 ⟨i1, br_f k6 (hY post h)⟩⟩⟩
end
theorem i_vc_partner {k : Nat} {u : SX} {v : SY} (I : i_Rel k u v) (hk : k + 4 ≤ 2048) (v1 : Int32) : wpX_partner (fun r => wpY_partner (fun r' => r' = r ∧ i_Rel (k + 4) u v) v v1) u v1 := by
  obtain ⟨c, a, b, s1, s2, s3, s4, h1, h2, t1, t2, t3, t4, t5, hc, ha, rfl, rfl⟩ := I
  have R : i_Rel (k + 4) (nI c, a, b, s1, s2, s3, s4) (nI c, a, b, h1, h2, t1, t2, t3, t4, t5) := es_rel hc ha
  unfold wpX_partner wpY_partner
  rcases es_place hc v1 with z | ⟨i, hi, rfl⟩
  · exact es_placeX0 z (br_t rfl (es_placeY0 z (br_t rfl ⟨rfl, R⟩)))
  · have i1 : vp_in (nI i) 60 := vp_in_nI (by omega) (by omega)
    refine es_placeX1 hc hi (br_f (by decide) ⟨i1, ?_⟩)
    by_cases k5 : a (nI i).toNatClampNeg = 5
    · obtain ⟨r, hX, hY⟩ := es_cb (a := a) (b := b) (s1 := s1) (s2 := s2) (s3 := s3) (s4 := s4) (h1 := h1) (h2 := h2) (t1 := t1) (t2 := t2) (t3 := t3) (t4 := t4) (t5 := t5) hc (c - (i + 1)) (i + 1) 0 (by omega)
      exact br_t k5 (nm_r (nI_1 i) ⟨_, hX _ (es_placeY1 hc hi (br_f (by decide) ⟨i1, nm_r k5 (br_t rfl (br_t rfl (br_t rfl (nm_r (nI_1 i) ⟨_, hY _ ⟨rfl, R⟩⟩))))⟩))⟩)
    · refine br_f k5 ⟨i1, ?_⟩
      by_cases k6 : a (nI i).toNatClampNeg = 6
      · obtain ⟨r, hX, hY⟩ := es_ob (a := a) (b := b) (s1 := s1) (s2 := s2) (s3 := s3) (s4 := s4) (h1 := h1) (h2 := h2) (t1 := t1) (t2 := t2) (t3 := t3) (t4 := t4) (t5 := t5) hc i 0 (by omega)
        exact br_t k6 (nm_e ⟨_, hX _ (es_placeY1 hc hi (br_f (by decide) ⟨i1, nm_r k6 (br_f (by decide) (br_t rfl (br_f (by decide) (br_f (by decide) (nm_r (es_sm _) ⟨_, hY _ ⟨rfl, R⟩⟩)))))⟩))⟩)
      · exact br_f k6 (es_placeY1 hc hi (br_f (by decide) ⟨i1, nm_e (br_f k5 (br_f k6 ⟨rfl, R⟩))⟩))
theorem i_vc_depth {k : Nat} {u : SX} {v : SY} (I : i_Rel k u v) (hk : k + 4 ≤ 2048) (v1 : Int32) (v2 : Int32) : wpX_depth (fun r => wpY_depth (fun r' => r' = r ∧ i_Rel (k + 4) u v) v v1 v2) u v1 v2 := by
  obtain ⟨c, a, b, s1, s2, s3, s4, h1, h2, t1, t2, t3, t4, t5, hc, ha, rfl, rfl⟩ := I
  have R : i_Rel (k + 4) (nI c, a, b, s1, s2, s3, s4) (nI c, a, b, h1, h2, t1, t2, t3, t4, t5) := es_rel hc ha
  unfold wpX_depth wpY_depth
  rcases es_part hc v1 v2 with z | ⟨i, d, hd, hi, rfl, rfl⟩
  · exact es_partX0 z (br_t rfl (es_partY0 z (br_t rfl ⟨rfl, R⟩)))
  · obtain ⟨r, hX, hY⟩ := es_dp (a := a) (b := b) (s1 := s1) (s2 := s2) (s3 := s3) (s4 := s4) (h1 := h1) (h2 := h2) (t1 := t1) (t2 := t2) (t3 := t3) (t4 := t4) (t5 := t5) (f := nI c) d i 0 0 (by omega)
    exact es_partX1 hc hd hi (br_f (by decide) ⟨_, hX _ (es_partY1 hc hd hi (br_f (by decide) ⟨_, hY _ ⟨rfl, R⟩⟩))⟩)
