/-- the text with a copy of k tokens from i on put in at pl (w: how wide the gap is, d: how many stood behind it) -/
def es_cp (a : Nat → Int32) (i pl w d k : Nat) : Nat → Int32 := fun j => if pl ≤ j ∧ j < pl + k then a (i + (j - pl)) else es_gp a pl w d j
theorem es_Kc {a : Nat → Int32} {i pl w d k : Nat} (h : ∀ j, es_K (a j)) : ∀ j, es_K (es_cp a i pl w d k j) := fun j => by
  unfold es_cp; split
  · exact h _
  · exact es_Kg h j
theorem es_cp0 (a : Nat → Int32) (i pl w d : Nat) : es_cp a i pl w d 0 = es_gp a pl w d := funext fun j => if_neg (by omega)
theorem es_cpS (a : Nat → Int32) (i pl w d k : Nat) : upd (es_cp a i pl w d k) (pl + k) (a (i + k)) = es_cp a i pl w d (k + 1) := by
  funext j
  unfold upd es_cp
  by_cases h1 : j = pl + k
  · rw [if_pos h1, if_pos (by omega), show i + (j - pl) = i + k by omega]
  · rw [if_neg h1]
    by_cases h2 : pl ≤ j ∧ j < pl + k
    · rw [if_pos h2, if_pos (by omega)]
    · rw [if_neg h2, if_neg (by omega)]
theorem es_cpL (a : Nat → Int32) {i pl w d k : Nat} (h : i + k < pl) : es_cp a i pl w d k (i + k) = a (i + k) := by
  unfold es_cp es_gp
  rw [if_neg (by omega), if_neg (by omega)]
theorem es_cpH (a : Nat → Int32) {i pl w d k : Nat} (h : pl ≤ i + k) (hk : k ≤ w) (hd : i + k < pl + d) : es_cp a i pl w d k (i + k + w) = a (i + k) := by
  unfold es_cp es_gp
  rw [if_neg (by omega), if_pos (by omega), show i + k + w - w = i + k by omega]
section
variable {post : Int32 → SX → Prop} {f : Int32} {a b s1 s2 s3 s4 : Nat → Int32}
theorem es_cpX {i pl w d : Nat} (hi : i + w ≤ pl + d) (hw : pl + d + w ≤ 60) : ∀ (n k : Nat), k + n = w → post f (f, es_cp a i pl w d w, es_cp b i pl w d w, s1, s2, s3, s4) →
    wX_copy_52 post (nI i) (nI pl) (nI w) (n + 1) (nI k) f (es_cp a i pl w d k) (es_cp b i pl w d k) s1 s2 s3 s4 := by
  intro n
  induction n with
  | zero =>
    intro k hk h
    rw [show k = w by omega]
    exact br_t (nI_le (by omega) (by omega)) h
  | succ n ih =>
    intro k hk h
    refine br_f (nI_ge (by omega) (by omega)) ?_
    have g := ih (k + 1) (by omega) h
    rw [← es_cpS, ← es_cpS] at g
    rw [nI_add]
    by_cases z : pl ≤ i + k
    · refine br_t (nI_le z (by omega)) ?_
      unfold wX_copy_81
      rw [nI_add, nI_add]
      refine es_mvX (by omega) (by omega) (nm_r (nI_1 k) ?_)
      rw [es_cpH a z (by omega) (by omega), es_cpH b z (by omega) (by omega)]
      exact g
    · refine br_f (nI_ge (by omega) (by omega)) ?_
      unfold wX_copy_81
      rw [nI_add]
      refine es_mvX (by omega) (by omega) (nm_r (nI_1 k) ?_)
      rw [es_cpL a (by omega), es_cpL b (by omega)]
      exact g
end
section
variable {post : Int32 → SY → Prop} {f : Int32} {a b t1 t2 t3 t4 t5 : Nat → Int32}
theorem es_cpY {h1 h2 : Nat → Int32} {i pl w d : Nat} (hw : pl + d + w ≤ 60) (e1 : ∀ k, k < w → h1 k = a (i + k)) (e2 : ∀ k, k < w → h2 k = b (i + k)) : ∀ (n k : Nat), k + n = w → post f (f, es_cp a i pl w d w, es_cp b i pl w d w, h1, h2, t1, t2, t3, t4, t5) →
    wY_copy_104 post (nI pl) (nI w) f (n + 1) (nI k) (es_cp a i pl w d k) (es_cp b i pl w d k) h1 h2 t1 t2 t3 t4 t5 := by
  intro n
  induction n with
  | zero =>
    intro k hk h
    rw [show k = w by omega]
    exact br_t (nI_le (by omega) (by omega)) h
  | succ n ih =>
    intro k hk h
    refine br_f (nI_ge (by omega) (by omega)) ?_
    have g := ih (k + 1) (by omega) h
    rw [← es_cpS, ← es_cpS] at g
    have c1 : (nI k).toNatClampNeg = k := nI_clamp (by omega)
    have c2 : (nI (pl + k)).toNatClampNeg = pl + k := nI_clamp (by omega)
    have i1 : vp_in (nI k) 60 := vp_in_nI (by omega) (by omega)
    have i2 : vp_in (nI (pl + k)) 60 := vp_in_nI (by omega) (by omega)
    simp only [nI_add, c1, c2, e1 k (by omega), e2 k (by omega)]
    exact ⟨i1, i2, nm_e ⟨i1, i2, nm_e (nm_r (nI_1 k) g)⟩⟩
theorem es_hdY {c i pl w : Nat} (hi : i + w ≤ c) (hp : pl ≤ c) (hw : c + w ≤ 60) (hE : ∀ h1 h2, post (nI (c + w)) (nI (c + w), es_cp a i pl w (c - pl) w, es_cp b i pl w (c - pl) w, h1, h2, t1, t2, t3, t4, t5)) : ∀ (n k : Nat) (h1 h2 : Nat → Int32), k + n = w →
    (∀ j, j < k → h1 j = a (i + j)) → (∀ j, j < k → h2 j = b (i + j)) →
    wY_copy_49 post (nI i) (nI pl) (nI w) (nI c) (n + 1) (nI k) a b h1 h2 t1 t2 t3 t4 t5 := by
  intro n
  induction n with
  | zero =>
    intro k h1 h2 hk e1 e2
    refine br_t (nI_le (by omega) (by omega)) (es_openY hp hw ⟨w + 1, ?_⟩)
    rw [show k = w by omega] at e1 e2
    have g := es_cpY (post := post) (f := nI (c + w)) (t1 := t1) (t2 := t2) (t3 := t3) (t4 := t4) (t5 := t5) (i := i) (pl := pl) (w := w) (d := c - pl) (by omega) e1 e2 w 0 (by omega) (hE h1 h2)
    rw [es_cp0, es_cp0] at g
    exact g
  | succ n ih =>
    intro k h1 h2 hk e1 e2
    refine br_f (nI_ge (by omega) (by omega)) ?_
    have c1 : (nI k).toNatClampNeg = k := nI_clamp (by omega)
    have c2 : (nI (i + k)).toNatClampNeg = i + k := nI_clamp (by omega)
    have i1 : vp_in (nI k) 60 := vp_in_nI (by omega) (by omega)
    have i2 : vp_in (nI (i + k)) 60 := vp_in_nI (by omega) (by omega)
    simp only [nI_add, c1, c2]
    refine ⟨i2, i1, nm_e ⟨i2, i1, nm_e (nm_r (nI_1 k) (ih _ _ _ (by omega) ?_ ?_))⟩⟩
    · exact lt_s (fun j hj => by rw [pk_un (Nat.ne_of_lt hj)]; exact e1 j hj) pk_us
    · exact lt_s (fun j hj => by rw [pk_un (Nat.ne_of_lt hj)]; exact e2 j hj) pk_us
end
theorem i_vc_insert {k : Nat} {u : SX} {v : SY} (I : i_Rel k u v) (hk : k + 4 ≤ 2048) (v1 : Int32) (v2 : Int32) (v3 : Int32) : wpX_insert (fun r u' => wpY_insert (fun r' v' => r' = r ∧ i_Rel (k + 4) u' v') v v1 v2 v3) u v1 v2 v3 := by
  obtain ⟨c, a, b, s1, s2, s3, s4, h1, h2, t1, t2, t3, t4, t5, hc, ha, rfl, rfl⟩ := I
  have R : i_Rel (k + 4) (nI c, a, b, s1, s2, s3, s4) (nI c, a, b, h1, h2, t1, t2, t3, t4, t5) := es_rel hc ha
  unfold wpX_insert
  by_cases g0 : v1 < 0
  · exact es_gapX0 (Or.inl g0) (br_t rfl (br_t g0 ⟨rfl, R⟩))
  by_cases g1 : nI c < v1
  · exact es_gapX0 (Or.inr g1) (br_t rfl (br_f g0 (br_f (Int32.not_le.mpr g1) ⟨rfl, R⟩)))
  obtain ⟨pl, hpl, rfl⟩ := es_nn g0 g1 (by omega)
  have g2 : nI pl ≤ nI c := nI_le hpl (by omega)
  refine es_gapX1 hc hpl (br_f (by decide) ?_)
  by_cases k0 : v2 < 0
  · exact br_t k0 (br_f g0 (br_t g2 (br_t k0 ⟨rfl, R⟩)))
  refine br_f k0 ?_
  by_cases k6 : v2 ≤ 6
  · refine br_t k6 ?_
    have hK : es_K v2 := by
      obtain ⟨q, hq, rfl⟩ := nI_of2 (n := 6) (by decide) k0 k6
      have : q = 0 ∨ q = 1 ∨ q = 2 ∨ q = 3 ∨ q = 4 ∨ q = 5 ∨ q = 6 := by omega
      rcases this with rfl | rfl | rfl | rfl | rfl | rfl | rfl
      · exact Or.inl rfl
      · exact Or.inr (Or.inl rfl)
      · exact Or.inr (Or.inr (Or.inl rfl))
      · exact Or.inr (Or.inr (Or.inr (Or.inl rfl)))
      · exact Or.inr (Or.inr (Or.inr (Or.inr (Or.inl rfl))))
      · exact Or.inr (Or.inr (Or.inr (Or.inr (Or.inr (Or.inl rfl)))))
      · exact Or.inr (Or.inr (Or.inr (Or.inr (Or.inr (Or.inr rfl)))))
    by_cases hc6 : c = 60
    · subst hc6
      exact br_f (by decide) (br_f g0 (br_t g2 (br_f k0 (br_t k6 (br_t rfl ⟨rfl, R⟩)))))
    · have c60 : ¬ nI c = 60 := fun z => hc6 ((nI_eq (b := 60) (by omega) (by omega)).mp z)
      have e1 : (nI pl).toNatClampNeg = pl := nI_clamp (by omega)
      have i1 : vp_in (nI pl) 60 := vp_in_nI (by omega) (by omega)
      have RR : ∀ x, i_Rel (k + 4) (nI (c + 1), upd (es_gp a pl 1 (c - pl)) pl v2, upd (es_gp b pl 1 (c - pl)) pl x, s1, s2, s3, s4) (nI (c + 1), upd (es_gp a pl 1 (c - pl)) pl v2, upd (es_gp b pl 1 (c - pl)) pl x, h1, h2, t1, t2, t3, t4, t5) := fun x => es_rel (by omega) (es_Ku (es_Kg ha) hK)
      refine br_t (nI_lt (b := 60) (by omega) (by omega)) (es_openX (w := 1) hpl (by omega) ?_)
      dsimp only
      rw [e1]
      by_cases z : v2 = 0
      · refine ⟨i1, nm_e (br_t z ⟨i1, nm_e ?_⟩)⟩
        refine br_f g0 (br_t g2 (br_f k0 (br_t k6 (br_f c60 (es_openY (w := 1) hpl (by omega) ?_)))))
        dsimp only
        rw [e1]
        exact ⟨i1, nm_e (br_t z ⟨i1, nm_e ⟨rfl, RR _⟩⟩)⟩
      · refine ⟨i1, nm_e (br_f z ⟨i1, nm_e ?_⟩)⟩
        refine br_f g0 (br_t g2 (br_f k0 (br_t k6 (br_f c60 (es_openY (w := 1) hpl (by omega) ?_)))))
        dsimp only
        rw [e1]
        exact ⟨i1, nm_e (br_f z ⟨i1, nm_e ⟨rfl, RR _⟩⟩)⟩
  · exact br_f k6 (br_f g0 (br_t g2 (br_f k0 (br_f k6 ⟨rfl, R⟩))))
theorem i_vc_delete {k : Nat} {u : SX} {v : SY} (I : i_Rel k u v) (hk : k + 4 ≤ 2048) (v1 : Int32) (v2 : Int32) : wpX_delete (fun r u' => wpY_delete (fun r' v' => r' = r ∧ i_Rel (k + 4) u' v') v v1 v2) u v1 v2 := by
  obtain ⟨c, a, b, s1, s2, s3, s4, h1, h2, t1, t2, t3, t4, t5, hc, ha, rfl, rfl⟩ := I
  have R : i_Rel (k + 4) (nI c, a, b, s1, s2, s3, s4) (nI c, a, b, h1, h2, t1, t2, t3, t4, t5) := es_rel hc ha
  unfold wpX_delete wpY_delete
  rcases es_part hc v1 v2 with z | ⟨i, d, hd, hi, rfl, rfl⟩
  · exact es_partX0 z (br_t rfl (es_partY0 z (br_t rfl ⟨rfl, R⟩)))
  · refine es_partX1 hc hd hi (br_f (by decide) (es_outX hi hc (es_partY1 hc hd hi (br_f (by decide) ?_))))
    rw [pk_sub (by omega), show i + d - i = d by omega]
    exact es_outY hi hc ⟨rfl, es_rel (by omega) (es_Kt ha)⟩
theorem i_vc_set {k : Nat} {u : SX} {v : SY} (I : i_Rel k u v) (hk : k + 4 ≤ 2048) (v1 : Int32) (v2 : Int32) : wpX_set (fun r u' => wpY_set (fun r' v' => r' = r ∧ i_Rel (k + 4) u' v') v v1 v2) u v1 v2 := by
  obtain ⟨c, a, b, s1, s2, s3, s4, h1, h2, t1, t2, t3, t4, t5, hc, ha, rfl, rfl⟩ := I
  have R : i_Rel (k + 4) (nI c, a, b, s1, s2, s3, s4) (nI c, a, b, h1, h2, t1, t2, t3, t4, t5) := es_rel hc ha
  unfold wpX_set wpY_set
  rcases es_place hc v1 with z | ⟨i, hi, rfl⟩
  · exact es_placeX0 z (br_t rfl (es_placeY0 z (br_t rfl ⟨rfl, R⟩)))
  · have i1 : vp_in (nI i) 60 := vp_in_nI (by omega) (by omega)
    refine es_placeX1 hc hi (br_f (by decide) ⟨i1, ?_⟩)
    by_cases z : a (nI i).toNatClampNeg = 0
    · exact br_t z ⟨i1, nm_e (es_placeY1 hc hi (br_f (by decide) ⟨i1, br_t z ⟨i1, nm_e ⟨rfl, es_rel hc ha⟩⟩⟩))⟩
    · exact br_f z (es_placeY1 hc hi (br_f (by decide) ⟨i1, br_f z ⟨rfl, R⟩⟩))
theorem i_vc_copy {k : Nat} {u : SX} {v : SY} (I : i_Rel k u v) (hk : k + 4 ≤ 2048) (v1 : Int32) (v2 : Int32) (v3 : Int32) : wpX_copy (fun r u' => wpY_copy (fun r' v' => r' = r ∧ i_Rel (k + 4) u' v') v v1 v2 v3) u v1 v2 v3 := by
  obtain ⟨c, a, b, s1, s2, s3, s4, h1, h2, t1, t2, t3, t4, t5, hc, ha, rfl, rfl⟩ := I
  have R : i_Rel (k + 4) (nI c, a, b, s1, s2, s3, s4) (nI c, a, b, h1, h2, t1, t2, t3, t4, t5) := es_rel hc ha
  unfold wpX_copy wpY_copy
  rcases es_part hc v1 v2 with z | ⟨i, d, hd, hi, rfl, rfl⟩
  · exact es_partX0 z (br_t rfl (es_partY0 z (br_t rfl ⟨rfl, R⟩)))
  refine es_partX1 hc hd hi (br_f (by decide) ?_)
  by_cases g0 : v3 < 0
  · exact es_gapX0 (Or.inl g0) (br_t rfl (es_partY1 hc hd hi (br_f (by decide) (br_t g0 ⟨rfl, R⟩))))
  by_cases g1 : nI c < v3
  · exact es_gapX0 (Or.inr g1) (br_t rfl (es_partY1 hc hd hi (br_f (by decide) (br_f g0 (br_f (Int32.not_le.mpr g1) ⟨rfl, R⟩)))))
  obtain ⟨pl, hpl, rfl⟩ := es_nn g0 g1 (by omega)
  have g2 : nI pl ≤ nI c := nI_le hpl (by omega)
  have ew : nI (i + d) - nI i = nI d := by rw [pk_sub (by omega), show i + d - i = d by omega]
  refine es_gapX1 hc hpl (br_f (by decide) (nm_r ew ?_))
  by_cases hw : c + d ≤ 60
  · have l6 : nI c + nI d ≤ 60 := by rw [nI_add]; exact nI_le (b := 60) hw (by omega)
    refine br_t l6 (es_openX hpl hw ⟨d + 1, ?_⟩)
    rw [← es_cp0 a i, ← es_cp0 b i]
    refine es_cpX (by omega) (by omega) d 0 (by omega) ?_
    exact es_partY1 hc hd hi (br_f (by decide) (br_f g0 (br_t g2 (nm_r ew (br_t l6 ⟨d + 1, es_hdY hi hpl hw (fun _ _ => ⟨rfl, es_rel hw (es_Kc ha)⟩) d 0 h1 h2 (by omega) lt_0 lt_0⟩)))))
  · have l6 : ¬ nI c + nI d ≤ 60 := by rw [nI_add]; exact nI_ge (a := 60) (by omega) (by omega)
    exact br_f l6 (es_partY1 hc hd hi (br_f (by decide) (br_f g0 (br_t g2 (nm_r ew (br_f l6 ⟨rfl, R⟩))))))
theorem i_vc_fold {k : Nat} {u : SX} {v : SY} (I : i_Rel k u v) (hk : k + 4 ≤ 2048) (v1 : Int32) (v2 : Int32) : wpX_fold (fun r u' => wpY_fold (fun r' v' => r' = r ∧ i_Rel (k + 4) u' v') v v1 v2) u v1 v2 := by
  obtain ⟨c, a, b, s1, s2, s3, s4, h1, h2, t1, t2, t3, t4, t5, hc, ha, rfl, rfl⟩ := I
  have R : i_Rel (k + 4) (nI c, a, b, s1, s2, s3, s4) (nI c, a, b, h1, h2, t1, t2, t3, t4, t5) := es_rel hc ha
  unfold wpX_fold wpY_fold
  rcases es_part hc v1 v2 with z | ⟨i, d, hd, hi, rfl, rfl⟩
  · exact es_partX0 z (br_t rfl (es_partY0 z (br_t rfl ⟨rfl, R⟩)))
  refine es_partX1 hc hd hi (br_f (by decide) (es_soundX (by omega) ?_))
  by_cases hs : es_sd a d i 0 true = true
  · rw [hs]
    refine br_f (by decide) ?_
    obtain ⟨r, z1, z2, z3, z4, y1, y2, y3, y4, y5, hX, hY⟩ := es_value (f := nI c) (b := b) (h1 := h1) (h2 := h2) ha (by omega) hs s1 s2 s3 s4 t1 t2 t3 t4 t5
    refine hX _ ?_
    have e1 : (nI i).toNatClampNeg = i := nI_clamp (by omega)
    have i1 : vp_in (nI i) 60 := vp_in_nI (by omega) (by omega)
    dsimp only
    rw [e1, nI_1, show i + d = i + 1 + (d - 1) by omega]
    refine ⟨i1, nm_e ⟨i1, nm_e (es_outX (by omega) hc ?_)⟩⟩
    rw [← show i + d = i + 1 + (d - 1) by omega]
    refine es_partY1 hc hd hi (br_f (by decide) (es_soundY (by omega) ?_))
    rw [hs]
    refine br_f (by decide) (hY _ ?_)
    dsimp only
    rw [pk_sub (by omega), show i + d - i = d - 1 + 1 by omega, nI_pred]
    refine es_outY (by omega) hc ⟨i1, nm_e ⟨i1, nm_e ⟨rfl, ?_⟩⟩⟩
    rw [es_tkU, es_tkU]
    exact es_rel (by omega) (es_Ku (es_Kt ha) (Or.inl rfl))
  · rw [Bool.not_eq_true] at hs
    rw [hs]
    refine br_t rfl (es_partY1 hc hd hi (br_f (by decide) (es_soundY (by omega) ?_)))
    rw [hs]
    exact br_t rfl ⟨rfl, R⟩
theorem i_vc_clear {k : Nat} {u : SX} {v : SY} (I : i_Rel k u v) (hk : k + 4 ≤ 2048) : wpX_clear (fun r u' => wpY_clear (fun r' v' => r' = r ∧ i_Rel (k + 4) u' v') v) u := by
  obtain ⟨c, a, b, s1, s2, s3, s4, h1, h2, t1, t2, t3, t4, t5, hc, ha, rfl, rfl⟩ := I
  exact ⟨rfl, es_rel (k := k + 4) (c := 0) (by omega) ha⟩
