theorem es_Ku {a : Nat → Int32} {k : Nat} {x : Int32} (h : ∀ j, es_K (a j)) (hx : es_K x) : ∀ j, es_K (upd a k x j) := fun j => by
  unfold upd; split
  · exact hx
  · exact h j
/-- from pl on, d tokens moved up by w -/
def es_gp (a : Nat → Int32) (pl w d : Nat) : Nat → Int32 := fun j => if pl + w ≤ j ∧ j < pl + d + w then a (j - w) else a j
theorem es_Kg {a : Nat → Int32} {pl w d : Nat} (h : ∀ j, es_K (a j)) : ∀ j, es_K (es_gp a pl w d j) := fun j => by
  unfold es_gp; split
  · exact h _
  · exact h _
theorem es_gp0 (a : Nat → Int32) (pl w : Nat) : es_gp a pl w 0 = a := funext fun j => if_neg (by omega)
theorem es_gpS (a : Nat → Int32) (pl w d : Nat) : es_gp (upd a (pl + d + w) (a (pl + d))) pl w d = es_gp a pl w (d + 1) := by
  funext j
  unfold es_gp upd
  by_cases h1 : pl + w ≤ j ∧ j < pl + d + w
  · rw [if_pos h1, if_neg (by omega), if_pos (by omega)]
  · rw [if_neg h1]
    by_cases h2 : j = pl + d + w
    · rw [if_pos h2, if_pos (by omega), show j - w = pl + d by omega]
    · rw [if_neg h2, if_neg (by omega)]
/-- from q on, d tokens moved down by w -/
def es_tk (a : Nat → Int32) (q w d : Nat) : Nat → Int32 := fun j => if q ≤ j ∧ j < q + d then a (j + w) else a j
theorem es_Kt {a : Nat → Int32} {q w d : Nat} (h : ∀ j, es_K (a j)) : ∀ j, es_K (es_tk a q w d j) := fun j => by
  unfold es_tk; split
  · exact h _
  · exact h _
theorem es_tk0 (a : Nat → Int32) (q w : Nat) : es_tk a q w 0 = a := funext fun j => if_neg (by omega)
theorem es_tkS (a : Nat → Int32) (q w d : Nat) : es_tk (upd a q (a (q + w))) (q + 1) w d = es_tk a q w (d + 1) := by
  funext j
  unfold es_tk upd
  by_cases h1 : q + 1 ≤ j ∧ j < q + 1 + d
  · rw [if_pos h1, if_neg (by omega), if_pos (by omega)]
  · rw [if_neg h1]
    by_cases h2 : j = q
    · rw [if_pos h2, if_pos (by omega), h2]
    · rw [if_neg h2, if_neg (by omega)]
theorem es_tkU (a : Nat → Int32) (i w d : Nat) (x : Int32) : es_tk (upd a i x) (i + 1) w d = upd (es_tk a (i + 1) w d) i x := by
  funext j
  unfold es_tk upd
  by_cases h2 : j = i
  · rw [if_neg (by omega), if_pos h2, if_pos h2]
  · by_cases h1 : i + 1 ≤ j ∧ j < i + 1 + d
    · rw [if_pos h1, if_neg (by omega), if_neg h2]; exact (if_pos h1).symm
    · rw [if_neg h1, if_neg h2, if_neg h2]; exact (if_neg h1).symm
section
variable {post : SX → Prop} {f : Int32} {s1 s2 s3 s4 : Nat → Int32}
theorem es_mvX {a b : Nat → Int32} {x y : Nat} (hx : x < 60) (hy : y < 60) (h : post (f, upd a y (a x), upd b y (b x), s1, s2, s3, s4)) : wpX_moveToken post (f, a, b, s1, s2, s3, s4) (nI x) (nI y) := by
  unfold wpX_moveToken
  have e1 : (nI x).toNatClampNeg = x := nI_clamp (by omega)
  have e2 : (nI y).toNatClampNeg = y := nI_clamp (by omega)
  have i1 : vp_in (nI x) 60 := vp_in_nI hx (by omega)
  have i2 : vp_in (nI y) 60 := vp_in_nI hy (by omega)
  simp only [e1, e2]
  exact ⟨i1, i2, nm_e ⟨i1, i2, nm_e h⟩⟩
theorem es_ogX {pl w : Nat} : ∀ (d : Nat) (a b : Nat → Int32), pl + d + w ≤ 60 → post (f + nI w, es_gp a pl w d, es_gp b pl w d, s1, s2, s3, s4) → wX_openGap_7 post (nI pl) (nI w) (d + 1) (nI (pl + d) - 1) f a b s1 s2 s3 s4 := by
  intro d
  induction d with
  | zero =>
    intro a b hd h
    rw [es_gp0, es_gp0] at h
    exact br_t (es_pd (by omega)) (nm_e h)
  | succ d ih =>
    intro a b hd h
    rw [← es_gpS, ← es_gpS] at h
    rw [← Nat.add_assoc pl d 1, nI_pred]
    refine br_f (nI_nlt (by omega) (by omega)) ?_
    rw [nI_add]
    exact es_mvX (by omega) (by omega) (nm_r (es_sm _) (ih _ _ (by omega) h))
theorem es_toX {w : Nat} : ∀ (d q : Nat) (a b : Nat → Int32), q + w + d ≤ 60 → post (nI (q + w + d) - nI w, es_tk a q w d, es_tk b q w d, s1, s2, s3, s4) → wX_takeOut_7 post (nI w) (d + 1) (nI (q + w)) (nI (q + w + d)) a b s1 s2 s3 s4 := by
  intro d
  induction d with
  | zero =>
    intro q a b hd h
    rw [es_tk0, es_tk0] at h
    exact br_t (nI_le (by omega) (by omega)) (nm_e h)
  | succ d ih =>
    intro q a b hd h
    rw [← es_tkS, ← es_tkS, show q + w + (d + 1) = q + 1 + w + d by omega] at h
    rw [show q + w + (d + 1) = q + 1 + w + d by omega]
    refine br_f (nI_ge (by omega) (by omega)) ?_
    rw [pk_sub (by omega), show q + w - w = q by omega]
    refine es_mvX (by omega) (by omega) (nm_r (nI_1 _) ?_)
    rw [show q + w + 1 = q + 1 + w by omega]
    exact ih _ _ _ (by omega) h
theorem es_openX {a b : Nat → Int32} {c pl w : Nat} (hp : pl ≤ c) (hw : c + w ≤ 60) (h : post (nI (c + w), es_gp a pl w (c - pl), es_gp b pl w (c - pl), s1, s2, s3, s4)) : wpX_openGap post (nI c, a, b, s1, s2, s3, s4) (nI pl) (nI w) := by
  refine nm_e ⟨c - pl + 1, ?_⟩
  have e : nI c = nI (pl + (c - pl)) := by rw [show pl + (c - pl) = c by omega]
  have k := es_ogX (post := post) (f := nI c) (s1 := s1) (s2 := s2) (s3 := s3) (s4 := s4) (pl := pl) (w := w) (c - pl) a b (by omega) (by rw [nI_add]; exact h)
  rw [← e] at k
  exact k
theorem es_outX {a b : Nat → Int32} {c i w : Nat} (hp : i + w ≤ c) (hc : c ≤ 60) (h : post (nI (c - w), es_tk a i w (c - w - i), es_tk b i w (c - w - i), s1, s2, s3, s4)) : wpX_takeOut post (nI c, a, b, s1, s2, s3, s4) (nI i) (nI (i + w)) := by
  refine nm_r (e' := nI w) (by rw [pk_sub (by omega), show i + w - i = w by omega]) ⟨c - w - i + 1, ?_⟩
  have e : i + w + (c - w - i) = c := by omega
  have k := es_toX (post := post) (s1 := s1) (s2 := s2) (s3 := s3) (s4 := s4) (w := w) (c - w - i) i a b (by omega) (by rw [e, pk_sub (by omega)]; exact h)
  rw [e] at k
  exact k
end
section
variable {post : SY → Prop} {f : Int32} {h1 h2 t1 t2 t3 t4 t5 : Nat → Int32}
theorem es_ogY {pl w : Nat} : ∀ (d : Nat) (a b : Nat → Int32), pl + d + w ≤ 60 → post (f + nI w, es_gp a pl w d, es_gp b pl w d, h1, h2, t1, t2, t3, t4, t5) → wY_makeRoom_7 post (nI pl) (nI w) f (d + 1) (nI (pl + d) - 1) a b h1 h2 t1 t2 t3 t4 t5 := by
  intro d
  induction d with
  | zero =>
    intro a b hd h
    rw [es_gp0, es_gp0] at h
    exact br_t (es_pd (by omega)) (nm_e h)
  | succ d ih =>
    intro a b hd h
    rw [← es_gpS, ← es_gpS] at h
    rw [← Nat.add_assoc pl d 1, nI_pred]
    refine br_f (nI_nlt (by omega) (by omega)) ?_
    have e1 : (nI (pl + d)).toNatClampNeg = pl + d := nI_clamp (by omega)
    have e2 : (nI (pl + d + w)).toNatClampNeg = pl + d + w := nI_clamp (by omega)
    have i1 : vp_in (nI (pl + d)) 60 := vp_in_nI (by omega) (by omega)
    have i2 : vp_in (nI (pl + d + w)) 60 := vp_in_nI (by omega) (by omega)
    simp only [nI_add, e1, e2]
    exact ⟨i1, i2, nm_e ⟨i1, i2, nm_e (nm_r (es_sm _) (ih _ _ (by omega) h))⟩⟩
theorem es_toY {w : Nat} : ∀ (d q : Nat) (a b : Nat → Int32), q + w + d ≤ 60 → post (nI (q + d), es_tk a q w d, es_tk b q w d, h1, h2, t1, t2, t3, t4, t5) → wY_takeOut_12 post (nI w) (nI (q + d)) (d + 1) (nI q) a b h1 h2 t1 t2 t3 t4 t5 := by
  intro d
  induction d with
  | zero =>
    intro q a b hd h
    rw [es_tk0, es_tk0] at h
    exact br_t (nI_le (by omega) (by omega)) h
  | succ d ih =>
    intro q a b hd h
    rw [← es_tkS, ← es_tkS, show q + (d + 1) = q + 1 + d by omega] at h
    rw [show q + (d + 1) = q + 1 + d by omega]
    refine br_f (nI_ge (by omega) (by omega)) ?_
    have e1 : (nI q).toNatClampNeg = q := nI_clamp (by omega)
    have e2 : (nI (q + w)).toNatClampNeg = q + w := nI_clamp (by omega)
    have i1 : vp_in (nI q) 60 := vp_in_nI (by omega) (by omega)
    have i2 : vp_in (nI (q + w)) 60 := vp_in_nI (by omega) (by omega)
    simp only [nI_add, e1, e2]
    exact ⟨i2, i1, nm_e ⟨i2, i1, nm_e (nm_r (nI_1 _) (ih _ _ _ (by omega) h))⟩⟩
theorem es_openY {a b : Nat → Int32} {c pl w : Nat} (hp : pl ≤ c) (hw : c + w ≤ 60) (h : post (nI (c + w), es_gp a pl w (c - pl), es_gp b pl w (c - pl), h1, h2, t1, t2, t3, t4, t5)) : wpY_makeRoom post (nI c, a, b, h1, h2, t1, t2, t3, t4, t5) (nI pl) (nI w) := by
  refine nm_e ⟨c - pl + 1, ?_⟩
  have e : nI c = nI (pl + (c - pl)) := by rw [show pl + (c - pl) = c by omega]
  have k := es_ogY (post := post) (f := nI c) (h1 := h1) (h2 := h2) (t1 := t1) (t2 := t2) (t3 := t3) (t4 := t4) (t5 := t5) (pl := pl) (w := w) (c - pl) a b (by omega) (by rw [nI_add]; exact h)
  rw [← e] at k
  exact k
theorem es_outY {a b : Nat → Int32} {c i w : Nat} (hp : i + w ≤ c) (hc : c ≤ 60) (h : post (nI (c - w), es_tk a i w (c - w - i), es_tk b i w (c - w - i), h1, h2, t1, t2, t3, t4, t5)) : wpY_takeOut post (nI c, a, b, h1, h2, t1, t2, t3, t4, t5) (nI i) (nI w) := by
  refine nm_r (e' := nI (c - w)) (pk_sub (by omega)) ⟨c - w - i + 1, ?_⟩
  have e : i + (c - w - i) = c - w := by omega
  have k := es_toY (post := post) (h1 := h1) (h2 := h2) (t1 := t1) (t2 := t2) (t3 := t3) (t4 := t4) (t5 := t5) (w := w) (c - w - i) i a b (by omega) (by rw [e]; exact h)
  rw [e] at k
  exact k
end
