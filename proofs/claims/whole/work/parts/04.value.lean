theorem es_nb0 : vp_nar .boolean 0 = 0 := by decide
theorem es_nb1 : vp_nar .boolean 1 = 1 := by decide
/-- the greater one -/
def es_gr (x y : Int32) : Int32 := if x ≤ y then y else x
/-- what the reference takes -/
def es_tv (k x y : Int32) : Int32 := if k = 4 then (if x ≤ y then y else x) else y
/-- the reference's end of a sum -/
def es_ev (x m p q : Int32) : Int32 := if m = 0 then x + p * q else x - p * q
/-- a level at which an operand is wanted -/
def es_W (x1 x2 x3 x4 y1 y2 y3 y4 y5 : Int32) : Prop := x1 = y1 ∧ x3 = y3 ∧ ((y2 = 0 ∧ x2 = 1) ∨ (y2 = 1 ∧ x2 = -1)) ∧ ((y5 = 4 ∧ x4 = y4) ∨ (¬ y5 = 4 ∧ x4 = -2147483648))
/-- a level behind an operand -/
def es_A (x1 x2 x3 x4 y1 y2 y3 y4 : Int32) : Prop := x1 = y1 ∧ x3 = y3 ∧ ((y2 = 0 ∧ x2 = 1) ∨ (y2 = 1 ∧ x2 = -1)) ∧ x4 = y4
theorem es_WA {x1 x2 x3 x4 y1 y2 y3 y4 y5 : Int32} (h : es_W x1 x2 x3 x4 y1 y2 y3 y4 y5) (z : Int32) : es_A x1 x2 x3 (es_gr x4 z) y1 y2 y3 (es_tv y5 y4 z) := by
  obtain ⟨e1, e2, e3, e4⟩ := h
  refine ⟨e1, e2, e3, ?_⟩
  unfold es_gr es_tv
  rcases e4 with ⟨k, rfl⟩ | ⟨k, rfl⟩
  · rw [if_pos k]
  · rw [if_neg k, if_pos]
    rw [Int32.le_iff_toInt_le]
    have := Int32.le_toInt z
    have e : (-2147483648 : Int32).toInt = -2147483648 := by decide
    omega
theorem es_Av {x1 x2 x3 x4 y1 y2 y3 y4 : Int32} (h : es_A x1 x2 x3 x4 y1 y2 y3 y4) : es_ev y1 y2 y3 y4 = x1 + x2 * (x3 * x4) := by
  obtain ⟨rfl, rfl, e3, rfl⟩ := h
  unfold es_ev
  rcases e3 with ⟨rfl, rfl⟩ | ⟨rfl, rfl⟩
  · rw [if_pos rfl, Int32.one_mul]
  · rw [if_neg (by decide)]
    rw [Int32.sub_eq_add_neg, Int32.neg_mul, Int32.one_mul]
section
variable {post : SX → Prop} {f : Int32} {a b s1 s2 s3 s4 : Nat → Int32} {l : Nat}
theorem es_beginX (hl : l < 61) (h : post (f, a, b, upd s1 l 0, upd s2 l 1, upd s3 l 1, upd s4 l (-2147483648))) : wpX_beginLevel post (f, a, b, s1, s2, s3, s4) (nI l) := by
  unfold wpX_beginLevel
  have e1 : (nI l).toNatClampNeg = l := nI_clamp (by omega)
  have i1 : vp_in (nI l) 61 := vp_in_nI hl (by omega)
  simp only [e1]
  exact ⟨i1, nm_e ⟨i1, nm_e ⟨i1, nm_e ⟨i1, nm_e h⟩⟩⟩⟩
theorem es_operX (hl : l < 61) (x : Int32) (h : post (f, a, b, s1, s2, s3, upd s4 l (es_gr (s4 l) x))) : wpX_takeOperand post (f, a, b, s1, s2, s3, s4) (nI l) x := by
  unfold wpX_takeOperand wpX_greater
  have e1 : (nI l).toNatClampNeg = l := nI_clamp (by omega)
  have i1 : vp_in (nI l) 61 := vp_in_nI hl (by omega)
  simp only [e1]
  unfold es_gr at h
  refine ⟨i1, br_c (fun k => ⟨i1, nm_e ?_⟩) fun k => ⟨i1, nm_e ?_⟩⟩
  · rw [if_pos k] at h; exact h
  · rw [if_neg k] at h; exact h
theorem es_lvX {post : Int32 → Prop} (hl : l < 61) (h : post (s1 l + s2 l * (s3 l * s4 l))) : wpX_levelValue post (f, a, b, s1, s2, s3, s4) (nI l) := by
  unfold wpX_levelValue
  have e1 : (nI l).toNatClampNeg = l := nI_clamp (by omega)
  have i1 : vp_in (nI l) 61 := vp_in_nI hl (by omega)
  simp only [e1]
  exact ⟨i1, i1, i1, i1, h⟩
theorem es_op4X (h : post (f, a, b, s1, s2, s3, s4)) : wpX_takeOperator post (f, a, b, s1, s2, s3, s4) (nI l) 4 := br_t rfl h
theorem es_op3X (hl : l < 61) (h : post (f, a, b, s1, s2, upd s3 l (s3 l * s4 l), upd s4 l (-2147483648))) : wpX_takeOperator post (f, a, b, s1, s2, s3, s4) (nI l) 3 := by
  unfold wpX_takeOperator
  have e1 : (nI l).toNatClampNeg = l := nI_clamp (by omega)
  have i1 : vp_in (nI l) 61 := vp_in_nI hl (by omega)
  simp only [e1]
  exact br_f (by decide) ⟨i1, i1, i1, nm_e ⟨i1, nm_e (br_t trivial h)⟩⟩
theorem es_op2X (hl : l < 61) (h : post (f, a, b, upd s1 l (s1 l + s2 l * (s3 l * s4 l)), upd s2 l (-1), upd (upd s3 l (s3 l * s4 l)) l 1, upd s4 l (-2147483648))) : wpX_takeOperator post (f, a, b, s1, s2, s3, s4) (nI l) 2 := by
  unfold wpX_takeOperator
  have e1 : (nI l).toNatClampNeg = l := nI_clamp (by omega)
  have i1 : vp_in (nI l) 61 := vp_in_nI hl (by omega)
  simp only [e1]
  refine br_f (by decide) ⟨i1, i1, i1, nm_e ⟨i1, nm_e (br_f (by decide) ⟨i1, i1, i1, i1, nm_e ⟨i1, nm_e (br_t trivial ⟨i1, nm_e ?_⟩)⟩⟩)⟩⟩
  rw [pk_us]
  exact h
theorem es_op1X (hl : l < 61) (h : post (f, a, b, upd s1 l (s1 l + s2 l * (s3 l * s4 l)), upd s2 l 1, upd (upd s3 l (s3 l * s4 l)) l 1, upd s4 l (-2147483648))) : wpX_takeOperator post (f, a, b, s1, s2, s3, s4) (nI l) 1 := by
  unfold wpX_takeOperator
  have e1 : (nI l).toNatClampNeg = l := nI_clamp (by omega)
  have i1 : vp_in (nI l) 61 := vp_in_nI hl (by omega)
  simp only [e1]
  refine br_f (by decide) ⟨i1, i1, i1, nm_e ⟨i1, nm_e (br_f (by decide) ⟨i1, i1, i1, i1, nm_e ⟨i1, nm_e (br_f (by decide) ⟨i1, nm_e ?_⟩)⟩⟩)⟩⟩
  rw [pk_us]
  exact h
end
section
variable {post : SY → Prop} {f : Int32} {a b h1 h2 t1 t2 t3 t4 t5 : Nat → Int32} {l : Nat}
theorem es_startY (hl : l < 61) (h : post (f, a, b, h1, h2, upd t1 l 0, upd t2 l 0, upd t3 l 1, upd t4 l 0, upd t5 l 0)) : wpY_start post (f, a, b, h1, h2, t1, t2, t3, t4, t5) (nI l) := by
  unfold wpY_start
  have e1 : (nI l).toNatClampNeg = l := nI_clamp (by omega)
  have i1 : vp_in (nI l) 62 := vp_in_nI (by omega) (by omega)
  simp only [e1, es_nb0]
  exact ⟨i1, nm_e ⟨i1, nm_e ⟨i1, nm_e ⟨i1, nm_e ⟨i1, nm_e h⟩⟩⟩⟩⟩
theorem es_takeY (hl : l < 61) (x : Int32) (h : post (f, a, b, h1, h2, t1, t2, t3, upd t4 l (es_tv (t5 l) (t4 l) x), t5)) : wpY_take post (f, a, b, h1, h2, t1, t2, t3, t4, t5) (nI l) x := by
  unfold wpY_take
  have e1 : (nI l).toNatClampNeg = l := nI_clamp (by omega)
  have i1 : vp_in (nI l) 62 := vp_in_nI (by omega) (by omega)
  simp only [e1]
  unfold es_tv at h
  refine ⟨i1, br_c (fun k => ⟨i1, br_c (fun q => ⟨i1, nm_e ?_⟩) fun q => ⟨i1, i1, nm_e ?_⟩⟩) fun k => ⟨i1, nm_e ?_⟩⟩
  · rw [if_pos k, if_pos q] at h; exact h
  · rw [if_pos k, if_neg q] at h; exact h
  · rw [if_neg k] at h; exact h
theorem es_epY (hl : l < 61) (h : post (f, a, b, h1, h2, t1, t2, upd t3 l (t3 l * t4 l), t4, t5)) : wpY_endProduct post (f, a, b, h1, h2, t1, t2, t3, t4, t5) (nI l) := by
  unfold wpY_endProduct
  have e1 : (nI l).toNatClampNeg = l := nI_clamp (by omega)
  have i1 : vp_in (nI l) 62 := vp_in_nI (by omega) (by omega)
  simp only [e1]
  exact ⟨i1, i1, i1, nm_e h⟩
theorem es_esY (hl : l < 61) (h : post (f, a, b, h1, h2, upd t1 l (es_ev (t1 l) (t2 l) (t3 l) (t4 l)), t2, upd (upd t3 l (t3 l * t4 l)) l 1, t4, t5)) : wpY_endSum post (f, a, b, h1, h2, t1, t2, t3, t4, t5) (nI l) := by
  unfold wpY_endSum
  have e1 : (nI l).toNatClampNeg = l := nI_clamp (by omega)
  have i1 : vp_in (nI l) 62 := vp_in_nI (by omega) (by omega)
  refine es_epY hl ?_
  simp only [e1]
  unfold es_ev at h
  refine ⟨i1, br_c (fun k => ⟨i1, i1, i1, nm_e ⟨i1, nm_e ?_⟩⟩) fun k => ⟨i1, i1, i1, nm_e ⟨i1, nm_e ?_⟩⟩⟩
  · rw [if_pos k] at h; rw [pk_us]; exact h
  · rw [if_neg k] at h; rw [pk_us]; exact h
end
