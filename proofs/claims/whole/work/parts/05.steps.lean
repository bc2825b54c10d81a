section
variable {post : Int32 → SX → Prop} {f : Int32} {a b s1 s2 s3 s4 : Nat → Int32} {l p d n : Nat}
theorem es_vX0 (hd : p + 1 + d ≤ 60) (hl : l < 60) (k : a p = 0) (h : wX_valueOf_10 post (nI (p + 1 + d)) n (nI l) (nI (p + 1)) f a b s1 s2 s3 (upd s4 l (es_gr (s4 l) (b p)))) : wX_valueOf_10 post (nI (p + 1 + d)) (n + 1) (nI l) (nI p) f a b s1 s2 s3 s4 := by
  have e1 : (nI p).toNatClampNeg = p := nI_clamp (by omega)
  have i1 : vp_in (nI p) 60 := vp_in_nI (by omega) (by omega)
  refine br_f (nI_ge (by omega) (by omega)) ⟨i1, nm_r (e' := (0 : Int32)) (by rw [e1, k]) ?_⟩
  refine br_t rfl ⟨i1, ?_⟩
  rw [e1]
  exact es_operX (by omega) _ (nm_r (nI_1 p) h)
theorem es_vX5 (hd : p + 1 + d ≤ 60) (hl : l < 60) (k : a p = 5) (h : wX_valueOf_10 post (nI (p + 1 + d)) n (nI (l + 1)) (nI (p + 1)) f a b (upd s1 (l + 1) 0) (upd s2 (l + 1) 1) (upd s3 (l + 1) 1) (upd s4 (l + 1) (-2147483648))) : wX_valueOf_10 post (nI (p + 1 + d)) (n + 1) (nI l) (nI p) f a b s1 s2 s3 s4 := by
  have e1 : (nI p).toNatClampNeg = p := nI_clamp (by omega)
  have i1 : vp_in (nI p) 60 := vp_in_nI (by omega) (by omega)
  refine br_f (nI_ge (by omega) (by omega)) ⟨i1, nm_r (e' := (5 : Int32)) (by rw [e1, k]) ?_⟩
  exact br_f (by decide) (br_t rfl (nm_r (nI_1 l) (es_beginX (by omega) (nm_r (nI_1 p) h))))
theorem es_vX6 (hd : p + 1 + d ≤ 60) (hl : l < 60) (k : a p = 6) (h : wX_valueOf_10 post (nI (p + 1 + d)) n (nI l) (nI (p + 1)) f a b s1 s2 s3 (upd s4 l (es_gr (s4 l) (s1 (l + 1) + s2 (l + 1) * (s3 (l + 1) * s4 (l + 1)))))) : wX_valueOf_10 post (nI (p + 1 + d)) (n + 1) (nI (l + 1)) (nI p) f a b s1 s2 s3 s4 := by
  have e1 : (nI p).toNatClampNeg = p := nI_clamp (by omega)
  have i1 : vp_in (nI p) 60 := vp_in_nI (by omega) (by omega)
  refine br_f (nI_ge (by omega) (by omega)) ⟨i1, nm_r (e' := (6 : Int32)) (by rw [e1, k]) ?_⟩
  exact br_f (by decide) (br_f (by decide) (br_t rfl (es_lvX (by omega) (nm_r (pk_m1 l) (es_operX (by omega) _ (nm_r (nI_1 p) h))))))
theorem es_vX4 (hd : p + 1 + d ≤ 60) (hl : l < 60) (k : a p = 4) (h : wX_valueOf_10 post (nI (p + 1 + d)) n (nI l) (nI (p + 1)) f a b s1 s2 s3 s4) : wX_valueOf_10 post (nI (p + 1 + d)) (n + 1) (nI l) (nI p) f a b s1 s2 s3 s4 := by
  have e1 : (nI p).toNatClampNeg = p := nI_clamp (by omega)
  have i1 : vp_in (nI p) 60 := vp_in_nI (by omega) (by omega)
  refine br_f (nI_ge (by omega) (by omega)) ⟨i1, nm_r (e' := (4 : Int32)) (by rw [e1, k]) ?_⟩
  exact br_f (by decide) (br_f (by decide) (br_f (by decide) (es_op4X (nm_r (nI_1 p) h))))
theorem es_vX3 (hd : p + 1 + d ≤ 60) (hl : l < 60) (k : a p = 3) (h : wX_valueOf_10 post (nI (p + 1 + d)) n (nI l) (nI (p + 1)) f a b s1 s2 (upd s3 l (s3 l * s4 l)) (upd s4 l (-2147483648))) : wX_valueOf_10 post (nI (p + 1 + d)) (n + 1) (nI l) (nI p) f a b s1 s2 s3 s4 := by
  have e1 : (nI p).toNatClampNeg = p := nI_clamp (by omega)
  have i1 : vp_in (nI p) 60 := vp_in_nI (by omega) (by omega)
  refine br_f (nI_ge (by omega) (by omega)) ⟨i1, nm_r (e' := (3 : Int32)) (by rw [e1, k]) ?_⟩
  exact br_f (by decide) (br_f (by decide) (br_f (by decide) (es_op3X (by omega) (nm_r (nI_1 p) h))))
theorem es_vX2 (hd : p + 1 + d ≤ 60) (hl : l < 60) (k : a p = 2) (h : wX_valueOf_10 post (nI (p + 1 + d)) n (nI l) (nI (p + 1)) f a b (upd s1 l (s1 l + s2 l * (s3 l * s4 l))) (upd s2 l (-1)) (upd (upd s3 l (s3 l * s4 l)) l 1) (upd s4 l (-2147483648))) : wX_valueOf_10 post (nI (p + 1 + d)) (n + 1) (nI l) (nI p) f a b s1 s2 s3 s4 := by
  have e1 : (nI p).toNatClampNeg = p := nI_clamp (by omega)
  have i1 : vp_in (nI p) 60 := vp_in_nI (by omega) (by omega)
  refine br_f (nI_ge (by omega) (by omega)) ⟨i1, nm_r (e' := (2 : Int32)) (by rw [e1, k]) ?_⟩
  exact br_f (by decide) (br_f (by decide) (br_f (by decide) (es_op2X (by omega) (nm_r (nI_1 p) h))))
theorem es_vX1 (hd : p + 1 + d ≤ 60) (hl : l < 60) (k : a p = 1) (h : wX_valueOf_10 post (nI (p + 1 + d)) n (nI l) (nI (p + 1)) f a b (upd s1 l (s1 l + s2 l * (s3 l * s4 l))) (upd s2 l 1) (upd (upd s3 l (s3 l * s4 l)) l 1) (upd s4 l (-2147483648))) : wX_valueOf_10 post (nI (p + 1 + d)) (n + 1) (nI l) (nI p) f a b s1 s2 s3 s4 := by
  have e1 : (nI p).toNatClampNeg = p := nI_clamp (by omega)
  have i1 : vp_in (nI p) 60 := vp_in_nI (by omega) (by omega)
  refine br_f (nI_ge (by omega) (by omega)) ⟨i1, nm_r (e' := (1 : Int32)) (by rw [e1, k]) ?_⟩
  exact br_f (by decide) (br_f (by decide) (br_f (by decide) (es_op1X (by omega) (nm_r (nI_1 p) h))))
end
section
variable {post : Int32 → SY → Prop} {f : Int32} {a b h1 h2 t1 t2 t3 t4 t5 : Nat → Int32} {l p d n : Nat}
theorem es_vY0 (hd : p + 1 + d ≤ 60) (hl : l < 60) (k : a p = 0) (h : wY_valueOf_10 post (nI (p + 1 + d)) n (nI l) (nI (p + 1)) f a b h1 h2 t1 t2 t3 (upd t4 l (es_tv (t5 l) (t4 l) (b p))) t5) : wY_valueOf_10 post (nI (p + 1 + d)) (n + 1) (nI l) (nI p) f a b h1 h2 t1 t2 t3 t4 t5 := by
  have e1 : (nI p).toNatClampNeg = p := nI_clamp (by omega)
  have i1 : vp_in (nI p) 60 := vp_in_nI (by omega) (by omega)
  refine br_f (nI_ge (by omega) (by omega)) ⟨i1, nm_r (e' := (0 : Int32)) (by rw [e1, k]) ?_⟩
  refine br_t rfl ⟨i1, ?_⟩
  rw [e1]
  exact es_takeY (by omega) _ (nm_r (nI_1 p) h)
theorem es_vY5 (hd : p + 1 + d ≤ 60) (hl : l < 60) (k : a p = 5) (h : wY_valueOf_10 post (nI (p + 1 + d)) n (nI (l + 1)) (nI (p + 1)) f a b h1 h2 (upd t1 (l + 1) 0) (upd t2 (l + 1) 0) (upd t3 (l + 1) 1) (upd t4 (l + 1) 0) (upd t5 (l + 1) 0)) : wY_valueOf_10 post (nI (p + 1 + d)) (n + 1) (nI l) (nI p) f a b h1 h2 t1 t2 t3 t4 t5 := by
  have e1 : (nI p).toNatClampNeg = p := nI_clamp (by omega)
  have i1 : vp_in (nI p) 60 := vp_in_nI (by omega) (by omega)
  refine br_f (nI_ge (by omega) (by omega)) ⟨i1, nm_r (e' := (5 : Int32)) (by rw [e1, k]) ?_⟩
  exact br_f (by decide) (br_t rfl (nm_r (nI_1 l) (es_startY (by omega) (nm_r (nI_1 p) h))))
theorem es_vY6 (hd : p + 1 + d ≤ 60) (hl : l < 60) (k : a p = 6) (h : wY_valueOf_10 post (nI (p + 1 + d)) n (nI l) (nI (p + 1)) f a b h1 h2 (upd t1 (l + 1) (es_ev (t1 (l + 1)) (t2 (l + 1)) (t3 (l + 1)) (t4 (l + 1)))) t2 (upd (upd t3 (l + 1) (t3 (l + 1) * t4 (l + 1))) (l + 1) 1) (upd t4 l (es_tv (t5 l) (t4 l) (es_ev (t1 (l + 1)) (t2 (l + 1)) (t3 (l + 1)) (t4 (l + 1))))) t5) : wY_valueOf_10 post (nI (p + 1 + d)) (n + 1) (nI (l + 1)) (nI p) f a b h1 h2 t1 t2 t3 t4 t5 := by
  have e1 : (nI p).toNatClampNeg = p := nI_clamp (by omega)
  have i1 : vp_in (nI p) 60 := vp_in_nI (by omega) (by omega)
  refine br_f (nI_ge (by omega) (by omega)) ⟨i1, nm_r (e' := (6 : Int32)) (by rw [e1, k]) ?_⟩
  exact br_f (by decide) (br_f (by decide) (br_t rfl (es_esY (by omega) ⟨vp_in_nI (by omega) (by omega), nm_r (e' := es_ev (t1 (l + 1)) (t2 (l + 1)) (t3 (l + 1)) (t4 (l + 1))) (by rw [nI_clamp (by omega), pk_us]) (nm_r (pk_m1 l) (es_takeY (by omega) _ (nm_r (nI_1 p) h)))⟩)))
theorem es_vY4 (hd : p + 1 + d ≤ 60) (hl : l < 60) (k : a p = 4) (h : wY_valueOf_10 post (nI (p + 1 + d)) n (nI l) (nI (p + 1)) f a b h1 h2 t1 t2 t3 t4 (upd t5 l 4)) : wY_valueOf_10 post (nI (p + 1 + d)) (n + 1) (nI l) (nI p) f a b h1 h2 t1 t2 t3 t4 t5 := by
  have e1 : (nI p).toNatClampNeg = p := nI_clamp (by omega)
  have i1 : vp_in (nI p) 60 := vp_in_nI (by omega) (by omega)
  refine br_f (nI_ge (by omega) (by omega)) ⟨i1, nm_r (e' := (4 : Int32)) (by rw [e1, k]) ?_⟩
  have e2 : (nI l).toNatClampNeg = l := nI_clamp (by omega)
  have i2 : vp_in (nI l) 62 := vp_in_nI (by omega) (by omega)
  exact br_f (by decide) (br_f (by decide) (br_f (by decide) (br_f (by decide) (br_t (by decide) ⟨i2, nm_r (by rw [e2]) (nm_r (nI_1 p) h)⟩))))
theorem es_vY3 (hd : p + 1 + d ≤ 60) (hl : l < 60) (k : a p = 3) (h : wY_valueOf_10 post (nI (p + 1 + d)) n (nI l) (nI (p + 1)) f a b h1 h2 t1 t2 (upd t3 l (t3 l * t4 l)) t4 (upd t5 l 3)) : wY_valueOf_10 post (nI (p + 1 + d)) (n + 1) (nI l) (nI p) f a b h1 h2 t1 t2 t3 t4 t5 := by
  have e1 : (nI p).toNatClampNeg = p := nI_clamp (by omega)
  have i1 : vp_in (nI p) 60 := vp_in_nI (by omega) (by omega)
  refine br_f (nI_ge (by omega) (by omega)) ⟨i1, nm_r (e' := (3 : Int32)) (by rw [e1, k]) ?_⟩
  have e2 : (nI l).toNatClampNeg = l := nI_clamp (by omega)
  have i2 : vp_in (nI l) 62 := vp_in_nI (by omega) (by omega)
  exact br_f (by decide) (br_f (by decide) (br_f (by decide) (br_t rfl (es_epY (by omega) (br_t (by decide) ⟨i2, nm_r (by rw [e2]) (nm_r (nI_1 p) h)⟩)))))
theorem es_vY2 (hd : p + 1 + d ≤ 60) (hl : l < 60) (k : a p = 2) (h : wY_valueOf_10 post (nI (p + 1 + d)) n (nI l) (nI (p + 1)) f a b h1 h2 (upd t1 l (es_ev (t1 l) (t2 l) (t3 l) (t4 l))) (upd t2 l 1) (upd (upd t3 l (t3 l * t4 l)) l 1) t4 (upd t5 l 2)) : wY_valueOf_10 post (nI (p + 1 + d)) (n + 1) (nI l) (nI p) f a b h1 h2 t1 t2 t3 t4 t5 := by
  have e1 : (nI p).toNatClampNeg = p := nI_clamp (by omega)
  have i1 : vp_in (nI p) 60 := vp_in_nI (by omega) (by omega)
  refine br_f (nI_ge (by omega) (by omega)) ⟨i1, nm_r (e' := (2 : Int32)) (by rw [e1, k]) ?_⟩
  have e2 : (nI l).toNatClampNeg = l := nI_clamp (by omega)
  have i2 : vp_in (nI l) 62 := vp_in_nI (by omega) (by omega)
  exact br_f (by decide) (br_f (by decide) (br_f (by decide) (br_f (by decide) (br_f (by decide) (es_esY (by omega) (br_t rfl ⟨i2, nm_r (by rw [e2, es_nb1]) ⟨i2, nm_r (by rw [e2]) (nm_r (nI_1 p) h)⟩⟩))))))
theorem es_vY1 (hd : p + 1 + d ≤ 60) (hl : l < 60) (k : a p = 1) (h : wY_valueOf_10 post (nI (p + 1 + d)) n (nI l) (nI (p + 1)) f a b h1 h2 (upd t1 l (es_ev (t1 l) (t2 l) (t3 l) (t4 l))) (upd t2 l 0) (upd (upd t3 l (t3 l * t4 l)) l 1) t4 (upd t5 l 1)) : wY_valueOf_10 post (nI (p + 1 + d)) (n + 1) (nI l) (nI p) f a b h1 h2 t1 t2 t3 t4 t5 := by
  have e1 : (nI p).toNatClampNeg = p := nI_clamp (by omega)
  have i1 : vp_in (nI p) 60 := vp_in_nI (by omega) (by omega)
  refine br_f (nI_ge (by omega) (by omega)) ⟨i1, nm_r (e' := (1 : Int32)) (by rw [e1, k]) ?_⟩
  have e2 : (nI l).toNatClampNeg = l := nI_clamp (by omega)
  have i2 : vp_in (nI l) 62 := vp_in_nI (by omega) (by omega)
  exact br_f (by decide) (br_f (by decide) (br_f (by decide) (br_f (by decide) (br_f (by decide) (es_esY (by omega) (br_f (by decide) ⟨i2, nm_r (by rw [e2, es_nb0]) ⟨i2, nm_r (by rw [e2]) (nm_r (nI_1 p) h)⟩⟩))))))
end
