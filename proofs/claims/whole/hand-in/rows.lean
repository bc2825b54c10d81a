section
theorem pk_us {f : Nat → Int32} {k : Nat} {x : Int32} : upd f k x k = x := if_pos rfl
theorem pk_un {f : Nat → Int32} {k j : Nat} {x : Int32} (h : j ≠ k) : upd f k x j = f j := if_neg h
theorem pk_sub {a b : Nat} (h : b ≤ a) : nI a - nI b = nI (a - b) := by
  obtain ⟨c, rfl⟩ : ∃ c, a = c + b := ⟨a - b, by omega⟩
  rw [← nI_add, Int32.add_sub_cancel, Nat.add_sub_cancel]
theorem pk_m1 (n : Nat) : nI (n + 1) + (-1) = nI n := by
  rw [← nI_1, Int32.add_assoc, show (1 : Int32) + (-1) = 0 from rfl, Int32.add_zero]

/-- one of the seven kinds -/
def es_K (x : Int32) : Prop := x = 0 ∨ x = 1 ∨ x = 2 ∨ x = 3 ∨ x = 4 ∨ x = 5 ∨ x = 6
/-- both hold the same text: one count, one row of kinds, one row of numbers; all else is free -/
def i_Rel (_ : Nat) (u : SX) (v : SY) : Prop :=
  ∃ (c : Nat) (a b s1 s2 s3 s4 h1 h2 t1 t2 t3 t4 t5 : Nat → Int32), c ≤ 60 ∧ (∀ j, es_K (a j)) ∧ u = (nI c, a, b, s1, s2, s3, s4) ∧ v = (nI c, a, b, h1, h2, t1, t2, t3, t4, t5)
theorem es_rel {k c : Nat} {a b s1 s2 s3 s4 h1 h2 t1 t2 t3 t4 t5 : Nat → Int32} (hc : c ≤ 60) (ha : ∀ j, es_K (a j)) :
    i_Rel k (nI c, a, b, s1, s2, s3, s4) (nI c, a, b, h1, h2, t1, t2, t3, t4, t5) :=
  ⟨c, a, b, s1, s2, s3, s4, h1, h2, t1, t2, t3, t4, t5, hc, ha, rfl, rfl⟩
theorem i_up {k : Nat} {u : SX} {v : SY} (h : i_Rel k u v) : i_Rel (k + 4) u v := h
theorem i_vc0 : wpX_init (fun u => wpY_init (fun v => i_Rel 0 u v)) := es_rel (k := 0) (c := 0) (by omega) (fun _ => Or.inl rfl)

theorem es_sm (x : Int32) : x + (-1) = x - 1 := by rw [Int32.sub_eq_add_neg]
theorem es_pd {n : Nat} (h : n < 2 ^ 31) : nI n - 1 < nI n := by
  cases n with
  | zero => decide
  | succ n => rw [nI_pred]; exact nI_lt (by omega) h
theorem es_nn {x : Int32} {n : Nat} (h0 : ¬ x < 0) (h1 : ¬ nI n < x) (hn : n < 2 ^ 31) : ∃ j, j ≤ n ∧ x = nI j := by
  obtain ⟨j, hj, rfl⟩ := nI_of h0
  rw [nI_ltI hn hj] at h1
  exact ⟨j, by omega, rfl⟩

/-- no part -/
def es_NP (c : Nat) (x y : Int32) : Prop := x < 0 ∨ nI c < y ∨ y ≤ x
theorem es_part {c : Nat} (hc : c ≤ 60) (x y : Int32) : es_NP c x y ∨ ∃ i d, 0 < d ∧ i + d ≤ c ∧ x = nI i ∧ y = nI (i + d) := by
  by_cases h0 : x < 0
  · exact Or.inl (Or.inl h0)
  by_cases h1 : nI c < y
  · exact Or.inl (Or.inr (Or.inl h1))
  by_cases h2 : y ≤ x
  · exact Or.inl (Or.inr (Or.inr h2))
  obtain ⟨i, hi, rfl⟩ := nI_of h0
  have h3 : ¬ y < 0 := by
    intro z
    apply h2
    exact Int32.le_trans (Int32.le_of_lt z) (nI_pos' hi)
  obtain ⟨j, hj, rfl⟩ := es_nn h3 h1 (by omega)
  rw [nI_leI (by omega) hi] at h2
  exact Or.inr ⟨i, j - i, by omega, by omega, rfl, by rw [show i + (j - i) = j by omega]⟩
section
variable {post : Int32 → Prop} {c : Nat} {a b s1 s2 s3 s4 h1 h2 t1 t2 t3 t4 t5 : Nat → Int32}
theorem es_partX0 {x y : Int32} (h : es_NP c x y) (hp : post 0) : wpX_isPart post (nI c, a, b, s1, s2, s3, s4) x y :=
  br_c (fun _ => hp) fun h0 => br_c (fun _ => hp) fun h1 => br_c (fun _ => hp) fun h2 => absurd h fun z => z.elim h0 fun z => z.elim h1 h2
theorem es_partY0 {x y : Int32} (h : es_NP c x y) (hp : post 0) : wpY_isPart post (nI c, a, b, h1, h2, t1, t2, t3, t4, t5) x y :=
  br_c (fun _ => hp) fun h0 => br_c (fun _ => hp) fun h1 => br_c (fun _ => hp) fun h2 => absurd h fun z => z.elim h0 fun z => z.elim h1 h2
theorem es_partX1 {i d : Nat} (hc : c ≤ 60) (hd : 0 < d) (h : i + d ≤ c) (hp : post 1) : wpX_isPart post (nI c, a, b, s1, s2, s3, s4) (nI i) (nI (i + d)) :=
  br_f (nI_pos (by omega)) (br_f (nI_nlt (by omega) (by omega)) (br_f (nI_ge (by omega) (by omega)) hp))
theorem es_partY1 {i d : Nat} (hc : c ≤ 60) (hd : 0 < d) (h : i + d ≤ c) (hp : post 1) : wpY_isPart post (nI c, a, b, h1, h2, t1, t2, t3, t4, t5) (nI i) (nI (i + d)) :=
  br_f (nI_pos (by omega)) (br_f (nI_nlt (by omega) (by omega)) (br_f (nI_ge (by omega) (by omega)) hp))
end
/-- no place -/
def es_NQ (c : Nat) (x : Int32) : Prop := x < 0 ∨ nI c ≤ x
theorem es_place {c : Nat} (hc : c ≤ 60) (x : Int32) : es_NQ c x ∨ ∃ i, i < c ∧ x = nI i := by
  by_cases h0 : x < 0
  · exact Or.inl (Or.inl h0)
  by_cases h1 : nI c ≤ x
  · exact Or.inl (Or.inr h1)
  obtain ⟨i, hi, rfl⟩ := nI_of h0
  rw [nI_leI (by omega) hi] at h1
  exact Or.inr ⟨i, by omega, rfl⟩
section
variable {post : Int32 → Prop} {c : Nat} {a b s1 s2 s3 s4 h1 h2 t1 t2 t3 t4 t5 : Nat → Int32}
theorem es_placeX0 {x : Int32} (h : es_NQ c x) (hp : post 0) : wpX_isPlace post (nI c, a, b, s1, s2, s3, s4) x :=
  br_c (fun _ => hp) fun h0 => br_c (fun _ => hp) fun h1 => absurd h fun z => z.elim h0 h1
theorem es_placeY0 {x : Int32} (h : es_NQ c x) (hp : post 0) : wpY_isPlace post (nI c, a, b, h1, h2, t1, t2, t3, t4, t5) x :=
  br_c (fun _ => hp) fun h0 => br_c (fun _ => hp) fun h1 => absurd h fun z => z.elim h0 h1
theorem es_placeX1 {i : Nat} (hc : c ≤ 60) (h : i < c) (hp : post 1) : wpX_isPlace post (nI c, a, b, s1, s2, s3, s4) (nI i) :=
  br_f (nI_pos (by omega)) (br_f (nI_ge (by omega) (by omega)) hp)
theorem es_placeY1 {i : Nat} (hc : c ≤ 60) (h : i < c) (hp : post 1) : wpY_isPlace post (nI c, a, b, h1, h2, t1, t2, t3, t4, t5) (nI i) :=
  br_f (nI_pos (by omega)) (br_f (nI_ge (by omega) (by omega)) hp)
theorem es_gapX0 {x : Int32} (h : x < 0 ∨ nI c < x) (hp : post 0) : wpX_isGap post (nI c, a, b, s1, s2, s3, s4) x :=
  br_c (fun _ => hp) fun h0 => br_c (fun _ => hp) fun h1 => absurd h fun z => z.elim h0 h1
theorem es_gapX1 {i : Nat} (hc : c ≤ 60) (h : i ≤ c) (hp : post 1) : wpX_isGap post (nI c, a, b, s1, s2, s3, s4) (nI i) :=
  br_f (nI_pos (by omega)) (br_f (nI_nlt (by omega) (by omega)) hp)
end
end
section
theorem es_Ku {a : Nat → Int32} {k : Nat} {x : Int32} (h : ∀ j, es_K (a j)) (hx : es_K x) : ∀ j, es_K (upd a k x j) := fun j => by
  unfold upd; split
  · exact hx
  · exact h j
/-- from pl on, d tokens moved up by w -/
def es_gp (a : Nat → Int32) (pl w d : Nat) : Nat → Int32 := fun j => if pl + w ≤ j ∧ j < pl + d + w then a (j - w) else a j
theorem es_Kg {a : Nat → Int32} {pl w d : Nat} (h : ∀ j, es_K (a j)) : ∀ j, es_K (es_gp a pl w d j) := fun j => by
  unfold es_gp; split
  · exact h _
  · exact h _
theorem es_gp0 (a : Nat → Int32) (pl w : Nat) : es_gp a pl w 0 = a := funext fun j => if_neg (by omega)
theorem es_gpS (a : Nat → Int32) (pl w d : Nat) : es_gp (upd a (pl + d + w) (a (pl + d))) pl w d = es_gp a pl w (d + 1) := by
  funext j
  unfold es_gp upd
  by_cases h1 : pl + w ≤ j ∧ j < pl + d + w
  · rw [if_pos h1, if_neg (by omega), if_pos (by omega)]
  · rw [if_neg h1]
    by_cases h2 : j = pl + d + w
    · rw [if_pos h2, if_pos (by omega), show j - w = pl + d by omega]
    · rw [if_neg h2, if_neg (by omega)]
/-- from q on, d tokens moved down by w -/
def es_tk (a : Nat → Int32) (q w d : Nat) : Nat → Int32 := fun j => if q ≤ j ∧ j < q + d then a (j + w) else a j
theorem es_Kt {a : Nat → Int32} {q w d : Nat} (h : ∀ j, es_K (a j)) : ∀ j, es_K (es_tk a q w d j) := fun j => by
  unfold es_tk; split
  · exact h _
  · exact h _
theorem es_tk0 (a : Nat → Int32) (q w : Nat) : es_tk a q w 0 = a := funext fun j => if_neg (by omega)
theorem es_tkS (a : Nat → Int32) (q w d : Nat) : es_tk (upd a q (a (q + w))) (q + 1) w d = es_tk a q w (d + 1) := by
  funext j
  unfold es_tk upd
  by_cases h1 : q + 1 ≤ j ∧ j < q + 1 + d
  · rw [if_pos h1, if_neg (by omega), if_pos (by omega)]
  · rw [if_neg h1]
    by_cases h2 : j = q
    · rw [if_pos h2, if_pos (by omega), h2]
    · rw [if_neg h2, if_neg (by omega)]
theorem es_tkU (a : Nat → Int32) (i w d : Nat) (x : Int32) : es_tk (upd a i x) (i + 1) w d = upd (es_tk a (i + 1) w d) i x := by
  funext j
  unfold es_tk upd
  by_cases h2 : j = i
  · rw [if_neg (by omega), if_pos h2, if_pos h2]
  · by_cases h1 : i + 1 ≤ j ∧ j < i + 1 + d
    · rw [if_pos h1, if_neg (by omega), if_neg h2]; exact (if_pos h1).symm
    · rw [if_neg h1, if_neg h2, if_neg h2]; exact (if_neg h1).symm
section
variable {post : SX → Prop} {f : Int32} {s1 s2 s3 s4 : Nat → Int32}
theorem es_mvX {a b : Nat → Int32} {x y : Nat} (hx : x < 60) (hy : y < 60) (h : post (f, upd a y (a x), upd b y (b x), s1, s2, s3, s4)) : wpX_moveToken post (f, a, b, s1, s2, s3, s4) (nI x) (nI y) := by
  unfold wpX_moveToken
  have e1 : (nI x).toNatClampNeg = x := nI_clamp (by omega)
  have e2 : (nI y).toNatClampNeg = y := nI_clamp (by omega)
  have i1 : vp_in (nI x) 60 := vp_in_nI hx (by omega)
  have i2 : vp_in (nI y) 60 := vp_in_nI hy (by omega)
  simp only [e1, e2]
  exact ⟨i1, i2, nm_e ⟨i1, i2, nm_e h⟩⟩
theorem es_ogX {pl w : Nat} : ∀ (d : Nat) (a b : Nat → Int32), pl + d + w ≤ 60 → post (f + nI w, es_gp a pl w d, es_gp b pl w d, s1, s2, s3, s4) → wX_openGap_7 post (nI pl) (nI w) (d + 1) (nI (pl + d) - 1) f a b s1 s2 s3 s4 := by
  intro d
  induction d with
  | zero =>
    intro a b hd h
    rw [es_gp0, es_gp0] at h
    exact br_t (es_pd (by omega)) (nm_e h)
  | succ d ih =>
    intro a b hd h
    rw [← es_gpS, ← es_gpS] at h
    rw [← Nat.add_assoc pl d 1, nI_pred]
    refine br_f (nI_nlt (by omega) (by omega)) ?_
    rw [nI_add]
    exact es_mvX (by omega) (by omega) (nm_r (es_sm _) (ih _ _ (by omega) h))
theorem es_toX {w : Nat} : ∀ (d q : Nat) (a b : Nat → Int32), q + w + d ≤ 60 → post (nI (q + w + d) - nI w, es_tk a q w d, es_tk b q w d, s1, s2, s3, s4) → wX_takeOut_7 post (nI w) (d + 1) (nI (q + w)) (nI (q + w + d)) a b s1 s2 s3 s4 := by
  intro d
  induction d with
  | zero =>
    intro q a b hd h
    rw [es_tk0, es_tk0] at h
    exact br_t (nI_le (by omega) (by omega)) (nm_e h)
  | succ d ih =>
    intro q a b hd h
    rw [← es_tkS, ← es_tkS, show q + w + (d + 1) = q + 1 + w + d by omega] at h
    rw [show q + w + (d + 1) = q + 1 + w + d by omega]
    refine br_f (nI_ge (by omega) (by omega)) ?_
    rw [pk_sub (by omega), show q + w - w = q by omega]
    refine es_mvX (by omega) (by omega) (nm_r (nI_1 _) ?_)
    rw [show q + w + 1 = q + 1 + w by omega]
    exact ih _ _ _ (by omega) h
theorem es_openX {a b : Nat → Int32} {c pl w : Nat} (hp : pl ≤ c) (hw : c + w ≤ 60) (h : post (nI (c + w), es_gp a pl w (c - pl), es_gp b pl w (c - pl), s1, s2, s3, s4)) : wpX_openGap post (nI c, a, b, s1, s2, s3, s4) (nI pl) (nI w) := by
  refine nm_e ⟨c - pl + 1, ?_⟩
  have e : nI c = nI (pl + (c - pl)) := by rw [show pl + (c - pl) = c by omega]
  have k := es_ogX (post := post) (f := nI c) (s1 := s1) (s2 := s2) (s3 := s3) (s4 := s4) (pl := pl) (w := w) (c - pl) a b (by omega) (by rw [nI_add]; exact h)
  rw [← e] at k
  exact k
theorem es_outX {a b : Nat → Int32} {c i w : Nat} (hp : i + w ≤ c) (hc : c ≤ 60) (h : post (nI (c - w), es_tk a i w (c - w - i), es_tk b i w (c - w - i), s1, s2, s3, s4)) : wpX_takeOut post (nI c, a, b, s1, s2, s3, s4) (nI i) (nI (i + w)) := by
  refine nm_r (e' := nI w) (by rw [pk_sub (by omega), show i + w - i = w by omega]) ⟨c - w - i + 1, ?_⟩
  have e : i + w + (c - w - i) = c := by omega
  have k := es_toX (post := post) (s1 := s1) (s2 := s2) (s3 := s3) (s4 := s4) (w := w) (c - w - i) i a b (by omega) (by rw [e, pk_sub (by omega)]; exact h)
  rw [e] at k
  exact k
end
section
variable {post : SY → Prop} {f : Int32} {h1 h2 t1 t2 t3 t4 t5 : Nat → Int32}
theorem es_ogY {pl w : Nat} : ∀ (d : Nat) (a b : Nat → Int32), pl + d + w ≤ 60 → post (f + nI w, es_gp a pl w d, es_gp b pl w d, h1, h2, t1, t2, t3, t4, t5) → wY_makeRoom_7 post (nI pl) (nI w) f (d + 1) (nI (pl + d) - 1) a b h1 h2 t1 t2 t3 t4 t5 := by
  intro d
  induction d with
  | zero =>
    intro a b hd h
    rw [es_gp0, es_gp0] at h
    exact br_t (es_pd (by omega)) (nm_e h)
  | succ d ih =>
    intro a b hd h
    rw [← es_gpS, ← es_gpS] at h
    rw [← Nat.add_assoc pl d 1, nI_pred]
    refine br_f (nI_nlt (by omega) (by omega)) ?_
    have e1 : (nI (pl + d)).toNatClampNeg = pl + d := nI_clamp (by omega)
    have e2 : (nI (pl + d + w)).toNatClampNeg = pl + d + w := nI_clamp (by omega)
    have i1 : vp_in (nI (pl + d)) 60 := vp_in_nI (by omega) (by omega)
    have i2 : vp_in (nI (pl + d + w)) 60 := vp_in_nI (by omega) (by omega)
    simp only [nI_add, e1, e2]
    exact ⟨i1, i2, nm_e ⟨i1, i2, nm_e (nm_r (es_sm _) (ih _ _ (by omega) h))⟩⟩
theorem es_toY {w : Nat} : ∀ (d q : Nat) (a b : Nat → Int32), q + w + d ≤ 60 → post (nI (q + d), es_tk a q w d, es_tk b q w d, h1, h2, t1, t2, t3, t4, t5) → wY_takeOut_12 post (nI w) (nI (q + d)) (d + 1) (nI q) a b h1 h2 t1 t2 t3 t4 t5 := by
  intro d
  induction d with
  | zero =>
    intro q a b hd h
    rw [es_tk0, es_tk0] at h
    exact br_t (nI_le (by omega) (by omega)) h
  | succ d ih =>
    intro q a b hd h
    rw [← es_tkS, ← es_tkS, show q + (d + 1) = q + 1 + d by omega] at h
    rw [show q + (d + 1) = q + 1 + d by omega]
    refine br_f (nI_ge (by omega) (by omega)) ?_
    have e1 : (nI q).toNatClampNeg = q := nI_clamp (by omega)
    have e2 : (nI (q + w)).toNatClampNeg = q + w := nI_clamp (by omega)
    have i1 : vp_in (nI q) 60 := vp_in_nI (by omega) (by omega)
    have i2 : vp_in (nI (q + w)) 60 := vp_in_nI (by omega) (by omega)
    simp only [nI_add, e1, e2]
    exact ⟨i2, i1, nm_e ⟨i2, i1, nm_e (nm_r (nI_1 _) (ih _ _ _ (by omega) h))⟩⟩
theorem es_openY {a b : Nat → Int32} {c pl w : Nat} (hp : pl ≤ c) (hw : c + w ≤ 60) (h : post (nI (c + w), es_gp a pl w (c - pl), es_gp b pl w (c - pl), h1, h2, t1, t2, t3, t4, t5)) : wpY_makeRoom post (nI c, a, b, h1, h2, t1, t2, t3, t4, t5) (nI pl) (nI w) := by
  refine nm_e ⟨c - pl + 1, ?_⟩
  have e : nI c = nI (pl + (c - pl)) := by rw [show pl + (c - pl) = c by omega]
  have k := es_ogY (post := post) (f := nI c) (h1 := h1) (h2 := h2) (t1 := t1) (t2 := t2) (t3 := t3) (t4 := t4) (t5 := t5) (pl := pl) (w := w) (c - pl) a b (by omega) (by rw [nI_add]; exact h)
  rw [← e] at k
  exact k
theorem es_outY {a b : Nat → Int32} {c i w : Nat} (hp : i + w ≤ c) (hc : c ≤ 60) (h : post (nI (c - w), es_tk a i w (c - w - i), es_tk b i w (c - w - i), h1, h2, t1, t2, t3, t4, t5)) : wpY_takeOut post (nI c, a, b, h1, h2, t1, t2, t3, t4, t5) (nI i) (nI w) := by
  refine nm_r (e' := nI (c - w)) (pk_sub (by omega)) ⟨c - w - i + 1, ?_⟩
  have e : i + (c - w - i) = c - w := by omega
  have k := es_toY (post := post) (h1 := h1) (h2 := h2) (t1 := t1) (t2 := t2) (t3 := t3) (t4 := t4) (t5 := t5) (w := w) (c - w - i) i a b (by omega) (by rw [e]; exact h)
  rw [e] at k
  exact k
end
end
section
/-- a truth value as Java holds it -/
def es_b : Bool → Int32
  | true => 1
  | false => 0
/-- the scan: d tokens from p on, o brackets open, an operand wanted or not -/
def es_sd (a : Nat → Int32) : Nat → Nat → Nat → Bool → Bool
  | 0, _, o, w => decide (o = 0) && !w
  | d + 1, p, o, w =>
    if a p = 5 then w && es_sd a d (p + 1) (o + 1) true
    else if a p = 6 then !w && (decide (0 < o) && es_sd a d (p + 1) (o - 1) false)
    else if a p = 0 then w && es_sd a d (p + 1) o false
    else !w && es_sd a d (p + 1) o true
theorem es_sd5 {a : Nat → Int32} {d p o : Nat} {w : Bool} (k : a p = 5) : es_sd a (d + 1) p o w = (w && es_sd a d (p + 1) (o + 1) true) := if_pos k
theorem es_sd6 {a : Nat → Int32} {d p o : Nat} {w : Bool} (k : a p = 6) : es_sd a (d + 1) p o w = (!w && (decide (0 < o) && es_sd a d (p + 1) (o - 1) false)) := by
  have n : ¬ a p = 5 := by rw [k]; decide
  exact (if_neg n).trans (if_pos k)
theorem es_sd0 {a : Nat → Int32} {d p o : Nat} {w : Bool} (k : a p = 0) : es_sd a (d + 1) p o w = (w && es_sd a d (p + 1) o false) := by
  have n : ¬ a p = 5 := by rw [k]; decide
  have n2 : ¬ a p = 6 := by rw [k]; decide
  exact (if_neg n).trans ((if_neg n2).trans (if_pos k))
theorem es_sdo {a : Nat → Int32} {d p o : Nat} {w : Bool} (k5 : ¬ a p = 5) (k6 : ¬ a p = 6) (k0 : ¬ a p = 0) : es_sd a (d + 1) p o w = (!w && es_sd a d (p + 1) o true) :=
  (if_neg k5).trans ((if_neg k6).trans (if_neg k0))
section
variable {post : Int32 → Prop} {f : Int32} {a b s1 s2 s3 s4 h1 h2 t1 t2 t3 t4 t5 : Nat → Int32}
theorem es_sdX : ∀ (d p o : Nat) (w : Bool), p + d ≤ 60 → o ≤ p → post (es_b (es_sd a d p o w)) → wX_isSound_8 post (nI (p + d)) f a b s1 s2 s3 s4 (d + 1) (nI o) (es_b w) (nI p) := by
  intro d
  induction d with
  | zero =>
    intro p o w hd ho h
    refine br_t (nI_le (by omega) (by omega)) ?_
    cases o with
    | zero =>
      cases w with
      | true => exact br_t (nI_0) (br_f (by decide) h)
      | false => exact br_t (nI_0) (br_t rfl h)
    | succ o =>
      refine br_f (nI_ne0 (by omega) (by omega)) ?_
      have e : es_sd a 0 p (o + 1) w = false := by simp [es_sd]
      rw [e] at h
      exact h
  | succ d ih =>
    intro p o w hd ho h
    rw [show p + (d + 1) = p + 1 + d by omega]
    refine br_f (nI_ge (by omega) (by omega)) ⟨vp_in_nI (by omega) (by omega), nm_r (e' := a p) (by rw [nI_clamp (by omega)]) ?_⟩
    by_cases k5 : a p = 5
    · have k0 : ¬ a p = 0 := by rw [k5]; decide
      rw [es_sd5 k5] at h
      refine br_f k0 (br_t k5 ?_)
      cases w with
      | false => exact br_f (by decide) h
      | true => exact br_t rfl (br_t k5 (nm_r (nI_1 o) (nm_r (nI_1 p) (ih _ _ true (by omega) (by omega) h))))
    · by_cases k6 : a p = 6
      · have k0 : ¬ a p = 0 := by rw [k6]; decide
        rw [es_sd6 k6] at h
        refine br_f k0 (br_f k5 ?_)
        cases w with
        | true => exact br_f (by decide) h
        | false =>
          refine br_t rfl (br_f k5 (br_t k6 ?_))
          cases o with
          | zero => exact nm_r (e' := (-1 : Int32)) (by decide) (br_f (by decide) h)
          | succ o => exact nm_r (pk_m1 o) (br_t (nI_pos' (by omega)) (nm_r (nI_1 p) (ih (p + 1) o false (by omega) (by omega) (by simpa using h))))
      · by_cases k0 : a p = 0
        · rw [es_sd0 k0] at h
          refine br_t k0 ?_
          cases w with
          | false => exact br_f (by decide) h
          | true => exact br_t rfl (br_f k5 (br_f k6 (br_t k0 (nm_r (nI_1 p) (ih (p + 1) o false (by omega) (by omega) h)))))
        · rw [es_sdo k5 k6 k0] at h
          refine br_f k0 (br_f k5 ?_)
          cases w with
          | true => exact br_f (by decide) h
          | false => exact br_t rfl (br_f k5 (br_f k6 (br_f k0 (nm_r (nI_1 p) (ih (p + 1) o true (by omega) (by omega) h)))))
theorem es_sdY : ∀ (d p o : Nat) (w : Bool), p + d ≤ 60 → o ≤ p → post (es_b (es_sd a d p o w)) → wY_reads_8 post (nI (p + d)) f a b h1 h2 t1 t2 t3 t4 t5 (d + 1) (es_b w) (nI o) (nI p) := by
  intro d
  induction d with
  | zero =>
    intro p o w hd ho h
    refine br_t (nI_le (by omega) (by omega)) ?_
    cases w with
    | true =>
      have e : es_sd a 0 p o true = false := by simp [es_sd]
      rw [e] at h
      exact br_f (by decide) h
    | false =>
      refine br_t rfl ?_
      cases o with
      | zero => exact br_t (nI_0) h
      | succ o =>
        have e : es_sd a 0 p (o + 1) false = false := by simp [es_sd]
        rw [e] at h
        exact br_f (nI_ne0 (by omega) (by omega)) h
  | succ d ih =>
    intro p o w hd ho h
    rw [show p + (d + 1) = p + 1 + d by omega]
    refine br_f (nI_ge (by omega) (by omega)) ⟨vp_in_nI (by omega) (by omega), nm_r (e' := a p) (by rw [nI_clamp (by omega)]) ?_⟩
    by_cases k5 : a p = 5
    · have k0 : ¬ a p = 0 := by rw [k5]; decide
      have k6 : ¬ a p = 6 := by rw [k5]; decide
      rw [es_sd5 k5] at h
      refine br_f k0 (br_t k5 ?_)
      cases w with
      | false => exact br_f (by decide) h
      | true =>
        refine br_t rfl (br_f k6 (br_t k5 (br_f k0 (br_f k6 (nm_r (nI_1 p) ?_)))))
        rw [nI_1 o]
        exact ih _ _ true (by omega) (by omega) h
    · by_cases k6 : a p = 6
      · have k0 : ¬ a p = 0 := by rw [k6]; decide
        rw [es_sd6 k6] at h
        refine br_f k0 (br_f k5 ?_)
        cases w with
        | true => exact br_f (by decide) h
        | false =>
          refine br_t rfl (br_t k6 ?_)
          cases o with
          | zero => exact br_t (nI_0) h
          | succ o =>
            refine br_f (nI_ne0 (by omega) (by omega)) (br_f k5 (br_t k6 (br_f k0 (br_t k6 (nm_r (nI_1 p) ?_)))))
            rw [nI_pred o]
            exact ih (p + 1) o false (by omega) (by omega) (by simpa using h)
      · by_cases k0 : a p = 0
        · rw [es_sd0 k0] at h
          refine br_t k0 ?_
          cases w with
          | false => exact br_f (by decide) h
          | true => exact br_t rfl (br_f k6 (br_f k5 (br_f k6 (br_t k0 (nm_r (nI_1 p) (ih (p + 1) o false (by omega) (by omega) h))))))
        · rw [es_sdo k5 k6 k0] at h
          refine br_f k0 (br_f k5 ?_)
          cases w with
          | true => exact br_f (by decide) h
          | false => exact br_t rfl (br_f k6 (br_f k5 (br_f k6 (br_f k0 (br_f k6 (nm_r (nI_1 p) (ih (p + 1) o true (by omega) (by omega) h)))))))
theorem es_soundX {i d : Nat} (hd : i + d ≤ 60) (h : post (es_b (es_sd a d i 0 true))) : wpX_isSound post (f, a, b, s1, s2, s3, s4) (nI i) (nI (i + d)) :=
  ⟨d + 1, es_sdX d i 0 true hd (Nat.zero_le _) h⟩
theorem es_soundY {i d : Nat} (hd : i + d ≤ 60) (h : post (es_b (es_sd a d i 0 true))) : wpY_reads post (f, a, b, h1, h2, t1, t2, t3, t4, t5) (nI i) (nI (i + d)) :=
  ⟨d + 1, es_sdY d i 0 true hd (Nat.zero_le _) h⟩
end
end
section
theorem es_nb0 : vp_nar .boolean 0 = 0 := by decide
theorem es_nb1 : vp_nar .boolean 1 = 1 := by decide
/-- the greater one -/
def es_gr (x y : Int32) : Int32 := if x ≤ y then y else x
/-- what the reference takes -/
def es_tv (k x y : Int32) : Int32 := if k = 4 then (if x ≤ y then y else x) else y
/-- the reference's end of a sum -/
def es_ev (x m p q : Int32) : Int32 := if m = 0 then x + p * q else x - p * q
/-- a level at which an operand is wanted -/
def es_W (x1 x2 x3 x4 y1 y2 y3 y4 y5 : Int32) : Prop := x1 = y1 ∧ x3 = y3 ∧ ((y2 = 0 ∧ x2 = 1) ∨ (y2 = 1 ∧ x2 = -1)) ∧ ((y5 = 4 ∧ x4 = y4) ∨ (¬ y5 = 4 ∧ x4 = -2147483648))
/-- a level behind an operand -/
def es_A (x1 x2 x3 x4 y1 y2 y3 y4 : Int32) : Prop := x1 = y1 ∧ x3 = y3 ∧ ((y2 = 0 ∧ x2 = 1) ∨ (y2 = 1 ∧ x2 = -1)) ∧ x4 = y4
theorem es_WA {x1 x2 x3 x4 y1 y2 y3 y4 y5 : Int32} (h : es_W x1 x2 x3 x4 y1 y2 y3 y4 y5) (z : Int32) : es_A x1 x2 x3 (es_gr x4 z) y1 y2 y3 (es_tv y5 y4 z) := by
  obtain ⟨e1, e2, e3, e4⟩ := h
  refine ⟨e1, e2, e3, ?_⟩
  unfold es_gr es_tv
  rcases e4 with ⟨k, rfl⟩ | ⟨k, rfl⟩
  · rw [if_pos k]
  · rw [if_neg k, if_pos]
    rw [Int32.le_iff_toInt_le]
    have := Int32.le_toInt z
    have e : (-2147483648 : Int32).toInt = -2147483648 := by decide
    omega
theorem es_Av {x1 x2 x3 x4 y1 y2 y3 y4 : Int32} (h : es_A x1 x2 x3 x4 y1 y2 y3 y4) : es_ev y1 y2 y3 y4 = x1 + x2 * (x3 * x4) := by
  obtain ⟨rfl, rfl, e3, rfl⟩ := h
  unfold es_ev
  rcases e3 with ⟨rfl, rfl⟩ | ⟨rfl, rfl⟩
  · rw [if_pos rfl, Int32.one_mul]
  · rw [if_neg (by decide)]
    rw [Int32.sub_eq_add_neg, Int32.neg_mul, Int32.one_mul]
section
variable {post : SX → Prop} {f : Int32} {a b s1 s2 s3 s4 : Nat → Int32} {l : Nat}
theorem es_beginX (hl : l < 61) (h : post (f, a, b, upd s1 l 0, upd s2 l 1, upd s3 l 1, upd s4 l (-2147483648))) : wpX_beginLevel post (f, a, b, s1, s2, s3, s4) (nI l) := by
  unfold wpX_beginLevel
  have e1 : (nI l).toNatClampNeg = l := nI_clamp (by omega)
  have i1 : vp_in (nI l) 61 := vp_in_nI hl (by omega)
  simp only [e1]
  exact ⟨i1, nm_e ⟨i1, nm_e ⟨i1, nm_e ⟨i1, nm_e h⟩⟩⟩⟩
theorem es_operX (hl : l < 61) (x : Int32) (h : post (f, a, b, s1, s2, s3, upd s4 l (es_gr (s4 l) x))) : wpX_takeOperand post (f, a, b, s1, s2, s3, s4) (nI l) x := by
  unfold wpX_takeOperand wpX_greater
  have e1 : (nI l).toNatClampNeg = l := nI_clamp (by omega)
  have i1 : vp_in (nI l) 61 := vp_in_nI hl (by omega)
  simp only [e1]
  unfold es_gr at h
  refine ⟨i1, br_c (fun k => ⟨i1, nm_e ?_⟩) fun k => ⟨i1, nm_e ?_⟩⟩
  · rw [if_pos k] at h; exact h
  · rw [if_neg k] at h; exact h
theorem es_lvX {post : Int32 → Prop} (hl : l < 61) (h : post (s1 l + s2 l * (s3 l * s4 l))) : wpX_levelValue post (f, a, b, s1, s2, s3, s4) (nI l) := by
  unfold wpX_levelValue
  have e1 : (nI l).toNatClampNeg = l := nI_clamp (by omega)
  have i1 : vp_in (nI l) 61 := vp_in_nI hl (by omega)
  simp only [e1]
  exact ⟨i1, i1, i1, i1, h⟩
theorem es_op4X (h : post (f, a, b, s1, s2, s3, s4)) : wpX_takeOperator post (f, a, b, s1, s2, s3, s4) (nI l) 4 := br_t rfl h
theorem es_op3X (hl : l < 61) (h : post (f, a, b, s1, s2, upd s3 l (s3 l * s4 l), upd s4 l (-2147483648))) : wpX_takeOperator post (f, a, b, s1, s2, s3, s4) (nI l) 3 := by
  unfold wpX_takeOperator
  have e1 : (nI l).toNatClampNeg = l := nI_clamp (by omega)
  have i1 : vp_in (nI l) 61 := vp_in_nI hl (by omega)
  simp only [e1]
  exact br_f (by decide) ⟨i1, i1, i1, nm_e ⟨i1, nm_e (br_t trivial h)⟩⟩
theorem es_op2X (hl : l < 61) (h : post (f, a, b, upd s1 l (s1 l + s2 l * (s3 l * s4 l)), upd s2 l (-1), upd (upd s3 l (s3 l * s4 l)) l 1, upd s4 l (-2147483648))) : wpX_takeOperator post (f, a, b, s1, s2, s3, s4) (nI l) 2 := by
  unfold wpX_takeOperator
  have e1 : (nI l).toNatClampNeg = l := nI_clamp (by omega)
  have i1 : vp_in (nI l) 61 := vp_in_nI hl (by omega)
  simp only [e1]
  refine br_f (by decide) ⟨i1, i1, i1, nm_e ⟨i1, nm_e (br_f (by decide) ⟨i1, i1, i1, i1, nm_e ⟨i1, nm_e (br_t trivial ⟨i1, nm_e ?_⟩)⟩⟩)⟩⟩
  rw [pk_us]
  exact h
theorem es_op1X (hl : l < 61) (h : post (f, a, b, upd s1 l (s1 l + s2 l * (s3 l * s4 l)), upd s2 l 1, upd (upd s3 l (s3 l * s4 l)) l 1, upd s4 l (-2147483648))) : wpX_takeOperator post (f, a, b, s1, s2, s3, s4) (nI l) 1 := by
  unfold wpX_takeOperator
  have e1 : (nI l).toNatClampNeg = l := nI_clamp (by omega)
  have i1 : vp_in (nI l) 61 := vp_in_nI hl (by omega)
  simp only [e1]
  refine br_f (by decide) ⟨i1, i1, i1, nm_e ⟨i1, nm_e (br_f (by decide) ⟨i1, i1, i1, i1, nm_e ⟨i1, nm_e (br_f (by decide) ⟨i1, nm_e ?_⟩)⟩⟩)⟩⟩
  rw [pk_us]
  exact h
end
section
variable {post : SY → Prop} {f : Int32} {a b h1 h2 t1 t2 t3 t4 t5 : Nat → Int32} {l : Nat}
theorem es_startY (hl : l < 61) (h : post (f, a, b, h1, h2, upd t1 l 0, upd t2 l 0, upd t3 l 1, upd t4 l 0, upd t5 l 0)) : wpY_start post (f, a, b, h1, h2, t1, t2, t3, t4, t5) (nI l) := by
  unfold wpY_start
  have e1 : (nI l).toNatClampNeg = l := nI_clamp (by omega)
  have i1 : vp_in (nI l) 62 := vp_in_nI (by omega) (by omega)
  simp only [e1, es_nb0]
  exact ⟨i1, nm_e ⟨i1, nm_e ⟨i1, nm_e ⟨i1, nm_e ⟨i1, nm_e h⟩⟩⟩⟩⟩
theorem es_takeY (hl : l < 61) (x : Int32) (h : post (f, a, b, h1, h2, t1, t2, t3, upd t4 l (es_tv (t5 l) (t4 l) x), t5)) : wpY_take post (f, a, b, h1, h2, t1, t2, t3, t4, t5) (nI l) x := by
  unfold wpY_take
  have e1 : (nI l).toNatClampNeg = l := nI_clamp (by omega)
  have i1 : vp_in (nI l) 62 := vp_in_nI (by omega) (by omega)
  simp only [e1]
  unfold es_tv at h
  refine ⟨i1, br_c (fun k => ⟨i1, br_c (fun q => ⟨i1, nm_e ?_⟩) fun q => ⟨i1, i1, nm_e ?_⟩⟩) fun k => ⟨i1, nm_e ?_⟩⟩
  · rw [if_pos k, if_pos q] at h; exact h
  · rw [if_pos k, if_neg q] at h; exact h
  · rw [if_neg k] at h; exact h
theorem es_epY (hl : l < 61) (h : post (f, a, b, h1, h2, t1, t2, upd t3 l (t3 l * t4 l), t4, t5)) : wpY_endProduct post (f, a, b, h1, h2, t1, t2, t3, t4, t5) (nI l) := by
  unfold wpY_endProduct
  have e1 : (nI l).toNatClampNeg = l := nI_clamp (by omega)
  have i1 : vp_in (nI l) 62 := vp_in_nI (by omega) (by omega)
  simp only [e1]
  exact ⟨i1, i1, i1, nm_e h⟩
theorem es_esY (hl : l < 61) (h : post (f, a, b, h1, h2, upd t1 l (es_ev (t1 l) (t2 l) (t3 l) (t4 l)), t2, upd (upd t3 l (t3 l * t4 l)) l 1, t4, t5)) : wpY_endSum post (f, a, b, h1, h2, t1, t2, t3, t4, t5) (nI l) := by
  unfold wpY_endSum
  have e1 : (nI l).toNatClampNeg = l := nI_clamp (by omega)
  have i1 : vp_in (nI l) 62 := vp_in_nI (by omega) (by omega)
  refine es_epY hl ?_
  simp only [e1]
  unfold es_ev at h
  refine ⟨i1, br_c (fun k => ⟨i1, i1, i1, nm_e ⟨i1, nm_e ?_⟩⟩) fun k => ⟨i1, i1, i1, nm_e ⟨i1, nm_e ?_⟩⟩⟩
  · rw [if_pos k] at h; rw [pk_us]; exact h
  · rw [if_neg k] at h; rw [pk_us]; exact h
end
end
section
section
variable {post : Int32 → SX → Prop} {f : Int32} {a b s1 s2 s3 s4 : Nat → Int32} {l p d n : Nat}
theorem es_vX0 (hd : p + 1 + d ≤ 60) (hl : l < 60) (k : a p = 0) (h : wX_valueOf_10 post (nI (p + 1 + d)) n (nI l) (nI (p + 1)) f a b s1 s2 s3 (upd s4 l (es_gr (s4 l) (b p)))) : wX_valueOf_10 post (nI (p + 1 + d)) (n + 1) (nI l) (nI p) f a b s1 s2 s3 s4 := by
  have e1 : (nI p).toNatClampNeg = p := nI_clamp (by omega)
  have i1 : vp_in (nI p) 60 := vp_in_nI (by omega) (by omega)
  refine br_f (nI_ge (by omega) (by omega)) ⟨i1, nm_r (e' := (0 : Int32)) (by rw [e1, k]) ?_⟩
  refine br_t rfl ⟨i1, ?_⟩
  rw [e1]
  exact es_operX (by omega) _ (nm_r (nI_1 p) h)
theorem es_vX5 (hd : p + 1 + d ≤ 60) (hl : l < 60) (k : a p = 5) (h : wX_valueOf_10 post (nI (p + 1 + d)) n (nI (l + 1)) (nI (p + 1)) f a b (upd s1 (l + 1) 0) (upd s2 (l + 1) 1) (upd s3 (l + 1) 1) (upd s4 (l + 1) (-2147483648))) : wX_valueOf_10 post (nI (p + 1 + d)) (n + 1) (nI l) (nI p) f a b s1 s2 s3 s4 := by
  have e1 : (nI p).toNatClampNeg = p := nI_clamp (by omega)
  have i1 : vp_in (nI p) 60 := vp_in_nI (by omega) (by omega)
  refine br_f (nI_ge (by omega) (by omega)) ⟨i1, nm_r (e' := (5 : Int32)) (by rw [e1, k]) ?_⟩
  exact br_f (by decide) (br_t rfl (nm_r (nI_1 l) (es_beginX (by omega) (nm_r (nI_1 p) h))))
theorem es_vX6 (hd : p + 1 + d ≤ 60) (hl : l < 60) (k : a p = 6) (h : wX_valueOf_10 post (nI (p + 1 + d)) n (nI l) (nI (p + 1)) f a b s1 s2 s3 (upd s4 l (es_gr (s4 l) (s1 (l + 1) + s2 (l + 1) * (s3 (l + 1) * s4 (l + 1)))))) : wX_valueOf_10 post (nI (p + 1 + d)) (n + 1) (nI (l + 1)) (nI p) f a b s1 s2 s3 s4 := by
  have e1 : (nI p).toNatClampNeg = p := nI_clamp (by omega)
  have i1 : vp_in (nI p) 60 := vp_in_nI (by omega) (by omega)
  refine br_f (nI_ge (by omega) (by omega)) ⟨i1, nm_r (e' := (6 : Int32)) (by rw [e1, k]) ?_⟩
  exact br_f (by decide) (br_f (by decide) (br_t rfl (es_lvX (by omega) (nm_r (pk_m1 l) (es_operX (by omega) _ (nm_r (nI_1 p) h))))))
theorem es_vX4 (hd : p + 1 + d ≤ 60) (hl : l < 60) (k : a p = 4) (h : wX_valueOf_10 post (nI (p + 1 + d)) n (nI l) (nI (p + 1)) f a b s1 s2 s3 s4) : wX_valueOf_10 post (nI (p + 1 + d)) (n + 1) (nI l) (nI p) f a b s1 s2 s3 s4 := by
  have e1 : (nI p).toNatClampNeg = p := nI_clamp (by omega)
  have i1 : vp_in (nI p) 60 := vp_in_nI (by omega) (by omega)
  refine br_f (nI_ge (by omega) (by omega)) ⟨i1, nm_r (e' := (4 : Int32)) (by rw [e1, k]) ?_⟩
  exact br_f (by decide) (br_f (by decide) (br_f (by decide) (es_op4X (nm_r (nI_1 p) h))))
theorem es_vX3 (hd : p + 1 + d ≤ 60) (hl : l < 60) (k : a p = 3) (h : wX_valueOf_10 post (nI (p + 1 + d)) n (nI l) (nI (p + 1)) f a b s1 s2 (upd s3 l (s3 l * s4 l)) (upd s4 l (-2147483648))) : wX_valueOf_10 post (nI (p + 1 + d)) (n + 1) (nI l) (nI p) f a b s1 s2 s3 s4 := by
  have e1 : (nI p).toNatClampNeg = p := nI_clamp (by omega)
  have i1 : vp_in (nI p) 60 := vp_in_nI (by omega) (by omega)
  refine br_f (nI_ge (by omega) (by omega)) ⟨i1, nm_r (e' := (3 : Int32)) (by rw [e1, k]) ?_⟩
  exact br_f (by decide) (br_f (by decide) (br_f (by decide) (es_op3X (by omega) (nm_r (nI_1 p) h))))
theorem es_vX2 (hd : p + 1 + d ≤ 60) (hl : l < 60) (k : a p = 2) (h : wX_valueOf_10 post (nI (p + 1 + d)) n (nI l) (nI (p + 1)) f a b (upd s1 l (s1 l + s2 l * (s3 l * s4 l))) (upd s2 l (-1)) (upd (upd s3 l (s3 l * s4 l)) l 1) (upd s4 l (-2147483648))) : wX_valueOf_10 post (nI (p + 1 + d)) (n + 1) (nI l) (nI p) f a b s1 s2 s3 s4 := by
  have e1 : (nI p).toNatClampNeg = p := nI_clamp (by omega)
  have i1 : vp_in (nI p) 60 := vp_in_nI (by omega) (by omega)
  refine br_f (nI_ge (by omega) (by omega)) ⟨i1, nm_r (e' := (2 : Int32)) (by rw [e1, k]) ?_⟩
  exact br_f (by decide) (br_f (by decide) (br_f (by decide) (es_op2X (by omega) (nm_r (nI_1 p) h))))
theorem es_vX1 (hd : p + 1 + d ≤ 60) (hl : l < 60) (k : a p = 1) (h : wX_valueOf_10 post (nI (p + 1 + d)) n (nI l) (nI (p + 1)) f a b (upd s1 l (s1 l + s2 l * (s3 l * s4 l))) (upd s2 l 1) (upd (upd s3 l (s3 l * s4 l)) l 1) (upd s4 l (-2147483648))) : wX_valueOf_10 post (nI (p + 1 + d)) (n + 1) (nI l) (nI p) f a b s1 s2 s3 s4 := by
  have e1 : (nI p).toNatClampNeg = p := nI_clamp (by omega)
  have i1 : vp_in (nI p) 60 := vp_in_nI (by omega) (by omega)
  refine br_f (nI_ge (by omega) (by omega)) ⟨i1, nm_r (e' := (1 : Int32)) (by rw [e1, k]) ?_⟩
  exact br_f (by decide) (br_f (by decide) (br_f (by decide) (es_op1X (by omega) (nm_r (nI_1 p) h))))
end
section
variable {post : Int32 → SY → Prop} {f : Int32} {a b h1 h2 t1 t2 t3 t4 t5 : Nat → Int32} {l p d n : Nat}
theorem es_vY0 (hd : p + 1 + d ≤ 60) (hl : l < 60) (k : a p = 0) (h : wY_valueOf_10 post (nI (p + 1 + d)) n (nI l) (nI (p + 1)) f a b h1 h2 t1 t2 t3 (upd t4 l (es_tv (t5 l) (t4 l) (b p))) t5) : wY_valueOf_10 post (nI (p + 1 + d)) (n + 1) (nI l) (nI p) f a b h1 h2 t1 t2 t3 t4 t5 := by
  have e1 : (nI p).toNatClampNeg = p := nI_clamp (by omega)
  have i1 : vp_in (nI p) 60 := vp_in_nI (by omega) (by omega)
  refine br_f (nI_ge (by omega) (by omega)) ⟨i1, nm_r (e' := (0 : Int32)) (by rw [e1, k]) ?_⟩
  refine br_t rfl ⟨i1, ?_⟩
  rw [e1]
  exact es_takeY (by omega) _ (nm_r (nI_1 p) h)
theorem es_vY5 (hd : p + 1 + d ≤ 60) (hl : l < 60) (k : a p = 5) (h : wY_valueOf_10 post (nI (p + 1 + d)) n (nI (l + 1)) (nI (p + 1)) f a b h1 h2 (upd t1 (l + 1) 0) (upd t2 (l + 1) 0) (upd t3 (l + 1) 1) (upd t4 (l + 1) 0) (upd t5 (l + 1) 0)) : wY_valueOf_10 post (nI (p + 1 + d)) (n + 1) (nI l) (nI p) f a b h1 h2 t1 t2 t3 t4 t5 := by
  have e1 : (nI p).toNatClampNeg = p := nI_clamp (by omega)
  have i1 : vp_in (nI p) 60 := vp_in_nI (by omega) (by omega)
  refine br_f (nI_ge (by omega) (by omega)) ⟨i1, nm_r (e' := (5 : Int32)) (by rw [e1, k]) ?_⟩
  exact br_f (by decide) (br_t rfl (nm_r (nI_1 l) (es_startY (by omega) (nm_r (nI_1 p) h))))
theorem es_vY6 (hd : p + 1 + d ≤ 60) (hl : l < 60) (k : a p = 6) (h : wY_valueOf_10 post (nI (p + 1 + d)) n (nI l) (nI (p + 1)) f a b h1 h2 (upd t1 (l + 1) (es_ev (t1 (l + 1)) (t2 (l + 1)) (t3 (l + 1)) (t4 (l + 1)))) t2 (upd (upd t3 (l + 1) (t3 (l + 1) * t4 (l + 1))) (l + 1) 1) (upd t4 l (es_tv (t5 l) (t4 l) (es_ev (t1 (l + 1)) (t2 (l + 1)) (t3 (l + 1)) (t4 (l + 1))))) t5) : wY_valueOf_10 post (nI (p + 1 + d)) (n + 1) (nI (l + 1)) (nI p) f a b h1 h2 t1 t2 t3 t4 t5 := by
  have e1 : (nI p).toNatClampNeg = p := nI_clamp (by omega)
  have i1 : vp_in (nI p) 60 := vp_in_nI (by omega) (by omega)
  refine br_f (nI_ge (by omega) (by omega)) ⟨i1, nm_r (e' := (6 : Int32)) (by rw [e1, k]) ?_⟩
  exact br_f (by decide) (br_f (by decide) (br_t rfl (es_esY (by omega) ⟨vp_in_nI (by omega) (by omega), nm_r (e' := es_ev (t1 (l + 1)) (t2 (l + 1)) (t3 (l + 1)) (t4 (l + 1))) (by rw [nI_clamp (by omega), pk_us]) (nm_r (pk_m1 l) (es_takeY (by omega) _ (nm_r (nI_1 p) h)))⟩)))
theorem es_vY4 (hd : p + 1 + d ≤ 60) (hl : l < 60) (k : a p = 4) (h : wY_valueOf_10 post (nI (p + 1 + d)) n (nI l) (nI (p + 1)) f a b h1 h2 t1 t2 t3 t4 (upd t5 l 4)) : wY_valueOf_10 post (nI (p + 1 + d)) (n + 1) (nI l) (nI p) f a b h1 h2 t1 t2 t3 t4 t5 := by
  have e1 : (nI p).toNatClampNeg = p := nI_clamp (by omega)
  have i1 : vp_in (nI p) 60 := vp_in_nI (by omega) (by omega)
  refine br_f (nI_ge (by omega) (by omega)) ⟨i1, nm_r (e' := (4 : Int32)) (by rw [e1, k]) ?_⟩
  have e2 : (nI l).toNatClampNeg = l := nI_clamp (by omega)
  have i2 : vp_in (nI l) 62 := vp_in_nI (by omega) (by omega)
  exact br_f (by decide) (br_f (by decide) (br_f (by decide) (br_f (by decide) (br_t (by decide) ⟨i2, nm_r (by rw [e2]) (nm_r (nI_1 p) h)⟩))))
theorem es_vY3 (hd : p + 1 + d ≤ 60) (hl : l < 60) (k : a p = 3) (h : wY_valueOf_10 post (nI (p + 1 + d)) n (nI l) (nI (p + 1)) f a b h1 h2 t1 t2 (upd t3 l (t3 l * t4 l)) t4 (upd t5 l 3)) : wY_valueOf_10 post (nI (p + 1 + d)) (n + 1) (nI l) (nI p) f a b h1 h2 t1 t2 t3 t4 t5 := by
  have e1 : (nI p).toNatClampNeg = p := nI_clamp (by omega)
  have i1 : vp_in (nI p) 60 := vp_in_nI (by omega) (by omega)
  refine br_f (nI_ge (by omega) (by omega)) ⟨i1, nm_r (e' := (3 : Int32)) (by rw [e1, k]) ?_⟩
  have e2 : (nI l).toNatClampNeg = l := nI_clamp (by omega)
  have i2 : vp_in (nI l) 62 := vp_in_nI (by omega) (by omega)
  exact br_f (by decide) (br_f (by decide) (br_f (by decide) (br_t rfl (es_epY (by omega) (br_t (by decide) ⟨i2, nm_r (by rw [e2]) (nm_r (nI_1 p) h)⟩)))))
theorem es_vY2 (hd : p + 1 + d ≤ 60) (hl : l < 60) (k : a p = 2) (h : wY_valueOf_10 post (nI (p + 1 + d)) n (nI l) (nI (p + 1)) f a b h1 h2 (upd t1 l (es_ev (t1 l) (t2 l) (t3 l) (t4 l))) (upd t2 l 1) (upd (upd t3 l (t3 l * t4 l)) l 1) t4 (upd t5 l 2)) : wY_valueOf_10 post (nI (p + 1 + d)) (n + 1) (nI l) (nI p) f a b h1 h2 t1 t2 t3 t4 t5 := by
  have e1 : (nI p).toNatClampNeg = p := nI_clamp (by omega)
  have i1 : vp_in (nI p) 60 := vp_in_nI (by omega) (by omega)
  refine br_f (nI_ge (by omega) (by omega)) ⟨i1, nm_r (e' := (2 : Int32)) (by rw [e1, k]) ?_⟩
  have e2 : (nI l).toNatClampNeg = l := nI_clamp (by omega)
  have i2 : vp_in (nI l) 62 := vp_in_nI (by omega) (by omega)
  exact br_f (by decide) (br_f (by decide) (br_f (by decide) (br_f (by decide) (br_f (by decide) (es_esY (by omega) (br_t rfl ⟨i2, nm_r (by rw [e2, es_nb1]) ⟨i2, nm_r (by rw [e2]) (nm_r (nI_1 p) h)⟩⟩))))))
theorem es_vY1 (hd : p + 1 + d ≤ 60) (hl : l < 60) (k : a p = 1) (h : wY_valueOf_10 post (nI (p + 1 + d)) n (nI l) (nI (p + 1)) f a b h1 h2 (upd t1 l (es_ev (t1 l) (t2 l) (t3 l) (t4 l))) (upd t2 l 0) (upd (upd t3 l (t3 l * t4 l)) l 1) t4 (upd t5 l 1)) : wY_valueOf_10 post (nI (p + 1 + d)) (n + 1) (nI l) (nI p) f a b h1 h2 t1 t2 t3 t4 t5 := by
  have e1 : (nI p).toNatClampNeg = p := nI_clamp (by omega)
  have i1 : vp_in (nI p) 60 := vp_in_nI (by omega) (by omega)
  refine br_f (nI_ge (by omega) (by omega)) ⟨i1, nm_r (e' := (1 : Int32)) (by rw [e1, k]) ?_⟩
  have e2 : (nI l).toNatClampNeg = l := nI_clamp (by omega)
  have i2 : vp_in (nI l) 62 := vp_in_nI (by omega) (by omega)
  exact br_f (by decide) (br_f (by decide) (br_f (by decide) (br_f (by decide) (br_f (by decide) (es_esY (by omega) (br_f (by decide) ⟨i2, nm_r (by rw [e2, es_nb0]) ⟨i2, nm_r (by rw [e2]) (nm_r (nI_1 p) h)⟩⟩))))))
end
end
section
section
variable {f : Int32} {a b h1 h2 : Nat → Int32}
/-- in step: the component's value and the reference's, over a part that the scan has found sound -/
theorem es_val (ha : ∀ j, es_K (a j)) : ∀ (d p l : Nat) (w : Bool) (s1 s2 s3 s4 t1 t2 t3 t4 t5 : Nat → Int32), p + d ≤ 60 → l ≤ p → es_sd a d p l w = true →
    (∀ q, q < l → es_W (s1 q) (s2 q) (s3 q) (s4 q) (t1 q) (t2 q) (t3 q) (t4 q) (t5 q)) →
    (w = true → es_W (s1 l) (s2 l) (s3 l) (s4 l) (t1 l) (t2 l) (t3 l) (t4 l) (t5 l)) →
    (w = false → es_A (s1 l) (s2 l) (s3 l) (s4 l) (t1 l) (t2 l) (t3 l) (t4 l)) →
    ∃ (r : Int32) (z1 z2 z3 z4 y1 y2 y3 y4 y5 : Nat → Int32),
      (∀ post : Int32 → SX → Prop, post r (f, a, b, z1, z2, z3, z4) → wX_valueOf_10 post (nI (p + d)) (d + 1) (nI l) (nI p) f a b s1 s2 s3 s4) ∧
      (∀ post : Int32 → SY → Prop, post r (f, a, b, h1, h2, y1, y2, y3, y4, y5) → wY_valueOf_10 post (nI (p + d)) (d + 1) (nI l) (nI p) f a b h1 h2 t1 t2 t3 t4 t5) := by
  intro d
  induction d with
  | zero =>
    intro p l w s1 s2 s3 s4 t1 t2 t3 t4 t5 hd hl hs hW hT hF
    have hs' : l = 0 ∧ w = false := by simpa [es_sd] using hs
    obtain ⟨rfl, rfl⟩ := hs'
    have e := es_Av (hF rfl)
    refine ⟨s1 0 + s2 0 * (s3 0 * s4 0), s1, s2, s3, s4, upd t1 0 (es_ev (t1 0) (t2 0) (t3 0) (t4 0)), t2, upd (upd t3 0 (t3 0 * t4 0)) 0 1, t4, t5, ?_, ?_⟩
    · intro post hp
      exact br_t (nI_le (by omega) (by omega)) (es_lvX (by omega) hp)
    · intro post hp
      refine br_t (nI_le (by omega) (by omega)) (es_esY (l := 0) (by omega) ?_)
      dsimp only
      rw [pk_us, e]
      rw [e] at hp
      exact hp
  | succ d ih =>
    intro p l w s1 s2 s3 s4 t1 t2 t3 t4 t5 hd hl hs hW hT hF
    rw [show p + (d + 1) = p + 1 + d by omega] at *
    rcases ha p with k | k | k | k | k | k | k
    · rw [es_sd0 k, Bool.and_eq_true] at hs
      obtain ⟨rfl, hs⟩ := hs
      obtain ⟨r, z1, z2, z3, z4, y1, y2, y3, y4, y5, hX, hY⟩ := ih (p + 1) l false s1 s2 s3 (upd s4 l (es_gr (s4 l) (b p))) t1 t2 t3 (upd t4 l (es_tv (t5 l) (t4 l) (b p))) t5 hd (by omega) hs
        (fun q hq => by simp only [pk_un (Nat.ne_of_lt hq)]; exact hW q hq) (fun z => nomatch z) (fun _ => by simp only [pk_us]; exact es_WA (hT rfl) _)
      exact ⟨r, z1, z2, z3, z4, y1, y2, y3, y4, y5, fun post hp => es_vX0 hd (by omega) k (hX post hp), fun post hp => es_vY0 hd (by omega) k (hY post hp)⟩
    · rw [es_sdo (by rw [k]; decide) (by rw [k]; decide) (by rw [k]; decide), Bool.and_eq_true, Bool.not_eq_true'] at hs
      obtain ⟨rfl, hs⟩ := hs
      have e := es_Av (hF rfl)
      obtain ⟨r, z1, z2, z3, z4, y1, y2, y3, y4, y5, hX, hY⟩ := ih (p + 1) l true (upd s1 l (s1 l + s2 l * (s3 l * s4 l))) (upd s2 l 1) (upd (upd s3 l (s3 l * s4 l)) l 1) (upd s4 l (-2147483648)) (upd t1 l (es_ev (t1 l) (t2 l) (t3 l) (t4 l))) (upd t2 l 0) (upd (upd t3 l (t3 l * t4 l)) l 1) t4 (upd t5 l 1) hd (by omega) hs
        (fun q hq => by simp only [pk_un (Nat.ne_of_lt hq)]; exact hW q hq) (fun _ => by simp only [pk_us]; exact ⟨e.symm, rfl, Or.inl ⟨rfl, rfl⟩, Or.inr ⟨by decide, rfl⟩⟩) (fun z => nomatch z)
      exact ⟨r, z1, z2, z3, z4, y1, y2, y3, y4, y5, fun post hp => es_vX1 hd (by omega) k (hX post hp), fun post hp => es_vY1 hd (by omega) k (hY post hp)⟩
    · rw [es_sdo (by rw [k]; decide) (by rw [k]; decide) (by rw [k]; decide), Bool.and_eq_true, Bool.not_eq_true'] at hs
      obtain ⟨rfl, hs⟩ := hs
      have e := es_Av (hF rfl)
      obtain ⟨r, z1, z2, z3, z4, y1, y2, y3, y4, y5, hX, hY⟩ := ih (p + 1) l true (upd s1 l (s1 l + s2 l * (s3 l * s4 l))) (upd s2 l (-1)) (upd (upd s3 l (s3 l * s4 l)) l 1) (upd s4 l (-2147483648)) (upd t1 l (es_ev (t1 l) (t2 l) (t3 l) (t4 l))) (upd t2 l 1) (upd (upd t3 l (t3 l * t4 l)) l 1) t4 (upd t5 l 2) hd (by omega) hs
        (fun q hq => by simp only [pk_un (Nat.ne_of_lt hq)]; exact hW q hq) (fun _ => by simp only [pk_us]; exact ⟨e.symm, rfl, Or.inr ⟨rfl, rfl⟩, Or.inr ⟨by decide, rfl⟩⟩) (fun z => nomatch z)
      exact ⟨r, z1, z2, z3, z4, y1, y2, y3, y4, y5, fun post hp => es_vX2 hd (by omega) k (hX post hp), fun post hp => es_vY2 hd (by omega) k (hY post hp)⟩
    · rw [es_sdo (by rw [k]; decide) (by rw [k]; decide) (by rw [k]; decide), Bool.and_eq_true, Bool.not_eq_true'] at hs
      obtain ⟨rfl, hs⟩ := hs
      obtain ⟨g1, g2, g3, g4⟩ := hF rfl
      obtain ⟨r, z1, z2, z3, z4, y1, y2, y3, y4, y5, hX, hY⟩ := ih (p + 1) l true s1 s2 (upd s3 l (s3 l * s4 l)) (upd s4 l (-2147483648)) t1 t2 (upd t3 l (t3 l * t4 l)) t4 (upd t5 l 3) hd (by omega) hs
        (fun q hq => by simp only [pk_un (Nat.ne_of_lt hq)]; exact hW q hq) (fun _ => by simp only [pk_us]; exact ⟨g1, by rw [g2, g4], g3, Or.inr ⟨by decide, rfl⟩⟩) (fun z => nomatch z)
      exact ⟨r, z1, z2, z3, z4, y1, y2, y3, y4, y5, fun post hp => es_vX3 hd (by omega) k (hX post hp), fun post hp => es_vY3 hd (by omega) k (hY post hp)⟩
    · rw [es_sdo (by rw [k]; decide) (by rw [k]; decide) (by rw [k]; decide), Bool.and_eq_true, Bool.not_eq_true'] at hs
      obtain ⟨rfl, hs⟩ := hs
      obtain ⟨g1, g2, g3, g4⟩ := hF rfl
      obtain ⟨r, z1, z2, z3, z4, y1, y2, y3, y4, y5, hX, hY⟩ := ih (p + 1) l true s1 s2 s3 s4 t1 t2 t3 t4 (upd t5 l 4) hd (by omega) hs
        (fun q hq => by simp only [pk_un (Nat.ne_of_lt hq)]; exact hW q hq) (fun _ => by simp only [pk_us]; exact ⟨g1, g2, g3, Or.inl ⟨rfl, g4⟩⟩) (fun z => nomatch z)
      exact ⟨r, z1, z2, z3, z4, y1, y2, y3, y4, y5, fun post hp => es_vX4 hd (by omega) k (hX post hp), fun post hp => es_vY4 hd (by omega) k (hY post hp)⟩
    · rw [es_sd5 k, Bool.and_eq_true] at hs
      obtain ⟨rfl, hs⟩ := hs
      obtain ⟨r, z1, z2, z3, z4, y1, y2, y3, y4, y5, hX, hY⟩ := ih (p + 1) (l + 1) true (upd s1 (l + 1) 0) (upd s2 (l + 1) 1) (upd s3 (l + 1) 1) (upd s4 (l + 1) (-2147483648)) (upd t1 (l + 1) 0) (upd t2 (l + 1) 0) (upd t3 (l + 1) 1) (upd t4 (l + 1) 0) (upd t5 (l + 1) 0) hd (by omega) hs
        (fun q hq => by
          simp only [pk_un (Nat.ne_of_lt hq)]
          rcases Nat.lt_or_ge q l with z | z
          · exact hW q z
          · rw [show q = l by omega]; exact hT rfl)
        (fun _ => by simp only [pk_us]; exact ⟨rfl, rfl, Or.inl ⟨rfl, rfl⟩, Or.inr ⟨by decide, rfl⟩⟩) (fun z => nomatch z)
      exact ⟨r, z1, z2, z3, z4, y1, y2, y3, y4, y5, fun post hp => es_vX5 hd (by omega) k (hX post hp), fun post hp => es_vY5 hd (by omega) k (hY post hp)⟩
    · rw [es_sd6 k, Bool.and_eq_true, Bool.and_eq_true, Bool.not_eq_true', decide_eq_true_eq] at hs
      obtain ⟨rfl, hl0, hs⟩ := hs
      obtain ⟨l, rfl⟩ : ∃ m, l = m + 1 := ⟨l - 1, by omega⟩
      rw [Nat.add_sub_cancel] at hs
      have e := es_Av (hF rfl)
      obtain ⟨r, z1, z2, z3, z4, y1, y2, y3, y4, y5, hX, hY⟩ := ih (p + 1) l false s1 s2 s3 (upd s4 l (es_gr (s4 l) (s1 (l + 1) + s2 (l + 1) * (s3 (l + 1) * s4 (l + 1))))) (upd t1 (l + 1) (es_ev (t1 (l + 1)) (t2 (l + 1)) (t3 (l + 1)) (t4 (l + 1)))) t2 (upd (upd t3 (l + 1) (t3 (l + 1) * t4 (l + 1))) (l + 1) 1) (upd t4 l (es_tv (t5 l) (t4 l) (es_ev (t1 (l + 1)) (t2 (l + 1)) (t3 (l + 1)) (t4 (l + 1))))) t5 hd (by omega) hs
        (fun q hq => by
          have n1 : q ≠ l := by omega
          have n2 : q ≠ l + 1 := by omega
          simp only [pk_un n1, pk_un n2]; exact hW q (by omega)) (fun z => nomatch z)
        (fun _ => by
          have n2 : l ≠ l + 1 := by omega
          simp only [pk_us, pk_un n2]
          rw [e]
          exact es_WA (hW l (by omega)) _)
      exact ⟨r, z1, z2, z3, z4, y1, y2, y3, y4, y5, fun post hp => es_vX6 hd (by omega) k (hX post hp), fun post hp => es_vY6 hd (by omega) k (hY post hp)⟩
theorem es_value (ha : ∀ j, es_K (a j)) {i d : Nat} (hd : i + d ≤ 60) (hs : es_sd a d i 0 true = true) (s1 s2 s3 s4 t1 t2 t3 t4 t5 : Nat → Int32) :
    ∃ (r : Int32) (z1 z2 z3 z4 y1 y2 y3 y4 y5 : Nat → Int32),
      (∀ post : Int32 → SX → Prop, post r (f, a, b, z1, z2, z3, z4) → wpX_valueOf post (f, a, b, s1, s2, s3, s4) (nI i) (nI (i + d))) ∧
      (∀ post : Int32 → SY → Prop, post r (f, a, b, h1, h2, y1, y2, y3, y4, y5) → wpY_valueOf post (f, a, b, h1, h2, t1, t2, t3, t4, t5) (nI i) (nI (i + d))) := by
  obtain ⟨r, z1, z2, z3, z4, y1, y2, y3, y4, y5, hX, hY⟩ := es_val (f := f) (b := b) (h1 := h1) (h2 := h2) ha d i 0 true (upd s1 0 0) (upd s2 0 1) (upd s3 0 1) (upd s4 0 (-2147483648)) (upd t1 0 0) (upd t2 0 0) (upd t3 0 1) (upd t4 0 0) (upd t5 0 0) hd (Nat.zero_le _) hs
    (fun q hq => absurd hq (Nat.not_lt_zero _)) (fun _ => by simp only [pk_us]; exact ⟨rfl, rfl, Or.inl ⟨rfl, rfl⟩, Or.inr ⟨by decide, rfl⟩⟩) (fun z => nomatch z)
  refine ⟨r, z1, z2, z3, z4, y1, y2, y3, y4, y5, fun post hp => ?_, fun post hp => ?_⟩
  · unfold wpX_valueOf
    exact es_beginX (l := 0) (by omega) ⟨d + 1, hX post hp⟩
  · unfold wpY_valueOf
    exact es_startY (l := 0) (by omega) ⟨d + 1, hY post hp⟩
end
end
section
/-- the text with a copy of k tokens from i on put in at pl (w: how wide the gap is, d: how many stood behind it) -/
def es_cp (a : Nat → Int32) (i pl w d k : Nat) : Nat → Int32 := fun j => if pl ≤ j ∧ j < pl + k then a (i + (j - pl)) else es_gp a pl w d j
theorem es_Kc {a : Nat → Int32} {i pl w d k : Nat} (h : ∀ j, es_K (a j)) : ∀ j, es_K (es_cp a i pl w d k j) := fun j => by
  unfold es_cp; split
  · exact h _
  · exact es_Kg h j
theorem es_cp0 (a : Nat → Int32) (i pl w d : Nat) : es_cp a i pl w d 0 = es_gp a pl w d := funext fun j => if_neg (by omega)
theorem es_cpS (a : Nat → Int32) (i pl w d k : Nat) : upd (es_cp a i pl w d k) (pl + k) (a (i + k)) = es_cp a i pl w d (k + 1) := by
  funext j
  unfold upd es_cp
  by_cases h1 : j = pl + k
  · rw [if_pos h1, if_pos (by omega), show i + (j - pl) = i + k by omega]
  · rw [if_neg h1]
    by_cases h2 : pl ≤ j ∧ j < pl + k
    · rw [if_pos h2, if_pos (by omega)]
    · rw [if_neg h2, if_neg (by omega)]
theorem es_cpL (a : Nat → Int32) {i pl w d k : Nat} (h : i + k < pl) : es_cp a i pl w d k (i + k) = a (i + k) := by
  unfold es_cp es_gp
  rw [if_neg (by omega), if_neg (by omega)]
theorem es_cpH (a : Nat → Int32) {i pl w d k : Nat} (h : pl ≤ i + k) (hk : k ≤ w) (hd : i + k < pl + d) : es_cp a i pl w d k (i + k + w) = a (i + k) := by
  unfold es_cp es_gp
  rw [if_neg (by omega), if_pos (by omega), show i + k + w - w = i + k by omega]
section
variable {post : Int32 → SX → Prop} {f : Int32} {a b s1 s2 s3 s4 : Nat → Int32}
theorem es_cpX {i pl w d : Nat} (hi : i + w ≤ pl + d) (hw : pl + d + w ≤ 60) : ∀ (n k : Nat), k + n = w → post f (f, es_cp a i pl w d w, es_cp b i pl w d w, s1, s2, s3, s4) →
    wX_copy_52 post (nI i) (nI pl) (nI w) (n + 1) (nI k) f (es_cp a i pl w d k) (es_cp b i pl w d k) s1 s2 s3 s4 := by
  intro n
  induction n with
  | zero =>
    intro k hk h
    rw [show k = w by omega]
    exact br_t (nI_le (by omega) (by omega)) h
  | succ n ih =>
    intro k hk h
    refine br_f (nI_ge (by omega) (by omega)) ?_
    have g := ih (k + 1) (by omega) h
    rw [← es_cpS, ← es_cpS] at g
    rw [nI_add]
    by_cases z : pl ≤ i + k
    · refine br_t (nI_le z (by omega)) ?_
      unfold wX_copy_81
      rw [nI_add, nI_add]
      refine es_mvX (by omega) (by omega) (nm_r (nI_1 k) ?_)
      rw [es_cpH a z (by omega) (by omega), es_cpH b z (by omega) (by omega)]
      exact g
    · refine br_f (nI_ge (by omega) (by omega)) ?_
      unfold wX_copy_81
      rw [nI_add]
      refine es_mvX (by omega) (by omega) (nm_r (nI_1 k) ?_)
      rw [es_cpL a (by omega), es_cpL b (by omega)]
      exact g
end
section
variable {post : Int32 → SY → Prop} {f : Int32} {a b t1 t2 t3 t4 t5 : Nat → Int32}
theorem es_cpY {h1 h2 : Nat → Int32} {i pl w d : Nat} (hw : pl + d + w ≤ 60) (e1 : ∀ k, k < w → h1 k = a (i + k)) (e2 : ∀ k, k < w → h2 k = b (i + k)) : ∀ (n k : Nat), k + n = w → post f (f, es_cp a i pl w d w, es_cp b i pl w d w, h1, h2, t1, t2, t3, t4, t5) →
    wY_copy_104 post (nI pl) (nI w) f (n + 1) (nI k) (es_cp a i pl w d k) (es_cp b i pl w d k) h1 h2 t1 t2 t3 t4 t5 := by
  intro n
  induction n with
  | zero =>
    intro k hk h
    rw [show k = w by omega]
    exact br_t (nI_le (by omega) (by omega)) h
  | succ n ih =>
    intro k hk h
    refine br_f (nI_ge (by omega) (by omega)) ?_
    have g := ih (k + 1) (by omega) h
    rw [← es_cpS, ← es_cpS] at g
    have c1 : (nI k).toNatClampNeg = k := nI_clamp (by omega)
    have c2 : (nI (pl + k)).toNatClampNeg = pl + k := nI_clamp (by omega)
    have i1 : vp_in (nI k) 60 := vp_in_nI (by omega) (by omega)
    have i2 : vp_in (nI (pl + k)) 60 := vp_in_nI (by omega) (by omega)
    simp only [nI_add, c1, c2, e1 k (by omega), e2 k (by omega)]
    exact ⟨i1, i2, nm_e ⟨i1, i2, nm_e (nm_r (nI_1 k) g)⟩⟩
theorem es_hdY {c i pl w : Nat} (hi : i + w ≤ c) (hp : pl ≤ c) (hw : c + w ≤ 60) (hE : ∀ h1 h2, post (nI (c + w)) (nI (c + w), es_cp a i pl w (c - pl) w, es_cp b i pl w (c - pl) w, h1, h2, t1, t2, t3, t4, t5)) : ∀ (n k : Nat) (h1 h2 : Nat → Int32), k + n = w →
    (∀ j, j < k → h1 j = a (i + j)) → (∀ j, j < k → h2 j = b (i + j)) →
    wY_copy_49 post (nI i) (nI pl) (nI w) (nI c) (n + 1) (nI k) a b h1 h2 t1 t2 t3 t4 t5 := by
  intro n
  induction n with
  | zero =>
    intro k h1 h2 hk e1 e2
    refine br_t (nI_le (by omega) (by omega)) (es_openY hp hw ⟨w + 1, ?_⟩)
    rw [show k = w by omega] at e1 e2
    have g := es_cpY (post := post) (f := nI (c + w)) (t1 := t1) (t2 := t2) (t3 := t3) (t4 := t4) (t5 := t5) (i := i) (pl := pl) (w := w) (d := c - pl) (by omega) e1 e2 w 0 (by omega) (hE h1 h2)
    rw [es_cp0, es_cp0] at g
    exact g
  | succ n ih =>
    intro k h1 h2 hk e1 e2
    refine br_f (nI_ge (by omega) (by omega)) ?_
    have c1 : (nI k).toNatClampNeg = k := nI_clamp (by omega)
    have c2 : (nI (i + k)).toNatClampNeg = i + k := nI_clamp (by omega)
    have i1 : vp_in (nI k) 60 := vp_in_nI (by omega) (by omega)
    have i2 : vp_in (nI (i + k)) 60 := vp_in_nI (by omega) (by omega)
    simp only [nI_add, c1, c2]
    refine ⟨i2, i1, nm_e ⟨i2, i1, nm_e (nm_r (nI_1 k) (ih _ _ _ (by omega) ?_ ?_))⟩⟩
    · exact lt_s (fun j hj => by rw [pk_un (Nat.ne_of_lt hj)]; exact e1 j hj) pk_us
    · exact lt_s (fun j hj => by rw [pk_un (Nat.ne_of_lt hj)]; exact e2 j hj) pk_us
end
theorem i_vc_insert {k : Nat} {u : SX} {v : SY} (I : i_Rel k u v) (hk : k + 4 ≤ 2048) (v1 : Int32) (v2 : Int32) (v3 : Int32) : wpX_insert (fun r u' => wpY_insert (fun r' v' => r' = r ∧ i_Rel (k + 4) u' v') v v1 v2 v3) u v1 v2 v3 := by
  obtain ⟨c, a, b, s1, s2, s3, s4, h1, h2, t1, t2, t3, t4, t5, hc, ha, rfl, rfl⟩ := I
  have R : i_Rel (k + 4) (nI c, a, b, s1, s2, s3, s4) (nI c, a, b, h1, h2, t1, t2, t3, t4, t5) := es_rel hc ha
  unfold wpX_insert
  by_cases g0 : v1 < 0
  · exact es_gapX0 (Or.inl g0) (br_t rfl (br_t g0 ⟨rfl, R⟩))
  by_cases g1 : nI c < v1
  · exact es_gapX0 (Or.inr g1) (br_t rfl (br_f g0 (br_f (Int32.not_le.mpr g1) ⟨rfl, R⟩)))
  obtain ⟨pl, hpl, rfl⟩ := es_nn g0 g1 (by omega)
  have g2 : nI pl ≤ nI c := nI_le hpl (by omega)
  refine es_gapX1 hc hpl (br_f (by decide) ?_)
  by_cases k0 : v2 < 0
  · exact br_t k0 (br_f g0 (br_t g2 (br_t k0 ⟨rfl, R⟩)))
  refine br_f k0 ?_
  by_cases k6 : v2 ≤ 6
  · refine br_t k6 ?_
    have hK : es_K v2 := by
      obtain ⟨q, hq, rfl⟩ := nI_of2 (n := 6) (by decide) k0 k6
      have : q = 0 ∨ q = 1 ∨ q = 2 ∨ q = 3 ∨ q = 4 ∨ q = 5 ∨ q = 6 := by omega
      rcases this with rfl | rfl | rfl | rfl | rfl | rfl | rfl
      · exact Or.inl rfl
      · exact Or.inr (Or.inl rfl)
      · exact Or.inr (Or.inr (Or.inl rfl))
      · exact Or.inr (Or.inr (Or.inr (Or.inl rfl)))
      · exact Or.inr (Or.inr (Or.inr (Or.inr (Or.inl rfl))))
      · exact Or.inr (Or.inr (Or.inr (Or.inr (Or.inr (Or.inl rfl)))))
      · exact Or.inr (Or.inr (Or.inr (Or.inr (Or.inr (Or.inr rfl)))))
    by_cases hc6 : c = 60
    · subst hc6
      exact br_f (by decide) (br_f g0 (br_t g2 (br_f k0 (br_t k6 (br_t rfl ⟨rfl, R⟩)))))
    · have c60 : ¬ nI c = 60 := fun z => hc6 ((nI_eq (b := 60) (by omega) (by omega)).mp z)
      have e1 : (nI pl).toNatClampNeg = pl := nI_clamp (by omega)
      have i1 : vp_in (nI pl) 60 := vp_in_nI (by omega) (by omega)
      have RR : ∀ x, i_Rel (k + 4) (nI (c + 1), upd (es_gp a pl 1 (c - pl)) pl v2, upd (es_gp b pl 1 (c - pl)) pl x, s1, s2, s3, s4) (nI (c + 1), upd (es_gp a pl 1 (c - pl)) pl v2, upd (es_gp b pl 1 (c - pl)) pl x, h1, h2, t1, t2, t3, t4, t5) := fun x => es_rel (by omega) (es_Ku (es_Kg ha) hK)
      refine br_t (nI_lt (b := 60) (by omega) (by omega)) (es_openX (w := 1) hpl (by omega) ?_)
      dsimp only
      rw [e1]
      by_cases z : v2 = 0
      · refine ⟨i1, nm_e (br_t z ⟨i1, nm_e ?_⟩)⟩
        refine br_f g0 (br_t g2 (br_f k0 (br_t k6 (br_f c60 (es_openY (w := 1) hpl (by omega) ?_)))))
        dsimp only
        rw [e1]
        exact ⟨i1, nm_e (br_t z ⟨i1, nm_e ⟨rfl, RR _⟩⟩)⟩
      · refine ⟨i1, nm_e (br_f z ⟨i1, nm_e ?_⟩)⟩
        refine br_f g0 (br_t g2 (br_f k0 (br_t k6 (br_f c60 (es_openY (w := 1) hpl (by omega) ?_)))))
        dsimp only
        rw [e1]
        exact ⟨i1, nm_e (br_f z ⟨i1, nm_e ⟨rfl, RR _⟩⟩)⟩
  · exact br_f k6 (br_f g0 (br_t g2 (br_f k0 (br_f k6 ⟨rfl, R⟩))))
theorem i_vc_delete {k : Nat} {u : SX} {v : SY} (I : i_Rel k u v) (hk : k + 4 ≤ 2048) (v1 : Int32) (v2 : Int32) : wpX_delete (fun r u' => wpY_delete (fun r' v' => r' = r ∧ i_Rel (k + 4) u' v') v v1 v2) u v1 v2 := by
  obtain ⟨c, a, b, s1, s2, s3, s4, h1, h2, t1, t2, t3, t4, t5, hc, ha, rfl, rfl⟩ := I
  have R : i_Rel (k + 4) (nI c, a, b, s1, s2, s3, s4) (nI c, a, b, h1, h2, t1, t2, t3, t4, t5) := es_rel hc ha
  unfold wpX_delete wpY_delete
  rcases es_part hc v1 v2 with z | ⟨i, d, hd, hi, rfl, rfl⟩
  · exact es_partX0 z (br_t rfl (es_partY0 z (br_t rfl ⟨rfl, R⟩)))
  · refine es_partX1 hc hd hi (br_f (by decide) (es_outX hi hc (es_partY1 hc hd hi (br_f (by decide) ?_))))
    rw [pk_sub (by omega), show i + d - i = d by omega]
    exact es_outY hi hc ⟨rfl, es_rel (by omega) (es_Kt ha)⟩
theorem i_vc_set {k : Nat} {u : SX} {v : SY} (I : i_Rel k u v) (hk : k + 4 ≤ 2048) (v1 : Int32) (v2 : Int32) : wpX_set (fun r u' => wpY_set (fun r' v' => r' = r ∧ i_Rel (k + 4) u' v') v v1 v2) u v1 v2 := by
  obtain ⟨c, a, b, s1, s2, s3, s4, h1, h2, t1, t2, t3, t4, t5, hc, ha, rfl, rfl⟩ := I
  have R : i_Rel (k + 4) (nI c, a, b, s1, s2, s3, s4) (nI c, a, b, h1, h2, t1, t2, t3, t4, t5) := es_rel hc ha
  unfold wpX_set wpY_set
  rcases es_place hc v1 with z | ⟨i, hi, rfl⟩
  · exact es_placeX0 z (br_t rfl (es_placeY0 z (br_t rfl ⟨rfl, R⟩)))
  · have i1 : vp_in (nI i) 60 := vp_in_nI (by omega) (by omega)
    refine es_placeX1 hc hi (br_f (by decide) ⟨i1, ?_⟩)
    by_cases z : a (nI i).toNatClampNeg = 0
    · exact br_t z ⟨i1, nm_e (es_placeY1 hc hi (br_f (by decide) ⟨i1, br_t z ⟨i1, nm_e ⟨rfl, es_rel hc ha⟩⟩⟩))⟩
    · exact br_f z (es_placeY1 hc hi (br_f (by decide) ⟨i1, br_f z ⟨rfl, R⟩⟩))
theorem i_vc_copy {k : Nat} {u : SX} {v : SY} (I : i_Rel k u v) (hk : k + 4 ≤ 2048) (v1 : Int32) (v2 : Int32) (v3 : Int32) : wpX_copy (fun r u' => wpY_copy (fun r' v' => r' = r ∧ i_Rel (k + 4) u' v') v v1 v2 v3) u v1 v2 v3 := by
  obtain ⟨c, a, b, s1, s2, s3, s4, h1, h2, t1, t2, t3, t4, t5, hc, ha, rfl, rfl⟩ := I
  have R : i_Rel (k + 4) (nI c, a, b, s1, s2, s3, s4) (nI c, a, b, h1, h2, t1, t2, t3, t4, t5) := es_rel hc ha
  unfold wpX_copy wpY_copy
  rcases es_part hc v1 v2 with z | ⟨i, d, hd, hi, rfl, rfl⟩
  · exact es_partX0 z (br_t rfl (es_partY0 z (br_t rfl ⟨rfl, R⟩)))
  refine es_partX1 hc hd hi (br_f (by decide) ?_)
  by_cases g0 : v3 < 0
  · exact es_gapX0 (Or.inl g0) (br_t rfl (es_partY1 hc hd hi (br_f (by decide) (br_t g0 ⟨rfl, R⟩))))
  by_cases g1 : nI c < v3
  · exact es_gapX0 (Or.inr g1) (br_t rfl (es_partY1 hc hd hi (br_f (by decide) (br_f g0 (br_f (Int32.not_le.mpr g1) ⟨rfl, R⟩)))))
  obtain ⟨pl, hpl, rfl⟩ := es_nn g0 g1 (by omega)
  have g2 : nI pl ≤ nI c := nI_le hpl (by omega)
  have ew : nI (i + d) - nI i = nI d := by rw [pk_sub (by omega), show i + d - i = d by omega]
  refine es_gapX1 hc hpl (br_f (by decide) (nm_r ew ?_))
  by_cases hw : c + d ≤ 60
  · have l6 : nI c + nI d ≤ 60 := by rw [nI_add]; exact nI_le (b := 60) hw (by omega)
    refine br_t l6 (es_openX hpl hw ⟨d + 1, ?_⟩)
    rw [← es_cp0 a i, ← es_cp0 b i]
    refine es_cpX (by omega) (by omega) d 0 (by omega) ?_
    exact es_partY1 hc hd hi (br_f (by decide) (br_f g0 (br_t g2 (nm_r ew (br_t l6 ⟨d + 1, es_hdY hi hpl hw (fun _ _ => ⟨rfl, es_rel hw (es_Kc ha)⟩) d 0 h1 h2 (by omega) lt_0 lt_0⟩)))))
  · have l6 : ¬ nI c + nI d ≤ 60 := by rw [nI_add]; exact nI_ge (a := 60) (by omega) (by omega)
    exact br_f l6 (es_partY1 hc hd hi (br_f (by decide) (br_f g0 (br_t g2 (nm_r ew (br_f l6 ⟨rfl, R⟩))))))
theorem i_vc_fold {k : Nat} {u : SX} {v : SY} (I : i_Rel k u v) (hk : k + 4 ≤ 2048) (v1 : Int32) (v2 : Int32) : wpX_fold (fun r u' => wpY_fold (fun r' v' => r' = r ∧ i_Rel (k + 4) u' v') v v1 v2) u v1 v2 := by
  obtain ⟨c, a, b, s1, s2, s3, s4, h1, h2, t1, t2, t3, t4, t5, hc, ha, rfl, rfl⟩ := I
  have R : i_Rel (k + 4) (nI c, a, b, s1, s2, s3, s4) (nI c, a, b, h1, h2, t1, t2, t3, t4, t5) := es_rel hc ha
  unfold wpX_fold wpY_fold
  rcases es_part hc v1 v2 with z | ⟨i, d, hd, hi, rfl, rfl⟩
  · exact es_partX0 z (br_t rfl (es_partY0 z (br_t rfl ⟨rfl, R⟩)))
  refine es_partX1 hc hd hi (br_f (by decide) (es_soundX (by omega) ?_))
  by_cases hs : es_sd a d i 0 true = true
  · rw [hs]
    refine br_f (by decide) ?_
    obtain ⟨r, z1, z2, z3, z4, y1, y2, y3, y4, y5, hX, hY⟩ := es_value (f := nI c) (b := b) (h1 := h1) (h2 := h2) ha (by omega) hs s1 s2 s3 s4 t1 t2 t3 t4 t5
    refine hX _ ?_
    have e1 : (nI i).toNatClampNeg = i := nI_clamp (by omega)
    have i1 : vp_in (nI i) 60 := vp_in_nI (by omega) (by omega)
    dsimp only
    rw [e1, nI_1, show i + d = i + 1 + (d - 1) by omega]
    refine ⟨i1, nm_e ⟨i1, nm_e (es_outX (by omega) hc ?_)⟩⟩
    rw [← show i + d = i + 1 + (d - 1) by omega]
    refine es_partY1 hc hd hi (br_f (by decide) (es_soundY (by omega) ?_))
    rw [hs]
    refine br_f (by decide) (hY _ ?_)
    dsimp only
    rw [pk_sub (by omega), show i + d - i = d - 1 + 1 by omega, nI_pred]
    refine es_outY (by omega) hc ⟨i1, nm_e ⟨i1, nm_e ⟨rfl, ?_⟩⟩⟩
    rw [es_tkU, es_tkU]
    exact es_rel (by omega) (es_Ku (es_Kt ha) (Or.inl rfl))
  · rw [Bool.not_eq_true] at hs
    rw [hs]
    refine br_t rfl (es_partY1 hc hd hi (br_f (by decide) (es_soundY (by omega) ?_)))
    rw [hs]
    exact br_t rfl ⟨rfl, R⟩
theorem i_vc_clear {k : Nat} {u : SX} {v : SY} (I : i_Rel k u v) (hk : k + 4 ≤ 2048) : wpX_clear (fun r u' => wpY_clear (fun r' v' => r' = r ∧ i_Rel (k + 4) u' v') v) u := by
  obtain ⟨c, a, b, s1, s2, s3, s4, h1, h2, t1, t2, t3, t4, t5, hc, ha, rfl, rfl⟩ := I
  exact ⟨rfl, es_rel (k := k + 4) (c := 0) (by omega) ha⟩
end
section
theorem i_vc_size {k : Nat} {u : SX} {v : SY} (I : i_Rel k u v) (hk : k + 4 ≤ 2048) : wpX_size (fun r => wpY_size (fun r' => r' = r ∧ i_Rel (k + 4) u v) v) u := by
  obtain ⟨c, a, b, s1, s2, s3, s4, h1, h2, t1, t2, t3, t4, t5, hc, ha, rfl, rfl⟩ := I
  exact ⟨rfl, es_rel (k := k + 4) hc ha⟩
theorem i_vc_kindAt {k : Nat} {u : SX} {v : SY} (I : i_Rel k u v) (hk : k + 4 ≤ 2048) (v1 : Int32) : wpX_kindAt (fun r => wpY_kindAt (fun r' => r' = r ∧ i_Rel (k + 4) u v) v v1) u v1 := by
  obtain ⟨c, a, b, s1, s2, s3, s4, h1, h2, t1, t2, t3, t4, t5, hc, ha, rfl, rfl⟩ := I
  have R : i_Rel (k + 4) (nI c, a, b, s1, s2, s3, s4) (nI c, a, b, h1, h2, t1, t2, t3, t4, t5) := es_rel hc ha
  unfold wpX_kindAt wpY_kindAt
  rcases es_place hc v1 with z | ⟨i, hi, rfl⟩
  · exact es_placeX0 z (br_t rfl (es_placeY0 z (br_t rfl ⟨rfl, R⟩)))
  · have i1 : vp_in (nI i) 60 := vp_in_nI (by omega) (by omega)
    exact es_placeX1 hc hi (br_f (by decide) ⟨i1, es_placeY1 hc hi (br_f (by decide) ⟨i1, rfl, R⟩)⟩)
theorem i_vc_numberAt {k : Nat} {u : SX} {v : SY} (I : i_Rel k u v) (hk : k + 4 ≤ 2048) (v1 : Int32) : wpX_numberAt (fun r => wpY_numberAt (fun r' => r' = r ∧ i_Rel (k + 4) u v) v v1) u v1 := by
  obtain ⟨c, a, b, s1, s2, s3, s4, h1, h2, t1, t2, t3, t4, t5, hc, ha, rfl, rfl⟩ := I
  have R : i_Rel (k + 4) (nI c, a, b, s1, s2, s3, s4) (nI c, a, b, h1, h2, t1, t2, t3, t4, t5) := es_rel hc ha
  unfold wpX_numberAt wpY_numberAt
  rcases es_place hc v1 with z | ⟨i, hi, rfl⟩
  · exact es_placeX0 z (br_t rfl (es_placeY0 z (br_t rfl ⟨rfl, R⟩)))
  · have i1 : vp_in (nI i) 60 := vp_in_nI (by omega) (by omega)
    exact es_placeX1 hc hi (br_f (by decide) ⟨i1, es_placeY1 hc hi (br_f (by decide) ⟨i1, rfl, R⟩)⟩)
theorem i_vc_isExpression {k : Nat} {u : SX} {v : SY} (I : i_Rel k u v) (hk : k + 4 ≤ 2048) (v1 : Int32) (v2 : Int32) : wpX_isExpression (fun r => wpY_isExpression (fun r' => r' = r ∧ i_Rel (k + 4) u v) v v1 v2) u v1 v2 := by
  obtain ⟨c, a, b, s1, s2, s3, s4, h1, h2, t1, t2, t3, t4, t5, hc, ha, rfl, rfl⟩ := I
  have R : i_Rel (k + 4) (nI c, a, b, s1, s2, s3, s4) (nI c, a, b, h1, h2, t1, t2, t3, t4, t5) := es_rel hc ha
  unfold wpX_isExpression wpY_isExpression
  rcases es_part hc v1 v2 with z | ⟨i, d, hd, hi, rfl, rfl⟩
  · exact es_partX0 z (br_t rfl (es_partY0 z (br_t rfl ⟨rfl, R⟩)))
  refine es_partX1 hc hd hi (br_f (by decide) (es_soundX (by omega) ?_))
  cases hs : es_sd a d i 0 true with
  | true =>
    refine br_f (by decide) (es_partY1 hc hd hi (br_f (by decide) (es_soundY (by omega) ?_)))
    rw [hs]
    exact br_f (by decide) ⟨rfl, R⟩
  | false =>
    refine br_t rfl (es_partY1 hc hd hi (br_f (by decide) (es_soundY (by omega) ?_)))
    rw [hs]
    exact br_t rfl ⟨rfl, R⟩
theorem i_vc_value {k : Nat} {u : SX} {v : SY} (I : i_Rel k u v) (hk : k + 4 ≤ 2048) (v1 : Int32) (v2 : Int32) : wpX_value (fun r u' => wpY_value (fun r' v' => r' = r ∧ i_Rel (k + 4) u' v') v v1 v2) u v1 v2 := by
  obtain ⟨c, a, b, s1, s2, s3, s4, h1, h2, t1, t2, t3, t4, t5, hc, ha, rfl, rfl⟩ := I
  have R : i_Rel (k + 4) (nI c, a, b, s1, s2, s3, s4) (nI c, a, b, h1, h2, t1, t2, t3, t4, t5) := es_rel hc ha
  unfold wpX_value wpY_value
  rcases es_part hc v1 v2 with z | ⟨i, d, hd, hi, rfl, rfl⟩
  · exact es_partX0 z (br_t rfl (es_partY0 z (br_t rfl ⟨rfl, R⟩)))
  refine es_partX1 hc hd hi (br_f (by decide) (es_soundX (by omega) ?_))
  cases hs : es_sd a d i 0 true with
  | true =>
    obtain ⟨r, z1, z2, z3, z4, y1, y2, y3, y4, y5, hX, hY⟩ := es_value (f := nI c) (b := b) (h1 := h1) (h2 := h2) ha (by omega) hs s1 s2 s3 s4 t1 t2 t3 t4 t5
    refine br_f (by decide) (hX _ (es_partY1 hc hd hi (br_f (by decide) (es_soundY (by omega) ?_))))
    rw [hs]
    exact br_f (by decide) (hY _ ⟨rfl, es_rel hc ha⟩)
  | false =>
    refine br_t rfl (es_partY1 hc hd hi (br_f (by decide) (es_soundY (by omega) ?_)))
    rw [hs]
    exact br_t rfl ⟨rfl, R⟩
/-- the greatest end of an expression from i on, among the first d -/
def es_lg (a : Nat → Int32) (i : Nat) : Nat → Int32
  | 0 => -2
  | d + 1 => if es_sd a (d + 1) i 0 true = true then nI (i + (d + 1)) else es_lg a i d
section
variable {post : Int32 → Prop} {f : Int32} {a b s1 s2 s3 s4 h1 h2 t1 t2 t3 t4 t5 : Nat → Int32}
theorem es_lgX {i : Nat} : ∀ d, i + d ≤ 60 → post (es_lg a i d) → wX_longest_15 post (nI i) f a b s1 s2 s3 s4 (d + 1) (nI (i + d)) := by
  intro d
  induction d with
  | zero => intro hd h; exact br_t (nI_le (by omega) (by omega)) h
  | succ d ih =>
    intro hd h
    refine br_f (nI_ge (by omega) (by omega)) (es_soundX hd ?_)
    unfold es_lg at h
    cases hs : es_sd a (d + 1) i 0 true with
    | true =>
      rw [if_pos hs] at h
      exact br_f (by decide) h
    | false =>
      rw [hs, if_neg (by decide)] at h
      exact br_t rfl (nm_r (pk_m1 (i + d)) (ih (by omega) h))
theorem es_lgY {c i : Nat} (hc : c ≤ 60) : ∀ n d, i + d + n = c → post (es_lg a i (d + n)) → wY_longest_17 post (nI i) (nI c) a b h1 h2 t1 t2 t3 t4 t5 (n + 1) (es_lg a i d) (nI (i + d + 1)) := by
  intro n
  induction n with
  | zero => intro d hd h; exact br_t (nI_lt (by omega) (by omega)) h
  | succ n ih =>
    intro d hd h
    rw [show d + (n + 1) = d + 1 + n by omega] at h
    have g := ih (d + 1) (by omega) h
    refine br_f (nI_nlt (by omega) (by omega)) (es_soundY (d := d + 1) (by omega) ?_)
    rw [show es_lg a i (d + 1) = if es_sd a (d + 1) i 0 true = true then nI (i + (d + 1)) else es_lg a i d from rfl] at g
    cases hs : es_sd a (d + 1) i 0 true with
    | true =>
      rw [if_pos hs] at g
      exact br_f (by decide) (nm_r (nI_1 _) g)
    | false =>
      rw [hs, if_neg (by decide)] at g
      exact br_t rfl (nm_r (nI_1 _) g)
end
theorem i_vc_longest {k : Nat} {u : SX} {v : SY} (I : i_Rel k u v) (hk : k + 4 ≤ 2048) (v1 : Int32) : wpX_longest (fun r => wpY_longest (fun r' => r' = r ∧ i_Rel (k + 4) u v) v v1) u v1 := by
  obtain ⟨c, a, b, s1, s2, s3, s4, h1, h2, t1, t2, t3, t4, t5, hc, ha, rfl, rfl⟩ := I
  have R : i_Rel (k + 4) (nI c, a, b, s1, s2, s3, s4) (nI c, a, b, h1, h2, t1, t2, t3, t4, t5) := es_rel hc ha
  unfold wpX_longest wpY_longest
  rcases es_place hc v1 with z | ⟨i, hi, rfl⟩
  · exact es_placeX0 z (br_t rfl (es_placeY0 z (br_t rfl ⟨rfl, R⟩)))
  · refine es_placeX1 hc hi (br_f (by decide) ⟨c - i + 1, ?_⟩)
    rw [show nI c = nI (i + (c - i)) by rw [show i + (c - i) = c by omega]]
    refine es_lgX (c - i) (by omega) ?_
    rw [show nI (i + (c - i)) = nI c by rw [show i + (c - i) = c by omega]]
    refine es_placeY1 hc hi (br_f (by decide) (nm_r (nI_1 i) ⟨c - i + 1, es_lgY hc (c - i) 0 (by omega) ?_⟩))
    rw [Nat.zero_add]
    exact ⟨rfl, R⟩
section
variable {a b s1 s2 s3 s4 h1 h2 t1 t2 t3 t4 t5 : Nat → Int32}
theorem es_en {c i : Nat} (hc : c ≤ 60) : ∀ n d (x : Int32), i + d + n = c → ∃ r : Int32,
    (∀ post : Int32 → Prop, post r → wX_countEndings_6 post (nI i) (nI c) a b s1 s2 s3 s4 (n + 1) x (nI (i + d + 1))) ∧
    (∀ post : Int32 → Prop, post r → wY_endings_16 post (nI i) (nI c) a b h1 h2 t1 t2 t3 t4 t5 (n + 1) x (nI (i + d + 1))) := by
  intro n
  induction n with
  | zero => intro d x hd; exact ⟨x, fun post h => br_t (nI_lt (by omega) (by omega)) h, fun post h => br_t (nI_lt (by omega) (by omega)) h⟩
  | succ n ih =>
    intro d x hd
    have l : ¬ nI c < nI (i + d + 1) := nI_nlt (by omega) (by omega)
    cases hs : es_sd a (d + 1) i 0 true with
    | true =>
      obtain ⟨r, hX, hY⟩ := ih (d + 1) (x + 1) (by omega)
      refine ⟨r, fun post h => br_f l (es_soundX (d := d + 1) (by omega) ?_), fun post h => br_f l (es_soundY (d := d + 1) (by omega) ?_)⟩
      · rw [hs]; exact br_f (by decide) (nm_e (nm_r (nI_1 _) (hX post h)))
      · rw [hs]; exact br_f (by decide) (nm_e (nm_r (nI_1 _) (hY post h)))
    | false =>
      obtain ⟨r, hX, hY⟩ := ih (d + 1) x (by omega)
      refine ⟨r, fun post h => br_f l (es_soundX (d := d + 1) (by omega) ?_), fun post h => br_f l (es_soundY (d := d + 1) (by omega) ?_)⟩
      · rw [hs]; exact br_t rfl (nm_r (nI_1 _) (hX post h))
      · rw [hs]; exact br_t rfl (nm_r (nI_1 _) (hY post h))
theorem es_ends {c i : Nat} (hc : c ≤ 60) (hi : i < c) : ∃ r : Int32,
    (∀ post : Int32 → Prop, post r → wpX_countEndings post (nI c, a, b, s1, s2, s3, s4) (nI i)) ∧
    (∀ post : Int32 → Prop, post r → wpY_endings post (nI c, a, b, h1, h2, t1, t2, t3, t4, t5) (nI i)) := by
  obtain ⟨r, hX, hY⟩ := es_en (a := a) (b := b) (s1 := s1) (s2 := s2) (s3 := s3) (s4 := s4) (h1 := h1) (h2 := h2) (t1 := t1) (t2 := t2) (t3 := t3) (t4 := t4) (t5 := t5) hc (i := i) (c - i) 0 0 (by omega)
  refine ⟨r, fun post h => nm_r (nI_1 i) ⟨_, hX post h⟩, fun post h => ?_⟩
  unfold wpY_endings
  exact es_placeY1 hc hi (br_f (by decide) (nm_r (nI_1 i) ⟨_, hY post h⟩))
theorem es_al {c : Nat} (hc : c ≤ 60) : ∀ n i (x : Int32), i + n = c → ∃ r : Int32,
    (∀ post : Int32 → Prop, post r → wX_expressions_4 post (nI c) a b s1 s2 s3 s4 (n + 1) x (nI i)) ∧
    (∀ post : Int32 → Prop, post r → wY_expressions_4 post (nI c) a b h1 h2 t1 t2 t3 t4 t5 (n + 1) x (nI i)) := by
  intro n
  induction n with
  | zero => intro i x hd; exact ⟨x, fun post h => br_t (nI_le (by omega) (by omega)) h, fun post h => br_t (nI_le (by omega) (by omega)) h⟩
  | succ n ih =>
    intro i x hd
    have l : ¬ nI c ≤ nI i := nI_ge (by omega) (by omega)
    obtain ⟨q, qX, qY⟩ := es_ends (a := a) (b := b) (s1 := s1) (s2 := s2) (s3 := s3) (s4 := s4) (h1 := h1) (h2 := h2) (t1 := t1) (t2 := t2) (t3 := t3) (t4 := t4) (t5 := t5) hc (i := i) (by omega)
    obtain ⟨r, hX, hY⟩ := ih (i + 1) (x + q) (by omega)
    exact ⟨r, fun post h => br_f l (qX _ (nm_e (nm_r (nI_1 i) (hX post h)))), fun post h => br_f l (qY _ (nm_e (nm_r (nI_1 i) (hY post h))))⟩
end
theorem i_vc_endings {k : Nat} {u : SX} {v : SY} (I : i_Rel k u v) (hk : k + 4 ≤ 2048) (v1 : Int32) : wpX_endings (fun r => wpY_endings (fun r' => r' = r ∧ i_Rel (k + 4) u v) v v1) u v1 := by
  obtain ⟨c, a, b, s1, s2, s3, s4, h1, h2, t1, t2, t3, t4, t5, hc, ha, rfl, rfl⟩ := I
  have R : i_Rel (k + 4) (nI c, a, b, s1, s2, s3, s4) (nI c, a, b, h1, h2, t1, t2, t3, t4, t5) := es_rel hc ha
  unfold wpX_endings
  rcases es_place hc v1 with z | ⟨i, hi, rfl⟩
  · refine es_placeX0 z (br_t rfl ?_)
    unfold wpY_endings
    exact es_placeY0 z (br_t rfl ⟨rfl, R⟩)
  · obtain ⟨r, hX, hY⟩ := es_ends (a := a) (b := b) (s1 := s1) (s2 := s2) (s3 := s3) (s4 := s4) (h1 := h1) (h2 := h2) (t1 := t1) (t2 := t2) (t3 := t3) (t4 := t4) (t5 := t5) hc hi
    exact es_placeX1 hc hi (br_f (by decide) (hX _ (hY _ ⟨rfl, R⟩)))
theorem i_vc_expressions {k : Nat} {u : SX} {v : SY} (I : i_Rel k u v) (hk : k + 4 ≤ 2048) : wpX_expressions (fun r => wpY_expressions (fun r' => r' = r ∧ i_Rel (k + 4) u v) v) u := by
  obtain ⟨c, a, b, s1, s2, s3, s4, h1, h2, t1, t2, t3, t4, t5, hc, ha, rfl, rfl⟩ := I
  have R : i_Rel (k + 4) (nI c, a, b, s1, s2, s3, s4) (nI c, a, b, h1, h2, t1, t2, t3, t4, t5) := es_rel hc ha
  obtain ⟨r, hX, hY⟩ := es_al (a := a) (b := b) (s1 := s1) (s2 := s2) (s3 := s3) (s4 := s4) (h1 := h1) (h2 := h2) (t1 := t1) (t2 := t2) (t3 := t3) (t4 := t4) (t5 := t5) hc c 0 0 (by omega)
  exact ⟨_, hX _ ⟨_, hY _ ⟨rfl, R⟩⟩⟩
end
section
section
variable {a b h1 h2 : Nat → Int32}
theorem es_bs {c i : Nat} (hc : c ≤ 60) (hi : i < c) (ha : ∀ j, es_K (a j)) : ∀ n d (x y : Int32) (s1 s2 s3 s4 t1 t2 t3 t4 t5 : Nat → Int32), i + d + n = c →
    ∃ (r : Int32) (z1 z2 z3 z4 y1 y2 y3 y4 y5 : Nat → Int32),
      (∀ post : Int32 → SX → Prop, post r (nI c, a, b, z1, z2, z3, z4) → wX_best_19 post (nI i) (n + 1) x y (nI (i + d + 1)) (nI c) a b s1 s2 s3 s4) ∧
      (∀ post : Int32 → SY → Prop, post r (nI c, a, b, h1, h2, y1, y2, y3, y4, y5) → wY_best_9 post (nI i) (n + 1) x y (nI (i + d + 1)) (nI c) a b h1 h2 t1 t2 t3 t4 t5) := by
  intro n
  induction n with
  | zero => intro d x y s1 s2 s3 s4 t1 t2 t3 t4 t5 hd; exact ⟨y, s1, s2, s3, s4, t1, t2, t3, t4, t5, fun post h => br_t (nI_lt (by omega) (by omega)) h, fun post h => br_t (nI_lt (by omega) (by omega)) h⟩
  | succ n ih =>
    intro d x y s1 s2 s3 s4 t1 t2 t3 t4 t5 hd
    have l : ¬ nI c < nI (i + d + 1) := nI_nlt (by omega) (by omega)
    cases hs : es_sd a (d + 1) i 0 true with
    | false =>
      obtain ⟨r, z1, z2, z3, z4, y1, y2, y3, y4, y5, hX, hY⟩ := ih (d + 1) x y s1 s2 s3 s4 t1 t2 t3 t4 t5 (by omega)
      refine ⟨r, z1, z2, z3, z4, y1, y2, y3, y4, y5, fun post h => br_f l (es_soundX (d := d + 1) (by omega) ?_), fun post h => br_f l (es_placeY1 hc hi (br_f (by decide) (es_soundY (d := d + 1) (by omega) ?_)))⟩
      · rw [hs]; exact br_t rfl (nm_r (nI_1 _) (hX post h))
      · rw [hs]; exact br_t rfl (nm_r (nI_1 _) (hY post h))
    | true =>
      obtain ⟨q, p1, p2, p3, p4, q1, q2, q3, q4, q5, gX, gY⟩ := es_value (f := nI c) (b := b) (h1 := h1) (h2 := h2) ha (i := i) (d := d + 1) (by omega) hs s1 s2 s3 s4 t1 t2 t3 t4 t5
      by_cases hx : x = 0
      · obtain ⟨r, z1, z2, z3, z4, y1, y2, y3, y4, y5, hX, hY⟩ := ih (d + 1) 1 q p1 p2 p3 p4 q1 q2 q3 q4 q5 (by omega)
        refine ⟨r, z1, z2, z3, z4, y1, y2, y3, y4, y5, fun post h => br_f l (es_soundX (d := d + 1) (by omega) ?_), fun post h => br_f l (es_placeY1 hc hi (br_f (by decide) (es_soundY (d := d + 1) (by omega) ?_)))⟩
        · rw [hs]; exact br_f (by decide) (gX _ (br_t hx (nm_r (nI_1 _) (hX post h))))
        · rw [hs]; exact br_f (by decide) (gY _ (br_t hx (nm_r (nI_1 _) (hY post h))))
      · by_cases h1 : y ≤ q
        · obtain ⟨r, z1, z2, z3, z4, y1, y2, y3, y4, y5, hX, hY⟩ := ih (d + 1) 1 q p1 p2 p3 p4 q1 q2 q3 q4 q5 (by omega)
          refine ⟨r, z1, z2, z3, z4, y1, y2, y3, y4, y5, fun post h => br_f l (es_soundX (d := d + 1) (by omega) ?_), fun post h => br_f l (es_placeY1 hc hi (br_f (by decide) (es_soundY (d := d + 1) (by omega) ?_)))⟩
          · rw [hs]; exact br_f (by decide) (gX _ (br_f hx (br_t h1 (nm_r (nI_1 _) (hX post h)))))
          · rw [hs]
            refine br_f (by decide) (gY _ (br_f hx (br_c (fun z => nm_r (nI_1 _) ?_) fun z => nm_r (nI_1 _) (hY post h))))
            rw [Int32.le_antisymm h1 z]
            exact hY post h
        · have h2 : q ≤ y := Int32.le_of_lt (Int32.not_le.mp h1)
          obtain ⟨r, z1, z2, z3, z4, y1, y2, y3, y4, y5, hX, hY⟩ := ih (d + 1) 1 y p1 p2 p3 p4 q1 q2 q3 q4 q5 (by omega)
          refine ⟨r, z1, z2, z3, z4, y1, y2, y3, y4, y5, fun post h => br_f l (es_soundX (d := d + 1) (by omega) ?_), fun post h => br_f l (es_placeY1 hc hi (br_f (by decide) (es_soundY (d := d + 1) (by omega) ?_)))⟩
          · rw [hs]; exact br_f (by decide) (gX _ (br_f hx (br_f h1 (nm_r (nI_1 _) (hX post h)))))
          · rw [hs]; exact br_f (by decide) (gY _ (br_f hx (br_t h2 (nm_r (nI_1 _) (hY post h)))))
end
theorem i_vc_best {k : Nat} {u : SX} {v : SY} (I : i_Rel k u v) (hk : k + 4 ≤ 2048) (v1 : Int32) : wpX_best (fun r u' => wpY_best (fun r' v' => r' = r ∧ i_Rel (k + 4) u' v') v v1) u v1 := by
  obtain ⟨c, a, b, s1, s2, s3, s4, h1, h2, t1, t2, t3, t4, t5, hc, ha, rfl, rfl⟩ := I
  have R : i_Rel (k + 4) (nI c, a, b, s1, s2, s3, s4) (nI c, a, b, h1, h2, t1, t2, t3, t4, t5) := es_rel hc ha
  unfold wpX_best wpY_best
  rcases es_place hc v1 with z | ⟨i, hi, rfl⟩
  · exact es_placeX0 z (br_t rfl (nm_e ⟨1, br_c (fun _ => ⟨rfl, R⟩) fun _ => es_placeY0 z (br_t rfl ⟨rfl, R⟩)⟩))
  · obtain ⟨r, z1, z2, z3, z4, y1, y2, y3, y4, y5, hX, hY⟩ := es_bs (b := b) (h1 := h1) (h2 := h2) hc hi ha (c - i) 0 0 0 s1 s2 s3 s4 t1 t2 t3 t4 t5 (by omega)
    exact es_placeX1 hc hi (br_f (by decide) (nm_r (nI_1 i) ⟨_, hX _ (nm_r (nI_1 i) ⟨_, hY _ ⟨rfl, es_rel hc ha⟩⟩)⟩))
section
variable {a b s1 s2 s3 s4 h1 h2 t1 t2 t3 t4 t5 : Nat → Int32}
theorem es_cb {c : Nat} (hc : c ≤ 60) : ∀ n p (x : Int32), p + n = c → ∃ r : Int32,
    (∀ post : Int32 → Prop, post r → wX_closeBehind_6 post (nI c) a b s1 s2 s3 s4 (n + 1) x (nI p)) ∧
    (∀ post : Int32 → Prop, post r → wY_partner_63 post 5 1 6 (nI c) a b h1 h2 t1 t2 t3 t4 t5 (n + 1) x (nI p)) := by
  intro n
  induction n with
  | zero =>
    intro p x hd
    have l : nI c ≤ nI p := nI_le (by omega) (by omega)
    exact ⟨-2, fun post h => br_t l h, fun post h => br_f (nI_pos (by omega)) (br_t l h)⟩
  | succ n ih =>
    intro p x hd
    have l : ¬ nI c ≤ nI p := nI_ge (by omega) (by omega)
    have l0 : ¬ nI p < 0 := nI_pos (by omega)
    have i1 : vp_in (nI p) 60 := vp_in_nI (by omega) (by omega)
    by_cases k5 : a (nI p).toNatClampNeg = 5
    · have k6 : ¬ a (nI p).toNatClampNeg = 6 := by rw [k5]; decide
      obtain ⟨r, hX, hY⟩ := ih (p + 1) (x + 1) (by omega)
      exact ⟨r, fun post h => br_f l ⟨i1, br_t k5 (nm_e (nm_r (nI_1 p) (hX post h)))⟩, fun post h => br_f l0 (br_f l ⟨i1, br_f k6 ⟨i1, br_t k5 (nm_e (nm_r (nI_1 p) (hY post h)))⟩⟩)⟩
    · by_cases k6 : a (nI p).toNatClampNeg = 6
      · by_cases hx : x = 0
        · exact ⟨nI p, fun post h => br_f l ⟨i1, br_f k5 ⟨i1, br_t k6 (br_t hx h)⟩⟩, fun post h => br_f l0 (br_f l ⟨i1, br_t k6 (br_t hx h)⟩)⟩
        · obtain ⟨r, hX, hY⟩ := ih (p + 1) (x - 1) (by omega)
          exact ⟨r, fun post h => br_f l ⟨i1, br_f k5 ⟨i1, br_t k6 (br_f hx (nm_r (es_sm x) (nm_r (nI_1 p) (hX post h))))⟩⟩, fun post h => br_f l0 (br_f l ⟨i1, br_t k6 (br_f hx ⟨i1, br_f k5 ⟨i1, br_t k6 (nm_e (nm_r (nI_1 p) (hY post h)))⟩⟩)⟩)⟩
      · obtain ⟨r, hX, hY⟩ := ih (p + 1) x (by omega)
        exact ⟨r, fun post h => br_f l ⟨i1, br_f k5 ⟨i1, br_f k6 (nm_r (nI_1 p) (hX post h))⟩⟩, fun post h => br_f l0 (br_f l ⟨i1, br_f k6 ⟨i1, br_f k5 ⟨i1, br_f k6 (nm_r (nI_1 p) (hY post h))⟩⟩⟩)⟩
theorem es_ob {c : Nat} (hc : c ≤ 60) : ∀ p (x : Int32), p ≤ c → ∃ r : Int32,
    (∀ post : Int32 → Prop, post r → wX_openBefore_6 post (nI c) a b s1 s2 s3 s4 (p + 1) x (nI p - 1)) ∧
    (∀ post : Int32 → Prop, post r → wY_partner_63 post 6 (-1) 5 (nI c) a b h1 h2 t1 t2 t3 t4 t5 (p + 1) x (nI p - 1)) := by
  intro p
  induction p with
  | zero =>
    intro x hd
    have l : nI 0 - 1 < 0 := by decide
    exact ⟨-2, fun post h => br_t l h, fun post h => br_t l h⟩
  | succ p ih =>
    intro x hd
    rw [nI_pred]
    have l : ¬ nI c ≤ nI p := nI_ge (by omega) (by omega)
    have l0 : ¬ nI p < 0 := nI_pos (by omega)
    have i1 : vp_in (nI p) 60 := vp_in_nI (by omega) (by omega)
    have e1 := es_sm (nI p)
    by_cases k6 : a (nI p).toNatClampNeg = 6
    · have k5 : ¬ a (nI p).toNatClampNeg = 5 := by rw [k6]; decide
      obtain ⟨r, hX, hY⟩ := ih (x + 1) (by omega)
      exact ⟨r, fun post h => br_f l0 ⟨i1, br_t k6 (nm_e (nm_r e1 (hX post h)))⟩, fun post h => br_f l0 (br_f l ⟨i1, br_f k5 ⟨i1, br_t k6 (nm_e (nm_r e1 (hY post h)))⟩⟩)⟩
    · by_cases k5 : a (nI p).toNatClampNeg = 5
      · by_cases hx : x = 0
        · exact ⟨nI p, fun post h => br_f l0 ⟨i1, br_f k6 ⟨i1, br_t k5 (br_t hx h)⟩⟩, fun post h => br_f l0 (br_f l ⟨i1, br_t k5 (br_t hx h)⟩)⟩
        · obtain ⟨r, hX, hY⟩ := ih (x - 1) (by omega)
          exact ⟨r, fun post h => br_f l0 ⟨i1, br_f k6 ⟨i1, br_t k5 (br_f hx (nm_r (es_sm x) (nm_r e1 (hX post h))))⟩⟩, fun post h => br_f l0 (br_f l ⟨i1, br_t k5 (br_f hx ⟨i1, br_f k6 ⟨i1, br_t k5 (nm_e (nm_r e1 (hY post h)))⟩⟩)⟩)⟩
      · obtain ⟨r, hX, hY⟩ := ih x (by omega)
        exact ⟨r, fun post h => br_f l0 ⟨i1, br_f k6 ⟨i1, br_f k5 (nm_r e1 (hX post h))⟩⟩, fun post h => br_f l0 (br_f l ⟨i1, br_f k5 ⟨i1, br_f k6 ⟨i1, br_f k5 (nm_r e1 (hY post h))⟩⟩⟩)⟩
theorem es_dp {f : Int32} : ∀ n p (x y : Int32), p + n ≤ 60 → ∃ r : Int32,
    (∀ post : Int32 → Prop, post r → wX_depth_19 post (nI (p + n)) f a b s1 s2 s3 s4 (n + 1) x y (nI p)) ∧
    (∀ post : Int32 → Prop, post r → wY_depth_19 post (nI (p + n)) f a b h1 h2 t1 t2 t3 t4 t5 (n + 1) y x (nI p)) := by
  intro n
  induction n with
  | zero =>
    intro p x y hd
    have l : nI (p + 0) ≤ nI p := nI_le (by omega) (by omega)
    exact ⟨y, fun post h => br_t l h, fun post h => br_t l h⟩
  | succ n ih =>
    intro p x y hd
    rw [show p + (n + 1) = p + 1 + n by omega]
    have l : ¬ nI (p + 1 + n) ≤ nI p := nI_ge (by omega) (by omega)
    have i1 : vp_in (nI p) 60 := vp_in_nI (by omega) (by omega)
    have key : ∀ q : Int32, ∃ r : Int32,
        (∀ post : Int32 → Prop, post r → wX_depth_57 post (wX_depth_19 post (nI (p + 1 + n)) f a b s1 s2 s3 s4 (n + 1)) (nI (p + 1 + n)) q y (nI p) f a b s1 s2 s3 s4) ∧
        (∀ post : Int32 → Prop, post r → wY_depth_64 post (wY_depth_19 post (nI (p + 1 + n)) f a b h1 h2 t1 t2 t3 t4 t5 (n + 1)) (nI (p + 1 + n)) y (nI p) q f a b h1 h2 t1 t2 t3 t4 t5) := by
      intro q
      by_cases z : y ≤ q
      · obtain ⟨r, hX, hY⟩ := ih (p + 1) q q (by omega)
        refine ⟨r, fun post h => br_t z (nm_r (nI_1 p) (hX post h)), fun post h => br_c (fun z' => nm_r (nI_1 p) ?_) fun _ => nm_r (nI_1 p) (hY post h)⟩
        have e : y = q := Int32.le_antisymm z z'
        subst e
        exact hY post h
      · have z' : q ≤ y := Int32.le_of_lt (Int32.not_le.mp z)
        obtain ⟨r, hX, hY⟩ := ih (p + 1) q y (by omega)
        exact ⟨r, fun post h => br_f z (nm_r (nI_1 p) (hX post h)), fun post h => br_t z' (nm_r (nI_1 p) (hY post h))⟩
    by_cases k5 : a (nI p).toNatClampNeg = 5
    · obtain ⟨r, hX, hY⟩ := key (x + 1)
      exact ⟨r, fun post h => br_f l ⟨i1, br_t k5 (nm_e (hX post h))⟩, fun post h => br_f l ⟨i1, br_t k5 (hY post h)⟩⟩
    · by_cases k6 : a (nI p).toNatClampNeg = 6
      · obtain ⟨r, hX, hY⟩ := key (x - 1)
        exact ⟨r, fun post h => br_f l ⟨i1, br_f k5 ⟨i1, br_t k6 (nm_r (es_sm x) (hX post h))⟩⟩, fun post h => br_f l ⟨i1, br_f k5 ⟨i1, br_t k6 (hY post h)⟩⟩⟩
      · obtain ⟨r, hX, hY⟩ := key x
        exact ⟨r, fun post h => br_f l ⟨i1, br_f k5 ⟨i1, br_f k6 (hX post h)⟩⟩, fun post h => br_f l ⟨i1, br_f k5 ⟨i1, br_f k6 (hY post h)⟩⟩⟩
end
theorem i_vc_partner {k : Nat} {u : SX} {v : SY} (I : i_Rel k u v) (hk : k + 4 ≤ 2048) (v1 : Int32) : wpX_partner (fun r => wpY_partner (fun r' => r' = r ∧ i_Rel (k + 4) u v) v v1) u v1 := by
  obtain ⟨c, a, b, s1, s2, s3, s4, h1, h2, t1, t2, t3, t4, t5, hc, ha, rfl, rfl⟩ := I
  have R : i_Rel (k + 4) (nI c, a, b, s1, s2, s3, s4) (nI c, a, b, h1, h2, t1, t2, t3, t4, t5) := es_rel hc ha
  unfold wpX_partner wpY_partner
  rcases es_place hc v1 with z | ⟨i, hi, rfl⟩
  · exact es_placeX0 z (br_t rfl (es_placeY0 z (br_t rfl ⟨rfl, R⟩)))
  · have i1 : vp_in (nI i) 60 := vp_in_nI (by omega) (by omega)
    refine es_placeX1 hc hi (br_f (by decide) ⟨i1, ?_⟩)
    by_cases k5 : a (nI i).toNatClampNeg = 5
    · obtain ⟨r, hX, hY⟩ := es_cb (a := a) (b := b) (s1 := s1) (s2 := s2) (s3 := s3) (s4 := s4) (h1 := h1) (h2 := h2) (t1 := t1) (t2 := t2) (t3 := t3) (t4 := t4) (t5 := t5) hc (c - (i + 1)) (i + 1) 0 (by omega)
      exact br_t k5 (nm_r (nI_1 i) ⟨_, hX _ (es_placeY1 hc hi (br_f (by decide) ⟨i1, nm_r k5 (br_t rfl (br_t rfl (br_t rfl (nm_r (nI_1 i) ⟨_, hY _ ⟨rfl, R⟩⟩))))⟩))⟩)
    · refine br_f k5 ⟨i1, ?_⟩
      by_cases k6 : a (nI i).toNatClampNeg = 6
      · obtain ⟨r, hX, hY⟩ := es_ob (a := a) (b := b) (s1 := s1) (s2 := s2) (s3 := s3) (s4 := s4) (h1 := h1) (h2 := h2) (t1 := t1) (t2 := t2) (t3 := t3) (t4 := t4) (t5 := t5) hc i 0 (by omega)
        exact br_t k6 (nm_e ⟨_, hX _ (es_placeY1 hc hi (br_f (by decide) ⟨i1, nm_r k6 (br_f (by decide) (br_t rfl (br_f (by decide) (br_f (by decide) (nm_r (es_sm _) ⟨_, hY _ ⟨rfl, R⟩⟩)))))⟩))⟩)
      · exact br_f k6 (es_placeY1 hc hi (br_f (by decide) ⟨i1, nm_e (br_f k5 (br_f k6 ⟨rfl, R⟩))⟩))
theorem i_vc_depth {k : Nat} {u : SX} {v : SY} (I : i_Rel k u v) (hk : k + 4 ≤ 2048) (v1 : Int32) (v2 : Int32) : wpX_depth (fun r => wpY_depth (fun r' => r' = r ∧ i_Rel (k + 4) u v) v v1 v2) u v1 v2 := by
  obtain ⟨c, a, b, s1, s2, s3, s4, h1, h2, t1, t2, t3, t4, t5, hc, ha, rfl, rfl⟩ := I
  have R : i_Rel (k + 4) (nI c, a, b, s1, s2, s3, s4) (nI c, a, b, h1, h2, t1, t2, t3, t4, t5) := es_rel hc ha
  unfold wpX_depth wpY_depth
  rcases es_part hc v1 v2 with z | ⟨i, d, hd, hi, rfl, rfl⟩
  · exact es_partX0 z (br_t rfl (es_partY0 z (br_t rfl ⟨rfl, R⟩)))
  · obtain ⟨r, hX, hY⟩ := es_dp (a := a) (b := b) (s1 := s1) (s2 := s2) (s3 := s3) (s4 := s4) (h1 := h1) (h2 := h2) (t1 := t1) (t2 := t2) (t3 := t3) (t4 := t4) (t5 := t5) (f := nI c) d i 0 0 (by omega)
    exact es_partX1 hc hd hi (br_f (by decide) ⟨_, hX _ (es_partY1 hc hd hi (br_f (by decide) ⟨_, hY _ ⟨rfl, R⟩⟩))⟩)
end
