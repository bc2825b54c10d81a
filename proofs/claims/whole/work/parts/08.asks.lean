theorem i_vc_size {k : Nat} {u : SX} {v : SY} (I : i_Rel k u v) (hk : k + 4 ≤ 2048) : wpX_size (fun r => wpY_size (fun r' => r' = r ∧ i_Rel (k + 4) u v) v) u := by
  obtain ⟨c, a, b, s1, s2, s3, s4, h1, h2, t1, t2, t3, t4, t5, hc, ha, rfl, rfl⟩ := I
  exact ⟨rfl, es_rel (k := k + 4) hc ha⟩
theorem i_vc_kindAt {k : Nat} {u : SX} {v : SY} (I : i_Rel k u v) (hk : k + 4 ≤ 2048) (v1 : Int32) : wpX_kindAt (fun r => wpY_kindAt (fun r' => r' = r ∧ i_Rel (k + 4) u v) v v1) u v1 := by
  obtain ⟨c, a, b, s1, s2, s3, s4, h1, h2, t1, t2, t3, t4, t5, hc, ha, rfl, rfl⟩ := I
  have R : i_Rel (k + 4) (nI c, a, b, s1, s2, s3, s4) (nI c, a, b, h1, h2, t1, t2, t3, t4, t5) := es_rel hc ha
  unfold wpX_kindAt wpY_kindAt
  rcases es_place hc v1 with z | ⟨i, hi, rfl⟩
  · exact es_placeX0 z (br_t rfl (es_placeY0 z (br_t rfl ⟨rfl, R⟩)))
  · have i1 : vp_in (nI i) 60 := vp_in_nI (by omega) (by omega)
    exact es_placeX1 hc hi (br_f (by decide) ⟨i1, es_placeY1 hc hi (br_f (by decide) ⟨i1, rfl, R⟩)⟩)
theorem i_vc_numberAt {k : Nat} {u : SX} {v : SY} (I : i_Rel k u v) (hk : k + 4 ≤ 2048) (v1 : Int32) : wpX_numberAt (fun r => wpY_numberAt (fun r' => r' = r ∧ i_Rel (k + 4) u v) v v1) u v1 := by
  obtain ⟨c, a, b, s1, s2, s3, s4, h1, h2, t1, t2, t3, t4, t5, hc, ha, rfl, rfl⟩ := I
  have R : i_Rel (k + 4) (nI c, a, b, s1, s2, s3, s4) (nI c, a, b, h1, h2, t1, t2, t3, t4, t5) := es_rel hc ha
  unfold wpX_numberAt wpY_numberAt
  rcases es_place hc v1 with z | ⟨i, hi, rfl⟩
  · exact es_placeX0 z (br_t rfl (es_placeY0 z (br_t rfl ⟨rfl, R⟩)))
  · have i1 : vp_in (nI i) 60 := vp_in_nI (by omega) (by omega)
    exact es_placeX1 hc hi (br_f (by decide) ⟨i1, es_placeY1 hc hi (br_f (by decide) ⟨i1, rfl, R⟩)⟩)
theorem i_vc_isExpression {k : Nat} {u : SX} {v : SY} (I : i_Rel k u v) (hk : k + 4 ≤ 2048) (v1 : Int32) (v2 : Int32) : wpX_isExpression (fun r => wpY_isExpression (fun r' => r' = r ∧ i_Rel (k + 4) u v) v v1 v2) u v1 v2 := by
  obtain ⟨c, a, b, s1, s2, s3, s4, h1, h2, t1, t2, t3, t4, t5, hc, ha, rfl, rfl⟩ := I
  have R : i_Rel (k + 4) (nI c, a, b, s1, s2, s3, s4) (nI c, a, b, h1, h2, t1, t2, t3, t4, t5) := es_rel hc ha
  unfold wpX_isExpression wpY_isExpression
  rcases es_part hc v1 v2 with z | ⟨i, d, hd, hi, rfl, rfl⟩
  · exact es_partX0 z (br_t rfl (es_partY0 z (br_t rfl ⟨rfl, R⟩)))
  refine es_partX1 hc hd hi (br_f (by decide) (es_soundX (by omega) ?_))
  cases hs : es_sd a d i 0 true with
  | true =>
    refine br_f (by decide) (es_partY1 hc hd hi (br_f (by decide) (es_soundY (by omega) ?_)))
    rw [hs]
    exact br_f (by decide) ⟨rfl, R⟩
  | false =>
    refine br_t rfl (es_partY1 hc hd hi (br_f (by decide) (es_soundY (by omega) ?_)))
    rw [hs]
    exact br_t rfl ⟨rfl, R⟩
theorem i_vc_value {k : Nat} {u : SX} {v : SY} (I : i_Rel k u v) (hk : k + 4 ≤ 2048) (v1 : Int32) (v2 : Int32) : wpX_value (fun r u' => wpY_value (fun r' v' => r' = r ∧ i_Rel (k + 4) u' v') v v1 v2) u v1 v2 := by
  obtain ⟨c, a, b, s1, s2, s3, s4, h1, h2, t1, t2, t3, t4, t5, hc, ha, rfl, rfl⟩ := I
  have R : i_Rel (k + 4) (nI c, a, b, s1, s2, s3, s4) (nI c, a, b, h1, h2, t1, t2, t3, t4, t5) := es_rel hc ha
  unfold wpX_value wpY_value
  rcases es_part hc v1 v2 with z | ⟨i, d, hd, hi, rfl, rfl⟩
  · exact es_partX0 z (br_t rfl (es_partY0 z (br_t rfl ⟨rfl, R⟩)))
  refine es_partX1 hc hd hi (br_f (by decide) (es_soundX (by omega) ?_))
  cases hs : es_sd a d i 0 true with
  | true =>
    obtain ⟨r, z1, z2, z3, z4, y1, y2, y3, y4, y5, hX, hY⟩ := es_value (f := nI c) (b := b) (h1 := h1) (h2 := h2) ha (by omega) hs s1 s2 s3 s4 t1 t2 t3 t4 t5
    refine br_f (by decide) (hX _ (es_partY1 hc hd hi (br_f (by decide) (es_soundY (by omega) ?_))))
    rw [hs]
    exact br_f (by decide) (hY _ ⟨rfl, es_rel hc ha⟩)
  | false =>
    refine br_t rfl (es_partY1 hc hd hi (br_f (by decide) (es_soundY (by omega) ?_)))
    rw [hs]
    exact br_t rfl ⟨rfl, R⟩
/-- the greatest end of an expression from i on, among the first d -/
def es_lg (a : Nat → Int32) (i : Nat) : Nat → Int32
  | 0 => -2
  | d + 1 => if es_sd a (d + 1) i 0 true = true then nI (i + (d + 1)) else es_lg a i d
section
variable {post : Int32 → Prop} {f : Int32} {a b s1 s2 s3 s4 h1 h2 t1 t2 t3 t4 t5 : Nat → Int32}
theorem es_lgX {i : Nat} : ∀ d, i + d ≤ 60 → post (es_lg a i d) → wX_longest_15 post (nI i) f a b s1 s2 s3 s4 (d + 1) (nI (i + d)) := by
  intro d
  induction d with
  | zero => intro hd h; exact br_t (nI_le (by omega) (by omega)) h
  | succ d ih =>
    intro hd h
    refine br_f (nI_ge (by omega) (by omega)) (es_soundX hd ?_)
    unfold es_lg at h
    cases hs : es_sd a (d + 1) i 0 true with
    | true =>
      rw [if_pos hs] at h
      exact br_f (by decide) h
    | false =>
      rw [hs, if_neg (by decide)] at h
      exact br_t rfl (nm_r (pk_m1 (i + d)) (ih (by omega) h))
theorem es_lgY {c i : Nat} (hc : c ≤ 60) : ∀ n d, i + d + n = c → post (es_lg a i (d + n)) → wY_longest_17 post (nI i) (nI c) a b h1 h2 t1 t2 t3 t4 t5 (n + 1) (es_lg a i d) (nI (i + d + 1)) := by
  intro n
  induction n with
  | zero => intro d hd h; exact br_t (nI_lt (by omega) (by omega)) h
  | succ n ih =>
    intro d hd h
    rw [show d + (n + 1) = d + 1 + n by omega] at h
    have g := ih (d + 1) (by omega) h
    refine br_f (nI_nlt (by omega) (by omega)) (es_soundY (d := d + 1) (by omega) ?_)
    rw [show es_lg a i (d + 1) = if es_sd a (d + 1) i 0 true = true then nI (i + (d + 1)) else es_lg a i d from rfl] at g
    cases hs : es_sd a (d + 1) i 0 true with
    | true =>
      rw [if_pos hs] at g
      exact br_f (by decide) (nm_r (nI_1 _) g)
    | false =>
      rw [hs, if_neg (by decide)] at g
      exact br_t rfl (nm_r (nI_1 _) g)
end
theorem i_vc_longest {k : Nat} {u : SX} {v : SY} (I : i_Rel k u v) (hk : k + 4 ≤ 2048) (v1 : Int32) : wpX_longest (fun r => wpY_longest (fun r' => r' = r ∧ i_Rel (k + 4) u v) v v1) u v1 := by
  obtain ⟨c, a, b, s1, s2, s3, s4, h1, h2, t1, t2, t3, t4, t5, hc, ha, rfl, rfl⟩ := I
  have R : i_Rel (k + 4) (nI c, a, b, s1, s2, s3, s4) (nI c, a, b, h1, h2, t1, t2, t3, t4, t5) := es_rel hc ha
  unfold wpX_longest wpY_longest
  rcases es_place hc v1 with z | ⟨i, hi, rfl⟩
  · exact es_placeX0 z (br_t rfl (es_placeY0 z (br_t rfl ⟨rfl, R⟩)))
  · refine es_placeX1 hc hi (br_f (by decide) ⟨c - i + 1, ?_⟩)
    rw [show nI c = nI (i + (c - i)) by rw [show i + (c - i) = c by omega]]
    refine es_lgX (c - i) (by omega) ?_
    rw [show nI (i + (c - i)) = nI c by rw [show i + (c - i) = c by omega]]
    refine es_placeY1 hc hi (br_f (by decide) (nm_r (nI_1 i) ⟨c - i + 1, es_lgY hc (c - i) 0 (by omega) ?_⟩))
    rw [Nat.zero_add]
    exact ⟨rfl, R⟩
section
variable {a b s1 s2 s3 s4 h1 h2 t1 t2 t3 t4 t5 : Nat → Int32}
theorem es_en {c i : Nat} (hc : c ≤ 60) : ∀ n d (x : Int32), i + d + n = c → ∃ r : Int32,
    (∀ post : Int32 → Prop, post r → wX_countEndings_6 post (nI i) (nI c) a b s1 s2 s3 s4 (n + 1) x (nI (i + d + 1))) ∧
    (∀ post : Int32 → Prop, post r → wY_endings_16 post (nI i) (nI c) a b h1 h2 t1 t2 t3 t4 t5 (n + 1) x (nI (i + d + 1))) := by
  intro n
  induction n with
  | zero => intro d x hd; exact ⟨x, fun post h => br_t (nI_lt (by omega) (by omega)) h, fun post h => br_t (nI_lt (by omega) (by omega)) h⟩
  | succ n ih =>
    intro d x hd
    have l : ¬ nI c < nI (i + d + 1) := nI_nlt (by omega) (by omega)
    cases hs : es_sd a (d + 1) i 0 true with
    | true =>
      obtain ⟨r, hX, hY⟩ := ih (d + 1) (x + 1) (by omega)
      refine ⟨r, fun post h => br_f l (es_soundX (d := d + 1) (by omega) ?_), fun post h => br_f l (es_soundY (d := d + 1) (by omega) ?_)⟩
      · rw [hs]; exact br_f (by decide) (nm_e (nm_r (nI_1 _) (hX post h)))
      · rw [hs]; exact br_f (by decide) (nm_e (nm_r (nI_1 _) (hY post h)))
    | false =>
      obtain ⟨r, hX, hY⟩ := ih (d + 1) x (by omega)
      refine ⟨r, fun post h => br_f l (es_soundX (d := d + 1) (by omega) ?_), fun post h => br_f l (es_soundY (d := d + 1) (by omega) ?_)⟩
      · rw [hs]; exact br_t rfl (nm_r (nI_1 _) (hX post h))
      · rw [hs]; exact br_t rfl (nm_r (nI_1 _) (hY post h))
theorem es_ends {c i : Nat} (hc : c ≤ 60) (hi : i < c) : ∃ r : Int32,
    (∀ post : Int32 → Prop, post r → wpX_countEndings post (nI c, a, b, s1, s2, s3, s4) (nI i)) ∧
    (∀ post : Int32 → Prop, post r → wpY_endings post (nI c, a, b, h1, h2, t1, t2, t3, t4, t5) (nI i)) := by
  obtain ⟨r, hX, hY⟩ := es_en (a := a) (b := b) (s1 := s1) (s2 := s2) (s3 := s3) (s4 := s4) (h1 := h1) (h2 := h2) (t1 := t1) (t2 := t2) (t3 := t3) (t4 := t4) (t5 := t5) hc (i := i) (c - i) 0 0 (by omega)
  refine ⟨r, fun post h => nm_r (nI_1 i) ⟨_, hX post h⟩, fun post h => ?_⟩
  unfold wpY_endings
  exact es_placeY1 hc hi (br_f (by decide) (nm_r (nI_1 i) ⟨_, hY post h⟩))
theorem es_al {c : Nat} (hc : c ≤ 60) : ∀ n i (x : Int32), i + n = c → ∃ r : Int32,
    (∀ post : Int32 → Prop, post r → wX_expressions_4 post (nI c) a b s1 s2 s3 s4 (n + 1) x (nI i)) ∧
    (∀ post : Int32 → Prop, post r → wY_expressions_4 post (nI c) a b h1 h2 t1 t2 t3 t4 t5 (n + 1) x (nI i)) := by
  intro n
  induction n with
  | zero => intro i x hd; exact ⟨x, fun post h => br_t (nI_le (by omega) (by omega)) h, fun post h => br_t (nI_le (by omega) (by omega)) h⟩
  | succ n ih =>
    intro i x hd
    have l : ¬ nI c ≤ nI i := nI_ge (by omega) (by omega)
    obtain ⟨q, qX, qY⟩ := es_ends (a := a) (b := b) (s1 := s1) (s2 := s2) (s3 := s3) (s4 := s4) (h1 := h1) (h2 := h2) (t1 := t1) (t2 := t2) (t3 := t3) (t4 := t4) (t5 := t5) hc (i := i) (by omega)
    obtain ⟨r, hX, hY⟩ := ih (i + 1) (x + q) (by omega)
    exact ⟨r, fun post h => br_f l (qX _ (nm_e (nm_r (nI_1 i) (hX post h)))), fun post h => br_f l (qY _ (nm_e (nm_r (nI_1 i) (hY post h))))⟩
end
theorem i_vc_endings {k : Nat} {u : SX} {v : SY} (I : i_Rel k u v) (hk : k + 4 ≤ 2048) (v1 : Int32) : wpX_endings (fun r => wpY_endings (fun r' => r' = r ∧ i_Rel (k + 4) u v) v v1) u v1 := by
  obtain ⟨c, a, b, s1, s2, s3, s4, h1, h2, t1, t2, t3, t4, t5, hc, ha, rfl, rfl⟩ := I
  have R : i_Rel (k + 4) (nI c, a, b, s1, s2, s3, s4) (nI c, a, b, h1, h2, t1, t2, t3, t4, t5) := es_rel hc ha
  unfold wpX_endings
  rcases es_place hc v1 with z | ⟨i, hi, rfl⟩
  · refine es_placeX0 z (br_t rfl ?_)
    unfold wpY_endings
    exact es_placeY0 z (br_t rfl ⟨rfl, R⟩)
  · obtain ⟨r, hX, hY⟩ := es_ends (a := a) (b := b) (s1 := s1) (s2 := s2) (s3 := s3) (s4 := s4) (h1 := h1) (h2 := h2) (t1 := t1) (t2 := t2) (t3 := t3) (t4 := t4) (t5 := t5) hc hi
    exact es_placeX1 hc hi (br_f (by decide) (hX _ (hY _ ⟨rfl, R⟩)))
theorem i_vc_expressions {k : Nat} {u : SX} {v : SY} (I : i_Rel k u v) (hk : k + 4 ≤ 2048) : wpX_expressions (fun r => wpY_expressions (fun r' => r' = r ∧ i_Rel (k + 4) u v) v) u := by
  obtain ⟨c, a, b, s1, s2, s3, s4, h1, h2, t1, t2, t3, t4, t5, hc, ha, rfl, rfl⟩ := I
  have R : i_Rel (k + 4) (nI c, a, b, s1, s2, s3, s4) (nI c, a, b, h1, h2, t1, t2, t3, t4, t5) := es_rel hc ha
  obtain ⟨r, hX, hY⟩ := es_al (a := a) (b := b) (s1 := s1) (s2 := s2) (s3 := s3) (s4 := s4) (h1 := h1) (h2 := h2) (t1 := t1) (t2 := t2) (t3 := t3) (t4 := t4) (t5 := t5) hc c 0 0 (by omega)
  exact ⟨_, hX _ ⟨_, hY _ ⟨rfl, R⟩⟩⟩
