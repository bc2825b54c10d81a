section
variable {f : Int32} {a b h1 h2 : Nat → Int32}
/-- in step: the component's value and the reference's, over a part that the scan has found sound -/
theorem es_val (ha : ∀ j, es_K (a j)) : ∀ (d p l : Nat) (w : Bool) (s1 s2 s3 s4 t1 t2 t3 t4 t5 : Nat → Int32), p + d ≤ 60 → l ≤ p → es_sd a d p l w = true →
    (∀ q, q < l → es_W (s1 q) (s2 q) (s3 q) (s4 q) (t1 q) (t2 q) (t3 q) (t4 q) (t5 q)) →
    (w = true → es_W (s1 l) (s2 l) (s3 l) (s4 l) (t1 l) (t2 l) (t3 l) (t4 l) (t5 l)) →
    (w = false → es_A (s1 l) (s2 l) (s3 l) (s4 l) (t1 l) (t2 l) (t3 l) (t4 l)) →
    ∃ (r : Int32) (z1 z2 z3 z4 y1 y2 y3 y4 y5 : Nat → Int32),
      (∀ post : Int32 → SX → Prop, post r (f, a, b, z1, z2, z3, z4) → wX_valueOf_10 post (nI (p + d)) (d + 1) (nI l) (nI p) f a b s1 s2 s3 s4) ∧
      (∀ post : Int32 → SY → Prop, post r (f, a, b, h1, h2, y1, y2, y3, y4, y5) → wY_valueOf_10 post (nI (p + d)) (d + 1) (nI l) (nI p) f a b h1 h2 t1 t2 t3 t4 t5) := by
  intro d
  induction d with
  | zero =>
    intro p l w s1 s2 s3 s4 t1 t2 t3 t4 t5 hd hl hs hW hT hF
    have hs' : l = 0 ∧ w = false := by simpa [es_sd] using hs
    obtain ⟨rfl, rfl⟩ := hs'
    have e := es_Av (hF rfl)
    refine ⟨s1 0 + s2 0 * (s3 0 * s4 0), s1, s2, s3, s4, upd t1 0 (es_ev (t1 0) (t2 0) (t3 0) (t4 0)), t2, upd (upd t3 0 (t3 0 * t4 0)) 0 1, t4, t5, ?_, ?_⟩
    · intro post hp
      exact br_t (nI_le (by omega) (by omega)) (es_lvX (by omega) hp)
    · intro post hp
      refine br_t (nI_le (by omega) (by omega)) (es_esY (l := 0) (by omega) ?_)
      dsimp only
      rw [pk_us, e]
      rw [e] at hp
      exact hp
  | succ d ih =>
    intro p l w s1 s2 s3 s4 t1 t2 t3 t4 t5 hd hl hs hW hT hF
    rw [show p + (d + 1) = p + 1 + d by omega] at *
    rcases ha p with k | k | k | k | k | k | k
    · rw [es_sd0 k, Bool.and_eq_true] at hs
      obtain ⟨rfl, hs⟩ := hs
      obtain ⟨r, z1, z2, z3, z4, y1, y2, y3, y4, y5, hX, hY⟩ := ih (p + 1) l false s1 s2 s3 (upd s4 l (es_gr (s4 l) (b p))) t1 t2 t3 (upd t4 l (es_tv (t5 l) (t4 l) (b p))) t5 hd (by omega) hs
        (fun q hq => by simp only [pk_un (Nat.ne_of_lt hq)]; exact hW q hq) (fun z => nomatch z) (fun _ => by simp only [pk_us]; exact es_WA (hT rfl) _)
      exact ⟨r, z1, z2, z3, z4, y1, y2, y3, y4, y5, fun post hp => es_vX0 hd (by omega) k (hX post hp), fun post hp => es_vY0 hd (by omega) k (hY post hp)⟩
    · rw [es_sdo (by rw [k]; decide) (by rw [k]; decide) (by rw [k]; decide), Bool.and_eq_true, Bool.not_eq_true'] at hs
      obtain ⟨rfl, hs⟩ := hs
      have e := es_Av (hF rfl)
      obtain ⟨r, z1, z2, z3, z4, y1, y2, y3, y4, y5, hX, hY⟩ := ih (p + 1) l true (upd s1 l (s1 l + s2 l * (s3 l * s4 l))) (upd s2 l 1) (upd (upd s3 l (s3 l * s4 l)) l 1) (upd s4 l (-2147483648)) (upd t1 l (es_ev (t1 l) (t2 l) (t3 l) (t4 l))) (upd t2 l 0) (upd (upd t3 l (t3 l * t4 l)) l 1) t4 (upd t5 l 1) hd (by omega) hs
        (fun q hq => by simp only [pk_un (Nat.ne_of_lt hq)]; exact hW q hq) (fun _ => by simp only [pk_us]; exact ⟨e.symm, rfl, Or.inl ⟨rfl, rfl⟩, Or.inr ⟨by decide, rfl⟩⟩) (fun z => nomatch z)
      exact ⟨r, z1, z2, z3, z4, y1, y2, y3, y4, y5, fun post hp => es_vX1 hd (by omega) k (hX post hp), fun post hp => es_vY1 hd (by omega) k (hY post hp)⟩
    · rw [es_sdo (by rw [k]; decide) (by rw [k]; decide) (by rw [k]; decide), Bool.and_eq_true, Bool.not_eq_true'] at hs
      obtain ⟨rfl, hs⟩ := hs
      have e := es_Av (hF rfl)
      obtain ⟨r, z1, z2, z3, z4, y1, y2, y3, y4, y5, hX, hY⟩ := ih (p + 1) l true (upd s1 l (s1 l + s2 l * (s3 l * s4 l))) (upd s2 l (-1)) (upd (upd s3 l (s3 l * s4 l)) l 1) (upd s4 l (-2147483648)) (upd t1 l (es_ev (t1 l) (t2 l) (t3 l) (t4 l))) (upd t2 l 1) (upd (upd t3 l (t3 l * t4 l)) l 1) t4 (upd t5 l 2) hd (by omega) hs
        (fun q hq => by simp only [pk_un (Nat.ne_of_lt hq)]; exact hW q hq) (fun _ => by simp only [pk_us]; exact ⟨e.symm, rfl, Or.inr ⟨rfl, rfl⟩, Or.inr ⟨by decide, rfl⟩⟩) (fun z => nomatch z)
      exact ⟨r, z1, z2, z3, z4, y1, y2, y3, y4, y5, fun post hp => es_vX2 hd (by omega) k (hX post hp), fun post hp => es_vY2 hd (by omega) k (hY post hp)⟩
    · rw [es_sdo (by rw [k]; decide) (by rw [k]; decide) (by rw [k]; decide), Bool.and_eq_true, Bool.not_eq_true'] at hs
      obtain ⟨rfl, hs⟩ := hs
      obtain ⟨g1, g2, g3, g4⟩ := hF rfl
      obtain ⟨r, z1, z2, z3, z4, y1, y2, y3, y4, y5, hX, hY⟩ := ih (p + 1) l true s1 s2 (upd s3 l (s3 l * s4 l)) (upd s4 l (-2147483648)) t1 t2 (upd t3 l (t3 l * t4 l)) t4 (upd t5 l 3) hd (by omega) hs
        (fun q hq => by simp only [pk_un (Nat.ne_of_lt hq)]; exact hW q hq) (fun _ => by simp only [pk_us]; exact ⟨g1, by rw [g2, g4], g3, Or.inr ⟨by decide, rfl⟩⟩) (fun z => nomatch z)
      exact ⟨r, z1, z2, z3, z4, y1, y2, y3, y4, y5, fun post hp => es_vX3 hd (by omega) k (hX post hp), fun post hp => es_vY3 hd (by omega) k (hY post hp)⟩
    · rw [es_sdo (by rw [k]; decide) (by rw [k]; decide) (by rw [k]; decide), Bool.and_eq_true, Bool.not_eq_true'] at hs
      obtain ⟨rfl, hs⟩ := hs
      obtain ⟨g1, g2, g3, g4⟩ := hF rfl
      obtain ⟨r, z1, z2, z3, z4, y1, y2, y3, y4, y5, hX, hY⟩ := ih (p + 1) l true s1 s2 s3 s4 t1 t2 t3 t4 (upd t5 l 4) hd (by omega) hs
        (fun q hq => by simp only [pk_un (Nat.ne_of_lt hq)]; exact hW q hq) (fun _ => by simp only [pk_us]; exact ⟨g1, g2, g3, Or.inl ⟨rfl, g4⟩⟩) (fun z => nomatch z)
      exact ⟨r, z1, z2, z3, z4, y1, y2, y3, y4, y5, fun post hp => es_vX4 hd (by omega) k (hX post hp), fun post hp => es_vY4 hd (by omega) k (hY post hp)⟩
    · rw [es_sd5 k, Bool.and_eq_true] at hs
      obtain ⟨rfl, hs⟩ := hs
      obtain ⟨r, z1, z2, z3, z4, y1, y2, y3, y4, y5, hX, hY⟩ := ih (p + 1) (l + 1) true (upd s1 (l + 1) 0) (upd s2 (l + 1) 1) (upd s3 (l + 1) 1) (upd s4 (l + 1) (-2147483648)) (upd t1 (l + 1) 0) (upd t2 (l + 1) 0) (upd t3 (l + 1) 1) (upd t4 (l + 1) 0) (upd t5 (l + 1) 0) hd (by omega) hs
        (fun q hq => by
          simp only [pk_un (Nat.ne_of_lt hq)]
          rcases Nat.lt_or_ge q l with z | z
          · exact hW q z
          · rw [show q = l by omega]; exact hT rfl)
        (fun _ => by simp only [pk_us]; exact ⟨rfl, rfl, Or.inl ⟨rfl, rfl⟩, Or.inr ⟨by decide, rfl⟩⟩) (fun z => nomatch z)
      exact ⟨r, z1, z2, z3, z4, y1, y2, y3, y4, y5, fun post hp => es_vX5 hd (by omega) k (hX post hp), fun post hp => es_vY5 hd (by omega) k (hY post hp)⟩
    · rw [es_sd6 k, Bool.and_eq_true, Bool.and_eq_true, Bool.not_eq_true', decide_eq_true_eq] at hs
      obtain ⟨rfl, hl0, hs⟩ := hs
      obtain ⟨l, rfl⟩ : ∃ m, l = m + 1 := ⟨l - 1, by omega⟩
      rw [Nat.add_sub_cancel] at hs
      have e := es_Av (hF rfl)
      obtain ⟨r, z1, z2, z3, z4, y1, y2, y3, y4, y5, hX, hY⟩ := ih (p + 1) l false s1 s2 s3 (upd s4 l (es_gr (s4 l) (s1 (l + 1) + s2 (l + 1) * (s3 (l + 1) * s4 (l + 1))))) (upd t1 (l + 1) (es_ev (t1 (l + 1)) (t2 (l + 1)) (t3 (l + 1)) (t4 (l + 1)))) t2 (upd (upd t3 (l + 1) (t3 (l + 1) * t4 (l + 1))) (l + 1) 1) (upd t4 l (es_tv (t5 l) (t4 l) (es_ev (t1 (l + 1)) (t2 (l + 1)) (t3 (l + 1)) (t4 (l + 1))))) t5 hd (by omega) hs
        (fun q hq => by
          have n1 : q ≠ l := by omega
          have n2 : q ≠ l + 1 := by omega
          simp only [pk_un n1, pk_un n2]; exact hW q (by omega)) (fun z => nomatch z)
        (fun _ => by
          have n2 : l ≠ l + 1 := by omega
          simp only [pk_us, pk_un n2]
          rw [e]
          exact es_WA (hW l (by omega)) _)
      exact ⟨r, z1, z2, z3, z4, y1, y2, y3, y4, y5, fun post hp => es_vX6 hd (by omega) k (hX post hp), fun post hp => es_vY6 hd (by omega) k (hY post hp)⟩
theorem es_value (ha : ∀ j, es_K (a j)) {i d : Nat} (hd : i + d ≤ 60) (hs : es_sd a d i 0 true = true) (s1 s2 s3 s4 t1 t2 t3 t4 t5 : Nat → Int32) :
    ∃ (r : Int32) (z1 z2 z3 z4 y1 y2 y3 y4 y5 : Nat → Int32),
      (∀ post : Int32 → SX → Prop, post r (f, a, b, z1, z2, z3, z4) → wpX_valueOf post (f, a, b, s1, s2, s3, s4) (nI i) (nI (i + d))) ∧
      (∀ post : Int32 → SY → Prop, post r (f, a, b, h1, h2, y1, y2, y3, y4, y5) → wpY_valueOf post (f, a, b, h1, h2, t1, t2, t3, t4, t5) (nI i) (nI (i + d))) := by
  obtain ⟨r, z1, z2, z3, z4, y1, y2, y3, y4, y5, hX, hY⟩ := es_val (f := f) (b := b) (h1 := h1) (h2 := h2) ha d i 0 true (upd s1 0 0) (upd s2 0 1) (upd s3 0 1) (upd s4 0 (-2147483648)) (upd t1 0 0) (upd t2 0 0) (upd t3 0 1) (upd t4 0 0) (upd t5 0 0) hd (Nat.zero_le _) hs
    (fun q hq => absurd hq (Nat.not_lt_zero _)) (fun _ => by simp only [pk_us]; exact ⟨rfl, rfl, Or.inl ⟨rfl, rfl⟩, Or.inr ⟨by decide, rfl⟩⟩) (fun z => nomatch z)
  refine ⟨r, z1, z2, z3, z4, y1, y2, y3, y4, y5, fun post hp => ?_, fun post hp => ?_⟩
  · unfold wpX_valueOf
    exact es_beginX (l := 0) (by omega) ⟨d + 1, hX post hp⟩
  · unfold wpY_valueOf
    exact es_startY (l := 0) (by omega) ⟨d + 1, hY post hp⟩
end
