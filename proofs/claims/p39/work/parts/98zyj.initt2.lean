/-! THE START: the class, whole -/
section
variable {σ : St} {δ : Dy}
theorem i_X11 (hp : KO σ 0 11) (hn : sn σ = 1) (hz : Zer δ 0) : ∃ s d, m_X11_init σ 0 δ = some (s, d) ∧ sn s = 1040 ∧ KT s ∧ RId d 68 0 I0 ∧ RId d 554 0 I0 ∧ (∀ z : Int, 0 ≤ z → z < 6 → d.1 (68 + 13) z.toNat = ii (-1)) ∧ Zer d 0 ∧ d.1 1 6 = 0 := by
  have hro := roB_big
  obtain ⟨s1, x1, n1, k1, b1⟩ := nO_ex (σ := σ) (c := 5) (by omega)
  rw [hn] at k1
  obtain ⟨s2, d2, x2, n2, k2, b2, z2, u2⟩ := i_X5 (δ := nwD σ δ) k1 (by omega) (by omega)
  have B2 : Bx σ s2 0 := (b1 0).tr b2 (Or.inr (by omega))
  have kp2 : KO s2 0 11 := KO_bx hp B2
  obtain ⟨s3, x3, n3, v3, o3, b3⟩ := pR_ex (σ := s2) (k := 0) (x := 1) kp2 (by omega)
  have kp3 : KO s3 0 11 := KO_bx kp2 b3
  have m3 : sn s3 = 8 := by omega
  obtain ⟨a4, s5, x4, y4, n5, D5, v5, o5, b5⟩ := nA_ex (σ := s3) (p := 0) (c := 11) (k := 1) (t := 104) (n := 9) (N := 9) (v := (9 : Int32)) kp3 (by omega) rfl (Nat.le_refl _) (by omega)
  have kp5 : KO s5 0 11 := KO_bx kp3 b5
  have m5 : sn s5 = 9 := by omega
  obtain ⟨s6, x6, n6, k6, b6⟩ := nO_ex (σ := s5) (c := 9) (by omega)
  rw [m5] at k6
  obtain ⟨s7, d7, x7, n7, ⟨k7, ⟨q0, q1, q4⟩, e10, e11, e12⟩, b7, z7, u7⟩ := i_X9 (δ := nwD s5 (nwD s3 d2)) k6 (by omega) (by omega)
  have B7 : Bx s5 s7 0 := (b6 0).tr b7 (Or.inr (by omega))
  have kp7 : KO s7 0 11 := KO_bx kp5 B7
  obtain ⟨s8, x8, n8, v8, o8, b8⟩ := pR_ex (σ := s7) (k := 4) (x := 9) kp7 (by omega)
  have kp8 : KO s8 0 11 := KO_bx kp7 b8
  have m8 : sn s8 = 13 := by omega
  obtain ⟨a9, s10, x9, y9, n10, D10, v10, o10, b10⟩ := nA_ex (σ := s8) (p := 0) (c := 11) (k := 5) (t := 100) (n := 2048) (N := 2048) (v := (2048 : Int32)) kp8 (by omega) rfl (Nat.le_refl _) (by omega)
  have kp10 : KO s10 0 11 := KO_bx kp8 b10
  rw [m3] at D5 v5 y4
  rw [m8] at D10 v10 y9
  have s7s : ∀ k, srv s7 0 k = srv s5 0 k := fun k => ((b7.2 0 (by omega)).2.2 (by omega) k).trans (((b6 1).2 0 (by omega)).2.2 (by omega) k)
  have w0 : srv s10 0 0 = some 1 := by rw [o10 0 (by decide), o8 0 (by decide), s7s, o5 0 (by decide)]; exact v3
  have w1 : srv s10 0 1 = some 8 := by rw [o10 1 (by decide), o8 1 (by decide), s7s]; exact v5
  have w4 : srv s10 0 4 = some 9 := by rw [o10 4 (by decide)]; exact v8
  have B5 : Bx s5 s10 0 := B7.tr (b8.tr b10 (Or.inl rfl)) (Or.inl rfl)
  have B25 : Bx s2 s10 0 := b3.tr (b5.tr B5 (Or.inl rfl)) (Or.inl rfl)
  have B710 : Bx s7 s10 0 := b8.tr b10 (Or.inl rfl)
  obtain ⟨s, d, e, m, kw, kw', ⟨t2, t3, tj⟩, keep, kp, r68, r554, df, low⟩ := i_X11L (δ0 := nwD s8 d7) kp10 w0 w1 (KD_bx D5 B5) (KN_bx k2 B25 (by omega)) (by omega)
  have kept : ∀ {r t n : Nat}, KD s10 r t n → r < 14 → ¬ r = 0 → ¬ r = 8 → KD s r t n := fun h a b c => ⟨⟨by omega, (keep _ a b c).1.trans h.1.2⟩, (keep _ a b c).2.1.trans h.2.1, h.2.2⟩
  have k9 : KO s 9 9 := ⟨by omega, (keep 9 (by omega) (by omega) (by omega)).1.trans (KO_bx k7 B710).2⟩
  have s9 : ∀ k, srv s 9 k = srv s7 9 k := fun k => ((keep 9 (by omega) (by omega) (by omega)).2.2 k).trans ((B710.2 9 (by omega)).2.2 (by omega) k)
  have D10' := kept D10 (by omega) (by omega) (by omega)
  refine ⟨s, d, ?_, m, ⟨kp, ⟨(tj 0 (by omega) (by omega)).trans w0, (tj 1 (by omega) (by omega)).trans w1, t2, t3, (tj 4 (by omega) (by omega)).trans w4, (tj 5 (by omega) (by omega)).trans v10⟩, D10', ⟨⟨by omega, by omega⟩, k9, ⟨(s9 0).trans q0, (s9 1).trans q1, (s9 4).trans q4⟩, kept (KD_bx e10 B710) (by omega) (by omega) (by omega), kept (KD_bx e11 B710) (by omega) (by omega) (by omega), kept (KD_bx e12 B710) (by omega) (by omega) (by omega)⟩, kw, kw'⟩, r68, r554, df, ?_, ?_⟩
  · have e' : m_X11_init_b46 s10 0 (0 : Int32) (nwD s8 d7) = some (s, d) := e
    unfold m_X11_init
    simp only [x1, hn, ob_some, x2, x3, x4, m3, y4, x6, m5, x7, x8, x9, m8, y9, e']
  · have q : Zer (nwD σ δ) 0 := Zer_eq hz (nwD_ne (σ := σ) (by omega))
    have q := Zer_eq q (u2 0 (by omega))
    have q := Zer_eq (Zer_eq q (nwD_ne (σ := s3) (by omega))) (nwD_ne (σ := s5) (by omega))
    have q := Zer_eq q (u7 0 (by omega))
    exact Zer_eq (Zer_eq q (nwD_ne (σ := s8) (by omega))) (low 0 (by omega))
  · have q : Zer (nwD σ δ) 1 := by rw [← hn]; exact nwD_at
    have q := Zer_eq q (u2 1 (by omega))
    have q := Zer_eq (Zer_eq q (nwD_ne (σ := s3) (by omega))) (nwD_ne (σ := s5) (by omega))
    have q := Zer_eq q (u7 1 (by omega))
    exact (Zer_eq (Zer_eq q (nwD_ne (σ := s8) (by omega))) (low 1 (by omega)) 6).1
end
