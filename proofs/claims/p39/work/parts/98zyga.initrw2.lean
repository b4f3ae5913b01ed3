/-! THE START: the rewriter, whole -/
section
variable {σ : St} {δ : Dy} {p st ro : Nat}
theorem i_X6 (hp : KO σ p 6) (hn : sn σ = p + 1) (hr : p < 700) (hst : st ≤ p) (hrl : ro ≤ p) : ∃ s d, m_X6_init σ p st ro δ = some (s, d) ∧ sn s = p + 372 ∧ KW s p st ro ∧ Bx σ s p ∧ (∀ i, p < i → i < p + 6 → Zer d i) ∧ ∀ i, i ≤ p → d.1 i = δ.1 i ∧ d.2 i = δ.2 i := by
  have hro := roB_big
  obtain ⟨a0, s0, x0, y0, n0, D0, v0, o0, B0⟩ := nA_ex (σ := σ) (p := p) (c := 6) (k := 2) (t := 105) (n := 183) (N := 183) (v := (183 : Int32)) hp (by omega) rfl (Nat.le_refl _) (by omega)
  have k0 : KO s0 p 6 := KO_bx hp B0
  obtain ⟨a1, s1, x1, y1, n1, D1, v1, o1, B1⟩ := nA_ex (σ := s0) (p := p) (c := 6) (k := 4) (t := 100) (n := 4) (N := 4) (v := (4 : Int32)) k0 (by omega) rfl (Nat.le_refl _) (by omega)
  have k1 : KO s1 p 6 := KO_bx k0 B1
  obtain ⟨a2, s2, x2, y2, n2, D2, v2, o2, B2⟩ := nA_ex (σ := s1) (p := p) (c := 6) (k := 5) (t := 102) (n := 1600) (N := 1600) (v := (1600 : Int32)) k1 (by omega) rfl (Nat.le_refl _) (by omega)
  have k2 : KO s2 p 6 := KO_bx k1 B2
  obtain ⟨a3, s3, x3, y3, n3, D3, v3, o3, B3⟩ := nA_ex (σ := s2) (p := p) (c := 6) (k := 6) (t := 100) (n := 60) (N := 60) (v := (60 : Int32)) k2 (by omega) rfl (Nat.le_refl _) (by omega)
  have k3 : KO s3 p 6 := KO_bx k2 B3
  obtain ⟨a4, s4, x4, y4, n4, D4, v4, o4, B4⟩ := nA_ex (σ := s3) (p := p) (c := 6) (k := 8) (t := 100) (n := 8) (N := 8) (v := (8 : Int32)) k3 (by omega) rfl (Nat.le_refl _) (by omega)
  have k4 : KO s4 p 6 := KO_bx k3 B4
  obtain ⟨s5, y5, n5, v5, o5, B5⟩ := pR_ex (σ := s4) (k := 0) (x := st) k4 (by omega)
  have k5 : KO s5 p 6 := KO_bx k4 B5
  obtain ⟨s6, y6, n6, v6, o6, B6⟩ := pR_ex (σ := s5) (k := 1) (x := ro) k5 (by omega)
  have k6 : KO s6 p 6 := KO_bx k5 B6
  have m0 : sn s0 = p + 2 := by omega
  have m1 : sn s1 = p + 3 := by omega
  have m2 : sn s2 = p + 4 := by omega
  have m3 : sn s3 = p + 5 := by omega
  have Z5 := B6
  have Z4 := B5.tr Z5 (Or.inl rfl)
  have Z3 := B4.tr Z4 (Or.inl rfl)
  have Z2 := B3.tr Z3 (Or.inl rfl)
  have Z1 := B2.tr Z2 (Or.inl rfl)
  have Z0 := B1.tr Z1 (Or.inl rfl)
  have D0 := KD_bx D0 Z0
  have D1 := KD_bx D1 Z1
  have D2 := KD_bx D2 Z2
  have D3 := KD_bx D3 Z3
  have D4 := KD_bx D4 Z4
  rw [hn] at D0 v0
  rw [m0] at D1 v1
  rw [m1] at D2 v2
  rw [m2] at D3 v3
  rw [m3] at D4 v4
  have w2 : srv s6 p 2 = some (p + 1) := by rw [o6 2 (by decide), o5 2 (by decide), o4 2 (by decide), o3 2 (by decide), o2 2 (by decide), o1 2 (by decide)]; exact v0
  have w4 : srv s6 p 4 = some (p + 2) := by rw [o6 4 (by decide), o5 4 (by decide), o4 4 (by decide), o3 4 (by decide), o2 4 (by decide)]; exact v1
  have w5 : srv s6 p 5 = some (p + 3) := by rw [o6 5 (by decide), o5 5 (by decide), o4 5 (by decide), o3 5 (by decide)]; exact v2
  have w6 : srv s6 p 6 = some (p + 4) := by rw [o6 6 (by decide), o5 6 (by decide), o4 6 (by decide)]; exact v3
  have w8 : srv s6 p 8 = some (p + 5) := by rw [o6 8 (by decide), o5 8 (by decide)]; exact v4
  have w0 : srv s6 p 0 = some st := by rw [o6 0 (by decide)]; exact v5
  obtain ⟨s, d, e, q1, q2, q3, q4⟩ := i_X6L (δ0 := nwD s3 (nwD s2 (nwD s1 (nwD s0 (nwD σ δ))))) k6 w2 D0 (by omega) hr
  have sp : ∀ k, srv s p k = srv s6 p k := (q2.2 p k6.1).2.2 (by omega)
  refine ⟨s, d, ?_, q1, ⟨KO_bx k6 q2, ⟨(sp 0).trans w0, (sp 1).trans v6, (sp 2).trans w2, (sp 4).trans w4, (sp 5).trans w5, (sp 6).trans w6, (sp 8).trans w8⟩, KD_bx D0 q2, KD_bx D1 q2, KD_bx D2 q2, KD_bx D3 q2, KD_bx D4 q2, q3⟩, (B0.tr Z0 (Or.inl rfl)).tr q2 (Or.inr (by omega)), fun i i0 i1 => Zer_eq ?_ (q4 i i1), fun i hi => ?_⟩
  · have e' : m_X6_init_b58 s6 p (0 : Int32) (nwD s3 (nwD s2 (nwD s1 (nwD s0 (nwD σ δ))))) = some (s, d) := e
    unfold m_X6_init
    simp only [x0, y0, x1, y1, x2, y2, x3, y3, x4, y4, y5, y6, ob_some, e']
  · by_cases c0 : i = p + 1
    · have q : Zer (nwD σ δ) i := by rw [show i = sn σ by omega]; exact nwD_at
      exact Zer_eq (Zer_eq (Zer_eq (Zer_eq q (nwD_ne (σ := s0) (by omega))) (nwD_ne (σ := s1) (by omega))) (nwD_ne (σ := s2) (by omega))) (nwD_ne (σ := s3) (by omega))
    by_cases c1 : i = p + 2
    · have q : Zer (nwD s0 (nwD σ δ)) i := by rw [show i = sn s0 by omega]; exact nwD_at
      exact Zer_eq (Zer_eq (Zer_eq q (nwD_ne (σ := s1) (by omega))) (nwD_ne (σ := s2) (by omega))) (nwD_ne (σ := s3) (by omega))
    by_cases c2 : i = p + 3
    · have q : Zer (nwD s1 (nwD s0 (nwD σ δ))) i := by rw [show i = sn s1 by omega]; exact nwD_at
      exact Zer_eq (Zer_eq q (nwD_ne (σ := s2) (by omega))) (nwD_ne (σ := s3) (by omega))
    by_cases c3 : i = p + 4
    · have q : Zer (nwD s2 (nwD s1 (nwD s0 (nwD σ δ)))) i := by rw [show i = sn s2 by omega]; exact nwD_at
      exact Zer_eq q (nwD_ne (σ := s3) (by omega))
    by_cases c4 : i = p + 5
    · rw [show i = sn s3 by omega]; exact nwD_at
    omega
  · refine ⟨?_, ?_⟩
    · rw [(q4 i (by omega)).1, (nwD_ne (σ := s3) (by omega)).1, (nwD_ne (σ := s2) (by omega)).1, (nwD_ne (σ := s1) (by omega)).1, (nwD_ne (σ := s0) (by omega)).1, (nwD_ne (σ := σ) (by omega)).1]
    · rw [(q4 i (by omega)).2, (nwD_ne (σ := s3) (by omega)).2, (nwD_ne (σ := s2) (by omega)).2, (nwD_ne (σ := s1) (by omega)).2, (nwD_ne (σ := s0) (by omega)).2, (nwD_ne (σ := σ) (by omega)).2]
end
