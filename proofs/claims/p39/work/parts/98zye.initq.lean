/-! THE START: draws, queues -/
section
variable {σ : St} {δ : Dy} {p R : Nat}
theorem i_X2 (hp : KO σ p 2) (hn : sn σ = p + 1) (hr : p < 1100) : ∃ s d, m_X2_init σ p δ = some (s, d) ∧ sn s = p + 2 ∧ KDr s p ∧ Bx σ s p ∧ Zer d (p + 1) ∧ (d.1 p 1 = 1 ∧ (∀ j, ¬ j = 1 → d.1 p j = δ.1 p j)) ∧ ∀ i, i < p → d.1 i = δ.1 i ∧ d.2 i = δ.2 i := by
  have hro := roB_big
  obtain ⟨a0, s0, x0, y0, n0, D0, v0, o0, B0⟩ := nA_ex (σ := σ) (p := p) (c := 2) (k := 0) (t := 100) (n := 7) (N := 7) (v := (7 : Int32)) hp (by omega) rfl (Nat.le_refl _) (by omega)
  have h0 : KO s0 p 2 := KO_bx hp B0
  obtain ⟨d, e, v, o, F⟩ := pI_ex (δ := nwD σ δ) (r := p) (k := 1) (x := 1) h0
  rw [hn] at D0 v0
  refine ⟨s0, d, ?_, by omega, ⟨h0, v0, D0⟩, B0, ?_, ⟨v, fun j hj => ?_⟩, fun i hi => ⟨?_, ?_⟩⟩
  · unfold m_X2_init
    simp only [x0, y0, e, ob_some]
  · have q : Zer (nwD σ δ) (p + 1) := by rw [← hn]; exact nwD_at
    exact Zer_eq q (F (p + 1) (by omega))
  · rw [o j hj, (nwD_ne (σ := σ) (by omega)).1]
  · rw [(F i (by omega)).1, (nwD_ne (σ := σ) (by omega)).1]
  · rw [(F i (by omega)).2, (nwD_ne (σ := σ) (by omega)).2]
/-- a queue -/
theorem i_X1 (hp : KO σ p 1) (hn : sn σ = p + 1) (hr : p < 1100) (h1 : 1 ≤ R) (h2 : R ≤ 120) : ∃ s d, m_X1_init σ p (ii (R : Int)) δ = some (s, d) ∧ sn s = p + 4 ∧ KQ s p R ∧ Bx σ s p ∧ (∀ i, p < i → i < p + 4 → Zer d i) ∧ (d.1 p 0 = ii R ∧ ∀ j, ¬ j = 0 → d.1 p j = δ.1 p j) ∧ ∀ i, i < p → d.1 i = δ.1 i ∧ d.2 i = δ.2 i := by
  have hro := roB_big
  obtain ⟨d1, e1, w1, o1, F1⟩ := pI_ex (δ := δ) (r := p) (k := 0) (x := ii (R : Int)) hp
  have g1 : gI σ d1 1 p 0 = some (ii (R : Int)) := by rw [gI_ko hp, w1]
  obtain ⟨a0, s0, x0, y0, n0, D0, v0, q0, B0⟩ := nA_ex (σ := σ) (p := p) (c := 1) (k := 1) (t := 100) (n := R) (N := 120) (v := ii (R : Int)) hp (by omega) rfl h2 (by omega)
  have k0 : KO s0 p 1 := KO_bx hp B0
  have g2 : gI s0 (nwD σ d1) 1 p 0 = some (ii (R : Int)) := by rw [gI_ko k0, (nwD_ne (σ := σ) (by omega)).1, w1]
  have m4 : (4 : Int32) * ii (R : Int) = ii ((4 * R : Nat) : Int) := by
    rw [show ((4 : Int32)) = ii 4 from rfl, ii_mul]
    exact congrArg ii (by omega)
  have m2 : (2 : Int32) * ii (R : Int) = ii ((2 * R : Nat) : Int) := by
    rw [show ((2 : Int32)) = ii 2 from rfl, ii_mul]
    exact congrArg ii (by omega)
  obtain ⟨a1, s1, x1, y1, n1, D1, v1, q1, B1⟩ := nA_ex (σ := s0) (p := p) (c := 1) (k := 2) (t := 100) (n := 4 * R) (N := 480) (v := ii ((4 * R : Nat) : Int)) k0 (by omega) rfl (by omega) (by omega)
  have k1 : KO s1 p 1 := KO_bx k0 B1
  have g3 : gI s1 (nwD s0 (nwD σ d1)) 1 p 0 = some (ii (R : Int)) := by rw [gI_ko k1, (nwD_ne (σ := s0) (by omega)).1, (nwD_ne (σ := σ) (by omega)).1, w1]
  obtain ⟨a2, s2, x2, y2, n2, D2, v2, q2, B2⟩ := nA_ex (σ := s1) (p := p) (c := 1) (k := 3) (t := 102) (n := 2 * R) (N := 240) (v := ii ((2 * R : Nat) : Int)) k1 (by omega) rfl (by omega) (by omega)
  have k2 : KO s2 p 1 := KO_bx k1 B2
  have E1 := KD_bx D1 B2
  have E0 := KD_bx (KD_bx D0 B1) B2
  rw [hn] at E0 v0
  rw [n0, hn] at E1 v1
  rw [n1, n0, hn] at D2 v2
  refine ⟨s2, nwD s1 (nwD s0 (nwD σ d1)), ?_, by omega, ⟨k2, ⟨by rw [q2 1 (by decide), q1 1 (by decide)]; exact v0, by rw [q2 2 (by decide)]; exact v1, v2⟩, E0, E1, D2, by omega⟩, (B0.tr B1 (Or.inl rfl)).tr B2 (Or.inl rfl), fun i i0 i1 => ?_, ⟨?_, fun j hj => ?_⟩, fun i hi => ?_⟩
  · unfold m_X1_init
    rw [if_pos (show (1 : Int32) ≤ ii (R : Int) by rw [show ((1 : Int32)) = ii 1 from rfl, ii_le (by omega) (by omega) (by omega) (by omega)]; omega)]
    unfold m_X1_init_b15
    simp only [e1, g1, ob_some, x0, y0, g2, m4, x1, y1, g3, m2, x2, y2]
  · by_cases c0 : i = p + 1
    · have q : Zer (nwD σ d1) i := by rw [show i = sn σ by omega]; exact nwD_at
      have q := Zer_eq q (nwD_ne (σ := s0) (by omega))
      exact Zer_eq q (nwD_ne (σ := s1) (by omega))
    by_cases c1 : i = p + 2
    · have q : Zer (nwD s0 (nwD σ d1)) i := by rw [show i = sn s0 by omega]; exact nwD_at
      exact Zer_eq q (nwD_ne (σ := s1) (by omega))
    by_cases c2 : i = p + 3
    · rw [show i = sn s1 by omega]; exact nwD_at
    omega
  · rw [(nwD_ne (σ := s1) (by omega)).1, (nwD_ne (σ := s0) (by omega)).1, (nwD_ne (σ := σ) (by omega)).1]; exact w1
  · rw [(nwD_ne (σ := s1) (by omega)).1, (nwD_ne (σ := s0) (by omega)).1, (nwD_ne (σ := σ) (by omega)).1]; exact o1 j hj
  · refine ⟨?_, ?_⟩
    · rw [(nwD_ne (σ := s1) (by omega)).1, (nwD_ne (σ := s0) (by omega)).1, (nwD_ne (σ := σ) (by omega)).1]; exact (F1 i (by omega)).1
    · rw [(nwD_ne (σ := s1) (by omega)).2, (nwD_ne (σ := s0) (by omega)).2, (nwD_ne (σ := σ) (by omega)).2]; exact (F1 i (by omega)).2
end
