/-! THE START: a level -/
section
variable {σ : St} {δ : Dy} {p q R k : Nat}
theorem KQ_bx {σ' : St} (h : KQ σ q R) (k : Bx σ σ' p) (hq : ¬ q = p) : KQ σ' q R := by
  obtain ⟨h1, ⟨h2, h3, h4⟩, h5, h6, h7, h8⟩ := h
  have e := (k.2 q h1.1).2.2 hq
  exact ⟨KO_bx h1 k, ⟨(e 1).trans h2, (e 2).trans h3, (e 3).trans h4⟩, KD_bx h5 k, KD_bx h6 k, KD_bx h7 k, h8⟩
theorem RQ_nl {d : Dy} (h : RQ δ q R []) (e : d.1 q = δ.1 q) : RQ d q R [] := by
  obtain ⟨h1, h2, h3, -⟩ := h
  exact ⟨by rw [e]; exact h1, by rw [e]; exact h2, h3, fun i a ha => by cases ha⟩
theorem nQ_ex (hp : KO σ p 4) (hσ : sn σ < 1100) (h1 : 1 ≤ R) (h2 : R ≤ 120) {v : Int32} (hv : v = ii (R : Int)) : ∃ s1 s2 d s3, nwO σ 1 = some s1 ∧ m_X1_init s1 (sn σ) v (nwD σ δ) = some (s2, d) ∧ pR s2 4 p k (sn σ) = some s3 ∧ sn s3 = sn σ + 4 ∧ KQ s3 (sn σ) R ∧ srv s3 p k = some (sn σ) ∧ (∀ j, ¬ j = k → srv s3 p j = srv σ p j) ∧ Bx σ s3 p ∧ RQ d (sn σ) R [] ∧ ∀ i, i < sn σ → d.1 i = δ.1 i ∧ d.2 i = δ.2 i := by
  have hro := roB_big
  subst hv
  obtain ⟨s1, e1, n1, k1, b1⟩ := nO_ex (σ := σ) (c := 1) (by omega)
  obtain ⟨s2, d, e2, n2, q2, b2, z2, ⟨w2, w2'⟩, u2⟩ := i_X1 (δ := nwD σ δ) k1 (by omega) (by omega) h1 h2
  have hpq : p < sn σ := hp.1
  have kp : KO s2 p 4 := KO_bx (KO_bx hp (b1 p)) b2
  obtain ⟨s3, e3, n3, v3, o3, b3⟩ := pR_ex (k := k) (x := sn σ) kp (by omega)
  refine ⟨s1, s2, d, s3, e1, e2, e3, by omega, KQ_bx q2 b3 (by omega), v3, fun j hj => ?_, ((b1 p).tr b2 (Or.inr (Nat.le_refl _))).tr b3 (Or.inl rfl), ⟨w2, ?_, Nat.zero_le _, fun i a ha => by cases ha⟩, fun i hi => ?_⟩
  · rw [o3 j hj, (b2.2 p (by omega)).2.2 (by omega)]
    exact ((b1 (p + 1)).2 p hpq).2.2 (by omega) j
  · rw [w2' 4 (by decide), (nwD_at (σ := σ) (δ := δ) 4).1]
    rfl
  · rw [(u2 i hi).1, (u2 i hi).2, (nwD_ne (σ := σ) (δ := δ) (by omega)).1, (nwD_ne (σ := σ) (δ := δ) (by omega)).2]
    exact ⟨rfl, rfl⟩
/-- a level -/
theorem i_X4 (hp : KO σ p 4) (hn : sn σ = p + 1) (hr : p < 1070) : ∃ s d, m_X4_init σ p δ = some (s, d) ∧ sn s = p + 24 ∧ KLv s p ∧ Bx σ s p ∧ (RQ d (p + 1) 120 [] ∧ RQ d (p + 5) 60 [] ∧ RQ d (p + 9) 60 [] ∧ RQ d (p + 13) 60 [] ∧ RQ d (p + 17) 1 []) ∧ ∀ i, i ≤ p → d.1 i = δ.1 i ∧ d.2 i = δ.2 i := by
  have hro := roB_big
  obtain ⟨a0, b0, d0, s0, x0, y0, w0, n0, K0, v0, o0, B0, R0, U0⟩ := nQ_ex (δ := δ) (k := 0) (R := 120) (v := (120 : Int32)) hp (by omega) (by omega) (by omega) rfl
  have k0 : KO s0 p 4 := KO_bx hp B0
  obtain ⟨a1, b1, d1, s1, x1, y1, w1, n1, K1, v1, o1, B1, R1, U1⟩ := nQ_ex (δ := d0) (k := 1) (R := 60) (v := (60 : Int32)) k0 (by omega) (by omega) (by omega) rfl
  have k1 : KO s1 p 4 := KO_bx k0 B1
  obtain ⟨a2, b2, d2, s2, x2, y2, w2, n2, K2, v2, o2, B2, R2, U2⟩ := nQ_ex (δ := d1) (k := 2) (R := 60) (v := (60 : Int32)) k1 (by omega) (by omega) (by omega) rfl
  have k2 : KO s2 p 4 := KO_bx k1 B2
  obtain ⟨a3, b3, d3, s3, x3, y3, w3, n3, K3, v3, o3, B3, R3, U3⟩ := nQ_ex (δ := d2) (k := 3) (R := 60) (v := (60 : Int32)) k2 (by omega) (by omega) (by omega) rfl
  have k3 : KO s3 p 4 := KO_bx k2 B3
  obtain ⟨a4, b4, d4, s4, x4, y4, w4, n4, K4, v4, o4, B4, R4, U4⟩ := nQ_ex (δ := d3) (k := 4) (R := 1) (v := (1 : Int32)) k3 (by omega) (by omega) (by omega) rfl
  have k4 : KO s4 p 4 := KO_bx k3 B4
  obtain ⟨a5, s5, x5, y5, n5, D5, v5, o5, B5⟩ := nA_ex (σ := s4) (p := p) (c := 4) (k := 5) (t := 100) (n := 60) (N := 60) (v := (60 : Int32)) k4 (by omega) rfl (Nat.le_refl _) (by omega)
  have k5 : KO s5 p 4 := KO_bx k4 B5
  obtain ⟨a6, s6, x6, y6, n6, D6, v6, o6, B6⟩ := nA_ex (σ := s5) (p := p) (c := 4) (k := 6) (t := 100) (n := 60) (N := 60) (v := (60 : Int32)) k5 (by omega) rfl (Nat.le_refl _) (by omega)
  have k6 : KO s6 p 4 := KO_bx k5 B6
  obtain ⟨a7, s7, x7, y7, n7, D7, v7, o7, B7⟩ := nA_ex (σ := s6) (p := p) (c := 4) (k := 7) (t := 101) (n := 100) (N := 100) (v := (100 : Int32)) k6 (by omega) rfl (Nat.le_refl _) (by omega)
  have k7 : KO s7 p 4 := KO_bx k6 B7
  have Z6 := B7
  have Z5 := B6.tr Z6 (Or.inl rfl)
  have Z4 := B5.tr Z5 (Or.inl rfl)
  have Z3 := B4.tr Z4 (Or.inl rfl)
  have Z2 := B3.tr Z3 (Or.inl rfl)
  have Z1 := B2.tr Z2 (Or.inl rfl)
  have Z0 := B1.tr Z1 (Or.inl rfl)
  have m0 : sn s0 = p + 5 := by omega
  have m1 : sn s1 = p + 9 := by omega
  have m2 : sn s2 = p + 13 := by omega
  have m3 : sn s3 = p + 17 := by omega
  have m4 : sn s4 = p + 21 := by omega
  have m5 : sn s5 = p + 22 := by omega
  have m6 : sn s6 = p + 23 := by omega
  have K0 := KQ_bx K0 Z0 (by omega)
  have K1 := KQ_bx K1 Z1 (by omega)
  have K2 := KQ_bx K2 Z2 (by omega)
  have K3 := KQ_bx K3 Z3 (by omega)
  have K4 := KQ_bx K4 Z4 (by omega)
  have D5 := KD_bx D5 Z5
  have D6 := KD_bx D6 Z6
  rw [hn] at K0 v0 R0 U0
  rw [m0] at K1 v1 R1 U1
  rw [m1] at K2 v2 R2 U2
  rw [m2] at K3 v3 R3 U3
  rw [m3] at K4 v4 R4 U4
  rw [m4] at D5 v5
  rw [m5] at D6 v6
  rw [m6] at D7 v7
  refine ⟨s7, nwD s6 (nwD s5 (nwD s4 d4)), ?_, by omega, ⟨⟨k7, ⟨?_, ?_, ?_, ?_, ?_, ?_, ?_, v7⟩, D5, D6, D7⟩, K0, K1, K2, K3, K4⟩, B0.tr Z0 (Or.inl rfl), ?_, fun i hi => ?_⟩
  · unfold m_X4_init
    simp only [x0, y0, w0, x1, y1, w1, x2, y2, w2, x3, y3, w3, x4, y4, w4, x5, y5, x6, y6, x7, y7, ob_some]
  · rw [o7 0 (by decide), o6 0 (by decide), o5 0 (by decide), o4 0 (by decide), o3 0 (by decide), o2 0 (by decide), o1 0 (by decide)]; exact v0
  · rw [o7 1 (by decide), o6 1 (by decide), o5 1 (by decide), o4 1 (by decide), o3 1 (by decide), o2 1 (by decide)]; exact v1
  · rw [o7 2 (by decide), o6 2 (by decide), o5 2 (by decide), o4 2 (by decide), o3 2 (by decide)]; exact v2
  · rw [o7 3 (by decide), o6 3 (by decide), o5 3 (by decide), o4 3 (by decide)]; exact v3
  · rw [o7 4 (by decide), o6 4 (by decide), o5 4 (by decide)]; exact v4
  · rw [o7 5 (by decide), o6 5 (by decide)]; exact v5
  · rw [o7 6 (by decide)]; exact v6
  · have up : ∀ i, i < p + 21 → (nwD s6 (nwD s5 (nwD s4 d4))).1 i = d4.1 i := fun i hi => by rw [(nwD_ne (σ := s6) (by omega)).1, (nwD_ne (σ := s5) (by omega)).1, (nwD_ne (σ := s4) (by omega)).1]
    refine ⟨RQ_nl R0 ?_, RQ_nl R1 ?_, RQ_nl R2 ?_, RQ_nl R3 ?_, RQ_nl R4 (up _ (by omega))⟩
    · rw [up _ (by omega), (U4 _ (by omega)).1, (U3 _ (by omega)).1, (U2 _ (by omega)).1, (U1 _ (by omega)).1]
    · rw [up _ (by omega), (U4 _ (by omega)).1, (U3 _ (by omega)).1, (U2 _ (by omega)).1]
    · rw [up _ (by omega), (U4 _ (by omega)).1, (U3 _ (by omega)).1]
    · rw [up _ (by omega), (U4 _ (by omega)).1]
  · refine ⟨?_, ?_⟩
    · rw [(nwD_ne (σ := s6) (by omega)).1, (nwD_ne (σ := s5) (by omega)).1, (nwD_ne (σ := s4) (by omega)).1, (U4 _ (by omega)).1, (U3 _ (by omega)).1, (U2 _ (by omega)).1, (U1 _ (by omega)).1, (U0 _ (by omega)).1]
    · rw [(nwD_ne (σ := s6) (by omega)).2, (nwD_ne (σ := s5) (by omega)).2, (nwD_ne (σ := s4) (by omega)).2, (U4 _ (by omega)).2, (U3 _ (by omega)).2, (U2 _ (by omega)).2, (U1 _ (by omega)).2, (U0 _ (by omega)).2]
end
