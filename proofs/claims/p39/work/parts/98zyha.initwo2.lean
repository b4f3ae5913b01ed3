/-! THE START: a world -/
section
variable {σ σ' : St} {δ d : Dy} {p q st ro nd dr h : Nat}
theorem KN_bx (h : KN σ nd) (k : Bx σ σ' q) (hq : ¬ nd = q) : KN σ' nd := by
  obtain ⟨h0, ⟨a0, a1, a2, a3, a4, a5⟩, b0, b1, b2, b3, b4, b5⟩ := h
  have e := (k.2 nd h0.1).2.2 hq
  exact ⟨KO_bx h0 k, ⟨(e 0).trans a0, (e 1).trans a1, (e 2).trans a2, (e 3).trans a3, (e 4).trans a4, (e 5).trans a5⟩, KD_bx b0 k, KD_bx b1 k, KD_bx b2 k, KD_bx b3 k, KD_bx b4 k, KD_bx b5 k⟩
theorem KRu_bx {ru : Nat} (h : KRu σ ru) (k : Bx σ σ' q) (hq : ¬ ru = q) : KRu σ' ru := by
  obtain ⟨h0, ⟨a0, a1, a2, a3, a4⟩, b0, b1, b2, b3, b4⟩ := h
  have e := (k.2 ru h0.1).2.2 hq
  exact ⟨KO_bx h0 k, ⟨(e 0).trans a0, (e 1).trans a1, (e 2).trans a2, (e 3).trans a3, (e 4).trans a4⟩, KD_bx b0 k, KD_bx b1 k, KD_bx b2 k, KD_bx b3 k, KD_bx b4 k⟩
theorem KRs_bx (h : KRs σ ro) (k : Bx σ σ' q) (hq : ro + 60 ≤ q ∨ q < ro) : KRs σ' ro := by
  obtain ⟨h0, h1⟩ := h
  have e := (k.2 ro h0.1.1).2.2 (by omega)
  exact ⟨KD_bx h0 k, fun i hi => ⟨(e i).trans (h1 i hi).1, KRu_bx (h1 i hi).2 k (by omega)⟩⟩
theorem KS_bx (h : KS σ st) (k : Bx σ σ' q) (hq : ¬ st = q) : KS σ' st := by
  obtain ⟨h0, ⟨a0, a1, a2, a3, a4, a5, a6, a7, a8⟩, b0, b1, b2, b3, b4, b5, b6, b7, b8⟩ := h
  have e := (k.2 st h0.1).2.2 hq
  exact ⟨KO_bx h0 k, ⟨(e 0).trans a0, (e 1).trans a1, (e 3).trans a2, (e 4).trans a3, (e 5).trans a4, (e 6).trans a5, (e 7).trans a6, (e 8).trans a7, (e 9).trans a8⟩, KD_bx b0 k, KD_bx b1 k, KD_bx b2 k, KD_bx b3 k, KD_bx b4 k, KD_bx b5 k, KD_bx b6 k, KD_bx b7 k, KD_bx b8 k⟩
theorem KDr_bx (h : KDr σ dr) (k : Bx σ σ' q) (hq : ¬ dr = q) : KDr σ' dr := ⟨KO_bx h.1 k, ((k.2 dr h.1.1).2.2 hq 0).trans h.2.1, KD_bx h.2.2 k⟩
theorem KA_bx {a : Nat} (h : KA σ a) (k : Bx σ σ' q) (hq : ¬ a = q) : KA σ' a := ⟨KO_bx h.1 k, ((k.2 a h.1.1).2.2 hq 0).trans h.2.1, KD_bx h.2.2 k⟩
theorem KW_bx {rw : Nat} (h : KW σ rw st ro) (k : Bx σ σ' q) (hq : q < rw) : KW σ' rw st ro := by
  obtain ⟨h0, ⟨a0, a1, a2, a3, a4, a5, a6⟩, b0, b1, b2, b3, b4, h1⟩ := h
  have e := (k.2 rw h0.1).2.2 (by omega)
  have e1 := (k.2 (rw + 1) b0.1.1).2.2 (by omega)
  refine ⟨KO_bx h0 k, ⟨(e 0).trans a0, (e 1).trans a1, (e 2).trans a2, (e 4).trans a3, (e 5).trans a4, (e 6).trans a5, (e 8).trans a6⟩, KD_bx b0 k, KD_bx b1 k, KD_bx b2 k, KD_bx b3 k, KD_bx b4 k, fun i hi => ?_⟩
  obtain ⟨f1, f2, f3, f4⟩ := h1 i hi
  exact ⟨(e1 i).trans f1, KO_bx f2 k, ((k.2 _ f2.1).2.2 (by omega) 0).trans f3, KD_bx f4 k⟩
theorem i_X10 (hp : KO σ p 10) (hn : sn σ = p + 1) (hz : Zer δ p) (hr : p < 600) (hN : KN σ nd) (hRs : KRs σ ro) (ho : nd + 7 ≤ ro ∧ ro + 60 ≤ p) : ∃ s d, m_X10_init σ p nd ro δ = some (s, d) ∧ sn s = p + 486 ∧ KWo s p nd ro ∧ Bx σ s p ∧ RId d p 0 I0 ∧ (∀ z : Int, 0 ≤ z → z < 6 → d.1 (p + 13) z.toNat = ii (-1)) ∧ ∀ i, i < p → d.1 i = δ.1 i ∧ d.2 i = δ.2 i := by
  have hro := roB_big
  -- the store
  obtain ⟨s1, x1, n1, k1, b1⟩ := nO_ex (σ := σ) (c := 8) (by omega)
  have x1' := x1
  have K1 := k1
  rw [hn] at K1
  obtain ⟨s2, d2, x2, n2, k2, b2, z2, u2⟩ := i_X8 (δ := nwD σ δ) K1 (by omega) (by omega)
  have kp2 : KO s2 p 10 := KO_bx (KO_bx hp (b1 p)) b2
  have B2 : Bx σ s2 p := (b1 p).tr b2 (Or.inr (by omega))
  obtain ⟨s3, x3, n3, v3, o3, b3⟩ := pR_ex (σ := s2) (k := 1) (x := p + 1) kp2 (by omega)
  have kp3 : KO s3 p 10 := KO_bx kp2 b3
  -- the draws
  have m3 : sn s3 = p + 11 := by omega
  obtain ⟨s4, x4, n4, k4, b4⟩ := nO_ex (σ := s3) (c := 2) (by omega)
  rw [m3] at k4
  obtain ⟨s5, d5, x5, n5, k5, b5, z5, ⟨w5, w5'⟩, u5⟩ := i_X2 (δ := nwD s3 d2) k4 (by omega) (by omega)
  have B5 : Bx s3 s5 p := (b4 p).tr b5 (Or.inr (by omega))
  have kp5 : KO s5 p 10 := KO_bx kp3 B5
  obtain ⟨s6, x6, n6, v6, o6, b6⟩ := pR_ex (σ := s5) (k := 3) (x := p + 11) kp5 (by omega)
  have kp6 : KO s6 p 10 := KO_bx kp5 b6
  -- arrays
  obtain ⟨a7, s8, x7, y7, n8, D8, v8, o8, b8⟩ := nA_ex (σ := s6) (p := p) (c := 10) (k := 4) (t := 100) (n := 6) (N := 6) (v := (6 : Int32)) kp6 (by omega) rfl (Nat.le_refl _) (by omega)
  have kp8 : KO s8 p 10 := KO_bx kp6 b8
  obtain ⟨a9, s10, x9, y9, n10, D10, v10, o10, b10⟩ := nA_ex (σ := s8) (p := p) (c := 10) (k := 5) (t := 100) (n := 120) (N := 120) (v := (120 : Int32)) kp8 (by omega) rfl (Nat.le_refl _) (by omega)
  have kp10 : KO s10 p 10 := KO_bx kp8 b10
  obtain ⟨a11, s12, x11, y11, n12, D12, v12, o12, b12⟩ := nA_ex (σ := s10) (p := p) (c := 10) (k := 6) (t := 103) (n := 4) (N := 4) (v := (4 : Int32)) kp10 (by omega) rfl (Nat.le_refl _) (by omega)
  have kp12 : KO s12 p 10 := KO_bx kp10 b12
  have m6 : sn s6 = p + 13 := by omega
  have m8 : sn s8 = p + 14 := by omega
  have m10 : sn s10 = p + 15 := by omega
  have m12 : sn s12 = p + 16 := by omega
  -- the hand
  obtain ⟨s13, x13, n13, k13, b13⟩ := nO_ex (σ := s12) (c := 0) (by omega)
  rw [m12] at k13
  obtain ⟨s14, d14, x14, n14, k14, b14, z14, u14⟩ := i_X0 (δ := nwD s12 (nwD s10 (nwD s8 (nwD s6 d5)))) k13 (by omega) (by omega)
  have B14 : Bx s12 s14 p := (b13 p).tr b14 (Or.inr (by omega))
  have kp14 : KO s14 p 10 := KO_bx kp12 B14
  obtain ⟨s15, x15, n15, v15, o15, b15⟩ := pR_ex (σ := s14) (k := 7) (x := p + 16) kp14 (by omega)
  have kp15 : KO s15 p 10 := KO_bx kp14 b15
  obtain ⟨s16, x16, n16, v16, o16, b16⟩ := pR_ex (σ := s15) (k := 0) (x := nd) kp15 (by omega)
  have kp16 : KO s16 p 10 := KO_bx kp15 b16
  -- the rewriter
  have m16 : sn s16 = p + 18 := by omega
  obtain ⟨s17, x17, n17, k17, b17⟩ := nO_ex (σ := s16) (c := 6) (by omega)
  rw [m16] at k17
  have kp17 : KO s17 p 10 := KO_bx kp16 (b17 p)
  have same : ∀ {a b : St} {r : Nat}, Bx a b r → p < sn a → ¬ p = r → ∀ k, srv b p k = srv a p k := fun B hl hr k => (B.2 p hl).2.2 hr k
  have q3 : ∀ k, srv s5 p k = srv s3 p k := fun k => (same b5 (by omega) (by omega) k).trans (same (b4 (p + 1)) (by omega) (by omega) k)
  have q12 : ∀ k, srv s14 p k = srv s12 p k := fun k => (same b14 (by omega) (by omega) k).trans (same (b13 (p + 1)) (by omega) (by omega) k)
  have q16 : ∀ k, srv s17 p k = srv s16 p k := fun k => same (b17 (p + 1)) (by omega) (by omega) k
  have w1 : srv s17 p 1 = some (p + 1) := by rw [q16, o16 1 (by decide), o15 1 (by decide), q12, o12 1 (by decide), o10 1 (by decide), o8 1 (by decide), o6 1 (by decide), q3]; exact v3
  obtain ⟨s18, d18, x18, n18, k18, b18, z18, u18⟩ := i_X6 (δ := nwD s16 d14) (st := p + 1) (ro := ro) k17 (by omega) (by omega) (by omega) (by omega)
  have B18 : Bx s16 s18 p := (b17 p).tr b18 (Or.inr (by omega))
  have kp18 : KO s18 p 10 := KO_bx kp16 B18
  obtain ⟨s20, x20, n20, v20, o20, b20⟩ := pR_ex (σ := s18) (k := 2) (x := p + 18) kp18 (by omega)
  have kp20 : KO s20 p 10 := KO_bx kp18 b20
  have q18 : ∀ k, srv s18 p k = srv s17 p k := fun k => same b18 (by omega) (by omega) k
  rw [m6] at D8 v8
  rw [m8] at D10 v10
  rw [m10] at D12 v12
  have t12 : Bx s12 s20 p := ((B14.tr b15 (Or.inl rfl)).tr b16 (Or.inl rfl)).tr (B18.tr b20 (Or.inl rfl)) (Or.inl rfl)
  have t10 : Bx s10 s20 p := b12.tr t12 (Or.inl rfl)
  have t8 : Bx s8 s20 p := b10.tr t10 (Or.inl rfl)
  have t5 : Bx s5 s20 p := b6.tr (b8.tr t8 (Or.inl rfl)) (Or.inl rfl)
  have t2 : Bx s2 s20 p := b3.tr (B5.tr t5 (Or.inl rfl)) (Or.inl rfl)
  have t14 : Bx s14 s20 p := (b15.tr b16 (Or.inl rfl)).tr (B18.tr b20 (Or.inl rfl)) (Or.inl rfl)
  have E8 := KD_bx D8 t8
  have E10 := KD_bx D10 t10
  have E12 := KD_bx D12 t12
  have u1 : srv s20 p 1 = some (p + 1) := by rw [o20 1 (by decide), q18]; exact w1
  have u3 : srv s20 p 3 = some (p + 11) := by rw [o20 3 (by decide), q18, q16, o16 3 (by decide), o15 3 (by decide), q12, o12 3 (by decide), o10 3 (by decide), o8 3 (by decide)]; exact v6
  have u4 : srv s20 p 4 = some (p + 13) := by rw [o20 4 (by decide), q18, q16, o16 4 (by decide), o15 4 (by decide), q12, o12 4 (by decide), o10 4 (by decide)]; exact v8
  have u5' : srv s20 p 5 = some (p + 14) := by rw [o20 5 (by decide), q18, q16, o16 5 (by decide), o15 5 (by decide), q12, o12 5 (by decide)]; exact v10
  have u6 : srv s20 p 6 = some (p + 15) := by rw [o20 6 (by decide), q18, q16, o16 6 (by decide), o15 6 (by decide), q12]; exact v12
  have u7 : srv s20 p 7 = some (p + 16) := by rw [o20 7 (by decide), q18, q16, o16 7 (by decide)]; exact v15
  have u0 : srv s20 p 0 = some nd := by rw [o20 0 (by decide), q18, q16]; exact v16
  obtain ⟨s, d, e, m, bL, hL, hdf, low⟩ := i_X10L (δ0 := d18) kp20 u6 E12 u4 E8 (by omega) hr
  have tp : ∀ k, srv s p k = srv s20 p k := fun k => same bL (by omega) (by omega) k
  have t0 : Bx σ s20 p := B2.tr t2 (Or.inl rfl)
  have bL' : ∀ {a : St} {r : Nat}, Bx a s20 p → p + 15 < sn a → True := fun _ _ => trivial
  -- what the memory holds
  have L18 : ∀ i, i < p + 18 → d18.1 i = d14.1 i ∧ d18.2 i = d14.2 i := fun i hi => by
    rw [(u18 i (by omega)).1, (u18 i (by omega)).2, (nwD_ne (σ := s16) (by omega)).1, (nwD_ne (σ := s16) (by omega)).2]
    exact ⟨rfl, rfl⟩
  have L14 : ∀ i, i < p + 13 → d14.1 i = d5.1 i ∧ d14.2 i = d5.2 i := fun i hi => by
    rw [(u14 i (by omega)).1, (u14 i (by omega)).2, (nwD_ne (σ := s12) (by omega)).1, (nwD_ne (σ := s12) (by omega)).2, (nwD_ne (σ := s10) (by omega)).1, (nwD_ne (σ := s10) (by omega)).2, (nwD_ne (σ := s8) (by omega)).1, (nwD_ne (σ := s8) (by omega)).2, (nwD_ne (σ := s6) (by omega)).1, (nwD_ne (σ := s6) (by omega)).2]
    exact ⟨rfl, rfl⟩
  have L5 : ∀ i, i < p + 11 → d5.1 i = d2.1 i ∧ d5.2 i = d2.2 i := fun i hi => by
    rw [(u5 i hi).1, (u5 i hi).2, (nwD_ne (σ := s3) (by omega)).1, (nwD_ne (σ := s3) (by omega)).2]
    exact ⟨rfl, rfl⟩
  have A : ∀ i, i < p + 11 → d.1 i = d2.1 i ∧ d.2 i = d2.2 i := fun i hi => ⟨by rw [(low i (by omega) (by omega)).1, (L18 i (by omega)).1, (L14 i (by omega)).1, (L5 i hi).1], by rw [(low i (by omega) (by omega)).2, (L18 i (by omega)).2, (L14 i (by omega)).2, (L5 i hi).2]⟩
  have Zst : ∀ i, p + 1 ≤ i → i < p + 11 → Zer d i := by
    intro i i0 i1
    by_cases c : i = p + 1
    · have q : Zer (nwD σ δ) i := by rw [c, ← hn]; exact nwD_at
      exact Zer_eq (Zer_eq q (u2 i (by omega))) (A i i1)
    · exact Zer_eq (z2 i (by omega) (by omega)) (A i i1)
  have Zp : Zer d p := by
    have q : Zer (nwD σ δ) p := Zer_eq hz (nwD_ne (σ := σ) (by omega))
    exact Zer_eq (Zer_eq q (u2 p (by omega))) (A p (by omega))
  have Z12 : Zer d (p + 12) := Zer_eq z5 ⟨by rw [(low _ (by omega) (by omega)).1, (L18 _ (by omega)).1, (L14 _ (by omega)).1], by rw [(low _ (by omega) (by omega)).2, (L18 _ (by omega)).2, (L14 _ (by omega)).2]⟩
  have w11 : d.1 (p + 11) 1 = 1 := by rw [(low _ (by omega) (by omega)).1, (L18 _ (by omega)).1, (L14 _ (by omega)).1]; exact w5
  have Z14 : Zer d (p + 14) := by
    have q : Zer (nwD s8 (nwD s6 d5)) (p + 14) := by rw [← m8]; exact nwD_at
    have q := Zer_eq (Zer_eq q (nwD_ne (σ := s10) (by omega))) (nwD_ne (σ := s12) (by omega))
    exact Zer_eq (Zer_eq (Zer_eq q (u14 _ (by omega))) (L18 _ (by omega))) (low _ (by omega) (by omega))
  have Z18 : Zer d (p + 18) := by
    have q : Zer (nwD s16 d14) (p + 18) := by rw [← m16]; exact nwD_at
    exact Zer_eq (Zer_eq q (u18 _ (by omega))) (low _ (by omega) (by omega))
  have Z21 : Zer d (p + 21) := Zer_eq (z18 _ (by omega) (by omega)) (low _ (by omega) (by omega))
  have Z23 : Zer d (p + 23) := Zer_eq (z18 _ (by omega) (by omega)) (low _ (by omega) (by omega))
  obtain ⟨h00, h01, h02⟩ := hL 0 (by omega)
  rw [show p + 390 + 24 * 0 = p + 390 by omega] at h02
  refine ⟨s, d, ?_, m, ⟨⟨ho.1, ho.2⟩, KO_bx kp20 bL, ⟨(tp 0).trans u0, (tp 1).trans u1, (tp 2).trans v20, (tp 3).trans u3, (tp 4).trans u4, (tp 5).trans u5', (tp 6).trans u6, (tp 7).trans u7⟩, KN_bx (KN_bx hN t0 (by omega)) bL (by omega), KRs_bx (KRs_bx hRs t0 (Or.inl ho.2)) bL (Or.inl (by omega)), KS_bx (KS_bx k2 t2 (by omega)) bL (by omega), KW_bx (KW_bx k18 b20 (by omega)) bL (by omega), KDr_bx (KDr_bx k5 t5 (by omega)) bL (by omega), KD_bx E8 bL, KD_bx E10 bL, KD_bx E12 bL, KA_bx (KA_bx k14 t14 (by omega)) bL (by omega), fun j hj => ⟨(hL j hj).1, (hL j hj).2.1⟩⟩, t0.tr bL (Or.inr (by omega)), ⟨RS_zero (fun i i0 i1 => Zst i i0 (by omega)), ?_, fun z z0 z1 => (Z23 _).1, (Z18 9).1, ⟨w11, fun z z0 z1 => (Z12 _).1⟩, fun z z0 z1 => (Z14 _).1, ?_, fun j hj => ?_, (Zp 11).1, (Zp 10).1⟩, fun z z0 z1 => ?_, fun i hi => ?_⟩
  · have e' : m_X10_init_b84 s20 p (0 : Int32) d18 = some (s, d) := e
    have g17 : gR s17 10 p 1 = some (p + 1) := gR_ko kp17 w1
    unfold m_X10_init
    simp only [x1, hn, ob_some, x2, x3, x4, m3, x5, x6, x7, y7, x9, y9, x11, y11, x13, m12, x14, x15, x16, x17, g17, m16, x18, x20, e']
  · intro w o x h1 h2 h3 h4 h5 h6
    rw [(Z21 _).2, decide_eq_false (by intro hh; cases hh)]
    exact BitVec.getLsbD_zero
  · have := h02.2.2.2.1
    rw [show p + 390 + 13 = p + 403 by omega] at this
    exact this
  · obtain ⟨r1, r2, r3, r4, r5⟩ := (hL j hj).2.2
    exact ⟨⟨_, r1⟩, ⟨_, r2⟩, ⟨_, r3⟩, ⟨_, r4⟩, ⟨_, r5⟩⟩
  · exact hdf z.toNat (by omega)
  · rw [(A i (by omega)).1, (A i (by omega)).2, (u2 i (by omega)).1, (u2 i (by omega)).2, (nwD_ne (σ := σ) (by omega)).1, (nwD_ne (σ := σ) (by omega)).2]
    exact ⟨rfl, rfl⟩
end
