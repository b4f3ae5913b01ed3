/-! THE START: the reference (made by geninitm.py) -/
def CHm (σ : St) (mo k : Nat) : Prop := KO σ mo 12 ∧ sn σ = mo + 1 + k ∧ ∀ q ∈ mfl.take k, srv σ mo q.1 = some (mo + q.2.1) ∧ KD σ (mo + q.2.1) 100 q.2.2
def ZDm (δ : Dy) (lo hi : Nat) : Prop := ∀ i, lo ≤ i → i < hi → Zer δ i
theorem ZDm_step {σ : St} {δ : Dy} {lo n : Nat} (h : ZDm δ lo n) (hn : sn σ = n) : ZDm (nwD σ δ) lo (n + 1) := by
  intro i i0 i1
  by_cases c : i = n
  · rw [c, ← hn]; exact nwD_at
  · exact Zer_eq (h i i0 (by omega)) (nwD_ne (by omega))
theorem low_step {σ : St} {δ d0 : Dy} {lo : Nat} (h : ∀ i, i < lo → δ.1 i = d0.1 i ∧ δ.2 i = d0.2 i) (hn : lo ≤ sn σ) : ∀ i, i < lo → (nwD σ δ).1 i = d0.1 i ∧ (nwD σ δ).2 i = d0.2 i := fun i hi => ⟨(nwD_ne (by omega)).1.trans (h i hi).1, (nwD_ne (by omega)).2.trans (h i hi).2⟩
section
variable {σ : St} {δ : Dy} {mo k f n : Nat}
theorem CHm_step (h : CHm σ mo k) (hk : mfl[k]? = some (f, k + 1, n)) (hd : ∀ q ∈ mfl.take k, ¬ q.1 = f) {v : Int32} (hv : v = ii (n : Int)) (hb : n ≤ 1000000) (hmo : mo + 1 + k < roB) : ∃ s1 s2, nwA σ 100 v n = some s1 ∧ pR s1 12 mo f (sn σ) = some s2 ∧ CHm s2 mo (k + 1) ∧ Bx σ s2 mo := by
  obtain ⟨h0, h1, h2⟩ := h
  obtain ⟨s1, s2, x, y, m, D, v', o, B⟩ := nA_ex (σ := σ) (p := mo) (c := 12) (k := f) (t := 100) (n := n) (N := n) (v := v) h0 (by omega) hv (Nat.le_refl _) hb
  rw [show sn σ = mo + (k + 1) by omega] at D v'
  refine ⟨s1, s2, x, y, ⟨KO_bx h0 B, by omega, fun q hq => ?_⟩, B⟩
  rw [List.take_add_one, hk] at hq
  rcases List.mem_append.mp hq with hq | hq
  · obtain ⟨q1, q2⟩ := h2 q hq
    exact ⟨by rw [o q.1 (hd q hq)]; exact q1, KD_bx q2 B⟩
  · have hq' : q = (f, k + 1, n) := by
      rcases List.mem_cons.mp hq with h | h
      · exact h
      · cases h
    rw [hq']
    exact ⟨v', D⟩
theorem i_X12A (hp : KO σ mo 12) (hn : sn σ = mo + 1) (hz : Zer δ mo) (hr : mo < 1100) : ∃ s D, m_X12_init σ mo δ = m_X12_init_b296 s mo (0 : Int32) D ∧ KM s mo ∧ sn s = mo + 37 ∧ ZDm D mo (mo + 37) ∧ (∀ i, i < mo → D.1 i = δ.1 i ∧ D.2 i = δ.2 i) ∧ Bx σ s mo := by
  have hro := roB_big
  have h0 : CHm σ mo 0 := ⟨hp, by omega, fun q hq => by cases hq⟩
  have z0 : ZDm δ mo (mo + 1) := fun i i0 i1 => by rw [show i = mo by omega]; exact hz
  have t0 : Bx σ σ mo := Bx.rf
  have l0 : ∀ i, i < mo → δ.1 i = δ.1 i ∧ δ.2 i = δ.2 i := fun i _ => ⟨rfl, rfl⟩
  obtain ⟨a0, s0, x0, y0, h1, b0⟩ := CHm_step (v := (9863 : Int32)) h0 (f := 0) (n := 9863) rfl (by decide) rfl (by omega) (by omega)
  have z1 := ZDm_step (σ := σ) z0 hn
  have l1 := low_step (σ := σ) l0 (by have := h0.2.1; omega)
  have t1 := t0.tr b0 (Or.inl rfl)
  obtain ⟨a1, s1, x1, y1, h2, b1⟩ := CHm_step (v := (9863 : Int32)) h1 (f := 1) (n := 9863) rfl (by decide) rfl (by omega) (by omega)
  have z2 := ZDm_step (σ := s0) z1 h1.2.1
  have l2 := low_step (σ := s0) l1 (by have := h1.2.1; omega)
  have t2 := t1.tr b1 (Or.inl rfl)
  obtain ⟨a2, s2, x2, y2, h3, b2⟩ := CHm_step (v := (60 : Int32)) h2 (f := 2) (n := 60) rfl (by decide) rfl (by omega) (by omega)
  have z3 := ZDm_step (σ := s1) z2 h2.2.1
  have l3 := low_step (σ := s1) l2 (by have := h2.2.1; omega)
  have t3 := t2.tr b2 (Or.inl rfl)
  obtain ⟨a3, s3, x3, y3, h4, b3⟩ := CHm_step (v := (60 : Int32)) h3 (f := 3) (n := 60) rfl (by decide) rfl (by omega) (by omega)
  have z4 := ZDm_step (σ := s2) z3 h3.2.1
  have l4 := low_step (σ := s2) l3 (by have := h3.2.1; omega)
  have t4 := t3.tr b3 (Or.inl rfl)
  obtain ⟨a4, s4, x4, y4, h5, b4⟩ := CHm_step (v := (60 : Int32)) h4 (f := 4) (n := 60) rfl (by decide) rfl (by omega) (by omega)
  have z5 := ZDm_step (σ := s3) z4 h4.2.1
  have l5 := low_step (σ := s3) l4 (by have := h4.2.1; omega)
  have t5 := t4.tr b4 (Or.inl rfl)
  obtain ⟨a5, s5, x5, y5, h6, b5⟩ := CHm_step (v := (60 : Int32)) h5 (f := 5) (n := 60) rfl (by decide) rfl (by omega) (by omega)
  have z6 := ZDm_step (σ := s4) z5 h5.2.1
  have l6 := low_step (σ := s4) l5 (by have := h5.2.1; omega)
  have t6 := t5.tr b5 (Or.inl rfl)
  obtain ⟨a6, s6, x6, y6, h7, b6⟩ := CHm_step (v := (60 : Int32)) h6 (f := 6) (n := 60) rfl (by decide) rfl (by omega) (by omega)
  have z7 := ZDm_step (σ := s5) z6 h6.2.1
  have l7 := low_step (σ := s5) l6 (by have := h6.2.1; omega)
  have t7 := t6.tr b6 (Or.inl rfl)
  obtain ⟨a7, s7, x7, y7, h8, b7⟩ := CHm_step (v := (6 : Int32)) h7 (f := 8) (n := 6) rfl (by decide) rfl (by omega) (by omega)
  have z8 := ZDm_step (σ := s6) z7 h7.2.1
  have l8 := low_step (σ := s6) l7 (by have := h7.2.1; omega)
  have t8 := t7.tr b7 (Or.inl rfl)
  obtain ⟨a8, s8, x8, y8, h9, b8⟩ := CHm_step (v := (8 : Int32)) h8 (f := 9) (n := 8) rfl (by decide) rfl (by omega) (by omega)
  have z9 := ZDm_step (σ := s7) z8 h8.2.1
  have l9 := low_step (σ := s7) l8 (by have := h8.2.1; omega)
  have t9 := t8.tr b8 (Or.inl rfl)
  obtain ⟨a9, s9, x9, y9, h10, b9⟩ := CHm_step (v := (64 : Int32)) h9 (f := 10) (n := 64) rfl (by decide) rfl (by omega) (by omega)
  have z10 := ZDm_step (σ := s8) z9 h9.2.1
  have l10 := low_step (σ := s8) l9 (by have := h9.2.1; omega)
  have t10 := t9.tr b9 (Or.inl rfl)
  obtain ⟨a10, s10, x10, y10, h11, b10⟩ := CHm_step (v := (24 : Int32)) h10 (f := 11) (n := 24) rfl (by decide) rfl (by omega) (by omega)
  have z11 := ZDm_step (σ := s9) z10 h10.2.1
  have l11 := low_step (σ := s9) l10 (by have := h10.2.1; omega)
  have t11 := t10.tr b10 (Or.inl rfl)
  obtain ⟨a11, s11, x11, y11, h12, b11⟩ := CHm_step (v := (8 : Int32)) h11 (f := 12) (n := 8) rfl (by decide) rfl (by omega) (by omega)
  have z12 := ZDm_step (σ := s10) z11 h11.2.1
  have l12 := low_step (σ := s10) l11 (by have := h11.2.1; omega)
  have t12 := t11.tr b11 (Or.inl rfl)
  obtain ⟨a12, s12, x12, y12, h13, b12⟩ := CHm_step (v := (48 : Int32)) h12 (f := 13) (n := 48) rfl (by decide) rfl (by omega) (by omega)
  have z13 := ZDm_step (σ := s11) z12 h12.2.1
  have l13 := low_step (σ := s11) l12 (by have := h12.2.1; omega)
  have t13 := t12.tr b12 (Or.inl rfl)
  obtain ⟨a13, s13, x13, y13, h14, b13⟩ := CHm_step (v := (8 : Int32)) h13 (f := 15) (n := 8) rfl (by decide) rfl (by omega) (by omega)
  have z14 := ZDm_step (σ := s12) z13 h13.2.1
  have l14 := low_step (σ := s12) l13 (by have := h13.2.1; omega)
  have t14 := t13.tr b13 (Or.inl rfl)
  obtain ⟨a14, s14, x14, y14, h15, b14⟩ := CHm_step (v := (3 : Int32)) h14 (f := 16) (n := 3) rfl (by decide) rfl (by omega) (by omega)
  have z15 := ZDm_step (σ := s13) z14 h14.2.1
  have l15 := low_step (σ := s13) l14 (by have := h14.2.1; omega)
  have t15 := t14.tr b14 (Or.inl rfl)
  obtain ⟨a15, s15, x15, y15, h16, b15⟩ := CHm_step (v := (6 : Int32)) h15 (f := 17) (n := 6) rfl (by decide) rfl (by omega) (by omega)
  have z16 := ZDm_step (σ := s14) z15 h15.2.1
  have l16 := low_step (σ := s14) l15 (by have := h15.2.1; omega)
  have t16 := t15.tr b15 (Or.inl rfl)
  obtain ⟨a16, s16, x16, y16, h17, b16⟩ := CHm_step (v := (18000 : Int32)) h16 (f := 21) (n := 18000) rfl (by decide) rfl (by omega) (by omega)
  have z17 := ZDm_step (σ := s15) z16 h16.2.1
  have l17 := low_step (σ := s15) l16 (by have := h16.2.1; omega)
  have t17 := t16.tr b16 (Or.inl rfl)
  obtain ⟨a17, s17, x17, y17, h18, b17⟩ := CHm_step (v := (2000 : Int32)) h17 (f := 23) (n := 2000) rfl (by decide) rfl (by omega) (by omega)
  have z18 := ZDm_step (σ := s16) z17 h17.2.1
  have l18 := low_step (σ := s16) l17 (by have := h17.2.1; omega)
  have t18 := t17.tr b17 (Or.inl rfl)
  obtain ⟨a18, s18, x18, y18, h19, b18⟩ := CHm_step (v := (4 : Int32)) h18 (f := 24) (n := 4) rfl (by decide) rfl (by omega) (by omega)
  have z19 := ZDm_step (σ := s17) z18 h18.2.1
  have l19 := low_step (σ := s17) l18 (by have := h18.2.1; omega)
  have t19 := t18.tr b18 (Or.inl rfl)
  obtain ⟨a19, s19, x19, y19, h20, b19⟩ := CHm_step (v := (2000 : Int32)) h19 (f := 25) (n := 2000) rfl (by decide) rfl (by omega) (by omega)
  have z20 := ZDm_step (σ := s18) z19 h19.2.1
  have l20 := low_step (σ := s18) l19 (by have := h19.2.1; omega)
  have t20 := t19.tr b19 (Or.inl rfl)
  obtain ⟨a20, s20, x20, y20, h21, b20⟩ := CHm_step (v := (4 : Int32)) h20 (f := 26) (n := 4) rfl (by decide) rfl (by omega) (by omega)
  have z21 := ZDm_step (σ := s19) z20 h20.2.1
  have l21 := low_step (σ := s19) l20 (by have := h20.2.1; omega)
  have t21 := t20.tr b20 (Or.inl rfl)
  obtain ⟨a21, s21, x21, y21, h22, b21⟩ := CHm_step (v := (2000 : Int32)) h21 (f := 27) (n := 2000) rfl (by decide) rfl (by omega) (by omega)
  have z22 := ZDm_step (σ := s20) z21 h21.2.1
  have l22 := low_step (σ := s20) l21 (by have := h21.2.1; omega)
  have t22 := t21.tr b21 (Or.inl rfl)
  obtain ⟨a22, s22, x22, y22, h23, b22⟩ := CHm_step (v := (4 : Int32)) h22 (f := 28) (n := 4) rfl (by decide) rfl (by omega) (by omega)
  have z23 := ZDm_step (σ := s21) z22 h22.2.1
  have l23 := low_step (σ := s21) l22 (by have := h22.2.1; omega)
  have t23 := t22.tr b22 (Or.inl rfl)
  obtain ⟨a23, s23, x23, y23, h24, b23⟩ := CHm_step (v := (2000 : Int32)) h23 (f := 29) (n := 2000) rfl (by decide) rfl (by omega) (by omega)
  have z24 := ZDm_step (σ := s22) z23 h23.2.1
  have l24 := low_step (σ := s22) l23 (by have := h23.2.1; omega)
  have t24 := t23.tr b23 (Or.inl rfl)
  obtain ⟨a24, s24, x24, y24, h25, b24⟩ := CHm_step (v := (4 : Int32)) h24 (f := 30) (n := 4) rfl (by decide) rfl (by omega) (by omega)
  have z25 := ZDm_step (σ := s23) z24 h24.2.1
  have l25 := low_step (σ := s23) l24 (by have := h24.2.1; omega)
  have t25 := t24.tr b24 (Or.inl rfl)
  obtain ⟨a25, s25, x25, y25, h26, b25⟩ := CHm_step (v := (4 : Int32)) h25 (f := 31) (n := 4) rfl (by decide) rfl (by omega) (by omega)
  have z26 := ZDm_step (σ := s24) z25 h25.2.1
  have l26 := low_step (σ := s24) l25 (by have := h25.2.1; omega)
  have t26 := t25.tr b25 (Or.inl rfl)
  obtain ⟨a26, s26, x26, y26, h27, b26⟩ := CHm_step (v := (900 : Int32)) h26 (f := 32) (n := 900) rfl (by decide) rfl (by omega) (by omega)
  have z27 := ZDm_step (σ := s25) z26 h26.2.1
  have l27 := low_step (σ := s25) l26 (by have := h26.2.1; omega)
  have t27 := t26.tr b26 (Or.inl rfl)
  obtain ⟨a27, s27, x27, y27, h28, b27⟩ := CHm_step (v := (6000 : Int32)) h27 (f := 36) (n := 6000) rfl (by decide) rfl (by omega) (by omega)
  have z28 := ZDm_step (σ := s26) z27 h27.2.1
  have l28 := low_step (σ := s26) l27 (by have := h27.2.1; omega)
  have t28 := t27.tr b27 (Or.inl rfl)
  obtain ⟨a28, s28, x28, y28, h29, b28⟩ := CHm_step (v := (4 : Int32)) h28 (f := 38) (n := 4) rfl (by decide) rfl (by omega) (by omega)
  have z29 := ZDm_step (σ := s27) z28 h28.2.1
  have l29 := low_step (σ := s27) l28 (by have := h28.2.1; omega)
  have t29 := t28.tr b28 (Or.inl rfl)
  obtain ⟨a29, s29, x29, y29, h30, b29⟩ := CHm_step (v := (4 : Int32)) h29 (f := 39) (n := 4) rfl (by decide) rfl (by omega) (by omega)
  have z30 := ZDm_step (σ := s28) z29 h29.2.1
  have l30 := low_step (σ := s28) l29 (by have := h29.2.1; omega)
  have t30 := t29.tr b29 (Or.inl rfl)
  obtain ⟨a30, s30, x30, y30, h31, b30⟩ := CHm_step (v := (4 : Int32)) h30 (f := 40) (n := 4) rfl (by decide) rfl (by omega) (by omega)
  have z31 := ZDm_step (σ := s29) z30 h30.2.1
  have l31 := low_step (σ := s29) l30 (by have := h30.2.1; omega)
  have t31 := t30.tr b30 (Or.inl rfl)
  obtain ⟨a31, s31, x31, y31, h32, b31⟩ := CHm_step (v := (70 : Int32)) h31 (f := 42) (n := 70) rfl (by decide) rfl (by omega) (by omega)
  have z32 := ZDm_step (σ := s30) z31 h31.2.1
  have l32 := low_step (σ := s30) l31 (by have := h31.2.1; omega)
  have t32 := t31.tr b31 (Or.inl rfl)
  obtain ⟨a32, s32, x32, y32, h33, b32⟩ := CHm_step (v := (70 : Int32)) h32 (f := 43) (n := 70) rfl (by decide) rfl (by omega) (by omega)
  have z33 := ZDm_step (σ := s31) z32 h32.2.1
  have l33 := low_step (σ := s31) l32 (by have := h32.2.1; omega)
  have t33 := t32.tr b32 (Or.inl rfl)
  obtain ⟨a33, s33, x33, y33, h34, b33⟩ := CHm_step (v := (1400 : Int32)) h33 (f := 45) (n := 1400) rfl (by decide) rfl (by omega) (by omega)
  have z34 := ZDm_step (σ := s32) z33 h33.2.1
  have l34 := low_step (σ := s32) l33 (by have := h33.2.1; omega)
  have t34 := t33.tr b33 (Or.inl rfl)
  obtain ⟨a34, s34, x34, y34, h35, b34⟩ := CHm_step (v := (8 : Int32)) h34 (f := 46) (n := 8) rfl (by decide) rfl (by omega) (by omega)
  have z35 := ZDm_step (σ := s33) z34 h34.2.1
  have l35 := low_step (σ := s33) l34 (by have := h34.2.1; omega)
  have t35 := t34.tr b34 (Or.inl rfl)
  obtain ⟨a35, s35, x35, y35, h36, b35⟩ := CHm_step (v := (170 : Int32)) h35 (f := 48) (n := 170) rfl (by decide) rfl (by omega) (by omega)
  have z36 := ZDm_step (σ := s34) z35 h35.2.1
  have l36 := low_step (σ := s34) l35 (by have := h35.2.1; omega)
  have t36 := t35.tr b35 (Or.inl rfl)
  refine ⟨s35, _, ?_, ⟨h36.1, h36.2.2⟩, h36.2.1, z36, l36, t36⟩
  unfold m_X12_init
  simp only [x0, y0, x1, y1, x2, y2, x3, y3, x4, y4, x5, y5, x6, y6, x7, y7, x8, y8, x9, y9, x10, y10, x11, y11, x12, y12, x13, y13, x14, y14, x15, y15, x16, y16, x17, y17, x18, y18, x19, y19, x20, y20, x21, y21, x22, y22, x23, y23, x24, y24, x25, y25, x26, y26, x27, y27, x28, y28, x29, y29, x30, y30, x31, y31, x32, y32, x33, y33, x34, y34, x35, y35, ob_some]
/-- the first definitions, values and classes -/
theorem i_X12B {s : St} {D : Dy} (hK : KM s mo) (hz : ZDm D mo (mo + 37)) : ∃ d, m_X12_init_b296 s mo (ii 0) D = some (s, d) ∧ (∀ j : Nat, j < 6 → d.1 (mo + 8) j = -1) ∧ d.1 (mo + 1) 7038 = 1 ∧ (∀ j : Nat, (j = 0 ∨ 121 ≤ j) → ¬ j = 7038 → d.1 (mo + 1) j = 0) ∧ Fr (fun r => r = mo + 1 ∨ r = mo + 8) D d := by
  have key : Ok (m_X12_init_b296 s mo (ii 0) D) (fun x => x.1 = s ∧ (∀ j : Nat, j < 6 → x.2.1 (mo + 8) j = -1) ∧ x.2.1 (mo + 1) 7038 = 1 ∧ (∀ j : Nat, (j = 0 ∨ 121 ≤ j) → ¬ j = 7038 → x.2.1 (mo + 1) j = 0) ∧ Fr (fun r => r = mo + 1 ∨ r = mo + 8) D x.2) := by
    unfold m_X12_init_b296
    refine Ok_for (fun z x => x.1 = ii z ∧ (∀ j : Nat, (j : Int) < z → x.2.1 (mo + 8) j = -1) ∧ Fr (fun r => r = mo + 8) D x.2) 0 6 (by omega) (by omega) ?_ ?_ ⟨rfl, fun j hj => absurd hj (by omega), Fr.rf⟩
    · rintro z ⟨s1, d⟩ z0 z1 ⟨hs, hv, hF⟩
      dsimp only at hs hv hF ⊢
      subst hs
      have c1 : ((6 : Int32) ≤ ii z) = False := by
        rw [show ((6 : Int32)) = ii 6 from rfl, ii_le (by omega) (by omega) (by omega) (by omega)]
        exact eq_false (by omega)
      have a1 : ii z + (1 : Int32) = ii (z + 1) := by rw [show ((1 : Int32)) = ii 1 from rfl, ii_add]
      obtain ⟨d1, w1, v1, o1, F1⟩ := wI_ex (δ := d) (r := mo + 8) (z := z) (k := z.toNat) (x := -1) (md8 hK) z0 (by omega) rfl
      refine Ok_inl (s' := (ii (z + 1), d1)) (by simp only [c1, ↓reduceIte, mg8 hK, ob_some, w1, a1]) ⟨rfl, fun j hj => ?_, hF.tr F1⟩
      by_cases cj : j = z.toNat
      · rw [cj]; exact v1
      · rw [o1 j cj]; exact hv j (by omega)
    · rintro ⟨s1, d⟩ ⟨hs, hv, hF⟩
      dsimp only at hs hv hF ⊢
      subst hs
      have c1 : ((6 : Int32) ≤ ii 6) = True := eq_true (by decide)
      obtain ⟨d1, w1, v1, o1, F1⟩ := wI_ex (δ := d) (r := mo + 1) (z := 7038) (k := 7038) (x := 1) (md0 hK) (by omega) (by omega) rfl
      have w1' : wI s d (mo + 1) (7038 : Int32) (1 : Int32) = some d1 := w1
      have hz1 : ∀ j, ¬ j = 7038 → d1.1 (mo + 1) j = 0 := fun j hj => by rw [o1 j hj, (hF (mo + 1) (by omega)).1]; exact (hz (mo + 1) (by omega) (by omega) j).1
      have inner : Ok (m_X12_init_b326 s mo (ii 0) d1) (fun x => x.1 = s ∧ (∀ j : Nat, ¬ (1 ≤ j ∧ j < 121) → x.2.1 (mo + 1) j = d1.1 (mo + 1) j) ∧ Fr (fun r => r = mo + 1) d1 x.2) := by
        unfold m_X12_init_b326
        refine Ok_for (fun z x => x.1 = ii z ∧ (∀ j : Nat, ¬ (1 ≤ j ∧ j < 121) → x.2.1 (mo + 1) j = d1.1 (mo + 1) j) ∧ Fr (fun r => r = mo + 1) d1 x.2) 0 60 (by omega) (by omega) ?_ ?_ ⟨rfl, fun j hj => rfl, Fr.rf⟩
        · rintro z ⟨s1, x⟩ z0 z1 ⟨hs, hv2, hF2⟩
          dsimp only at hs hv2 hF2 ⊢
          subst hs
          have c2 : ((60 : Int32) ≤ ii z) = False := by
            rw [show ((60 : Int32)) = ii 60 from rfl, ii_le (by omega) (by omega) (by omega) (by omega)]
            exact eq_false (by omega)
          have a1 : ii z + (1 : Int32) = ii (z + 1) := by rw [show ((1 : Int32)) = ii 1 from rfl, ii_add]
          have a2 : (61 : Int32) + ii z = ii (61 + z) := by rw [show ((61 : Int32)) = ii 61 from rfl, ii_add]
          have a3 : (1 : Int32) + ii z = ii (1 + z) := by rw [show ((1 : Int32)) = ii 1 from rfl, ii_add]
          obtain ⟨x1, e1, g1, p1, F1⟩ := wI_ex (δ := x) (r := mo + 1) (z := 61 + z) (k := (61 + z).toNat) (x := 100) (md0 hK) (by omega) (by omega) rfl
          obtain ⟨x2, e2, g2, p2, F2⟩ := wI_ex (δ := x1) (r := mo + 1) (z := 1 + z) (k := (1 + z).toNat) (x := ii z) (md0 hK) (by omega) (by omega) rfl
          refine Ok_inl (s' := (ii (z + 1), x2)) (by simp only [c2, ↓reduceIte, mg0 hK, ob_some, a2, e1, a3, e2, a1]) ⟨rfl, fun j hj => ?_, hF2.tr (F1.tr F2)⟩
          rw [p2 j (by omega), p1 j (by omega)]
          exact hv2 j hj
        · rintro ⟨s1, x⟩ ⟨hs, hv2, hF2⟩
          dsimp only at hs hv2 hF2 ⊢
          subst hs
          have c2 : ((60 : Int32) ≤ ii 60) = True := eq_true (by decide)
          exact Ok_inr (r := (s, x)) (by simp only [c2, ↓reduceIte]) ⟨rfl, hv2, hF2⟩
      obtain ⟨⟨s', x⟩, e, h1, h2, h3⟩ := inner
      dsimp only at h1 h2 h3
      subst h1
      have e' : m_X12_init_b326 s' mo (0 : Int32) d1 = some (s', x) := e
      refine Ok_inr (r := (s', x)) (by simp only [c1, ↓reduceIte, mg0 hK, ob_some, w1', e']) ⟨rfl, fun j hj => ?_, ?_, fun j hj hne => ?_, (hF.wk (fun r p => Or.inr p)).tr ((F1.wk (fun r p => Or.inl p)).tr (h3.wk (fun r p => Or.inl p)))⟩
      · dsimp only
        rw [(h3 (mo + 8) (by omega)).1, (F1 (mo + 8) (by omega)).1]
        exact hv j (by omega)
      · dsimp only
        rw [h2 7038 (by omega)]; exact v1
      · dsimp only
        rw [h2 j (by omega)]; exact hz1 j hne
  obtain ⟨⟨s', d⟩, e, h1, h2⟩ := key
  dsimp only at h1 h2
  subst h1
  exact ⟨d, e, h2⟩
end
