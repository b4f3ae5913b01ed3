/-! THE START: the class -/
section
variable {σ σ' : St} {δ d : Dy} {wp nd ro : Nat}
theorem KWo_bx (h : KWo σ wp nd ro) (k : Bx σ σ' 0) (hn : 1 ≤ nd) : KWo σ' wp nd ro := by
  obtain ⟨h0, h1, ⟨a0, a1, a2, a3, a4, a5, a6, a7⟩, h3, h4, h5, h6, h7, h8, h9, h10, h11, h12⟩ := h
  have e := (k.2 wp h1.1).2.2 (by omega)
  have e15 := (k.2 (wp + 15) h10.1.1).2.2 (by omega)
  exact ⟨h0, KO_bx h1 k, ⟨(e 0).trans a0, (e 1).trans a1, (e 2).trans a2, (e 3).trans a3, (e 4).trans a4, (e 5).trans a5, (e 6).trans a6, (e 7).trans a7⟩, KN_bx h3 k (by omega), KRs_bx h4 k (Or.inr (by omega)), KS_bx h5 k (by omega), KW_bx h6 k (by omega), KDr_bx h7 k (by omega), KD_bx h8 k, KD_bx h9 k, KD_bx h10 k, KA_bx h11 k (by omega), fun j hj => ⟨(e15 j).trans (h12 j hj).1, KLv_bx (h12 j hj).2 k (by omega)⟩⟩
/-- the rules' row, and the worlds -/
theorem i_X11L {σ0 : St} {δ0 : Dy} (hp : KO σ0 0 11) (h0 : srv σ0 0 0 = some 1) (h1 : srv σ0 0 1 = some 8) (hD : KD σ0 8 104 9) (hN : KN σ0 1) (hn : sn σ0 = 14) : ∃ s d, m_X11_init_b46 σ0 0 (ii 0) δ0 = some (s, d) ∧ sn s = 1040 ∧ KWo s 68 1 8 ∧ KWo s 554 1 8 ∧ (srv s 0 2 = some 68 ∧ srv s 0 3 = some 554 ∧ ∀ j, ¬ j = 2 → ¬ j = 3 → srv s 0 j = srv σ0 0 j) ∧ (∀ r, r < 14 → ¬ r = 0 → ¬ r = 8 → skd s r = skd σ0 r ∧ sln s r = sln σ0 r ∧ ∀ k, srv s r k = srv σ0 r k) ∧ KO s 0 11 ∧ RId d 68 0 I0 ∧ RId d 554 0 I0 ∧ (∀ z : Int, 0 ≤ z → z < 6 → d.1 (68 + 13) z.toNat = ii (-1)) ∧ ∀ i, i < 14 → d.1 i = δ0.1 i ∧ d.2 i = δ0.2 i := by
  have hro := roB_big
  have key : Ok (m_X11_init_b46 σ0 0 (ii 0) δ0) (fun x => sn x.1 = 1040 ∧ KWo x.1 68 1 8 ∧ KWo x.1 554 1 8 ∧ (srv x.1 0 2 = some 68 ∧ srv x.1 0 3 = some 554 ∧ ∀ j, ¬ j = 2 → ¬ j = 3 → srv x.1 0 j = srv σ0 0 j) ∧ (∀ r, r < 14 → ¬ r = 0 → ¬ r = 8 → skd x.1 r = skd σ0 r ∧ sln x.1 r = sln σ0 r ∧ ∀ k, srv x.1 r k = srv σ0 r k) ∧ KO x.1 0 11 ∧ RId x.2 68 0 I0 ∧ RId x.2 554 0 I0 ∧ (∀ z : Int, 0 ≤ z → z < 6 → x.2.1 (68 + 13) z.toNat = ii (-1)) ∧ ∀ i, i < 14 → x.2.1 i = δ0.1 i ∧ x.2.2 i = δ0.2 i) := by
    unfold m_X11_init_b46
    refine Ok_lpi (fun n s => n + s.1 = 9 ∧ s.2.1 = ii (s.1 : Int) ∧ sn s.2.2.1 = 14 + 6 * s.1 ∧ Bx σ0 s.2.2.1 8 ∧ (∀ i : Nat, i < s.1 → srv s.2.2.1 8 i = some (8 + 6 + 6 * i) ∧ KRu s.2.2.1 (8 + 6 + 6 * i)) ∧ ∀ i, i < 14 → s.2.2.2.1 i = δ0.1 i ∧ s.2.2.2.2 i = δ0.2 i) ?_ (n := 9) ⟨rfl, rfl, hn, Bx.rf, fun i hi => absurd hi (Nat.not_lt_zero _), fun i _ => ⟨rfl, rfl⟩⟩ (by omega)
    rintro n ⟨z, s1, σ, δ⟩ ⟨hnz, hs1, hsn, hB, hru, hδ⟩
    dsimp only at hnz hs1 hsn hB hru hδ ⊢
    subst hs1
    have kp : KO σ 0 11 := KO_bx hp hB
    have kD : KD σ 8 104 9 := KD_bx hD hB
    have e0 : srv σ 0 0 = some 1 := ((hB.2 0 hp.1).2.2 (by omega) 0).trans h0
    have e1 : srv σ 0 1 = some 8 := ((hB.2 0 hp.1).2.2 (by omega) 1).trans h1
    have g1 := gR_ko kp e1
    have al : aln σ 104 8 = some (ii (9 : Nat)) := aln_kd kD
    rw [if_pos (show z < 10 by omega)]
    by_cases c : z = 9
    · have cc : (ii (9 : Nat) ≤ ii (z : Int)) = True := by
        rw [ii_le (by omega) (by omega) (by omega) (by omega)]
        exact eq_true (by omega)
      subst c
      have m : sn σ = 68 := by omega
      have kN : KN σ 1 := KN_bx hN hB (by omega)
      have kR : KRs σ 8 := ⟨kD, fun i hi => hru i hi⟩
      -- the world
      obtain ⟨t1, x1, n1, k1, b1⟩ := nO_ex (σ := σ) (c := 10) (by omega)
      rw [m] at k1
      have f0 := gR_ko (KO_bx kp (b1 1)) ((((b1 1).2 0 (by omega)).2.2 (by omega) 0).trans e0)
      have f1 := gR_ko (KO_bx kp (b1 1)) ((((b1 1).2 0 (by omega)).2.2 (by omega) 1).trans e1)
      obtain ⟨t2, d2, x2, n2, k2, b2, r2, df2, u2⟩ := i_X10 (δ := nwD σ δ) k1 (by omega) (by rw [← m]; exact nwD_at) (by omega) (KN_bx kN (b1 0) (by omega)) (KRs_bx kR (b1 0) (Or.inr (by omega))) (by omega)
      have B2 : Bx σ t2 0 := (b1 0).tr b2 (Or.inr (by omega))
      have kp2 : KO t2 0 11 := KO_bx kp B2
      obtain ⟨t3, x3, n3, v3, o3, b3⟩ := pR_ex (σ := t2) (k := 2) (x := 68) kp2 (by omega)
      have kp3 : KO t3 0 11 := KO_bx kp2 b3
      have s2 : ∀ k, srv t2 0 k = srv σ 0 k := fun k => ((b2.2 0 (by omega)).2.2 (by omega) k).trans (((b1 1).2 0 (by omega)).2.2 (by omega) k)
      -- the scratch world
      have m3 : sn t3 = 554 := by omega
      obtain ⟨t4, x4, n4, k4, b4⟩ := nO_ex (σ := t3) (c := 10) (by omega)
      rw [m3] at k4
      have s4 : ∀ k, srv t4 0 k = srv t3 0 k := fun k => ((b4 1).2 0 (by omega)).2.2 (by omega) k
      have f2 := gR_ko (KO_bx kp3 (b4 1)) (show srv t4 0 0 = some 1 by rw [s4, o3 0 (by decide), s2]; exact e0)
      have f3 := gR_ko (KO_bx kp3 (b4 1)) (show srv t4 0 1 = some 8 by rw [s4, o3 1 (by decide), s2]; exact e1)
      have B14 : Bx σ t4 0 := (B2.tr b3 (Or.inl rfl)).tr (b4 0) (Or.inl rfl)
      obtain ⟨t5, d5, x5, n5, k5, b5, r5, df5, u5⟩ := i_X10 (δ := nwD t3 d2) k4 (by omega) (by rw [← m3]; exact nwD_at) (by omega) (KN_bx kN B14 (by omega)) (KRs_bx kR B14 (Or.inr (by omega))) (by omega)
      have B5 : Bx t3 t5 0 := (b4 0).tr b5 (Or.inr (by omega))
      have kp5 : KO t5 0 11 := KO_bx kp3 B5
      obtain ⟨t6, x6, n6, v6, o6, b6⟩ := pR_ex (σ := t5) (k := 3) (x := 554) kp5 (by omega)
      have s5 : ∀ k, srv t5 0 k = srv t3 0 k := fun k => ((b5.2 0 (by omega)).2.2 (by omega) k).trans (s4 k)
      have BB : Bx σ t6 0 := (B2.tr b3 (Or.inl rfl)).tr (B5.tr b6 (Or.inl rfl)) (Or.inl rfl)
      have FF : Fr (fun r => 554 ≤ r) d2 d5 := fun r hr => by
        rw [(u5 r (by omega)).1, (u5 r (by omega)).2, (nwD_ne (σ := t3) (by omega)).1, (nwD_ne (σ := t3) (by omega)).2]
        exact ⟨rfl, rfl⟩
      refine Ok_inr (r := (t6, d5)) ?_ ⟨by dsimp only; omega, KWo_bx (KWo_bx (KWo_bx k2 b3 (by omega)) B5 (by omega)) b6 (by omega), KWo_bx k5 b6 (by omega), ⟨?_, v6, fun j j2 j3 => ?_⟩, fun r r14 r0 r8 => ?_, KO_bx kp5 b6, RId_of_Fr r2 FF (fun r a b => by omega), r5, fun z z0 z1 => ?_, fun i hi => ?_⟩
      · simp only [g1, ob_some, al, cc, ↓reduceIte, x1, m, f0, f1, x2, x3, x4, m3, f2, f3, x5, x6]
      · dsimp only
        rw [o6 2 (by decide), s5]; exact v3
      · dsimp only
        rw [o6 j j3, s5, o3 j j2, s2]
        exact (hB.2 0 hp.1).2.2 (by omega) j
      · obtain ⟨p1, p2, p3⟩ := BB.2 r (by omega)
        obtain ⟨p4, p5, p6⟩ := hB.2 r (by omega)
        exact ⟨p1.trans p4, p2.trans p5, fun k => (p3 r0 k).trans (p6 r8 k)⟩
      · dsimp only
        rw [(FF (68 + 13) (by omega)).1]
        exact df2 z z0 z1
      · dsimp only
        rw [(FF i (by omega)).1, (FF i (by omega)).2, (u2 i (by omega)).1, (u2 i (by omega)).2, (nwD_ne (σ := σ) (by omega)).1, (nwD_ne (σ := σ) (by omega)).2]
        exact hδ i hi
    · have cc : (ii (9 : Nat) ≤ ii (z : Int)) = False := by
        rw [ii_le (by omega) (by omega) (by omega) (by omega)]
        exact eq_false (by omega)
      obtain ⟨t1, x1, n1, k1, b1⟩ := nO_ex (σ := σ) (c := 7) (by omega)
      obtain ⟨t2, d2, x2, n2, k2, b2, z2, u2⟩ := i_X7 (δ := nwD σ δ) k1 (by omega) (by omega)
      have b12 : Bx σ t2 8 := (b1 8).tr b2 (Or.inr (Nat.le_refl _))
      obtain ⟨t3, x3, n3, v3, o3, b3⟩ := wA_ex (z := z) (KD_bx kD b12) (by omega) k2.1
      have a1 : ii (z : Int) + (1 : Int32) = ii ((z + 1 : Nat) : Int) := by
        rw [show ((1 : Int32)) = ii 1 from rfl, ii_add]
        exact congrArg ii (by omega)
      rw [hsn] at k2 v3
      have b13 : Bx σ t3 8 := b12.tr b3 (Or.inl rfl)
      refine Ok_inl (s' := (z + 1, ii ((z + 1 : Nat) : Int), t3, d2)) ?_ ⟨n - 1, by omega, by dsimp only; omega, rfl, by dsimp only; omega, hB.tr b13 (Or.inl rfl), fun i hi => ?_, fun i hi => ?_⟩
      · simp only [g1, ob_some, al, cc, ↓reduceIte, x1, x2, x3, a1]
      · dsimp only at hi ⊢
        by_cases ci : i = z
        · subst ci
          exact ⟨v3, KRu_bx k2 b3 (by omega)⟩
        · obtain ⟨f1, f2⟩ := hru i (by omega)
          refine ⟨?_, KRu_bx f2 b13 (by omega)⟩
          rw [o3 i ci, (b2.2 8 (by omega)).2.2 (by omega), ((b1 (sn σ)).2 8 (by omega)).2.2 (by omega)]
          exact f1
      · dsimp only
        rw [(u2 i (by omega)).1, (u2 i (by omega)).2, (nwD_ne (σ := σ) (δ := δ) (by omega)).1, (nwD_ne (σ := σ) (δ := δ) (by omega)).2]
        exact hδ i hi
  obtain ⟨⟨s, d⟩, e, hh⟩ := key
  exact ⟨s, d, e, hh⟩
end
