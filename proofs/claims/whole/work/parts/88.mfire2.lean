/-! THE REFERENCE: firing -/
section
variable {σ : St} {δ : Dy} {mo : Nat} {S : Sto} {V : Vw} {Rs : Int → Rl} {R : Rl} {made : Int} {bd : Int → Int}
theorem RSm_sd (hR : RSm δ mo S) (hG : GS S) {c : Int} {v : Bool} (c0 : 0 ≤ c) (c1 : c < s_nt S) : RSm (u2 δ.1 (mo + 1) (422 + c).toNat (bi v), δ.2) mo (s_setsd S (upf (s_sd S) c v)) := by
  have gn := hG.1
  obtain ⟨r1, r2, r3, r4, r5, r6, r7, r8, r9, r10⟩ := hR
  have hA : ∀ k, ¬ k = (422 + c).toNat → (u2 δ.1 (mo + 1) (422 + c).toNat (bi v), δ.2).1 (mo + 1) k = δ.1 (mo + 1) k := fun k hk => by simp (disch := omega) only [u2, if_neg]
  have hC : (u2 δ.1 (mo + 1) (422 + c).toNat (bi v), δ.2).1 (mo + 1) (422 + c).toNat = bi v := by simp only [u2, and_self, ↓reduceIte]
  generalize (u2 δ.1 (mo + 1) (422 + c).toNat (bi v), δ.2) = D at hA hC ⊢
  refine ⟨by rw [hA _ (by omega)]; exact r1, fun x x0 x1 => ?_, fun x x0 x1 => ?_, by rw [hA _ (by omega)]; exact r4, fun t t0 t1 => ?_, fun t t0 t1 => ?_, fun t t0 t1 => ?_, fun t t0 t1 => ?_, fun t t0 t1 => ?_, fun t t0 t1 k s hk hs => ?_⟩
  · have x1' : x < s_nv S := x1
    rw [hA _ (by omega)]; exact r2 x x0 x1
  · have x1' : x < s_nv S := x1
    rw [hA _ (by omega)]; exact r3 x x0 x1
  · have t1' : t < s_nt S := t1
    rw [hA _ (by omega)]; exact r5 t t0 t1
  · have t1' : t < s_nt S := t1
    rw [hA _ (by omega)]; exact r6 t t0 t1
  · have t1' : t < s_nt S := t1
    rw [hA _ (by omega)]; exact r7 t t0 t1
  · have t1' : t < s_nt S := t1
    show _ = bi (upf (s_sd S) c v t)
    unfold upf
    by_cases hx : t = c
    · rw [if_pos hx, hx]
      exact hC
    · rw [if_neg hx, hA _ (by omega)]; exact r8 t t0 t1
  · have t1' : t < s_nt S := t1
    rw [hA _ (by omega)]; exact r9 t t0 t1
  · have t1' : t < s_nt S := t1
    show (D.1 (mo + 1) (622 + 4 * t + k).toNat).toBitVec.getLsbD s = _
    rw [hA _ (by omega)]; exact r10 t t0 t1 k s hk hs
theorem m_addSlice (hK : KM σ mo) (hS : RSm δ mo S) (hGS : GS S) {sl : Nat → Bool} (hB : B32 (fun k => δ.1 (mo + 30) k) sl) {t : Int} (t0 : 0 ≤ t) (t1 : t < s_nt S) : Ok (m_X12_addSlice σ mo (ii t) δ) (fun d => B32 (fun k => d.1 (mo + 30) k) (fun k => sl k || (decide (k = t.toNat) || s_sl S t k)) ∧ Fr (fun r => r = mo + 30) δ d) := by
  have gn := hGS.1
  have r10 := hS.2.2.2.2.2.2.2.2.2 t t0 t1
  unfold m_X12_addSlice m_X12_addSlice_b2
  refine Ok_for (fun z s => s.1 = ii z ∧ (∀ k : Nat, k < 4 → s.2.1 (mo + 30) k = if (k : Int) < z then δ.1 (mo + 30) k ||| δ.1 (mo + 1) (622 + 4 * t + k).toNat else δ.1 (mo + 30) k) ∧ Fr (fun r => r = mo + 30) δ s.2) 0 4 (by omega) (by omega) ?_ ?_ ⟨rfl, fun k _ => by rw [if_neg (by omega)], Fr.rf⟩
  · rintro z ⟨s1, d⟩ z0 z1 ⟨hs, hk, hF⟩
    dsimp only at hs hk hF ⊢
    subst hs
    have e30 : d.1 (mo + 30) z.toNat = δ.1 (mo + 30) z.toNat := by rw [hk _ (by omega), if_neg (by omega)]
    have e1 : d.1 (mo + 1) (622 + 4 * t + z).toNat = δ.1 (mo + 1) (622 + 4 * t + z).toNat := by rw [(hF _ (by omega)).1]
    refine Ok_inl (s' := (ii (z + 1), (u2 d.1 (mo + 30) z.toNat (δ.1 (mo + 30) z.toNat ||| δ.1 (mo + 1) (622 + 4 * t + z).toNat), d.2))) ?_ ⟨rfl, fun k hk2 => ?_, hF.tr (Fr_u2 rfl)⟩
    · simp (disch := omega) only [ii_lit, ii_le, if_neg, mg39 hK, mg0 hK, ob_some, rI_kd (md39 hK), e30, ii_mul, ii_add, rI_kd (md0 hK), e1, wI_kd (md39 hK)]
    · dsimp only
      by_cases hkz : k = z.toNat
      · rw [if_pos (by omega), hkz]
        simp only [u2, and_self, ↓reduceIte]
        rw [show ((z.toNat : Nat) : Int) = z by omega]
      · simp (disch := omega) only [u2, if_neg]
        rw [hk k hk2]
        by_cases h : (k : Int) < z
        · rw [if_pos h, if_pos (by omega)]
        · rw [if_neg h, if_neg (by omega)]
  · rintro ⟨s1, d⟩ ⟨hs, hk, hF⟩
    dsimp only at hs hk hF ⊢
    subst hs
    have hB4 : B32 (fun k => d.1 (mo + 30) k) (fun k => sl k || s_sl S t k) := by
      intro k s hk2 hs2
      show (d.1 (mo + 30) k).toBitVec.getLsbD s = _
      rw [hk k hk2, if_pos (by omega), Int32.toBitVec_or, BitVec.getLsbD_or, hB k s hk2 hs2, r10 k s hk2 hs2]
    have hdv := dvI_ii (a := t) (b := 32) t0 (by omega) (by omega) (by omega)
    have hrm := rmI_ii (a := t) (b := 32) t0 (by omega) (by omega) (by omega)
    have hv := B32_or (c' := fun k => u2 d.1 (mo + 30) (t / 32).toNat (d.1 (mo + 30) (t / 32).toNat ||| ((1 : Int32) <<< ((ii (t % 32)) &&& 31))) (mo + 30) k) hB4 (z := t) t0 (by omega) (v := (1 : Int32) <<< ((ii (t % 32)) &&& 31)) rfl (by
      simp only [u2, and_self, ↓reduceIte]) (fun k hk2 => by
      simp (disch := omega) only [u2, if_neg])
    refine Ok_inr (r := (u2 d.1 (mo + 30) (t / 32).toNat (d.1 (mo + 30) (t / 32).toNat ||| ((1 : Int32) <<< ((ii (t % 32)) &&& 31))), d.2)) ?_ ⟨B32_cg hv (fun k hk2 => ?_), hF.tr (Fr_u2 rfl)⟩
    · have l32 : (32 : Int32) = ii 32 := rfl
      rw [if_pos (show (4 : Int32) ≤ ii 4 by decide)]
      simp (disch := omega) only [mg39 hK, ob_some, l32, hdv, rI_kd (md39 hK), hrm, wI_kd (md39 hK)]
    · cases sl k <;> cases s_sl S t k <;> cases decide (k = t.toNat) <;> rfl
theorem m_fire292 (hK : KM σ mo) {n : Nat} (hn : n < 500) {la : Bool} : Ok (m_X12_fire_b292 σ mo (bi la) (ii (12 * n)) (ii 0) δ) (fun d => (∀ z : Nat, z < 4 → d.1 (mo + 28) (12 * n + 3 + z) = δ.1 (mo + 29) z) ∧ (∀ z : Nat, z < 4 → d.1 (mo + 28) (12 * n + 7 + z) = δ.1 (mo + 30) z) ∧ d.1 (mo + 28) (12 * n + 11) = bi la ∧ (∀ k, ¬ (12 * n + 3 ≤ k ∧ k < 12 * n + 12) → d.1 (mo + 28) k = δ.1 (mo + 28) k) ∧ Fr (fun r => r = mo + 28) δ d) := by
  unfold m_X12_fire_b292
  refine Ok_for (fun z s => s.1 = ii z ∧ (∀ y : Nat, (y : Int) < z → s.2.1 (mo + 28) (12 * n + 3 + y) = δ.1 (mo + 29) y) ∧ (∀ y : Nat, (y : Int) < z → s.2.1 (mo + 28) (12 * n + 7 + y) = δ.1 (mo + 30) y) ∧ (∀ k, ¬ (12 * n + 3 ≤ k ∧ k < 12 * n + 11) → s.2.1 (mo + 28) k = δ.1 (mo + 28) k) ∧ Fr (fun r => r = mo + 28) δ s.2) 0 4 (by omega) (by omega) ?_ ?_ ⟨rfl, fun y hy => by omega, fun y hy => by omega, fun _ _ => rfl, Fr.rf⟩
  · rintro z ⟨s1, d⟩ z0 z1 ⟨hs, h1, h2, h3, hF⟩
    dsimp only at hs h1 h2 h3 hF ⊢
    subst hs
    have e29 : d.1 (mo + 29) z.toNat = δ.1 (mo + 29) z.toNat := by rw [(hF _ (by omega)).1]
    have e30 : d.1 (mo + 30) z.toNat = δ.1 (mo + 30) z.toNat := by rw [(hF _ (by omega)).1]
    have e30' : u2 d.1 (mo + 28) (12 * (n : Int) + 3 + z).toNat (δ.1 (mo + 29) z.toNat) (mo + 30) z.toNat = δ.1 (mo + 30) z.toNat := by rw [u2_ne (by omega)]; exact e30
    refine Ok_inl (s' := (ii (z + 1), (u2 (u2 d.1 (mo + 28) (12 * (n : Int) + 3 + z).toNat (δ.1 (mo + 29) z.toNat)) (mo + 28) (12 * (n : Int) + 7 + z).toNat (δ.1 (mo + 30) z.toNat), d.2))) ?_ ⟨rfl, fun y hy => ?_, fun y hy => ?_, fun k hk => ?_, hF.tr ((Fr_u2 (P := fun r => r = mo + 28) rfl).tr (Fr_u2 (P := fun r => r = mo + 28) (δ := (u2 d.1 (mo + 28) (12 * (n : Int) + 3 + z).toNat (δ.1 (mo + 29) z.toNat), d.2)) rfl))⟩
    · simp (disch := omega) only [ii_lit, ii_le, if_neg, mg36 hK, mg38 hK, mg39 hK, ob_some, rI_kd (md38 hK), rI_kd (md39 hK), e29, e30', ii_add, wI_kd (md36 hK)]
    · by_cases hyz : (y : Int) = z
      · have ey : (12 * (n : Int) + 3 + z).toNat = 12 * n + 3 + y := by omega
        have ez : z.toNat = y := by omega
        rw [ey, ez]
        simp (disch := omega) only [u2, if_neg, and_self, ↓reduceIte]
      · simp (disch := omega) only [u2, if_neg]
        exact h1 y (by omega)
    · by_cases hyz : (y : Int) = z
      · have ey : (12 * (n : Int) + 7 + z).toNat = 12 * n + 7 + y := by omega
        have ez : z.toNat = y := by omega
        rw [ey, ez]
        simp (disch := omega) only [u2, if_neg, and_self, ↓reduceIte]
      · simp (disch := omega) only [u2, if_neg]
        exact h2 y (by omega)
    · simp (disch := omega) only [u2, if_neg]
      exact h3 k hk
  · rintro ⟨s1, d⟩ ⟨hs, h1, h2, h3, hF⟩
    dsimp only at hs h1 h2 h3 hF ⊢
    subst hs
    refine Ok_inr (r := (u2 d.1 (mo + 28) (12 * (n : Int) + 11).toNat (bi la), d.2)) ?_ ⟨fun y hy => ?_, fun y hy => ?_, ?_, fun k hk => ?_, hF.tr (Fr_u2 rfl)⟩
    · rw [if_pos (show (4 : Int32) ≤ ii 4 by decide)]
      cases la with
      | true =>
        have hnz : ¬ (bi true = (0 : Int32)) := by decide
        rw [mg36 hK, ob_some, if_neg hnz]
        simp (disch := omega) only [ii_lit, m_X12_fire_b362, ii_add, wI_kd (md36 hK), ob_some, bi_t]
      | false =>
        have hnz : (bi false = (0 : Int32)) := rfl
        rw [mg36 hK, ob_some, if_pos hnz]
        simp (disch := omega) only [ii_lit, m_X12_fire_b362, ii_add, wI_kd (md36 hK), ob_some, bi_f]
    · simp (disch := omega) only [u2, if_neg]
      exact h1 y (by omega)
    · simp (disch := omega) only [u2, if_neg]
      exact h2 y (by omega)
    · rw [show (12 * (n : Int) + 11).toNat = 12 * n + 11 by omega]
      simp only [u2, and_self, ↓reduceIte]
    · simp (disch := omega) only [u2, if_neg]
      exact h3 k (by omega)
theorem m_fire225 (hK : KM σ mo) (hR : RRm δ mo made Rs) (hm : made ≤ 8) (hS : RSm δ mo S) (hGS : GS S) {w one : Int} (w0 : 0 ≤ w) (w1 : w < made) (hG : GR (Rs w)) (o0 : 0 ≤ one) (o1 : one < s_nt S) (hsd : s_sd S one = true) {n : Nat} (hn : n ≤ 183) (ht : δ.1 mo 37 = ii n) (hB : RBm δ mo bd) {sl : Nat → Bool} (hsl : B32 (fun k => δ.1 (mo + 30) k) sl) {la : Bool} : Ok (m_X12_fire_b225 σ mo (ii w) (ii one) (bi la) δ) (fun d => RSm d mo (s_setsd S (upf (s_sd S) one (l_sy (Rs w) 0))) ∧ RMf Rs d mo n (.inr (.inr (w, 0, bd, sl, la))) ∧ (∀ k, ¬ (12 * n ≤ k ∧ k < 12 * n + 12) → d.1 (mo + 28) k = δ.1 (mo + 28) k) ∧ d.1 mo 37 = ii ((n : Int) + 1) ∧ (∀ k, ¬ k = 37 → d.1 mo k = δ.1 mo k) ∧ (∀ k, 522 ≤ k → d.1 (mo + 1) k = δ.1 (mo + 1) k) ∧ Fr (fun r => r = mo ∨ r = mo + 1 ∨ r = mo + 28) δ d) := by
  have gn := hGS.1
  have hhd := hG.1
  obtain ⟨a1, a2, -⟩ := hR.2 w w0 w1
  have b0 := (a2 0 (by omega) (by omega)).2.2.2
  have e3 : rI σ δ (mo + 10) (ii (8 * w + 3)) = some (bi (l_sy (Rs w) 0)) := rst (md10 hK) (by omega) (by omega) (by omega) b0
  have r4 := (m_t4 hK hS hGS o0 o1).2.2.2.1
  rw [hsd] at r4
  have key : Ok (m_X12_fire_b262 σ mo (ii w) (bi la) (mo + 1) (ii (422 + one)) (bi (l_sy (Rs w) 0)) δ) (fun d => RSm d mo (s_setsd S (upf (s_sd S) one (l_sy (Rs w) 0))) ∧ RMf Rs d mo n (.inr (.inr (w, 0, bd, sl, la))) ∧ (∀ k, ¬ (12 * n ≤ k ∧ k < 12 * n + 12) → d.1 (mo + 28) k = δ.1 (mo + 28) k) ∧ d.1 mo 37 = ii ((n : Int) + 1) ∧ (∀ k, ¬ k = 37 → d.1 mo k = δ.1 mo k) ∧ (∀ k, 522 ≤ k → d.1 (mo + 1) k = δ.1 (mo + 1) k) ∧ Fr (fun r => r = mo ∨ r = mo + 1 ∨ r = mo + 28) δ d) := by
    have hS1 := RSm_sd (v := l_sy (Rs w) 0) hS hGS o0 o1
    have F1 : Fr (fun r => r = mo + 1) δ (u2 δ.1 (mo + 1) (422 + one).toNat (bi (l_sy (Rs w) 0)), δ.2) := Fr_u2 rfl
    have k1 : ∀ k, 522 ≤ k → (u2 δ.1 (mo + 1) (422 + one).toNat (bi (l_sy (Rs w) 0)), δ.2).1 (mo + 1) k = δ.1 (mo + 1) k := fun k hk => by simp (disch := omega) only [u2, if_neg]
    unfold m_X12_fire_b262
    refine Ok_bind (wI_kd (md0 hK) (by omega) (by omega)) ?_
    generalize (u2 δ.1 (mo + 1) (422 + one).toNat (bi (l_sy (Rs w) 0)), δ.2) = d1 at hS1 F1 k1
    obtain ⟨d2, e2, p1, p2, p3, p4⟩ := m_pushFrame (δ := d1) hK (n := n) (by omega) (by rw [(F1 mo (by omega)).1]; exact ht) (kd := ii 1)
    have F3 : Fr (fun r => r = mo + 28) d2 (u2 d2.1 (mo + 28) (12 * (n : Int) + 1).toNat (ii w), d2.2) := Fr_u2 rfl
    have k3 : ∀ k, (u2 d2.1 (mo + 28) (12 * (n : Int) + 1).toNat (ii w), d2.2).1 (mo + 28) k = if k = 12 * n + 1 then ii w else d2.1 (mo + 28) k := by
      intro k
      rw [show (12 * (n : Int) + 1).toNat = 12 * n + 1 by omega]
      simp only [u2, true_and]
    have hn12 : ii 12 * (ii ((n : Int) + 1) - ii 1) = ii (12 * n) := by rw [ii_sub, ii_mul]; exact congrArg ii (by omega)
    rw [show ((1 : Int32)) = ii 1 from rfl, show ((12 : Int32)) = ii 12 from rfl, show ((0 : Int32)) = ii 0 from rfl, chk_ko hK.1, ob_some, e2, ob_some, gI_ko hK.1, ob_some, p2, mg36 hK, ob_some, hn12, ii_add]
    refine Ok_bind (wI_kd (md36 hK) (by omega) (by omega)) ?_
    generalize (u2 d2.1 (mo + 28) (12 * (n : Int) + 1).toNat (ii w), d2.2) = d3 at F3 k3
    obtain ⟨d4, e4, q1, q2, q3, q4, q5⟩ := m_fire292 (δ := d3) hK (n := n) (by omega) (la := la)
    have F13 : Fr (fun r => r = mo ∨ r = mo + 28) d1 d3 := p4.tr (F3.wk (fun r p => Or.inr p))
    have F03 : Fr (fun r => r = mo ∨ r = mo + 1 ∨ r = mo + 28) δ d3 := (F1.wk (fun r p => by omega)).tr (F13.wk (fun r p => by omega))
    have h28 : ∀ k, ¬ (12 * n + 3 ≤ k ∧ k < 12 * n + 12) → d4.1 (mo + 28) k = if k = 12 * n + 1 then ii w else if k = 12 * n then ii 1 else if 12 * n < k ∧ k < 12 * n + 12 then ii 0 else d1.1 (mo + 28) k := by
      intro k hk
      rw [q4 k hk, k3, p1]
    refine ⟨d4, e4, RSm_eq hS1 (GS_setsd hGS _) (fun k _ => by rw [(q5 (mo + 1) (by omega)).1, (F13 (mo + 1) (by omega)).1]), ⟨?_, ?_, ?_, fun z hz => ?_, fun k s hk hs => ?_, q3⟩, fun k hk => ?_, ?_, fun k hk => ?_, fun k hk => ?_, F03.tr (q5.wk (fun r p => by omega))⟩
    · rw [h28 _ (by omega), if_neg (by omega), if_pos rfl]
    · rw [h28 _ (by omega), if_pos rfl]
    · rw [h28 _ (by omega), if_neg (by omega), if_neg (by omega), if_pos (by omega)]
    · rw [q1 z hz, (F03 (mo + 29) (by omega)).1]
      have := hB (z : Int) (by omega) (by omega)
      rw [Int.toNat_natCast] at this
      exact this
    · show (d4.1 (mo + 28) (12 * n + 7 + k)).toBitVec.getLsbD s = _
      rw [q2 k hk, (F03 (mo + 30) (by omega)).1]
      exact hsl k s hk hs
    · rw [h28 k (by omega), if_neg (by omega), if_neg (by omega), if_neg (by omega), (F1 (mo + 28) (by omega)).1]
    · rw [(q5 mo (by omega)).1, (F3 mo (by omega)).1]; exact p2
    · rw [(q5 mo (by omega)).1, (F3 mo (by omega)).1, p3 k hk, (F1 mo (by omega)).1]
    · rw [(q5 (mo + 1) (by omega)).1, (F13 (mo + 1) (by omega)).1]; exact k1 k hk
  obtain ⟨X, eX, hX⟩ := key
  refine ⟨X, ?_, hX⟩
  unfold m_X12_fire_b225
  cases hsy : l_sy (Rs w) 0 with
  | false =>
    rw [hsy] at e3 eX
    have hz : bi false = ii 0 := rfl
    simp (disch := omega) only [mg0 hK, mg10 hK, ob_some, ii_lit, ii_mul, ii_add, e3, hz, ↓reduceIte]
    exact eX
  | true =>
    rw [hsy] at e3 eX
    have hnz : ¬ (bi true = ii 0) := by decide
    simp (disch := omega) only [mg0 hK, mg10 hK, ob_some, ii_lit, ii_mul, ii_add, e3, hnz, ↓reduceIte, r4]
    exact eX
end
