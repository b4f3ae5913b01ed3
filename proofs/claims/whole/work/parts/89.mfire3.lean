/-! THE REFERENCE: firing -/
section
variable {σ : St} {δ : Dy} {mo : Nat} {S : Sto} {V : Vw} {Rs : Int → Rl} {R : Rl} {made : Int} {bd : Int → Int}
/-- what the end of a firing leaves -/
def FE (Rs : Int → Rl) (mo n : Nat) (δ d : Dy) (S' : Sto) (f : Frm) : Prop := RSm d mo S' ∧ RMf Rs d mo n f ∧ (∀ k, ¬ (12 * n ≤ k ∧ k < 12 * n + 12) → d.1 (mo + 28) k = δ.1 (mo + 28) k) ∧ d.1 mo 37 = ii ((n : Int) + 1) ∧ (∀ k, ¬ k = 37 → d.1 mo k = δ.1 mo k) ∧ (∀ k, 522 ≤ k → d.1 (mo + 1) k = δ.1 (mo + 1) k) ∧ Fr (fun r => r = mo ∨ r = mo + 1 ∨ r = mo + 28 ∨ r = mo + 30) δ d
theorem m_fire145 (hK : KM σ mo) (hR : RRm δ mo made Rs) (hm : made ≤ 8) (hS : RSm δ mo S) (hGS : GS S) {w one two : Int} (w0 : 0 ≤ w) (w1 : w < made) (hG : GR (Rs w)) (o0 : 0 ≤ one) (o1 : one < s_nt S) (hsd : s_sd S one = true) (t0 : (l_hd (Rs w) < 2 ∧ two = -1) ∨ (¬ l_hd (Rs w) < 2 ∧ (0 ≤ two ∧ two < s_nt S) ∧ s_sd S two = true ∧ ¬ one = two)) {n : Nat} (hn : n ≤ 183) (ht : δ.1 mo 37 = ii n) (hB : RBm δ mo bd) (hz : ∀ k, k < 4 → δ.1 (mo + 30) k = ii 0) : Ok (m_X12_fire_b145 σ mo (ii w) (ii one) (ii two) (bi (s_la S one)) δ) (fun d => FE Rs mo n δ d (s_setsd S (fireSd S (Rs w) one two)) (.inr (.inr (w, 0, bd, fireSl S (Rs w) one two, fireLa S (Rs w) one two)))) := by
  have gn := hGS.1
  have hhd := hG.1
  obtain ⟨d1, e1, b1, F1⟩ := m_addSlice hK hS hGS (sl := fun _ => false) (B32_eq B32_zero hz) o0 o1
  have hR1 : RRm d1 mo made Rs := RRm_eq hR (by rw [(F1 mo (by omega)).1]) (fun r a b => (F1 r (by omega)).1)
  have hS1 : RSm d1 mo S := RSm_eq hS hGS (fun k _ => by rw [(F1 (mo + 1) (by omega)).1])
  have hB1 : RBm d1 mo bd := fun z z0 z1 => by rw [(F1 (mo + 29) (by omega)).1]; exact hB z z0 z1
  unfold m_X12_fire_b145
  refine Ok_bind (chk_ko hK.1) (Ok_bind e1 ?_)
  rcases t0 with ⟨h2, rfl⟩ | ⟨h2, ⟨t0, t1⟩, hsd2, hne⟩
  · rw [if_pos (show ii (-1) = (-1 : Int32) from rfl)]
    have hsl : B32 (fun k => d1.1 (mo + 30) k) (fireSl S (Rs w) one (-1)) := B32_cg b1 (fun k _ => by
      unfold fireSl
      rw [decide_eq_true h2]
      cases decide (k = one.toNat) <;> cases s_sl S one k <;> rfl)
    have hla : fireLa S (Rs w) one (-1) = s_la S one := by
      unfold fireLa
      rw [decide_eq_true h2, Bool.true_or, Bool.and_true]
    have hfs : fireSd S (Rs w) one (-1) = upf (s_sd S) one (l_sy (Rs w) 0) := by
      unfold fireSd
      rw [if_pos h2]
    rw [hla, hfs]
    obtain ⟨d, e, q1, q2, q3, q4, q5, q6, q7⟩ := m_fire225 hK hR1 hm hS1 hGS w0 w1 hG o0 o1 hsd hn (by rw [(F1 mo (by omega)).1]; exact ht) hB1 hsl (la := s_la S one)
    exact ⟨d, e, q1, q2, fun k hk => by rw [q3 k hk, (F1 (mo + 28) (by omega)).1], q4, fun k hk => by rw [q5 k hk, (F1 mo (by omega)).1], fun k hk => by rw [q6 k hk, (F1 (mo + 1) (by omega)).1], (F1.wk (fun r p => by omega)).tr (q7.wk (fun r p => by omega))⟩
  · rw [if_neg (show ¬ ii two = (-1 : Int32) by rw [show (-1 : Int32) = ii (-1) from rfl, ii_eq (by omega) (by omega) (by omega) (by omega)]; omega)]
    obtain ⟨d2, e2, b2, F2⟩ := m_addSlice hK hS1 hGS b1 t0 t1
    have F12 := F1.tr F2
    have hR2 : RRm d2 mo made Rs := RRm_eq hR (by rw [(F12 mo (by omega)).1]) (fun r a b => (F12 r (by omega)).1)
    have hS2 : RSm d2 mo S := RSm_eq hS hGS (fun k _ => by rw [(F12 (mo + 1) (by omega)).1])
    refine Ok_bind (chk_ko hK.1) (Ok_bind e2 ?_)
    obtain ⟨-, -, -, r4, r5⟩ := m_t4 hK hS2 hGS t0 t1
    rw [hsd2] at r4
    -- the second token
    have hS3 := RSm_sd (v := l_sy (Rs w) 1) hS2 hGS t0 t1
    have F3 : Fr (fun r => r = mo + 1) d2 (u2 d2.1 (mo + 1) (422 + two).toNat (bi (l_sy (Rs w) 1)), d2.2) := Fr_u2 rfl
    have k3 : ∀ k, 522 ≤ k → (u2 d2.1 (mo + 1) (422 + two).toNat (bi (l_sy (Rs w) 1)), d2.2).1 (mo + 1) k = d2.1 (mo + 1) k := fun k hk => by simp (disch := omega) only [u2, if_neg]
    have ew : ∀ x : Int32, x = bi (l_sy (Rs w) 1) → wI σ d2 (mo + 1) (ii (422 + two)) x = some (u2 d2.1 (mo + 1) (422 + two).toNat (bi (l_sy (Rs w) 1)), d2.2) := fun x hx => by rw [hx, wI_kd (md0 hK) (by omega) (by omega)]
    generalize (u2 d2.1 (mo + 1) (422 + two).toNat (bi (l_sy (Rs w) 1)), d2.2) = d3 at hS3 F3 k3 ew
    have F13 : Fr (fun r => r = mo + 1 ∨ r = mo + 30) δ d3 := (F12.wk (fun r p => by omega)).tr (F3.wk (fun r p => by omega))
    have hR3 : RRm d3 mo made Rs := RRm_eq hR (by rw [(F13 mo (by omega)).1]) (fun r a b => (F13 r (by omega)).1)
    have hB3 : RBm d3 mo bd := fun z z0 z1 => by rw [(F13 (mo + 29) (by omega)).1]; exact hB z z0 z1
    have hsl : B32 (fun k => d3.1 (mo + 30) k) (fireSl S (Rs w) one two) := B32_cg (B32_eq b2 (fun k _ => by rw [(F3 (mo + 30) (by omega)).1])) (fun k _ => by
      unfold fireSl
      rw [decide_eq_false h2]
      cases decide (k = one.toNat) <;> cases s_sl S one k <;> cases decide (k = two.toNat) <;> cases s_sl S two k <;> rfl)
    have hla : fireLa S (Rs w) one two = (s_la S one && s_la S two) := by
      unfold fireLa
      rw [decide_eq_false h2, Bool.false_or]
    have hfs : s_setsd S (fireSd S (Rs w) one two) = s_setsd (s_setsd S (upf (s_sd S) two (l_sy (Rs w) 1))) (upf (upf (s_sd S) two (l_sy (Rs w) 1)) one (l_sy (Rs w) 0)) := by
      have : fireSd S (Rs w) one two = upf (upf (s_sd S) two (l_sy (Rs w) 1)) one (l_sy (Rs w) 0) := by
        unfold fireSd
        rw [if_neg h2]
        funext z
        unfold upf
        by_cases hz1 : z = two
        · rw [if_pos hz1, if_neg (by omega), if_pos hz1]
        · rw [if_neg hz1]
          by_cases hz2 : z = one
          · rw [if_pos hz2, if_pos hz2]
          · rw [if_neg hz2, if_neg hz2, if_neg hz1]
      rw [this]
    rw [hla, hfs]
    obtain ⟨d, e, q1, q2, q3, q4, q5, q6, q7⟩ := m_fire225 hK hR3 hm hS3 (GS_setsd hGS _) w0 w1 hG o0 o1 (by show upf (s_sd S) two (l_sy (Rs w) 1) one = true; unfold upf; rw [if_neg (by omega)]; exact hsd) hn (by rw [(F13 mo (by omega)).1]; exact ht) hB3 hsl (la := s_la S one && s_la S two)
    refine ⟨d, ?_, q1, q2, fun k hk => by rw [q3 k hk, (F13 (mo + 28) (by omega)).1], q4, fun k hk => by rw [q5 k hk, (F13 mo (by omega)).1], fun k hk => by rw [q6 k hk, k3 k hk, (F12 (mo + 1) (by omega)).1], (F13.wk (fun r p => by omega)).tr (q7.wk (fun r p => by omega))⟩
    obtain ⟨a1, a2, -⟩ := hR2.2 w w0 w1
    have b7 := (a2 1 (by omega) (by omega)).2.2.2
    have e7 : rI σ d2 (mo + 10) (ii (8 * w + 7)) = some (bi (l_sy (Rs w) 1)) := rst (md10 hK) (by omega) (by omega) (by omega) b7
    have e183 : ∀ q : Bool, (s_la S one && q) = (s_la S one && s_la S two) → m_X12_fire_b183 σ mo (ii w) (ii one) (ii two) (bi (s_la S one)) (bi q) d2 = some d := by
      intro q hq
      have hand : bi (s_la S one) &&& bi q = bi (s_la S one && s_la S two) := by rw [← hq]; cases s_la S one <;> cases q <;> decide
      unfold m_X12_fire_b183
      cases hsy : l_sy (Rs w) 1 with
      | false =>
        rw [hsy] at e7 ew
        have hz' : bi false = ii 0 := rfl
        have ew' := ew (ii 0) rfl
        simp (disch := omega) only [mg0 hK, mg10 hK, ob_some, ii_lit, ii_mul, ii_add, e7, hz', ↓reduceIte, hand, m_X12_fire_b224, ew']
        exact e
      | true =>
        rw [hsy] at e7 ew
        have hnz : ¬ (bi true = ii 0) := by decide
        have ew' := ew (bi true) rfl
        simp (disch := omega) only [mg0 hK, mg10 hK, ob_some, ii_lit, ii_mul, ii_add, e7, hnz, ↓reduceIte, hand, r4, m_X12_fire_b224, ew']
        exact e
    cases hl2 : s_la S two with
    | true =>
      rw [hl2] at r5
      have h1 : bi true = ii 1 := rfl
      have e183' := e183 true (by rw [hl2])
      rw [h1] at e183'
      simp (disch := omega) only [mg0 hK, ob_some, ii_lit, ii_add, r5, h1, ↓reduceIte]
      exact e183'
    | false =>
      rw [hl2] at r5
      have h1 : ¬ (bi false = ii 1) := by decide
      have e183' := e183 false (by rw [hl2])
      have h0 : bi false = ii 0 := rfl
      simp (disch := omega) only [mg0 hK, ob_some, ii_lit, ii_add, r5, h1, ↓reduceIte]
      rw [h0] at e183'
      exact e183'
theorem m_fire103 (hK : KM σ mo) (hR : RRm δ mo made Rs) (hm : made ≤ 8) (hS : RSm δ mo S) (hGS : GS S) {w one two : Int} (w0 : 0 ≤ w) (w1 : w < made) (hG : GR (Rs w)) (o0 : 0 ≤ one) (o1 : one < s_nt S) (hsd : s_sd S one = true) (t0 : (l_hd (Rs w) < 2 ∧ two = -1) ∨ (¬ l_hd (Rs w) < 2 ∧ (0 ≤ two ∧ two < s_nt S) ∧ s_sd S two = true ∧ ¬ one = two)) {n : Nat} (hn : n ≤ 183) (ht : δ.1 mo 37 = ii n) (hB : RBm δ mo bd) : Ok (m_X12_fire_b103 σ mo (ii w) (ii one) (ii two) δ) (fun d => FE Rs mo n δ d (s_setsd S (fireSd S (Rs w) one two)) (.inr (.inr (w, 0, bd, fireSl S (Rs w) one two, fireLa S (Rs w) one two)))) := by
  unfold m_X12_fire_b103 m_X12_fire_b106
  refine Ok_for (fun z s => s.1 = ii z ∧ (∀ k : Nat, (k : Int) < z → s.2.1 (mo + 30) k = ii 0) ∧ Fr (fun r => r = mo + 30) δ s.2) 0 4 (by omega) (by omega) ?_ ?_ ⟨rfl, fun k hk => by omega, Fr.rf⟩
  · rintro z ⟨s1, d⟩ z0 z1 ⟨hs, hk, hF⟩
    dsimp only at hs hk hF ⊢
    subst hs
    refine Ok_inl (s' := (ii (z + 1), (u2 d.1 (mo + 30) z.toNat (ii 0), d.2))) (by simp (disch := omega) only [ii_lit, ii_le, if_neg, mg39 hK, ob_some, wI_kd (md39 hK), ii_add]) ⟨rfl, fun k hk2 => ?_, hF.tr (Fr_u2 rfl)⟩
    dsimp only
    by_cases hkz : k = z.toNat
    · rw [hkz]
      simp only [u2, and_self, ↓reduceIte]
    · simp (disch := omega) only [u2, if_neg]
      exact hk k (by omega)
  · rintro ⟨s1, d⟩ ⟨hs, hk, hF⟩
    dsimp only at hs hk hF ⊢
    subst hs
    have hR1 : RRm d mo made Rs := RRm_eq hR (by rw [(hF mo (by omega)).1]) (fun r a b => (hF r (by omega)).1)
    have hS1 : RSm d mo S := RSm_eq hS hGS (fun k _ => by rw [(hF (mo + 1) (by omega)).1])
    have hB1 : RBm d mo bd := fun z z0 z1 => by rw [(hF (mo + 29) (by omega)).1]; exact hB z z0 z1
    obtain ⟨D, eD, q1, q2, q3, q4, q5, q6, q7⟩ := m_fire145 hK hR1 hm hS1 hGS w0 w1 hG o0 o1 hsd t0 hn (by rw [(hF mo (by omega)).1]; exact ht) hB1 (fun k hk2 => hk k (by omega))
    refine Ok_inr (r := D) ?_ ⟨q1, q2, fun k hk2 => by rw [q3 k hk2, (hF (mo + 28) (by omega)).1], q4, fun k hk2 => by rw [q5 k hk2, (hF mo (by omega)).1], fun k hk2 => by rw [q6 k hk2, (hF (mo + 1) (by omega)).1], (hF.wk (fun r p => by omega)).tr q7⟩
    have r5 := (m_t4 hK hS1 hGS o0 o1).2.2.2.2
    have gn := hGS.1
    cases hl1 : s_la S one with
    | true =>
      rw [hl1] at r5 eD
      have h1 : bi true = ii 1 := rfl
      rw [h1] at eD
      simp (disch := omega) only [ii_lit, ii_le, if_pos, mg0 hK, ob_some, ii_add, r5, h1, ↓reduceIte, eD]
    | false =>
      rw [hl1] at r5 eD
      have h1 : ¬ (bi false = ii 1) := by decide
      have h0 : bi false = ii 0 := rfl
      rw [h0] at eD
      simp (disch := omega) only [ii_lit, ii_le, if_pos, mg0 hK, ob_some, ii_add, r5, h1, ↓reduceIte, eD]
theorem m_fire (hK : KM σ mo) (hR : RRm δ mo made Rs) (hm : made ≤ 8) (hV : RVm δ mo Rs V) (hGV : GV Rs made V) {w one two : Int} (w0 : 0 ≤ w) (w1 : w < made) (o0 : 0 ≤ one) (o1 : one < s_nt (v_S V)) (hsd : s_sd (v_S V) one = true) (t0 : (l_hd (Rs w) < 2 ∧ two = -1) ∨ (¬ l_hd (Rs w) < 2 ∧ (0 ≤ two ∧ two < s_nt (v_S V)) ∧ s_sd (v_S V) two = true ∧ ¬ one = two)) (hh : (v_hi V).length ≤ 1900) (hB : RBm δ mo bd) : Ok (m_X12_fire σ mo (ii w) (ii one) (ii two) δ) (fun d => RVm d mo Rs (fireV V Rs w one two bd) ∧ FM mo δ d) := by
  obtain ⟨hS, ⟨f1, f2, f3⟩, hfr, hhi, hfi⟩ := id hV
  obtain ⟨g1, g2, g3, g4, g5, g6, g7, g8⟩ := id hGV
  have gn := g1.1
  have hG := g4 w w0 w1
  have hl : (v_fr V).length ≤ 182 := by
    have := okF_len g6
    omega
  unfold m_X12_fire fireV
  by_cases hac : v_ac V < 60
  · rw [if_pos hac]
    -- the act
    have F1 : Fr (fun r => r = mo) δ (u2 δ.1 mo 34 (ii (v_ac V + 1)), δ.2) := Fr_u2 rfl
    have e1 : pI σ δ 12 mo 34 (ii (v_ac V + 1)) = some (u2 δ.1 mo 34 (ii (v_ac V + 1)), δ.2) := pI_ko hK.1
    have k1 : ∀ k, ¬ k = 34 → (u2 δ.1 mo 34 (ii (v_ac V + 1)), δ.2).1 mo k = δ.1 mo k := fun k hk => by simp (disch := omega) only [u2, if_neg]
    have k1' : (u2 δ.1 mo 34 (ii (v_ac V + 1)), δ.2).1 mo 34 = ii (v_ac V + 1) := by simp only [u2, and_self, ↓reduceIte]
    generalize (u2 δ.1 mo 34 (ii (v_ac V + 1)), δ.2) = d1 at F1 e1 k1 k1'
    -- the count
    have rf : rI σ d1 (mo + 1) (ii (7023 + w)) = some (ii (v_fi V w)) := by
      have := hfi w.toNat (by omega)
      refine rst (md0 hK) (by omega) (by omega) (show (7023 + w).toNat = 7023 + w.toNat by omega) ?_
      rw [(F1 (mo + 1) (by omega)).1, this, show ((w.toNat : Nat) : Int) = w by omega]
    have F2 : Fr (fun r => r = mo + 1) d1 (u2 d1.1 (mo + 1) (7023 + w).toNat (ii (v_fi V w + 1)), d1.2) := Fr_u2 rfl
    have e2 : wI σ d1 (mo + 1) (ii (7023 + w)) (ii (v_fi V w + 1)) = some (u2 d1.1 (mo + 1) (7023 + w).toNat (ii (v_fi V w + 1)), d1.2) := wI_kd (md0 hK) (by omega) (by omega)
    have k2 : ∀ k, (u2 d1.1 (mo + 1) (7023 + w).toNat (ii (v_fi V w + 1)), d1.2).1 (mo + 1) k = if k = 7023 + w.toNat then ii (v_fi V w + 1) else δ.1 (mo + 1) k := by
      intro k
      rw [show (7023 + w).toNat = 7023 + w.toNat by omega]
      simp only [u2, true_and]
      rw [(F1 (mo + 1) (by omega)).1]
    generalize (u2 d1.1 (mo + 1) (7023 + w).toNat (ii (v_fi V w + 1)), d1.2) = d2 at F2 e2 k2
    have F02 : Fr (fun r => r = mo ∨ r = mo + 1) δ d2 := (F1.wk (fun r p => Or.inl p)).tr (F2.wk (fun r p => Or.inr p))
    have hR2 : RRm d2 mo made Rs := RRm_eq hR (by rw [(F2 mo (by omega)).1, k1 14 (by decide)]) (fun r a b => (F02 r (by omega)).1)
    have er := m_removes hK hR2 hm w0 w1 hG
    -- the history is written, or not
    have main : ∀ (d3 : Dy) (hi' : Hst), RRm d3 mo made Rs → (∀ k, k < 1022 ∨ 7023 ≤ k → d3.1 (mo + 1) k = d2.1 (mo + 1) k) → RMh d3 mo Rs hi' → hi'.length ≤ 2000 → Fr (fun r => r = mo + 1) d2 d3 → Ok (m_X12_fire_b103 σ mo (ii w) (ii one) (ii two) d3) (fun d => RVm d mo Rs (s_setsd (v_S V) (fireSd (v_S V) (Rs w) one two), .inr (.inr (w, 0, bd, fireSl (v_S V) (Rs w) one two, fireLa (v_S V) (Rs w) one two)) :: v_fr V, hi', upf (v_fi V) w (v_fi V w + 1), v_ac V + 1, v_fl V) ∧ FM mo δ d) := by
      intro d3 hi' hR3 k3 hH3 hhl F3
      have hS3 : RSm d3 mo (v_S V) := RSm_eq hS g1 (fun k hk => by rw [k3 k (Or.inl hk), k2, if_neg (by omega)])
      have hB3 : RBm d3 mo bd := fun z z0 z1 => by rw [(F3 (mo + 29) (by omega)).1, (F02 (mo + 29) (by omega)).1]; exact hB z z0 z1
      have hm3 : ∀ k, ¬ k = 34 → d3.1 mo k = δ.1 mo k := fun k hk => by rw [(F3 mo (by omega)).1, (F2 mo (by omega)).1, k1 k hk]
      obtain ⟨D, eD, q1, q2, q3, q4, q5, q6, q7⟩ := m_fire103 hK hR3 hm hS3 g1 w0 w1 hG o0 o1 hsd t0 (n := (v_fr V).length) (by omega) (by rw [hm3 37 (by decide)]; exact f3) hB3
      refine ⟨D, eD, ⟨q1, ⟨?_, ?_, ?_⟩, ⟨q2, RMfr_eq hfr (fun k hk => by rw [q3 k (by omega), (F3 (mo + 28) (by omega)).1, (F02 (mo + 28) (by omega)).1])⟩, RMh_eq hH3 (fun k h1 h2 => q6 k (by omega)) hhl, fun z hz => ?_⟩, fun r hr => ?_, fun k hk => ?_, fun k hk => ?_⟩
      · rw [q5 34 (by decide), (F3 mo (by omega)).1, (F2 mo (by omega)).1]; exact k1'
      · rw [q5 35 (by decide), hm3 35 (by decide)]; exact f2
      · rw [q4]; rfl
      · rw [q6 _ (by omega), k3 _ (by omega), k2]
        show _ = ii (upf (v_fi V) w (v_fi V w + 1) (z : Int))
        unfold upf
        by_cases hzw : (z : Int) = w
        · rw [if_pos (by omega), if_pos hzw]
        · rw [if_neg (by omega), if_neg hzw]; exact hfi z hz
      · exact ⟨(q7 r (by omega)).1.trans ((F3 r (by omega)).1.trans (F02 r (by omega)).1), (q7 r (by omega)).2.trans ((F3 r (by omega)).2.trans (F02 r (by omega)).2)⟩
      · rw [q5 k (by omega), hm3 k (by omega)]
      · rw [q6 k (by omega), k3 k (by omega), k2, if_neg (by omega)]
    have f1' : δ.1 mo 34 = ii (v_ac V) := f1
    have hHd2 : RMh d2 mo Rs (v_hi V) := RMh_eq hhi (fun k h1 h2 => by rw [k2, if_neg (by omega)]) (by omega)
    cases hrm : rmNone (Rs w) with
    | false =>
      rw [hrm] at er
      rw [if_neg (by decide)]
      obtain ⟨D, eD, hD⟩ := main d2 (v_hi V) hR2 (fun _ _ => rfl) hHd2 (by omega) Fr.rf
      refine ⟨D, ?_, hD⟩
      have hnz : ¬ (bi (!false) = ii 0) := by decide
      simp (disch := omega) only [gI_ko hK.1, f1', ob_some, ii_lit, ii_eq, if_neg, ii_add, e1, mg0 hK, rf, e2, chk_ko hK.1, er, hnz, ↓reduceIte, eD]
    | true =>
      rw [hrm] at er
      rw [if_pos rfl]
      have hl0 := hHd2.1
      have rl : rI σ d2 (mo + 1) (ii 1022) = some (ii (v_hi V).length) := rst (md0 hK) (by omega) (by omega) rfl hl0
      obtain ⟨L, hL⟩ : ∃ L : Nat, (v_hi V).length = L := ⟨_, rfl⟩
      rw [hL] at rl hh
      have F3 : Fr (fun r => r = mo + 1) d2 (u2 (u2 (u2 d2.1 (mo + 1) (1023 + 3 * (L : Int)).toNat (ii w)) (mo + 1) (1023 + 3 * (L : Int) + 1).toNat (ii one)) (mo + 1) (1023 + 3 * (L : Int) + 2).toNat (ii two), d2.2) := fun r hr => ⟨by simp (disch := omega) only [u2_ne], rfl⟩
      have rl3 : rI σ (u2 (u2 (u2 d2.1 (mo + 1) (1023 + 3 * (L : Int)).toNat (ii w)) (mo + 1) (1023 + 3 * (L : Int) + 1).toNat (ii one)) (mo + 1) (1023 + 3 * (L : Int) + 2).toNat (ii two), d2.2) (mo + 1) (ii 1022) = some (ii L) := by
        refine rst (md0 hK) (by omega) (by omega) rfl ?_
        simp (disch := omega) only [u2, if_neg]
        rw [← hL]; exact hl0
      have k4 : ∀ k, u2 (u2 (u2 (u2 d2.1 (mo + 1) (1023 + 3 * (L : Int)).toNat (ii w)) (mo + 1) (1023 + 3 * (L : Int) + 1).toNat (ii one)) (mo + 1) (1023 + 3 * (L : Int) + 2).toNat (ii two)) (mo + 1) (1022 : Int).toNat (ii ((L : Int) + 1)) (mo + 1) k = if k = 1022 then ii ((L : Int) + 1) else if k = 1025 + 3 * L then ii two else if k = 1024 + 3 * L then ii one else if k = 1023 + 3 * L then ii w else d2.1 (mo + 1) k := by
        intro k
        rw [show (1023 + 3 * (L : Int) + 2).toNat = 1025 + 3 * L by omega, show (1023 + 3 * (L : Int) + 1).toNat = 1024 + 3 * L by omega, show (1023 + 3 * (L : Int)).toNat = 1023 + 3 * L by omega, show (1022 : Int).toNat = 1022 from rfl]
        simp only [u2, true_and]
      have F4 : Fr (fun r => r = mo + 1) d2 (u2 (u2 (u2 (u2 d2.1 (mo + 1) (1023 + 3 * (L : Int)).toNat (ii w)) (mo + 1) (1023 + 3 * (L : Int) + 1).toNat (ii one)) (mo + 1) (1023 + 3 * (L : Int) + 2).toNat (ii two)) (mo + 1) (1022 : Int).toNat (ii ((L : Int) + 1)), d2.2) := fun r hr => ⟨by simp (disch := omega) only [u2_ne], rfl⟩
      obtain ⟨D, eD, hD⟩ := main (u2 (u2 (u2 (u2 d2.1 (mo + 1) (1023 + 3 * (L : Int)).toNat (ii w)) (mo + 1) (1023 + 3 * (L : Int) + 1).toNat (ii one)) (mo + 1) (1023 + 3 * (L : Int) + 2).toNat (ii two)) (mo + 1) (1022 : Int).toNat (ii ((L : Int) + 1)), d2.2) (v_hi V ++ [(w, one, mx0 two)]) (RRm_eq hR2 (by rw [(F4 mo (by omega)).1]) (fun r a b => (F4 r (by omega)).1)) (fun k hk => by
          dsimp only
          rw [k4]; simp (disch := omega) only [if_neg]) (by
        refine ⟨?_, fun j e he => ?_⟩
        · dsimp only
          rw [k4, if_pos rfl, List.length_append, List.length_singleton, hL]
          rfl
        · dsimp only
          rw [k4, k4, k4]
          by_cases hj : j < (v_hi V).length
          · rw [List.getElem?_append_left hj] at he
            simp (disch := omega) only [if_neg]
            exact hHd2.2 j e he
          · rw [List.getElem?_append_right (by omega)] at he
            have hj2 : j = L := by
              by_cases hz : j - (v_hi V).length = 0
              · omega
              · rw [List.getElem?_eq_none (by simp only [List.length_cons, List.length_nil]; omega)] at he
                cases he
            rw [hj2, hL, Nat.sub_self] at he
            cases he
            subst hj2
            refine ⟨?_, ?_, ?_⟩
            · rw [if_neg (by omega), if_neg (by omega), if_neg (by omega), if_pos rfl]
            · rw [if_neg (by omega), if_neg (by omega), if_pos rfl]
            rw [if_neg (by omega), if_pos rfl]
            unfold mx0
            rcases t0 with ⟨h, h2⟩ | ⟨h, ⟨h2, h3⟩, -⟩
            · rw [if_pos h, h2]
            · rw [if_neg h, if_neg (by omega)]) (by rw [List.length_append, List.length_singleton]; omega) F4
      refine ⟨D, ?_, hD⟩
      have hz' : (bi (!true) = ii 0) := rfl
      have w1' : wI σ d2 (mo + 1) (ii (1023 + 3 * (L : Int))) (ii w) = some (u2 d2.1 (mo + 1) (1023 + 3 * (L : Int)).toNat (ii w), d2.2) := wI_kd (md0 hK) (by omega) (by omega)
      have w2' : wI σ (u2 d2.1 (mo + 1) (1023 + 3 * (L : Int)).toNat (ii w), d2.2) (mo + 1) (ii (1023 + 3 * (L : Int) + 1)) (ii one) = some (u2 (u2 d2.1 (mo + 1) (1023 + 3 * (L : Int)).toNat (ii w)) (mo + 1) (1023 + 3 * (L : Int) + 1).toNat (ii one), d2.2) := wI_kd (md0 hK) (by omega) (by omega)
      have w3' : wI σ (u2 (u2 d2.1 (mo + 1) (1023 + 3 * (L : Int)).toNat (ii w)) (mo + 1) (1023 + 3 * (L : Int) + 1).toNat (ii one), d2.2) (mo + 1) (ii (1023 + 3 * (L : Int) + 2)) (ii two) = some (u2 (u2 (u2 d2.1 (mo + 1) (1023 + 3 * (L : Int)).toNat (ii w)) (mo + 1) (1023 + 3 * (L : Int) + 1).toNat (ii one)) (mo + 1) (1023 + 3 * (L : Int) + 2).toNat (ii two), d2.2) := wI_kd (md0 hK) (by omega) (by omega)
      have w4' : wI σ (u2 (u2 (u2 d2.1 (mo + 1) (1023 + 3 * (L : Int)).toNat (ii w)) (mo + 1) (1023 + 3 * (L : Int) + 1).toNat (ii one)) (mo + 1) (1023 + 3 * (L : Int) + 2).toNat (ii two), d2.2) (mo + 1) (ii 1022) (ii ((L : Int) + 1)) = some (u2 (u2 (u2 (u2 d2.1 (mo + 1) (1023 + 3 * (L : Int)).toNat (ii w)) (mo + 1) (1023 + 3 * (L : Int) + 1).toNat (ii one)) (mo + 1) (1023 + 3 * (L : Int) + 2).toNat (ii two)) (mo + 1) (1022 : Int).toNat (ii ((L : Int) + 1)), d2.2) := wI_kd (md0 hK) (by omega) (by omega)
      simp (disch := omega) only [gI_ko hK.1, f1', ob_some, ii_lit, ii_eq, if_neg, ii_mul, ii_add, e1, mg0 hK, rf, e2, chk_ko hK.1, er, hz', ↓reduceIte, rl, w1', w2', w3', w4', rl3, eD]
  · rw [if_neg hac]
    have h60 : v_ac V = 60 := by omega
    obtain ⟨q1, q2⟩ := RVm_fl hK hV g1 (by omega) (b := true)
    refine ⟨_, ?_, q1, q2⟩
    have epz : pZ σ δ 12 mo 35 (ii 1) = some (u2 δ.1 mo 35 (bi true), δ.2) := pZ_ko hK.1 (Or.inr rfl)
    rw [gI_ko hK.1, ob_some, f1, h60, if_pos (show ii 60 = (60 : Int32) from rfl), show ((1 : Int32)) = ii 1 from rfl, epz, ob_some]
end
