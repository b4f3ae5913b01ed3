/-! THE REFERENCE: waking; equalities told -/
section
variable {σ : St} {δ : Dy} {mo : Nat} {S : Sto} {V : Vw} {Rs : Int → Rl}
theorem m_againFor (hK : KM σ mo) (hR : RSm δ mo S) (hG : GS S) {n : Nat} (hn : n ≤ 183) (ht : δ.1 mo 37 = ii n) {c : Int} (c0 : 0 ≤ c) (c1 : c < s_nv S) : Ok (m_X12_againFor σ mo (ii c) δ) (fun d => RMf Rs d mo n (.inr (.inl (0, wmask S c))) ∧ (∀ k, ¬ (12 * n ≤ k ∧ k < 12 * n + 12) → d.1 (mo + 28) k = δ.1 (mo + 28) k) ∧ d.1 mo 37 = ii ((n : Int) + 1) ∧ (∀ k, ¬ k = 37 → d.1 mo k = δ.1 mo k) ∧ Fr (fun r => r = mo ∨ r = mo + 28) δ d) := by
  have gn := hG.1
  obtain ⟨d1, e1, p1, p2, p3, p4⟩ := m_pushFrame hK (n := n) (by omega) ht (kd := ii 2)
  have hS1 : RSm d1 mo S := RSm_eq hR hG (fun k _ => by rw [(p4 (mo + 1) (by omega)).1])
  have hn12 : ii 12 * (ii ((n : Int) + 1) - ii 1) = ii (12 * n) := by rw [ii_sub, ii_mul]; exact congrArg ii (by omega)
  have loop : Ok (m_X12_againFor_b17 σ mo (ii c) (ii (12 * n)) (ii 0) d1) (fun d => RMf Rs d mo n (.inr (.inl (0, wmask S c))) ∧ (∀ k, ¬ (12 * n ≤ k ∧ k < 12 * n + 12) → d.1 (mo + 28) k = δ.1 (mo + 28) k) ∧ Fr (fun r => r = mo + 28) d1 d) := by
    unfold m_X12_againFor_b17
    refine Ok_for (fun z s => s.1 = ii z ∧ B32 (fun k => s.2.1 (mo + 28) (12 * n + 2 + k)) (fun k => decide ((k : Int) < z) && touched S c k) ∧ (∀ k, ¬ (12 * n + 2 ≤ k ∧ k < 12 * n + 6) → s.2.1 (mo + 28) k = d1.1 (mo + 28) k) ∧ Fr (fun r => r = mo + 28) d1 s.2) 0 (s_nt S) gn.2.2.1 (by omega) ?_ ?_ ⟨rfl, ?_, fun _ _ => rfl, Fr.rf⟩
    · rintro z ⟨s1, d⟩ z0 z1 ⟨hs, hB, hk, hF⟩
      dsimp only at hs hB hk hF ⊢
      subst hs
      have hSd : RSm d mo S := RSm_eq hS1 hG (fun k _ => by rw [(hF (mo + 1) (by omega)).1])
      obtain ⟨n1, n2⟩ := m_n hK hSd
      obtain ⟨t1, t2, t3, t4, t5⟩ := m_t4 hK hSd hG z0 z1
      have q8 := hG.2.2.2.2.1 z z0 z1
      have q9 := hG.2.2.2.2.2 z z0 z1
      have r8 := tm_rng q8 gn.2.1
      have r9 := tm_rng q9 gn.2.1
      -- without the bit
      have hno : touched S c z = false → Ok (m_X12_againFor_b150 σ mo (ii c) (ii (12 * n)) (ii z) d) (PL (fun s => s.1 = ii (z + 1) ∧ B32 (fun k => s.2.1 (mo + 28) (12 * n + 2 + k)) (fun k => decide ((k : Int) < z + 1) && touched S c k) ∧ (∀ k, ¬ (12 * n + 2 ≤ k ∧ k < 12 * n + 6) → s.2.1 (mo + 28) k = d1.1 (mo + 28) k) ∧ Fr (fun r => r = mo + 28) d1 s.2) (fun d => RMf Rs d mo n (.inr (.inl (0, wmask S c))) ∧ (∀ k, ¬ (12 * n ≤ k ∧ k < 12 * n + 12) → d.1 (mo + 28) k = δ.1 (mo + 28) k) ∧ Fr (fun r => r = mo + 28) d1 d)) := by
        intro h
        refine Ok_inl (s' := (ii (z + 1), d)) (by simp (disch := omega) only [m_X12_againFor_b150, ii_lit, ii_add]) ⟨rfl, B32_cg hB (fun k hk2 => ?_), hk, hF⟩
        by_cases hkz : (k : Int) = z
        · rw [hkz, h, Bool.and_false, Bool.and_false]
        · rw [show decide ((k : Int) < z + 1) = decide ((k : Int) < z) from decide_eq_decide.mpr (by omega)]
      have h107 : ∀ (b : Bool), (s_sd S z && b) = touched S c z → Ok (m_X12_againFor_b107 σ mo (ii c) (ii (12 * n)) (ii z) (bi b) d) (PL (fun s => s.1 = ii (z + 1) ∧ B32 (fun k => s.2.1 (mo + 28) (12 * n + 2 + k)) (fun k => decide ((k : Int) < z + 1) && touched S c k) ∧ (∀ k, ¬ (12 * n + 2 ≤ k ∧ k < 12 * n + 6) → s.2.1 (mo + 28) k = d1.1 (mo + 28) k) ∧ Fr (fun r => r = mo + 28) d1 s.2) (fun d => RMf Rs d mo n (.inr (.inl (0, wmask S c))) ∧ (∀ k, ¬ (12 * n ≤ k ∧ k < 12 * n + 12) → d.1 (mo + 28) k = δ.1 (mo + 28) k) ∧ Fr (fun r => r = mo + 28) d1 d)) := by
        intro b hbt
        unfold m_X12_againFor_b107
        cases b with
        | false =>
          rw [if_pos (show bi false = 0 from rfl)]
          exact hno (by rw [← hbt, Bool.and_false])
        | true =>
          rw [if_neg (show ¬ bi true = 0 by decide)]
          cases hsd : s_sd S z with
          | false =>
            rw [hsd] at t4
            have e150 := hno (by rw [← hbt, hsd]; rfl)
            obtain ⟨X, eX, hX⟩ := e150
            refine ⟨X, ?_, hX⟩
            rw [← eX]
            simp (disch := omega) only [mg0 hK, ob_some, ii_lit, ii_add, t4, bi_f, ii_eq, if_neg]
          | true =>
            rw [hsd] at t4 hbt
            have htt : touched S c z = true := hbt.symm
            have hv := B32_or (c' := fun k => u2 d.1 (mo + 28) (12 * (n : Int) + 2 + z / 32).toNat (d.1 (mo + 28) (12 * (n : Int) + 2 + z / 32).toNat ||| ((1 : Int32) <<< ((ii (z % 32)) &&& 31))) (mo + 28) (12 * n + 2 + k)) hB (z := z) z0 (by omega) (v := (1 : Int32) <<< ((ii (z % 32)) &&& 31)) rfl (by
              rw [show 12 * n + 2 + (z / 32).toNat = (12 * (n : Int) + 2 + z / 32).toNat by omega]
              simp only [u2, and_self, ↓reduceIte]) (fun k hk2 => by
              simp (disch := omega) only [u2, if_neg])
            refine Ok_inl (s' := (ii (z + 1), (u2 d.1 (mo + 28) (12 * (n : Int) + 2 + z / 32).toNat (d.1 (mo + 28) (12 * (n : Int) + 2 + z / 32).toNat ||| ((1 : Int32) <<< ((ii (z % 32)) &&& 31))), d.2))) ?_ ⟨rfl, B32_cg hv (fun k hk2 => ?_), fun k hk2 => ?_, hF.tr (Fr_u2 rfl)⟩
            · have h31 : (1 : Int32) = ii 1 := rfl
              have hdv := dvI_ii (a := z) (b := 32) z0 (by omega) (by omega) (by omega)
              have hrm := rmI_ii (a := z) (b := 32) z0 (by omega) (by omega) (by omega)
              have l32 : (32 : Int32) = ii 32 := rfl
              have l2 : (2 : Int32) = ii 2 := rfl
              have l422 : (422 : Int32) = ii 422 := rfl
              have hone : (ii 1 = (1 : Int32)) := rfl
              have hbt1 : bi true = (1 : Int32) := rfl
              simp (disch := omega) only [mg0 hK, mg36 hK, ob_some, l422, ii_add, t4, hbt1, ↓reduceIte, l32, hdv, l2, rI_kd (md36 hK), hrm, wI_kd (md36 hK), m_X12_againFor_b150]
              rw [h31, ii_add]
            · by_cases hkz : (k : Int) = z
              · rw [hkz, htt, decide_eq_true (show k = z.toNat by omega), Bool.or_true, decide_eq_true (show z < z + 1 by omega)]
                rfl
              · rw [decide_eq_false (show ¬ k = z.toNat by omega), Bool.or_false, show decide ((k : Int) < z + 1) = decide ((k : Int) < z) from decide_eq_decide.mpr (by omega)]
            · simp (disch := omega) only [u2, if_neg]
              exact hk k hk2
      -- what has the class
      have hcl : ∀ x : Int, tm (s_nv S) x → (x < 400 → decide (rootOf S x = c) = false) ∧ (¬ x < 400 → rI σ d (mo + 1) (ii (1 + x - 400)) = some (ii (s_cl S (x - 400))) ∧ decide (rootOf S x = c) = decide (s_cl S (x - 400) = c) ∧ (0 ≤ s_cl S (x - 400) ∧ s_cl S (x - 400) < s_nv S)) := by
        intro x hx
        refine ⟨fun h => ?_, fun h => ?_⟩
        · unfold rootOf
          rw [if_pos (by omega)]
          exact decide_eq_false (by omega)
        · have hv : 0 ≤ x - 400 ∧ x - 400 < s_nv S := by unfold tm at hx; omega
          refine ⟨m_cl hK hSd hG hv.1 hv.2 (by omega), ?_, hG.2.1 _ hv.1 hv.2⟩
          unfold rootOf
          rw [if_neg (by omega), if_pos hv.2]
      have htc : touched S c z = (s_sd S z && (decide (rootOf S (s_fi S z) = c) || decide (rootOf S (s_se S z) = c))) := rfl
      have h77 : decide (rootOf S (s_fi S z) = c) = false → Ok (m_X12_againFor_b77 σ mo (ii c) (ii (12 * n)) (ii z) (ii (s_se S z)) d) (PL (fun s => s.1 = ii (z + 1) ∧ B32 (fun k => s.2.1 (mo + 28) (12 * n + 2 + k)) (fun k => decide ((k : Int) < z + 1) && touched S c k) ∧ (∀ k, ¬ (12 * n + 2 ≤ k ∧ k < 12 * n + 6) → s.2.1 (mo + 28) k = d1.1 (mo + 28) k) ∧ Fr (fun r => r = mo + 28) d1 s.2) (fun d => RMf Rs d mo n (.inr (.inl (0, wmask S c))) ∧ (∀ k, ¬ (12 * n ≤ k ∧ k < 12 * n + 12) → d.1 (mo + 28) k = δ.1 (mo + 28) k) ∧ Fr (fun r => r = mo + 28) d1 d)) := by
        intro hf
        rw [hf, Bool.false_or] at htc
        unfold m_X12_againFor_b77
        by_cases cb : s_se S z < 400
        · rw [(hcl _ q9).1 cb] at htc
          obtain ⟨X, eX, hX⟩ := h107 false htc.symm
          refine ⟨X, ?_, hX⟩
          rw [← eX]
          simp (disch := omega) only [ii_lit, ii_lt, if_pos, m_X12_againFor_b106, bi_f]
        · obtain ⟨k1, k2, k3⟩ := (hcl _ q9).2 cb
          rw [k2] at htc
          by_cases cc : s_cl S (s_se S z - 400) = c
          · rw [decide_eq_true cc] at htc
            obtain ⟨X, eX, hX⟩ := h107 true htc.symm
            refine ⟨X, ?_, hX⟩
            rw [← eX]
            simp (disch := omega) only [ii_lit, ii_lt, if_neg, mg0 hK, ob_some, ii_add, ii_sub, k1, cc, ↓reduceIte, m_X12_againFor_b102, bi_t]
          · rw [decide_eq_false cc] at htc
            obtain ⟨X, eX, hX⟩ := h107 false htc.symm
            refine ⟨X, ?_, hX⟩
            rw [← eX]
            simp (disch := omega) only [ii_lit, ii_lt, if_neg, mg0 hK, ob_some, ii_add, ii_sub, k1, ii_eq, m_X12_againFor_b106, bi_f]
      by_cases ca : s_fi S z < 400
      · obtain ⟨X, eX, hX⟩ := h77 ((hcl _ q8).1 ca)
        refine ⟨X, ?_, hX⟩
        rw [← eX]
        simp (disch := omega) only [mg0 hK, ob_some, ii_lit, n2, ii_le, if_neg, ii_add, t2, t3, ii_lt, if_pos]
      · obtain ⟨k1, k2, k3⟩ := (hcl _ q8).2 ca
        by_cases cc : s_cl S (s_fi S z - 400) = c
        · rw [k2, decide_eq_true cc, Bool.true_or] at htc
          obtain ⟨X, eX, hX⟩ := h107 true htc.symm
          refine ⟨X, ?_, hX⟩
          rw [← eX]
          simp (disch := omega) only [mg0 hK, ob_some, ii_lit, n2, ii_le, if_neg, ii_add, t2, t3, ii_lt, ii_sub, k1, cc, ↓reduceIte, m_X12_againFor_b102, bi_t]
        · obtain ⟨X, eX, hX⟩ := h77 (by rw [k2]; exact decide_eq_false cc)
          refine ⟨X, ?_, hX⟩
          rw [← eX]
          simp (disch := omega) only [mg0 hK, ob_some, ii_lit, n2, ii_le, if_neg, ii_add, t2, t3, ii_lt, ii_sub, k1, ii_eq]
    · rintro ⟨s1, d⟩ ⟨hs, hB, hk, hF⟩
      dsimp only at hs hB hk hF ⊢
      subst hs
      have hSd : RSm d mo S := RSm_eq hS1 hG (fun k _ => by rw [(hF (mo + 1) (by omega)).1])
      obtain ⟨n1, n2⟩ := m_n hK hSd
      refine Ok_inr (r := d) (by simp (disch := omega) only [mg0 hK, ob_some, ii_lit, n2, ii_le, if_pos]) ⟨⟨?_, ?_, hB⟩, fun k hk2 => ?_, hF⟩
      · rw [hk _ (by omega), p1, if_pos rfl]
      · rw [hk _ (by omega), p1, if_neg (by omega), if_pos (by omega)]
      · rw [hk _ (by omega), p1, if_neg (by omega), if_neg (by omega)]
    · intro k t hk2 ht2
      show (d1.1 (mo + 28) (12 * n + 2 + k)).toBitVec.getLsbD t = _
      rw [p1, if_neg (by omega), if_pos (by omega)]
      dsimp only
      rw [decide_eq_false (by omega), Bool.false_and]
      exact B32_zero 0 t (by omega) ht2
  obtain ⟨d, e, q1, q2, q3⟩ := loop
  refine ⟨d, ?_, q1, q2, by rw [(q3 mo (by omega)).1]; exact p2, fun k hk => by rw [(q3 mo (by omega)).1]; exact p3 k hk, p4.tr (q3.wk (fun r p => Or.inr p))⟩
  unfold m_X12_againFor
  rw [show ((2 : Int32)) = ii 2 from rfl, show ((12 : Int32)) = ii 12 from rfl, show ((1 : Int32)) = ii 1 from rfl, show ((0 : Int32)) = ii 0 from rfl, chk_ko hK.1, ob_some, e1, ob_some, gI_ko hK.1, ob_some, p2, hn12, e]
/-- the view with one frame more, the store changed -/
theorem RVm_wake (hR : RVm δ mo Rs V) (hh : (v_hi V).length ≤ 2000) {d1 d2 : Dy} {S' : Sto} {f : Frm} (h1 : RSm d1 mo S') (hG' : GS S') (a1 : ∀ r, ¬ r = mo + 1 → d1.1 r = δ.1 r ∧ d1.2 r = δ.2 r) (a2 : ∀ k, 121 ≤ k → d1.1 (mo + 1) k = δ.1 (mo + 1) k) (b1 : RMf Rs d2 mo (v_fr V).length f) (b2 : ∀ k, ¬ (12 * (v_fr V).length ≤ k ∧ k < 12 * (v_fr V).length + 12) → d2.1 (mo + 28) k = d1.1 (mo + 28) k) (b3 : d2.1 mo 37 = ii (((v_fr V).length : Int) + 1)) (b4 : ∀ k, ¬ k = 37 → d2.1 mo k = d1.1 mo k) (b5 : Fr (fun r => r = mo ∨ r = mo + 28) d1 d2) : RVm d2 mo Rs (S', f :: v_fr V, v_hi V, v_fi V, v_ac V, v_fl V) ∧ FM mo δ d2 := by
  obtain ⟨hS, ⟨f1, f2, f3⟩, hfr, hhi, hfi⟩ := hR
  have e1 : ∀ k, d2.1 (mo + 1) k = d1.1 (mo + 1) k := fun k => by rw [(b5 (mo + 1) (by omega)).1]
  have e0 : ∀ k, ¬ k = 37 → d2.1 mo k = δ.1 mo k := fun k hk => by rw [b4 k hk, (a1 mo (by omega)).1]
  refine ⟨⟨RSm_eq h1 hG' (fun k _ => e1 k), ⟨by rw [e0 34 (by decide)]; exact f1, by rw [e0 35 (by decide)]; exact f2, by rw [b3]; rfl⟩, ⟨b1, RMfr_eq hfr (fun k hk => by rw [b2 k (by omega), (a1 (mo + 28) (by omega)).1])⟩, RMh_eq hhi (fun k h1 _ => by rw [e1, a2 k (by omega)]) hh, fun w hw => by rw [e1, a2 _ (by omega)]; exact hfi w hw⟩, fun r hr => ⟨(b5 r (by omega)).1.trans (a1 r (by omega)).1, (b5 r (by omega)).2.trans (a1 r (by omega)).2⟩, fun k hk => e0 k (by omega), fun k hk => by rw [e1, a2 k (by omega)]⟩
/-- only a fail is noted -/
theorem RVm_fl (hK : KM σ mo) (hR : RVm δ mo Rs V) (hG : GS (v_S V)) (hh : (v_hi V).length ≤ 2000) {b : Bool} : RVm (u2 δ.1 mo 35 (bi b), δ.2) mo Rs (v_S V, v_fr V, v_hi V, v_fi V, v_ac V, b) ∧ FM mo δ (u2 δ.1 mo 35 (bi b), δ.2) := by
  obtain ⟨hS, ⟨f1, f2, f3⟩, hfr, hhi, hfi⟩ := hR
  have hF : Fr (fun r => r = mo) δ (u2 δ.1 mo 35 (bi b), δ.2) := Fr_u2 rfl
  refine ⟨⟨RSm_eq hS hG (fun k _ => by rw [(hF _ (by omega)).1]), ⟨?_, ?_, ?_⟩, RMfr_eq hfr (fun k _ => by rw [(hF _ (by omega)).1]), RMh_eq hhi (fun k _ _ => by rw [(hF _ (by omega)).1]) hh, fun w hw => by rw [(hF _ (by omega)).1]; exact hfi w hw⟩, fun r hr => hF r (by omega), fun k hk => ?_, fun k _ => by rw [(hF _ (by omega)).1]⟩
  · simp (disch := omega) only [u2, if_neg]
    exact f1
  · simp only [u2, and_self, ↓reduceIte]
  · simp (disch := omega) only [u2, if_neg]
    exact f3
  · simp (disch := omega) only [u2, if_neg]
theorem RSm_va (hR : RSm δ mo S) (hG : GS S) {c v : Int} (c0 : 0 ≤ c) (c1 : c < s_nv S) : RSm (u2 δ.1 (mo + 1) (61 + c).toNat (ii v), δ.2) mo (s_setva S (upf (s_va S) c v)) := by
  have gn := hG.1
  obtain ⟨r1, r2, r3, r4, r5, r6, r7, r8, r9, r10⟩ := hR
  have hA : ∀ k, ¬ k = (61 + c).toNat → (u2 δ.1 (mo + 1) (61 + c).toNat (ii v), δ.2).1 (mo + 1) k = δ.1 (mo + 1) k := fun k hk => by simp (disch := omega) only [u2, if_neg]
  have hC : (u2 δ.1 (mo + 1) (61 + c).toNat (ii v), δ.2).1 (mo + 1) (61 + c).toNat = ii v := by simp only [u2, and_self, ↓reduceIte]
  generalize (u2 δ.1 (mo + 1) (61 + c).toNat (ii v), δ.2) = D at hA hC ⊢
  refine ⟨by rw [hA _ (by omega)]; exact r1, fun x x0 x1 => ?_, fun x x0 x1 => ?_, by rw [hA _ (by omega)]; exact r4, fun t t0 t1 => ?_, fun t t0 t1 => ?_, fun t t0 t1 => ?_, fun t t0 t1 => ?_, fun t t0 t1 => ?_, fun t t0 t1 k s hk hs => ?_⟩
  · have x1' : x < s_nv S := x1
    rw [hA _ (by omega)]; exact r2 x x0 x1
  · have x1' : x < s_nv S := x1
    show _ = ii (upf (s_va S) c v x)
    unfold upf
    by_cases hx : x = c
    · rw [if_pos hx, hx]
      exact hC
    · rw [if_neg hx, hA _ (by omega)]; exact r3 x x0 x1
  · have t1' : t < s_nt S := t1
    rw [hA _ (by omega)]; exact r5 t t0 t1
  · have t1' : t < s_nt S := t1
    rw [hA _ (by omega)]; exact r6 t t0 t1
  · have t1' : t < s_nt S := t1
    rw [hA _ (by omega)]; exact r7 t t0 t1
  · have t1' : t < s_nt S := t1
    rw [hA _ (by omega)]; exact r8 t t0 t1
  · have t1' : t < s_nt S := t1
    rw [hA _ (by omega)]; exact r9 t t0 t1
  · have t1' : t < s_nt S := t1
    show (D.1 (mo + 1) (622 + 4 * t + k).toNat).toBitVec.getLsbD s = _
    rw [hA _ (by omega)]; exact r10 t t0 t1 k s hk hs
end
