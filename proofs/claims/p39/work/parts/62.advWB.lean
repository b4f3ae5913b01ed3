/-! THE REWRITER in the class: waking and body frames; one advance -/
section
variable {σ : St} {δ : Dy} {rw st ro base ru : Nat} {S : Sto} {ac made : Int} {fl : Bool} {R : Rl} {Rs : Int → Rl} {V : Vw}
theorem t_advW (hW : KW σ rw st ro) (hKS : KS σ st) (hd1 : st + 10 ≤ rw) {a : Int} {m : Nat → Bool} {rest : List Frm} (hf : v_fr V = .inr (.inl (a, m)) :: rest) (hRV : RVv δ rw st base made V) (hG : GV Rs made V) : Ok (m_X6_advanceWaking σ rw (rw + 6 + 2 * rest.length) δ) (fun r => RVv r rw st base made (advW V a m rest) ∧ Fr (PVr rw st) δ r) := by
  obtain ⟨g1, g2, g3, g4, g5, g6, g7, g8⟩ := id hG
  have gn := g1.1
  have hlen : rest.length + 1 < 183 := by
    have := g6
    rw [hf] at this g7
    have h2 : (rest.length : Int) + 1 ≤ 3 * nBo rest + 1 := this.2
    have h3 : nBo rest ≤ v_ac V := g7
    omega
  have hft : gFrm (v_S V) Rs made (.inr (.inl (a, m))) := g5 _ (by rw [hf]; exact List.mem_cons_self ..)
  have ga : 0 ≤ a ∧ a ≤ 100 := hft
  obtain ⟨w0, ⟨w1, w2, w3, w4, w5, w6, w7⟩, x1, x2, x3, x4, x5, xf⟩ := id hW
  obtain ⟨f1, f2, f3, f4⟩ := xf rest.length (by omega)
  obtain ⟨-, f2', -, -⟩ := xf (rest.length + 1) (by omega)
  obtain ⟨m0, ⟨m1, m2, m3, m4, m5, m6, m7, m8, m9⟩, b1, b2, b3, b4, b5, b6, b7, -⟩ := id hKS
  obtain ⟨hS, hV⟩ := hRV
  have hVf := hV.2.1
  rw [hf] at hVf
  obtain ⟨⟨e1, e2, e3⟩, hfr⟩ := hVf
  have e9 := hS.2.2.2.2.2.2.2.2.1
  have e10 := hS.2.1
  have h3 : δ.1 rw 3 = ii ((rest.length : Int) + 1) := by have := hV.1; rw [hf] at this; exact this
  unfold m_X6_advanceWaking m_X6_advanceWaking_b5
  refine Ok_bind (gI_ko f2) ?_
  rw [e2]
  refine Ok_for (fun z s => s = ii z ∧ ∀ y, a ≤ y → y < z → (m y.toNat && s_sd (v_S V) y) = false) a (if a ≤ s_nt (v_S V) then s_nt (v_S V) else a) (by split <;> omega) (by split <;> omega) ?_ ?_ ⟨rfl, fun y _ _ => by omega⟩
  · rintro z s z0 z1 ⟨rfl, hno⟩
    have z2 : z < s_nt (v_S V) := by split at z1 <;> omega
    have es := e9 z (by omega) z2
    have ei := t_isIn (σ := σ) (δ := δ) (z := z) (by omega) (by omega) e3
    have hn : (m z.toNat && s_sd (v_S V) z) = false → ∀ y, a ≤ y → y < z + 1 → (m y.toNat && s_sd (v_S V) y) = false := fun h y y1 y2 => by
      by_cases hy : y = z
      · rw [hy]; exact h
      · exact hno y y1 (by omega)
    cases hm : m z.toNat with
    | false =>
      rw [hm] at ei
      exact Ok_inl (s' := ii (z + 1)) (by simp (disch := omega) only [gR_ko w0 w1, gI_ko m0, e10, ob_some, ii_lit, ii_le, if_neg, gL_ko f2, ei, bi_f, ↓reduceIte, m_X6_advanceWaking_b60, ii_add]) ⟨rfl, hn (by rw [hm, Bool.false_and])⟩
    | true =>
      rw [hm] at ei
      cases hsd : s_sd (v_S V) z with
      | false =>
        rw [hsd] at es
        refine Ok_inl (s' := ii (z + 1)) ?_ ⟨rfl, hn (by rw [hsd, Bool.and_false])⟩
        simp (disch := omega) only [gR_ko w0 w1, gI_ko m0, e10, ob_some, ii_lit, ii_le, if_neg, gL_ko f2, ei, bi_t, ii_eq, gR_ko m0 m7, rZ_kd b7, es, bi_f, ↓reduceIte, m_X6_advanceWaking_b60, ii_add]
      | true =>
        rw [hsd] at es
        have hw : wNext (v_S V) a m = z := by
          unfold wNext
          exact fnd_hit _ a z z0 (by omega) (by rw [hm, hsd]; rfl) hno
        obtain ⟨⟨fo, D⟩, e, p1, p2, p3, ⟨p4, p5, p6, -, -, -⟩, p7, -⟩ := t_push (δ := (u2 δ.1 (rw + 6 + 2 * rest.length) 2 (ii (z + 1)), δ.2)) hW hlen (by dsimp only; rw [u2_ne (by omega)]; exact h3) (kd := ii 0)
        dsimp only at p1 p2 p3 p4 p5 p6 p7
        subst p1
        refine Ok_inr (r := (u2 D.1 (rw + 6 + 2 * (rest.length + 1)) 2 (ii z), D.2)) ?_ ⟨?_, ?_⟩
        · simp (disch := omega) only [gR_ko w0 w1, gI_ko m0, e10, ob_some, ii_lit, ii_le, if_neg, gL_ko f2, ei, bi_t, ii_eq, gR_ko m0 m7, rZ_kd b7, es, ↓reduceIte, ii_add, pI_ko f2, chk_ko w0, e, pI_ko f2']
        · unfold advW
          rw [hw, if_neg (by omega)]
          have hz : ∀ r, ¬ r = rw → ¬ r = rw + 6 + 2 * rest.length → ¬ r = rw + 6 + 2 * (rest.length + 1) → u2 D.1 (rw + 6 + 2 * (rest.length + 1)) 2 (ii z) r = δ.1 r ∧ D.2 r = δ.2 r := fun r a1 a2 a3 => ⟨by rw [u2_ne (by omega), (p7 r (by omega)).1]; exact u2_ne (by omega), (p7 r (by omega)).2⟩
          have h2r : D.2 (rw + 6 + 2 * rest.length) = δ.2 (rw + 6 + 2 * rest.length) := (p7 _ (by omega)).2
          have h1r : D.1 (rw + 6 + 2 * rest.length) = u2 δ.1 (rw + 6 + 2 * rest.length) 2 (ii (z + 1)) (rw + 6 + 2 * rest.length) := (p7 _ (by omega)).1
          refine ⟨RS_of_Fr (P := fun r => rw ≤ r) hS (fun r hr => hz r (by omega) (by omega) (by omega)) (fun r a b => by omega), ?_⟩
          refine RWr_wk hV (Int.le_refl _) ?_ ⟨⟨?_, ?_, ?_⟩, ⟨?_, ?_, ?_⟩, RFr_eq hfr (fun r a b => hz r (by omega) (by omega) (by omega))⟩ ?_ ?_ ?_ ?_ ?_
          · show u2 D.1 (rw + 6 + 2 * (rest.length + 1)) 2 (ii z) rw 3 = ii ((rest.length + 1 + 1 : Nat) : Int)
            rw [u2_ne (by omega), p2]
            rfl
          · show u2 D.1 (rw + 6 + 2 * (rest.length + 1)) 2 (ii z) (rw + 6 + 2 * (rest.length + 1)) 1 = _
            simp (disch := omega) only [u2, if_neg]
            exact p4
          · show u2 D.1 (rw + 6 + 2 * (rest.length + 1)) 2 (ii z) (rw + 6 + 2 * (rest.length + 1)) 2 = _
            simp only [u2, and_self, ↓reduceIte]
          · show u2 D.1 (rw + 6 + 2 * (rest.length + 1)) 2 (ii z) (rw + 6 + 2 * (rest.length + 1)) 3 = _
            simp (disch := omega) only [u2, if_neg]
            exact p6
          · dsimp only
            rw [u2_ne (by omega), h1r]
            simp (disch := omega) only [u2, if_neg]
            exact e1
          · dsimp only
            rw [u2_ne (by omega), h1r]
            simp only [u2, and_self, ↓reduceIte]
          · dsimp only
            rw [h2r]
            exact e3
          · dsimp only
            rw [u2_ne (by omega), p3 7 (by decide), u2_ne (by omega)]
          · dsimp only
            rw [u2_ne (by omega), p3 9 (by decide), u2_ne (by omega)]
          · exact (hz _ (by omega) (by omega) (by omega)).2
          · exact (hz _ (by omega) (by omega) (by omega)).1
          · exact (hz _ (by omega) (by omega) (by omega)).1
        · exact ((Fr_u2 (P := PVr rw st) (by unfold PVr; omega)).tr (p7.wk (fun r hr => by unfold PVr; omega))).tr (Fr_u2 (by unfold PVr; omega))
  · rintro s ⟨rfl, hno⟩
    refine Ok_inr (r := (u2 δ.1 rw 3 (ii rest.length), δ.2)) ?_ ⟨?_, Fr_u2 (by unfold PVr; omega)⟩
    · have hle : s_nt (v_S V) ≤ (if a ≤ s_nt (v_S V) then s_nt (v_S V) else a) := by split <;> omega
      have hb : 0 ≤ (if a ≤ s_nt (v_S V) then s_nt (v_S V) else a) ∧ (if a ≤ s_nt (v_S V) then s_nt (v_S V) else a) ≤ 100 := by split <;> omega
      generalize (if a ≤ s_nt (v_S V) then s_nt (v_S V) else a) = q at hle hb
      simp (disch := omega) only [gR_ko w0 w1, gI_ko m0, e10, ob_some, ii_le, if_pos, gI_ko w0, h3, ii_lit, ii_sub, pI_ko w0]
      rw [show (rest.length : Int) + 1 - 1 = rest.length by omega]
    · have hw : wNext (v_S V) a m = -1 := by
        unfold wNext
        exact fnd_no _ a (fun z z0 z1 => hno z z0 (by split <;> omega))
      unfold advW
      rw [hw, if_pos rfl]
      have hRV0 : RVv δ rw st base made (v_setfr V (.inr (.inl (a, m)) :: rest)) := by rw [← hf]; exact ⟨hS, hV⟩
      exact RVv_pop hRV0 (by omega) hd1
theorem t_advB (hW : KW σ rw st ro) (hKS : KS σ st) (hKR : KRs σ ro) (hd0 : ro + 54 ≤ st) (hd1 : st + 10 ≤ rw) {w k : Int} {bd : Int → Int} {sl : Nat → Bool} {la : Bool} {rest : List Frm} (hf : v_fr V = .inr (.inr (w, k, bd, sl, la)) :: rest) (hRV : RVv δ rw st base made V) (hRs : RRs δ ro made Rs) (hG : GV Rs made V) : Ok (m_X6_advanceBodies σ rw (rw + 6 + 2 * rest.length) δ) (fun r => RVv r rw st base made (advB V Rs w k bd sl la rest) ∧ Fr (PVr rw st) δ r) := by
  obtain ⟨g1, g2, g3, g4, g5, g6, g7, g8⟩ := id hG
  have gn := g1.1
  have hlen : rest.length < 183 := by
    have := okF_len g6
    rw [hf, List.length_cons] at this
    rw [hf] at g7
    omega
  have hft : gFrm (v_S V) Rs made (.inr (.inr (w, k, bd, sl, la))) := g5 _ (by rw [hf]; exact List.mem_cons_self ..)
  obtain ⟨ww, kk, b0, b1⟩ := hft
  have hgr := g4 _ ww.1 ww.2
  obtain ⟨q1, q2, q3, q4, q5, q6, q7⟩ := id hgr
  obtain ⟨w0, ⟨w1, w2, w3, w4, w5, w6, w7⟩, x1, x2, x3, x4, x5, xf⟩ := id hW
  obtain ⟨f1, f2, f3, f4⟩ := xf _ hlen
  have hKr := (hKR.2 w.toNat (by omega)).2
  have hRr := hRs _ ww.1 ww.2
  have erA := rA_rule hKR (w := w) ww.1 (by omega)
  have hr6 : ro + 6 + 6 * w.toNat + 6 ≤ st := by omega
  generalize hru : ro + 6 + 6 * w.toNat = ru at hKr hRr erA hr6
  obtain ⟨k0, ⟨k1, k2, k3, k4, k5⟩, d1, d2, d3, d4, d5⟩ := id hKr
  obtain ⟨r1, r2, r3, r4, r5, r6, r7, r8, r9⟩ := id hRr
  have hVf := hRV.2.2.1
  rw [hf] at hVf
  obtain ⟨⟨e1, e2, e3, e4, e5, e6⟩, hfr⟩ := hVf
  unfold m_X6_advanceBodies advB
  by_cases hk : l_nb (Rs w) ≤ k
  · rw [if_pos hk]
    have h3 : δ.1 rw 3 = ii ((rest.length : Int) + 1) := by have := hRV.2.1; rw [hf] at this; exact this
    have hRV0 : RVv δ rw st base made (v_setfr V (.inr (.inr (w, k, bd, sl, la)) :: rest)) := by rw [← hf]; exact hRV
    refine Ok_of (v := (u2 δ.1 rw 3 (ii rest.length), δ.2)) ?_ ⟨RVv_pop hRV0 hlen hd1, Fr_u2 (by unfold PVr; omega)⟩
    simp (disch := omega) only [gR_ko w0 w2, gI_ko f2, e2, e3, erA, gI_ko k0, r5, ob_some, ii_lt, if_neg, gI_ko w0, h3, ii_lit, ii_sub, pI_ko w0]
    rw [show (rest.length : Int) + 1 - 1 = rest.length by omega]
  · rw [if_neg hk]
    -- the frame counts on
    have hF1 : Fr (fun r => r = rw + 6 + 2 * rest.length) δ (u2 δ.1 (rw + 6 + 2 * rest.length) 5 (ii (k + 1)), δ.2) := Fr_u2 rfl
    have hRV1 : RVv (u2 δ.1 (rw + 6 + 2 * rest.length) 5 (ii (k + 1)), δ.2) rw st base made (v_setfr V (.inr (.inr (w, k + 1, bd, sl, la)) :: rest)) := by
      refine ⟨RS_of_Fr hRV.1 hF1 (fun r a b => by omega), ?_⟩
      refine RWr_wk hRV.2 (Int.le_refl _) ?_ ⟨⟨?_, ?_, ?_, ?_, ?_, ?_⟩, RFr_eq hfr (fun r a b => hF1 r (by omega))⟩ ?_ ?_ rfl (hF1 _ (by omega)).1 (hF1 _ (by omega)).1
      · rw [(hF1 rw (by omega)).1]
        have := hRV.2.1
        rw [hf] at this
        exact this
      · simp (disch := omega) only [u2, if_neg]
        exact e1
      · simp (disch := omega) only [u2, if_neg]
        exact e2
      · simp only [u2, and_self, ↓reduceIte]
      · intro z z0 z1
        rw [(hF1 _ (by omega)).1]
        exact e4 z z0 z1
      · exact e5
      · simp (disch := omega) only [u2, if_neg]
        exact e6
      · rw [(hF1 rw (by omega)).1]
      · rw [(hF1 rw (by omega)).1]
    have hG1 : GV Rs made (v_setfr V (.inr (.inr (w, k + 1, bd, sl, la)) :: rest)) := by
      refine GV_setfr hG (fun f hm => ?_) (by rw [hf] at g6; exact g6) (by rw [hf] at g7; exact g7)
      rcases List.mem_cons.mp hm with rfl | hm
      · exact ⟨ww, ⟨by omega, by omega⟩, b0, b1⟩
      · exact g5 f (by rw [hf]; exact List.mem_cons_of_mem _ hm)
    have htmx : ∀ x, (valu x ∨ bnd (Rs w) x) → (-1000 ≤ x ∧ x ≤ 1000) ∧ tm (s_nv (v_S V)) (resB bd x) := by
      intro x hx
      rcases hx with hx | hx
      · have hv : -99 ≤ x ∧ x ≤ 99 := hx
        refine ⟨by omega, ?_⟩
        unfold resB
        rw [if_neg (by omega)]
        exact Or.inl hv
      · have hs : 200 ≤ x ∧ x < 204 := hx.1
        refine ⟨by omega, ?_⟩
        unfold resB
        rw [if_pos hs]
        exact b1 x hx
    have ha := htmx _ (q6 (2 * k) (by omega) (by omega))
    have hb := htmx _ (q6 (2 * k + 1) (by omega) (by omega))
    have r7a := r7 (2 * k) (by omega) (by omega)
    have r7b := r7 (2 * k + 1) (by omega) (by omega)
    have r6k := r6 k (by omega) (by omega)
    have q5k := q5 k (by omega) (by omega)
    have hB1 : RB (u2 δ.1 (rw + 6 + 2 * rest.length) 5 (ii (k + 1)), δ.2) (rw + 7 + 2 * rest.length) bd := by
      intro z z0 z1
      rw [(hF1 _ (by omega)).1, show rw + 7 + 2 * rest.length = rw + 6 + 2 * rest.length + 1 by omega]
      exact e4 z z0 z1
    have eva := t_resolve f4 hB1 ha.1.1 ha.1.2
    have evb := t_resolve f4 hB1 hb.1.1 hb.1.2
    have hs6 : (u2 δ.1 (rw + 6 + 2 * rest.length) 5 (ii (k + 1)) (rw + 6 + 2 * rest.length) 6) = bi la := by
      simp (disch := omega) only [u2, if_neg]
      exact e6
    have hF1' : Fr (PVr rw st) δ (u2 δ.1 (rw + 6 + 2 * rest.length) 5 (ii (k + 1)), δ.2) := hF1.wk (fun r hr => by unfold PVr; omega)
    by_cases hc : l_bs (Rs w) k = -1
    · rw [if_pos hc]
      obtain ⟨D, eD, hD1, hD2⟩ := t_tellEq hW hKS hd1 hRV1 hG1 trivial ha.2 hb.2
      refine ⟨D, ?_, hD1, hF1'.tr hD2⟩
      simp (disch := omega) only [gR_ko w0 w2, gI_ko f2, e2, e3, erA, gI_ko k0, r5, ob_some, ii_lt, if_pos, ii_lit, ii_add, ii_mul, ii_neg, pI_ko f2, gR_ko k0 k5, gR_ko k0 k4, gR_ko f2 f3, u2_ne, rI_kd d5, rI_kd d4, r7a, r7b, r6k, eva, evb, hc, ↓reduceIte, chk_ko w0, eD]
    · rw [if_neg hc]
      obtain ⟨D, eD, hD1, hD2⟩ := t_tellTok hW hKS hd1 hRV1 hG1 trivial (so := l_bs (Rs w) k) (a := resB bd (l_bt (Rs w) (2 * k))) (b := resB bd (l_bt (Rs w) (2 * k + 1))) (la := la) e5
      refine ⟨D, ?_, hD1, hF1'.tr hD2⟩
      simp (disch := omega) only [gR_ko w0 w2, gI_ko f2, gL_ko f2, e2, e3, erA, gI_ko k0, r5, ob_some, ii_lt, if_pos, ii_lit, ii_add, ii_mul, ii_neg, pI_ko f2, gR_ko k0 k5, gR_ko k0 k4, gR_ko f2 f3, u2_ne, rI_kd d5, rI_kd d4, r7a, r7b, r6k, eva, evb, ii_eq, if_neg, chk_ko w0, hs6, eD]
theorem t_adv (hW : KW σ rw st ro) (hKS : KS σ st) (hKR : KRs σ ro) (hd0 : ro + 54 ≤ st) (hd1 : st + 10 ≤ rw) (hRV : RVv δ rw st base made V) (hRs : RRs δ ro made Rs) (hG : GV Rs made V) : Ok (m_X6_advance σ rw δ) (fun r => RVv r rw st base made (adv V Rs made) ∧ Fr (PVr rw st) δ r) := by
  obtain ⟨w0, ⟨w1, w2, w3, w4, w5, w6, w7⟩, x1, x2, x3, x4, x5, xf⟩ := id hW
  have h3 := hRV.2.1
  unfold m_X6_advance
  cases hf : v_fr V with
  | nil =>
    rw [hf] at h3
    refine Ok_of (v := δ) ?_ ⟨?_, Fr.rf⟩
    · rw [gI_ko w0, h3]
      rfl
    · unfold adv
      rw [hf]
      exact hRV
  | cons f rest =>
    have hlen : rest.length < 183 := by
      have := okF_len hG.2.2.2.2.2.1
      have g7 := hG.2.2.2.2.2.2.1
      have g2 := hG.2.1
      rw [hf, List.length_cons] at this
      rw [hf] at g7
      omega
    rw [hf] at h3
    have h3' : δ.1 rw 3 = ii ((rest.length : Int) + 1) := h3
    have hVf := hRV.2.2.1
    rw [hf] at hVf
    have hk := hVf.1
    obtain ⟨f1, f2, f3, f4⟩ := xf _ hlen
    have hrA : rA σ 105 (rw + 1) (ii (rest.length : Int)) = some (rw + 6 + 2 * rest.length) := by
      obtain ⟨y1, y2, y3⟩ := x1
      unfold rA
      rw [y2, if_pos ⟨y1, ii_inb (by omega) (by omega) (by decide)⟩, ii_nat (by omega) (by omega)]
      exact f1
    have hz : (rest.length : Int) + 1 - 1 = rest.length := by omega
    unfold adv
    rw [hf]
    rcases f with ⟨t, p⟩ | ⟨a, m⟩ | ⟨w, k, bd, sl, la⟩
    · obtain ⟨D, eD, hD⟩ := t_advA hW hKS hKR hd0 hd1 hf hRV hRs hG
      refine ⟨D, ?_, hD⟩
      have hk1 : δ.1 (rw + 6 + 2 * rest.length) 1 = ii 0 := hk.1
      simp (disch := omega) only [gI_ko w0, h3', ob_some, ii_lit, ii_le, ii_sub, hz, hrA, gR_ko w0 w3, if_neg, if_pos, gI_ko f2, hk1, ↓reduceIte, chk_ko w0, eD]
    · obtain ⟨D, eD, hD⟩ := t_advW hW hKS hd1 hf hRV hG
      refine ⟨D, ?_, hD⟩
      have hk1 : δ.1 (rw + 6 + 2 * rest.length) 1 = ii 1 := hk.1
      simp (disch := omega) only [gI_ko w0, h3', ob_some, ii_lit, ii_le, ii_sub, hz, hrA, gR_ko w0 w3, if_neg, if_pos, gI_ko f2, hk1, ii_eq, ↓reduceIte, chk_ko w0, eD]
    · obtain ⟨D, eD, hD⟩ := t_advB hW hKS hKR hd0 hd1 hf hRV hRs hG
      refine ⟨D, ?_, hD⟩
      have hk1 : δ.1 (rw + 6 + 2 * rest.length) 1 = ii 2 := hk.1
      simp (disch := omega) only [gI_ko w0, h3', ob_some, ii_lit, ii_le, ii_sub, hz, hrA, gR_ko w0 w3, if_neg, if_pos, gI_ko f2, hk1, ii_eq, ↓reduceIte, chk_ko w0, eD]
end
