/-! THE WORLD in the class: an act -/
theorem ob_id {α : Type} {m : Option α} : (m.bind fun v => some v) = m := by cases m <;> rfl
def actE (σ : St) (p0 p1 v1 : Nat) (v8 v11 v14 v19 v24 v27 v30 : Int32) (δ : Dy) : Option Dy :=
    if v11 = (0 : Int32) then
      (gR σ 10 p0 2).bind fun v32 =>
      (chk σ 6 v32).bind fun _ => (m_X6_tellEqual σ v32 v19 v24 δ).bind fun v33 =>
      some v33
    else
    if v11 = (1 : Int32) then
      m_X10_act_b210 σ p0 v11 v14 v19 v24 δ
    else
    if v11 = (2 : Int32) then
      m_X10_act_b210 σ p0 v11 v14 v19 v24 δ
    else
    if v11 = (3 : Int32) then
      (gR σ 10 p0 7).bind fun v40 =>
      (chk σ 1 v1).bind fun _ => (m_X1_add σ v1 v27 v40 δ).bind fun v41 =>
      (gR σ 10 p0 7).bind fun v42 =>
      (chk σ 1 v1).bind fun _ => (m_X1_add σ v1 v30 v42 v41).bind fun v43 =>
      some v43
    else
    if v11 = (4 : Int32) then
      m_X10_act_b274 σ p0 p1 v8 δ
    else
    if v11 = (5 : Int32) then
      m_X10_act_b274 σ p0 p1 v8 δ
    else
    if v11 = (6 : Int32) then
      (chk σ 10 p0).bind fun _ => (m_X10_conceal σ p0 p1 v14 v27 δ).bind fun v46 =>
      some v46
    else
    if v11 = (7 : Int32) then
      (gR σ 10 p0 4).bind fun v47 =>
      (rI σ δ v47 v14).bind fun v48 =>
      (chk σ 10 p0).bind fun _ => (m_X10_enter σ p0 p1 v48 v19 v24 δ).bind fun v49 =>
      some v49
    else
    if v11 = (8 : Int32) then
      (gR σ 4 p1 3).bind fun v50 =>
      (gR σ 10 p0 7).bind fun v51 =>
      (chk σ 1 v50).bind fun _ => (m_X1_add σ v50 v27 v51 δ).bind fun v52 =>
      some v52
    else
    if v11 = (9 : Int32) then
      (gR σ 10 p0 7).bind fun v53 =>
      (chk σ 1 v1).bind fun _ => (m_X1_add σ v1 v27 v53 δ).bind fun v54 =>
      (gR σ 4 p1 3).bind fun v55 =>
      (gR σ 10 p0 7).bind fun v56 =>
      (chk σ 1 v55).bind fun _ => (m_X1_add σ v55 v8 v56 v54).bind fun v57 =>
      some v57
    else
    if v11 = (12 : Int32) then
      (gR σ 10 p0 3).bind fun v58 =>
      (chk σ 2 v58).bind fun _ => (m_X2_isFirst σ v58 v19 v24 δ).bind fun v59 =>
      if v59.1 = 0 then
        m_X10_act_b385 σ p0 v1 v30 v59.2
      else
        m_X10_act_b385 σ p0 v1 v27 v59.2
    else
    if v11 = (13 : Int32) then
      (chk σ 10 p0).bind fun _ => (m_X10_dare σ p0 p1 v27 v30 δ).bind fun v62 =>
      some v62
    else
    m_X10_act_b407 σ p0 p1 v8 δ
def actD (σ : St) (p0 p1 v1 : Nat) (δ : Dy) : Option Dy :=
    (gR σ 10 p0 7).bind fun v7 =>
    (gI σ δ 0 v7 1).bind fun v8 =>
    (gR σ 10 p0 0).bind fun v9 =>
    (gR σ 5 v9 0).bind fun v10 =>
    (rI σ δ v10 v8).bind fun v11 =>
    (gR σ 10 p0 0).bind fun v12 =>
    (gR σ 5 v12 1).bind fun v13 =>
    (rI σ δ v13 v8).bind fun v14 =>
    (gR σ 10 p0 7).bind fun v15 =>
    (gR σ 10 p0 0).bind fun v16 =>
    (gR σ 5 v16 2).bind fun v17 =>
    (rI σ δ v17 v8).bind fun v18 =>
    (chk σ 0 v15).bind fun _ => (m_X0_look σ v15 v18 δ).bind fun v19 =>
    (gR σ 10 p0 7).bind fun v20 =>
    (gR σ 10 p0 0).bind fun v21 =>
    (gR σ 5 v21 3).bind fun v22 =>
    (rI σ δ v22 v8).bind fun v23 =>
    (chk σ 0 v20).bind fun _ => (m_X0_look σ v20 v23 δ).bind fun v24 =>
    (gR σ 10 p0 0).bind fun v25 =>
    (gR σ 5 v25 4).bind fun v26 =>
    (rI σ δ v26 v8).bind fun v27 =>
    (gR σ 10 p0 0).bind fun v28 =>
    (gR σ 5 v28 5).bind fun v29 =>
    (rI σ δ v29 v8).bind fun v30 =>
    actE σ p0 p1 v1 v8 v11 v14 v19 v24 v27 v30 δ
theorem act_D {σ : St} {p0 p1 : Nat} {p2 : Int32} {δ : Dy} : m_X10_act σ p0 p1 p2 δ = ((gR σ 4 p1 0).bind fun v1 => (gR σ 10 p0 7).bind fun v2 => (chk σ 1 v1).bind fun _ => (m_X1_read σ v1 p2 v2 δ).bind fun v3 => (chk σ 1 v1).bind fun _ => (m_X1_drop σ v1 p2 v3).bind fun v4 => (gR σ 10 p0 1).bind fun v5 => (chk σ 8 v5).bind fun _ => (m_X8_mayAct σ v5 v4).bind fun v6 => if v6.1 = 0 then some v6.2 else actD σ p0 p1 v1 v6.2) := rfl
section
variable {σ : St} {δ : Dy} {wp nd ro base : Nat} {E : Ev} {W : Wo} {S : Sto} {ac : Int} {fl : Bool} {a : Ag} {l : Lv} {ls : List Lv} {st : Int} {made : Int}
theorem actD_E (hK : KWo σ wp nd ro) (hN : RN δ nd E) (gE : GE E) (hG : GS S) (hH : RA δ (wp + 16) a) (ha : gAg E S a) {p1 v1 : Nat} : actD σ wp p1 v1 δ = actE σ wp p1 v1 (ii a.1) (ii (e_kd E a.1)) (ii (e_wh E a.1)) (ii (lookA a (e_a E a.1))) (ii (lookA a (e_b E a.1))) (ii (e_on E a.1)) (ii (e_ot E a.1)) δ := by
  obtain ⟨⟨l1, l2⟩, k0, ⟨k1, k2, k3, k4, k5, k6, k7, k8⟩, ⟨c0, ⟨c1, c2, c3, c4, c5, c6⟩, d1, d2, d3, d4, d5, d6⟩, -, kS, kW, kD, kdf, ktk, klv, kA, kL⟩ := hK
  obtain ⟨n1, n2, n3, n4, n5, n6⟩ := hN.2 a.1 ha.1
  have g := gE.2.2.2.2 a.1 ha.1
  have gct := gE.1
  have hnn : 0 ≤ a.1 ∧ a.1 < e_ct E := ha.1
  have xa := gTm_rng g.2.1.1
  have xb := gTm_rng g.2.1.2
  have e1 := t_look kA hH (t := e_a E a.1) (by omega) (by omega)
  have e2 := t_look kA hH (t := e_b E a.1) (by omega) (by omega)
  have hn := hH.1
  unfold actD
  simp (disch := omega) only [gR_ko k0 k8, gI_ko kA.1, hn, ob_some, gR_ko k0 k1, gR_ko c0 c1, gR_ko c0 c2, gR_ko c0 c3, gR_ko c0 c4, gR_ko c0 c5, gR_ko c0 c6, rI_kd d1, rI_kd d2, rI_kd d3, rI_kd d4, rI_kd d5, rI_kd d6, n1, n2, n3, n4, n5, n6, chk_ko kA.1, e1, e2]
theorem RWo_dr {d : Dy} {x' : Int} {pw' : Int → Int} (hR : RWo δ wp base made W) (h4 : (w_lv W).length ≤ 4) (hv : (v_fr (w_V W)).length ≤ 183) (hF : Fr (blk (wp + 11) 2) δ d) (h1 : d.1 (wp + 11) 1 = ii x') (h2 : RPw d (wp + 12) pw') : RWo d wp base made (w_V W, x', pw', w_tk W, w_lv W, w_ov W, w_cs W, w_lg W) := by
  have hb : ∀ r, blk (wp + 11) 2 r → wp + 11 ≤ r ∧ r < wp + 13 := fun r p => by unfold blk at p; omega
  obtain ⟨r1, ⟨r2, r3⟩, r4, r5, r6, r7, r8, r9⟩ := hR
  refine ⟨RVv_cg r1 hv (fun r hr hr2 => hF r (fun p => by have := hb r p; omega)) (by omega), ⟨h1, h2⟩, ?_, RLs_of_Fr hF r5 (fun r a b p => by have := hb r p; omega), fun j hj => RLany_of_Fr (r6 j hj) hF (fun r a b p => by have := hb r p; omega), ?_, ?_, ?_⟩
  · unfold RTk; rw [(hF (wp + 14) (fun p => by have := hb _ p; omega)).1]; exact r4
  · rw [(hF wp (fun p => by have := hb _ p; omega)).1]; exact r7
  · rw [(hF wp (fun p => by have := hb _ p; omega)).1]; exact r8
  · rw [(hF wp (fun p => by have := hb _ p; omega)).1]; exact r9
theorem lookA_val {t : Int} (h : t < 200) : lookA a t = t := by
  unfold lookA
  rw [if_neg (by omega)]
theorem PVr_PWo {d : Dy} (hF : Fr (PVr (wp + 18) (wp + 1)) δ d) : Fr (PWo wp) δ d := hF.wk (fun r p => by unfold PVr at p; unfold PWo; omega)
theorem t_actE (hK : KWo σ wp nd ro) (hE : REn δ nd ro wp E) (h : HA E base st W l ls a) (htk : st ≤ 90000) (hR : RWo δ wp base (e_md E) (w_setlv W (l :: ls))) (hH : RA δ (wp + 16) a) : Ok (actE σ wp (wp + 390 + 24 * ls.length) (wp + 390 + 24 * ls.length + 1) (ii a.1) (ii (e_kd E a.1)) (ii (e_wh E a.1)) (ii (lookA a (e_a E a.1))) (ii (lookA a (e_b E a.1))) (ii (e_on E a.1)) (ii (e_ot E a.1)) δ) (fun d => RWo d wp base (e_md E) (actK E W l ls a) ∧ Fr (PWo wp) δ d) := by
  have hK' := hK
  obtain ⟨⟨gE, qo⟩, q2, q3, q4, q5, q6, q7, q8, q9, q10, q11, q12, q13, q14, q15⟩ := h
  obtain ⟨⟨l1, l2⟩, k0, ⟨k1, k2, k3, k4, k5, k6, k7, k8⟩, -, -, kS, kW, kD, kdf, ktk, klv, kA, kL⟩ := hK
  have h4 : ls.length < 4 := q12
  obtain ⟨⟨p0, ⟨p1, p2, p3, p4, p5, -⟩, -⟩, pq1, pq2, pq3, pq4, -⟩ := (kL ls.length h4).2
  have hl : w_lv (w_setlv W (l :: ls)) = l :: ls := rfl
  have hv : (v_fr (w_V (w_setlv W (l :: ls)))).length ≤ 183 := by show (v_fr (w_V W)).length ≤ 183; rw [q3]; exact Nat.zero_le _
  have hn := gE.2.2.2.2 a.1 q9.1
  obtain ⟨n1, ⟨n2, n3⟩, n4, n5, n6, n7, n8, n9, n10, n11, n12⟩ := hn
  have ta := look_tm (S := v_S (w_V W)) q9.2 n2
  have tb := look_tm (S := v_S (w_V W)) q9.2 n3
  have tp2 : top2 (v_fr (w_V W)) := by rw [q3]; trivial
  have tp3 : top3 (v_fr (w_V W)) := by rw [q3]; trivial
  have hac := q2.2.1
  have m1b : m1L (l :: ls) + ((ls.length : Int) + 1) ≤ 59 + v_ac (w_V W) := q13
  have e1 : m1L (l :: ls) = m1L ls + (l_q l).length + (l_w l).length := rfl
  have e2 : m2L (l :: ls) = m2L ls + (l_w l).length + (l_as l).length + (l_nx l).length := rfl
  have mm1 := m1_nn ls
  have mm2 := m2_nn ls
  have b1 : (l_q l).length < 119 := by omega
  have b2 : (l_w l).length < 60 := by omega
  have b4 : (l_nx l).length < 60 := by omega
  have hqadd : ∀ {W' : Wo} {l' : Lv} {x : Ag}, (l_q l').length < 120 → True := fun _ => trivial
  have hlen4 : (w_lv (w_setlv W (l :: ls))).length ≤ 4 := h4
  unfold actE actK
  by_cases c0 : e_kd E a.1 = 0
  · rw [if_pos c0]
    obtain ⟨d, e, f1, f2⟩ := t_tellEq kW kS (by omega) hR.1 q2 tp3 ta tb
    refine ⟨d, ?_, RWo_V hR hlen4 f2 (fun r p => by unfold PVr at p; omega) f1, PVr_PWo f2⟩
    simp (disch := omega) only [c0, ii_lit, ↓reduceIte, gR_ko k0 k3, chk_ko kW.1, e, ob_some]
  rw [if_neg c0]
  by_cases c1 : e_kd E a.1 = 1 ∨ e_kd E a.1 = 2
  · rw [if_pos c1]
    obtain ⟨d, e, f1, f2⟩ := t_tellTok kW kS (by omega) hR.1 q2 tp2 (so := e_wh E a.1) (a := lookA a (e_a E a.1)) (b := lookA a (e_b E a.1)) (la := decide (e_kd E a.1 = 2)) hH.2.2
    refine ⟨d, ?_, RWo_V hR hlen4 f2 (fun r p => by unfold PVr at p; omega) f1, PVr_PWo f2⟩
    rcases c1 with c1 | c1
    · rw [decide_eq_false (by omega)] at e
      simp (disch := omega) only [c1, ii_lit, ii_eq, if_neg, ↓reduceIte, m_X10_act_b210, m_X10_act_b231, gR_ko k0 k3, gR_ko k0 k8, gL_ko kA.1, chk_ko kW.1, ob_some]
      have e' := e
      rw [bi_f] at e'
      rw [e', ob_some]
    · rw [decide_eq_true c1] at e
      simp (disch := omega) only [c1, ii_lit, ii_eq, if_neg, ↓reduceIte, m_X10_act_b210, m_X10_act_b231, gR_ko k0 k3, gR_ko k0 k8, gL_ko kA.1, chk_ko kW.1, ob_some]
      have e' := e
      rw [bi_t] at e'
      rw [e', ob_some]
  rw [if_neg c1]
  by_cases c2 : e_kd E a.1 = 3
  · rw [if_pos c2]
    obtain ⟨d, e, f1, f2, f3⟩ := t_addQ hK' hR hl h4 hv hH (by omega) (n := e_on E a.1)
    obtain ⟨D, e', g1, g2, g3⟩ := t_addQ (l := qAdd l (e_on E a.1, a.2)) (ls := ls) hK' f1 rfl h4 hv f2 (by show (l_q l ++ [(e_on E a.1, a.2)]).length < 120; rw [List.length_append, List.length_singleton]; omega) (n := e_ot E a.1)
    refine ⟨D, ?_, g1, (PWo_blk (by omega) (by omega) (by omega) f3).tr (PWo_blk (by omega) (by omega) (by omega) g3)⟩
    simp (disch := omega) only [c2, ii_lit, ii_eq, if_neg, ↓reduceIte, gR_ko k0 k8, chk_ko pq1.1, e, e', ob_some]
  rw [if_neg c2]
  by_cases c3 : e_kd E a.1 = 4 ∨ e_kd E a.1 = 5
  · rw [if_pos c3]
    obtain ⟨d, e, f1, f2⟩ := t_askW hK' hE.1 gE (W := w_setlv W (l :: ls)) q2.1 hR hl h4 hv hH q9 (fun z => by have := q7 z; show 0 ≤ w_tk W z ∧ w_tk W z ≤ 100000; omega) (by omega) b2 c3
    refine ⟨d, ?_, f1, f2⟩
    rcases c3 with c3 | c3
    · simp (disch := omega) only [c3, ii_lit, ii_eq, if_neg, ↓reduceIte, e]
    · simp (disch := omega) only [c3, ii_lit, ii_eq, if_neg, ↓reduceIte, e]
  rw [if_neg c3]
  by_cases c4 : e_kd E a.1 = 6
  · rw [if_pos c4]
    obtain ⟨d, e, f1, f2⟩ := t_conceal hK' (W := w_setlv W (l :: ls)) q2.1 hR hl h4 hv hH (by omega) (slot := e_wh E a.1) (node := e_on E a.1) n4.1 (n8 c4)
    refine ⟨d, ?_, f1, f2⟩
    simp (disch := omega) only [c4, ii_lit, ii_eq, if_neg, ↓reduceIte, chk_ko k0, e, ob_some]
  rw [if_neg c4]
  by_cases c5 : e_kd E a.1 = 7
  · rw [if_pos c5]
    have hw5 := n9 c5
    have hdf := hE.2.2 (e_wh E a.1) n4.1 (by omega)
    have gct := gE.1
    have hdr : -1 ≤ e_df E (e_wh E a.1) ∧ e_df E (e_wh E a.1) ≤ 100 := by
      rcases gE.2.2.2.1 (e_wh E a.1) n4.1 (by omega) with h | h
      · omega
      · have : 0 ≤ e_df E (e_wh E a.1) ∧ e_df E (e_wh E a.1) < e_ct E := h
        omega
    obtain ⟨d, e, f1, f2⟩ := t_enter hK' hR hl h4 hv hH (by omega) (df := e_df E (e_wh E a.1)) (x := lookA a (e_a E a.1)) (y := lookA a (e_b E a.1)) hdr.1 hdr.2
    refine ⟨d, ?_, f1, f2⟩
    simp (disch := omega) only [c5, ii_lit, ii_eq, if_neg, ↓reduceIte, gR_ko k0 k5, rI_kd kdf, hdf, chk_ko k0, e, ob_some]
  rw [if_neg c5]
  by_cases c6 : e_kd E a.1 = 8
  · rw [if_pos c6]
    obtain ⟨d, e, f1, f2, f3⟩ := t_addN hK' hR hl h4 hv hH b4 (n := e_on E a.1)
    refine ⟨d, ?_, f1, PWo_blk (by omega) (by omega) (by omega) f3⟩
    simp (disch := omega) only [c6, ii_lit, ii_eq, if_neg, ↓reduceIte, gR_ko p0 p4, gR_ko k0 k8, chk_ko pq4.1, e, ob_some]
  rw [if_neg c6]
  by_cases c7 : e_kd E a.1 = 9
  · rw [if_pos c7]
    obtain ⟨d, e, f1, f2, f3⟩ := t_addQ hK' hR hl h4 hv hH (by omega) (n := e_on E a.1)
    obtain ⟨D, e', g1, g2, g3⟩ := t_addN (l := qAdd l (e_on E a.1, a.2)) (ls := ls) hK' f1 rfl h4 hv f2 b4 (n := a.1)
    refine ⟨D, ?_, g1, (PWo_blk (by omega) (by omega) (by omega) f3).tr (PWo_blk (by omega) (by omega) (by omega) g3)⟩
    simp (disch := omega) only [c7, ii_lit, ii_eq, if_neg, ↓reduceIte, gR_ko p0 p4, gR_ko k0 k8, chk_ko pq1.1, chk_ko pq4.1, e, e', ob_some]
  rw [if_neg c7]
  by_cases c8 : e_kd E a.1 = 12
  · rw [if_pos c8]
    obtain ⟨⟨w0, w1⟩, w2, w3⟩ := n10 c8
    have la : lookA a (e_a E a.1) = e_a E a.1 := lookA_val (by omega)
    have lb : lookA a (e_b E a.1) = e_b E a.1 := lookA_val (by omega)
    obtain ⟨⟨v, d⟩, e, f1, f2, f3, f4⟩ := t_isFirst kD hR.2.1.2 (x := w_x W) (w := e_a E a.1) (m := e_b E a.1) hR.2.1.1 q6.1 q6.2 w0 w1 w2 w3
    dsimp only at f1 f2 f3 f4
    subst f1
    have hb : ∀ r, blk (wp + 11) 2 r → wp + 11 ≤ r ∧ r < wp + 13 := fun r p => by unfold blk at p; omega
    have hR1 := RWo_dr hR hlen4 hv f4 f2 f3
    have hH1 : RA d (wp + 16) a := RA_of_Fr hH f4 (fun p => by have := hb _ p; omega) (fun p => by have := hb _ p; omega)
    obtain ⟨D, e', g1, g2, g3⟩ := t_addQ (l := l) (ls := ls) hK' hR1 hl h4 hv hH1 (by omega) (n := if isFi (w_x W) (e_a E a.1) (e_b E a.1) = true then e_on E a.1 else e_ot E a.1)
    refine ⟨D, ?_, g1, (PWo_blk (by omega) (by omega) (by omega) f4).tr (PWo_blk (by omega) (by omega) (by omega) g3)⟩
    rw [la, lb]
    cases hfi : isFi (w_x W) (e_a E a.1) (e_b E a.1) with
    | true =>
      rw [hfi, if_pos rfl] at e'
      rw [hfi] at e
      have hnz : ¬ (bi true = ii 0) := by decide
      simp (disch := omega) only [c8, ii_lit, ii_eq, if_neg, ↓reduceIte, gR_ko k0 k4, chk_ko kD.1, e, ob_some, hnz, m_X10_act_b385, gR_ko k0 k8, chk_ko pq1.1, e']
    | false =>
      rw [hfi, if_neg (by decide)] at e'
      rw [hfi] at e
      have hnz : bi false = ii 0 := rfl
      simp (disch := omega) only [c8, ii_lit, ii_eq, if_neg, ↓reduceIte, gR_ko k0 k4, chk_ko kD.1, e, ob_some, hnz, m_X10_act_b385, gR_ko k0 k8, chk_ko pq1.1, e']
  rw [if_neg c8]
  by_cases c9 : e_kd E a.1 = 13
  · rw [if_pos c9]
    obtain ⟨d, e, f1, f2⟩ := t_dare hK' (W := w_setlv W (l :: ls)) q2.1 hR hl h4 hv hH (by omega) q5 (one := e_on E a.1) (other := e_ot E a.1)
    refine ⟨d, ?_, f1, f2⟩
    simp (disch := omega) only [c9, ii_lit, ii_eq, if_neg, ↓reduceIte, chk_ko k0, e, ob_some]
  rw [if_neg c9]
  obtain ⟨d, e, f1, f2, f3⟩ := t_addW hK' hR hl h4 hv hH b2 (n := a.1)
  refine ⟨d, ?_, f1, PWo_blk (by omega) (by omega) (by omega) f3⟩
  simp (disch := omega) only [ii_lit, ii_eq, if_neg, m_X10_act_b407, gR_ko p0 p2, gR_ko k0 k8, chk_ko pq2.1, e, ob_some]
end
