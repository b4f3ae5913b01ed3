/-! THE LAW: rule; what is only asked -/
def LQ (tq : Option Int32) (mq : Option (Int32 × Dy)) (Q : Dy → Prop) : Prop := ∃ (v : Int32) (d : Dy), tq = some v ∧ mq = some (v, d) ∧ Q d
section
variable {σ : St} {δ d : Dy} {mo p3 k wp : Nat} {E : Ev} {bd kp : Bool} {R : Rl} {I : Iw} {jr : List Jn} {md n a b z x : Int} {S : Sto}
theorem LQ_mk (h : Ctx σ δ mo p3 k E bd R I jr) {tq : Option Int32} {mq : Option (Int32 × Dy)} {v : Int32} (e1 : tq = some v) (e2 : ∀ d1, pI σ δ 12 mo 50 (0 : Int32) = some d1 → RM d1 mo E bd R I → mq = some (v, d1)) : LQ tq mq (fun d => Core d mo k E bd R I jr) := by
  obtain ⟨⟨hT, hK, h3, hmo⟩, hC⟩ := h
  obtain ⟨d1, p1, v1, o1, F1⟩ := pI_ex (δ := δ) (k := 50) (x := 0) hK.1
  exact ⟨v, d1, e1, e2 d1 p1 (RM_eq hC.2.2.1 (fun j hj => o1 j (by omega)) (fun r a b => (F1 r (by omega)).1)), Core_50 hC (by omega) o1 F1⟩
/-- a question with an answer, through the law's box -/
theorem LX_q (h : Ctx σ δ mo p3 k E bd R I jr) {v : Int32} {mL : Option (Int32 × Dy)} {mX : Dy → Option (Int32 × Dy)} (e1 : mL = (wLo σ δ p3 (0 : Int32) v.toInt64).bind fun d4 => some ((0 : Int32), d4)) (e2 : ∀ d d1, pI σ d 12 mo 50 (0 : Int32) = some d1 → RM d1 mo E bd R I → mX d = some (v, d1)) : LX mo p3 mL mX (fun d => Core d mo k E bd R I jr) := LX_mk (E' := E) (bd' := bd) (R' := R) (I' := I) (jr' := jr) (k' := k) (v := v) h h.2.1 h.2.2.2.2.2 h.2.2.2.2.1 ⟨δ, e1, h.2.2.1, Fr.rf⟩ (fun d d1 p1 hM => ⟨d1, e2 d d1 p1 hM, rfl, hM, Fr.rf⟩)
/-! rule -/
theorem o_rule_y (h : Ctx σ δ mo p3 k E bd R I jr) (hk : k < 512) (gb : bd = true) (gn : ¬ l_nb R = 0) (g8 : e_md E < 8) (hx : e_Rs E (e_md E) = R) : LX mo p3 (m_L_rule σ 0 p3 δ) (fun d => m_X12_rule σ mo d) (fun d => Core d mo (k + 1) (ruE E) false R I (jr ++ [(2, 0, 0, 0)])) := by
  have h' := h
  obtain ⟨⟨hT, hK, h3, hmo⟩, hC⟩ := h'
  obtain ⟨hGd, hRT, hRM, hlen, hRep⟩ := hC
  have gE := hGd.1
  have hm := gE.2.1
  have kru := KRu_begun (σ := σ) hT hm
  have hbg := hRT.2.2.1
  obtain ⟨hru, hmk⟩ := hbg.2 gb
  have hGR := hGd.2.2.2.2 gb
  have r4 := hGR.2.2.2.1
  have kW : KO σ 68 10 := hT.2.2.2.2.1.2.1
  have kS := hT.2.2.2.2.1.2.2.1
  have kR : KW σ (68 + 18) (68 + 1) 8 := hT.2.2.2.2.1.2.2.2.2.2.2.1
  have gE' : GE (ruE E) := ⟨gE.1, show 0 ≤ e_md E + 1 ∧ e_md E + 1 ≤ 8 by omega, fun w w0 w1 => by
    have w1' : w < e_md E + 1 := w1
    show GR (e_Rs E w)
    by_cases c : w = e_md E
    · rw [c, hx]; exact hGR
    · exact gE.2.2.1 w w0 (by omega), gE.2.2.2⟩
  have hG' : Good (ruE E) false R I := by
    obtain ⟨-, ⟨i1, ⟨i2, i2'⟩, i3⟩, i4, i5, -⟩ := hGd
    refine ⟨gE', ⟨i1, ⟨i2, fun e he => ?_⟩, i3⟩, i4, i5, fun q => by cases q⟩
    obtain ⟨⟨j1, j2⟩, j3, j4, j5⟩ := i2' e he
    exact ⟨⟨j1, by show e.1 < e_md E + 1; omega⟩, j3, j4, j5⟩
  refine LX_mk (E' := ruE E) (bd' := false) (R' := R) (I' := I) (jr' := jr ++ [(2, 0, 0, 0)]) (k' := k + 1) (v := ii (e_md E)) h hG' (Rep_add (Rep_mono (E' := ruE E) hRep rfl rfl (Int.le_refl _) (by show e_md E ≤ e_md E + 1; omega)) (Or.inr (Or.inr (Or.inl ⟨rfl, by show e_md E < e_md E + 1; omega, rfl⟩)))) (by rw [List.length_append, List.length_singleton]; omega) ?_ ?_
  · obtain ⟨d1, e1, t1, t2, t3⟩ := t_note (a := 2) (b := 0) (c := 0) (e := 0) hT hRT.2.2.2.1 (by omega)
    have hRT1 := RT_note hRT hm t1 t2 t3
    obtain ⟨d2, e2, v2, o2, F2⟩ := pZ_ex (δ := d1) (r := 0) (k := 7) (x := 0) hT.1 (Or.inl rfl)
    have hId2 : RId d2 68 (e_md E) I := RId_of_Fr hRT1.2.1 F2 (fun r a b => by omega)
    obtain ⟨d3, e3, t4, F3⟩ := t_madeI (n := e_md E + 1) kR.1 hId2
    have F03 : Fr (fun r => r = 0 ∨ r = 13 ∨ r = 86) δ d3 := (t2.wk (fun r p => by omega)).tr ((F2.wk (fun r p => by omega)).tr (F3.wk (fun r p => by omega)))
    have hv5 : gI σ δ 11 0 7 = some (bi true) := by rw [gI_ko hT.1, hbg.1, gb]
    have q6 : gI σ δ 7 (14 + 6 * (e_md E).toNat) 6 = some (ii (l_nb R)) := by rw [gI_ko kru.1, hru.2.2.2.2.1]
    have q9 : gI σ δ 6 (68 + 18) 9 = some (ii (e_md E)) := by rw [gI_ko kR.1]; exact congrArg some hRT.2.1.2.2.2.1
    have q9b : gI σ d2 6 (68 + 18) 9 = some (ii (e_md E)) := by rw [gI_ko kR.1]; exact congrArg some hId2.2.2.2.1
    have q9c : gI σ d3 6 (68 + 18) 9 = some (ii (e_md E + 1)) := by rw [gI_ko kR.1]; exact congrArg some t4.2.2.2.1
    have n0 : (ii (l_nb R) = (0 : Int32)) = False := eq_false (by rw [show ((0 : Int32)) = ii 0 from rfl, ii_eq (by omega) (by omega) (by omega) (by omega)]; exact gn)
    have n8 : (ii (e_md E) < (8 : Int32)) = True := i_lt (b := 8) (by omega) (by omega) (by omega)
    have l1 : ii (e_md E) + (1 : Int32) = ii (e_md E + 1) := by rw [show ((1 : Int32)) = ii 1 from rfl, ii_add]
    have l2 : ii (e_md E + 1) - (1 : Int32) = ii (e_md E) := by rw [show ((1 : Int32)) = ii 1 from rfl, ii_sub, show e_md E + 1 - 1 = e_md E by omega]
    have e1' : m_X11_note σ 0 (2 : Int32) (0 : Int32) (0 : Int32) (0 : Int32) δ = some d1 := e1
    refine ⟨d3, ?_, ⟨⟨?_, fun w w0 w1 => ?_, ?_⟩, t4, ⟨by rw [(F3 0 (by omega)).1, v2]; rfl, fun q => by cases q⟩, ⟨?_, ?_⟩, ?_⟩, F03.wk (fun r p => by omega)⟩
    · simp only [m_L_rule, m_X11_rule, chk_ko hT.1, ob_some, gR_ko hT.1 hT.2.1.2.2.1, gR_ko kW kS.2.2.1, hv5, bt0, ↓reduceIte, c_begun hT hRT.2.1 hm, q6, n0, q9, n8, e1', e2, q9b, l1, e3, q9c, l2, xhw_l]
    · exact RN_of_Fr hRT.1.1 F03 (fun r a b => by omega)
    · have w1' : w < e_md E + 1 := w1
      show RRu d3 (8 + 6 + 6 * w.toNat) (e_Rs E w)
      by_cases c : w = e_md E
      · rw [c, hx]
        exact RRu_of_Fr hru F03 (fun r a b => by omega)
      · exact RRu_of_Fr (hRT.1.2.1 w w0 (by omega)) F03 (fun r a b => by omega)
    · show ∀ d : Int, 0 ≤ d → d < 6 → d3.1 (68 + 13) d.toNat = ii (e_df E d)
      rw [(F03 (68 + 13) (by omega)).1]; exact hRT.1.2.2
    · rw [(F3 0 (by omega)).1, o2 6 (by decide)]; exact hRT1.2.2.2.1.1
    · rw [(F3 13 (by omega)).1, (F2 13 (by omega)).1]; exact hRT1.2.2.2.1.2
    · obtain ⟨md, I', q⟩ := hRT.2.2.2.2
      exact ⟨md, I', RId_of_Fr q F03 (fun r a b => by omega)⟩
  · intro d d1 p1 hM
    obtain ⟨⟨m1, m2⟩, m3, m4, m5⟩ := hM
    obtain ⟨m18, m19, -⟩ := m5.2 gb
    rw [gb] at m5
    obtain ⟨⟨r, D⟩, e2, w1, w2, w3, w4, F⟩ := m_ruleC (R := R) hK m1 ⟨hm.1, g8⟩ m5 hGR gE.2.2.1 hx
    dsimp only at w1 w2 w3 w4 F
    subst w1
    have g20 : gI σ d1 12 mo 20 = some (bi true) := by rw [gI_ko hK.1, m5.1]
    have g19 : gI σ d1 12 mo 19 = some (ii (l_nb R)) := by rw [gI_ko hK.1, m19]
    have g14 : gI σ d1 12 mo 14 = some (ii (e_md E)) := by rw [gI_ko hK.1, m1.1]
    have n0 : (ii (l_nb R) = (0 : Int32)) = False := eq_false (by rw [show ((0 : Int32)) = ii 0 from rfl, ii_eq (by omega) (by omega) (by omega) (by omega)]; exact gn)
    have n8 : (ii (e_md E) = (8 : Int32)) = False := eq_false (by rw [show ((8 : Int32)) = ii 8 from rfl, ii_eq (by omega) (by omega) (by omega) (by omega)]; omega)
    refine ⟨D, ?_, w4 50 (by decide) (by decide), ⟨⟨w2, RNm_eq m2 (w4 7 (by decide) (by decide)) (fun r a b => (F r (by omega)).1)⟩, RIm_eq m3 (F _ (by omega)).1, by rw [(F _ (by omega)).1]; exact m4, ⟨w3, fun q => by cases q⟩⟩, F.wk (fun r p => by omega)⟩
    unfold m_X12_rule
    rw [p1, ob_some, g20, ob_some, if_neg (show ¬ bi true = 0 by decide), g19, ob_some, if_neg (show ¬ ii (l_nb R) = 0 by rw [n0]; exact fun q => q), g14, ob_some, if_neg (show ¬ ii (e_md E) = 8 by rw [n8]; exact fun q => q), ob_some]
    exact e2
theorem o_rule_n (h : Ctx σ δ mo p3 k E bd R I jr) (hno : ¬ (bd = true ∧ ¬ l_nb R = 0 ∧ e_md E < 8)) : LX mo p3 (m_L_rule σ 0 p3 δ) (fun d => m_X12_rule σ mo d) (fun d => Core d mo k E bd R I jr) := by
  obtain ⟨⟨hT, hK, h3, hmo⟩, hC⟩ := id h
  have hGd := hC.1
  have hRT := hC.2.1
  have hm := hGd.1.2.1
  have kru := KRu_begun (σ := σ) hT hm
  have hbg := hRT.2.2.1
  have kW : KO σ 68 10 := hT.2.2.2.2.1.2.1
  have kS := hT.2.2.2.2.1.2.2.1
  have kR : KW σ (68 + 18) (68 + 1) 8 := hT.2.2.2.2.1.2.2.2.2.2.2.1
  have hv5 : gI σ δ 11 0 7 = some (bi bd) := by rw [gI_ko hT.1, hbg.1]
  have q9 : gI σ δ 6 (68 + 18) 9 = some (ii (e_md E)) := by rw [gI_ko kR.1]; exact congrArg some hRT.2.1.2.2.2.1
  refine LX_ref (c := 1) h (by decide) ?_ (fun d1 d2 p1 hM p2 => ?_)
  · cases gb : bd with
    | false =>
      rw [gb] at hv5
      simp only [m_L_rule, m_X11_rule, chk_ko hT.1, ob_some, gR_ko hT.1 hT.2.1.2.2.1, gR_ko kW kS.2.2.1, hv5, bf0, ↓reduceIte, m_X11_rule_b34, xhw_r]
    | true =>
      rw [gb] at hv5
      obtain ⟨hru, -⟩ := hbg.2 gb
      have r4 := (hGd.2.2.2.2 gb).2.2.2.1
      have q6 : gI σ δ 7 (14 + 6 * (e_md E).toNat) 6 = some (ii (l_nb R)) := by rw [gI_ko kru.1, hru.2.2.2.2.1]
      by_cases gn : l_nb R = 0
      · have n0 : (ii (l_nb R) = (0 : Int32)) = True := eq_true (by rw [gn]; rfl)
        simp only [m_L_rule, m_X11_rule, chk_ko hT.1, ob_some, gR_ko hT.1 hT.2.1.2.2.1, gR_ko kW kS.2.2.1, hv5, bt0, ↓reduceIte, c_begun hT hRT.2.1 hm, q6, n0, m_X11_rule_b34, xhw_r]
      · have n0 : (ii (l_nb R) = (0 : Int32)) = False := eq_false (by rw [show ((0 : Int32)) = ii 0 from rfl, ii_eq (by omega) (by omega) (by omega) (by omega)]; exact gn)
        have n8 : (ii (e_md E) < (8 : Int32)) = False := i_nlt (b := 8) (by omega) (by omega) (fun q => hno ⟨gb, gn, q⟩)
        simp only [m_L_rule, m_X11_rule, chk_ko hT.1, ob_some, gR_ko hT.1 hT.2.1.2.2.1, gR_ko kW kS.2.2.1, hv5, bt0, ↓reduceIte, c_begun hT hRT.2.1 hm, q6, n0, q9, n8, m_X11_rule_b34, xhw_r]
  · obtain ⟨⟨m1, m2⟩, m3, m4, m5⟩ := hM
    have g20 : gI σ d1 12 mo 20 = some (bi bd) := by rw [gI_ko hK.1, m5.1]
    have g14 : gI σ d1 12 mo 14 = some (ii (e_md E)) := by rw [gI_ko hK.1, m1.1]
    cases gb : bd with
    | false =>
      rw [gb] at g20
      simp only [m_X12_rule, p1, ob_some, g20, bf0, ↓reduceIte, m_X12_rule_b28, chk_ko hK.1, stop_of p2]
    | true =>
      rw [gb] at g20
      obtain ⟨m18, m19, -⟩ := m5.2 gb
      have r4 := (hGd.2.2.2.2 gb).2.2.2.1
      have g19 : gI σ d1 12 mo 19 = some (ii (l_nb R)) := by rw [gI_ko hK.1, m19]
      by_cases gn : l_nb R = 0
      · have n0 : (ii (l_nb R) = (0 : Int32)) = True := eq_true (by rw [gn]; rfl)
        simp only [m_X12_rule, p1, ob_some, g20, bt0, ↓reduceIte, g19, n0, m_X12_rule_b28, chk_ko hK.1, stop_of p2]
      · have n0 : (ii (l_nb R) = (0 : Int32)) = False := eq_false (by rw [show ((0 : Int32)) = ii 0 from rfl, ii_eq (by omega) (by omega) (by omega) (by omega)]; exact gn)
        have n8 : (ii (e_md E) = (8 : Int32)) = True := eq_true (by rw [show e_md E = 8 by have := fun q => hno ⟨gb, gn, q⟩; exact Int.le_antisymm hm.2 (Int.not_lt.mp this)]; rfl)
        simp only [m_X12_rule, p1, ob_some, g20, bt0, ↓reduceIte, g19, n0, g14, n8, m_X12_rule_b28, chk_ko hK.1, stop_of p2]
/-! questions without refusal -/
theorem q_clock (h : Ctx σ δ mo p3 k E bd R I jr) : LQ (m_X11_clock σ 0 δ) (m_X12_clock σ mo δ) (fun d => Core d mo k E bd R I jr) := by
  obtain ⟨⟨hT, hK, h3, hmo⟩, hC⟩ := id h
  have kW : KO σ 68 10 := hT.2.2.2.2.1.2.1
  refine LQ_mk (v := ii (i_ck I)) h ?_ (fun d1 p1 hM => ?_)
  · unfold m_X11_clock
    rw [gR_ko hT.1 hT.2.1.2.2.1, ob_some, gI_ko kW, ob_some, hC.2.1.2.1.2.2.2.2.2.2.2.2.1]
  · have x1 : rI σ d1 (mo + 1) (7039 : Int32) = some (ii (i_ck I)) := rst (z := 7039) (md0 hK) (by omega) (by omega) rfl hM.2.1.2.2.2.1.2.2.2
    simp only [m_X12_clock, p1, ob_some, mg0 hK, x1]
theorem q_hasFailed (h : Ctx σ δ mo p3 k E bd R I jr) : LQ (m_X11_hasFailed σ 0 δ) (m_X12_hasFailed σ mo δ) (fun d => Core d mo k E bd R I jr) := by
  obtain ⟨⟨hT, hK, h3, hmo⟩, hC⟩ := id h
  have kW : KO σ 68 10 := hT.2.2.2.2.1.2.1
  have kS := hT.2.2.2.2.1.2.2.1
  have kst : KS σ (68 + 1) := hT.2.2.2.2.1.2.2.2.2.2.1
  refine LQ_mk (v := bi (v_fl (i_V I))) h ?_ (fun d1 p1 hM => ?_)
  · have x2 : gI σ δ 8 (68 + 1) 12 = some (bi (v_fl (i_V I))) := by rw [gI_ko kst.1]; exact congrArg some hC.2.1.2.1.1.2.2.2.2.2.2.2.2.2.2.2.1
    simp only [m_X11_hasFailed, gR_ko hT.1 hT.2.1.2.2.1, gR_ko kW kS.2.1, ob_some, x2, zo_bi]
  · have x40 : rI σ d1 (mo + 1) (7040 : Int32) = some (bi (v_fl (i_V I))) := rst (z := 7040) (md0 hK) (by omega) (by omega) rfl hM.2.1.2.2.2.2.1
    cases hf : v_fl (i_V I) with
    | true =>
      rw [hf] at x40
      have b1 : (bi true = (1 : Int32)) = True := eq_true rfl
      simp only [m_X12_hasFailed, p1, ob_some, mg0 hK, x40, b1, ↓reduceIte]
      rfl
    | false =>
      rw [hf] at x40
      have b1 : (bi false = (1 : Int32)) = False := eq_false (by decide)
      simp only [m_X12_hasFailed, p1, ob_some, mg0 hK, x40, b1, ↓reduceIte]
      rfl
theorem q_variables (h : Ctx σ δ mo p3 k E bd R I jr) : LQ (m_X11_variables σ 0 δ) (m_X12_variables σ mo δ) (fun d => Core d mo k E bd R I jr) := by
  obtain ⟨⟨hT, hK, h3, hmo⟩, hC⟩ := id h
  have kW : KO σ 68 10 := hT.2.2.2.2.1.2.1
  have kS := hT.2.2.2.2.1.2.2.1
  have kst : KS σ (68 + 1) := hT.2.2.2.2.1.2.2.2.2.2.1
  refine LQ_mk (v := ii (s_nv (v_S (i_V I)))) h ?_ (fun d1 p1 hM => ?_)
  · have x1 : gI σ δ 8 (68 + 1) 2 = some (ii (s_nv (v_S (i_V I)))) := by rw [gI_ko kst.1]; exact congrArg some hC.2.1.2.1.1.1
    simp only [m_X11_variables, gR_ko hT.1 hT.2.1.2.2.1, gR_ko kW kS.2.1, ob_some, x1]
  · have x0 : rI σ d1 (mo + 1) (0 : Int32) = some (ii (s_nv (v_S (i_V I)))) := rst (z := 0) (k := 0) (md0 hK) (by omega) (by omega) rfl hM.2.1.1.1
    simp only [m_X12_variables, p1, ob_some, mg0 hK, x0]
theorem q_tokens (h : Ctx σ δ mo p3 k E bd R I jr) : LQ (m_X11_tokens σ 0 δ) (m_X12_tokens σ mo δ) (fun d => Core d mo k E bd R I jr) := by
  obtain ⟨⟨hT, hK, h3, hmo⟩, hC⟩ := id h
  have kW : KO σ 68 10 := hT.2.2.2.2.1.2.1
  have kS := hT.2.2.2.2.1.2.2.1
  have kst : KS σ (68 + 1) := hT.2.2.2.2.1.2.2.2.2.2.1
  refine LQ_mk (v := ii (s_nt (v_S (i_V I)))) h ?_ (fun d1 p1 hM => ?_)
  · have x1 : gI σ δ 8 (68 + 1) 10 = some (ii (s_nt (v_S (i_V I)))) := by rw [gI_ko kst.1]; exact congrArg some hC.2.1.2.1.1.2.1
    simp only [m_X11_tokens, gR_ko hT.1 hT.2.1.2.2.1, gR_ko kW kS.2.1, ob_some, x1]
  · have x0 : rI σ d1 (mo + 1) (121 : Int32) = some (ii (s_nt (v_S (i_V I)))) := rst (z := 121) (md0 hK) (by omega) (by omega) rfl hM.2.1.1.2.2.2.1
    simp only [m_X12_tokens, p1, ob_some, mg0 hK, x0]
theorem q_waiting (h : Ctx σ δ mo p3 k E bd R I jr) : LQ (m_X11_waiting σ 0 δ) (m_X12_waiting σ mo δ) (fun d => Core d mo k E bd R I jr) := by
  obtain ⟨⟨hT, hK, h3, hmo⟩, hC⟩ := id h
  have kW : KO σ 68 10 := hT.2.2.2.2.1.2.1
  refine LQ_mk (v := ii (i_nx I).length) h ?_ (fun d1 p1 hM => ?_)
  · have f1 := t_forNext hT.2.2.2.2.1 hC.2.1.2.1
    simp only [m_X11_waiting, gR_ko hT.1 hT.2.1.2.2.1, ob_some, chk_ko kW, f1]
  · have x0 : rI σ d1 (mo + 1) (7041 : Int32) = some (ii (i_nx I).length) := rst (z := 7041) (md0 hK) (by omega) (by omega) rfl hM.2.1.2.2.2.2.2.1
    simp only [m_X12_waiting, p1, ob_some, mg0 hK, x0]
/-- the reference counts what stands -/
theorem m_count (hK : KM σ mo) (hS : RSm δ mo S) (hG : GS S) : m_X12_standing_b9 σ mo (0 : Int32) (0 : Int32) δ = some (ii (cnt (s_sd S) (s_nt S).toNat), δ) := by
  have gn := hG.1
  have x1 : rI σ δ (mo + 1) (121 : Int32) = some (ii (s_nt S)) := rst (z := 121) (md0 hK) (by omega) (by omega) rfl hS.2.2.2.1
  refine Ok_eq ?_
  unfold m_X12_standing_b9
  refine Ok_for (fun z s => s.2 = ii z ∧ s.1 = ii (cnt (s_sd S) z.toNat)) 0 (s_nt S) (by omega) (by omega) ?_ ?_ ⟨rfl, rfl⟩
  · rintro z ⟨s1, s2⟩ z0 z1 ⟨hs2, hs1⟩
    dsimp only at hs1 hs2 ⊢
    subst hs1
    subst hs2
    have r1 : rI σ δ (mo + 1) (ii (422 + z)) = some (bi (s_sd S z)) := rst (md0 hK) (by omega) (by omega) rfl (hS.2.2.2.2.2.2.2.1 z z0 z1)
    refine Ok_inl (s' := (ii (cnt (s_sd S) (z + 1).toNat), ii (z + 1))) ?_ ⟨rfl, rfl⟩
    rw [mg0 hK, ob_some, x1, ob_some, if_neg (show ¬ ii (s_nt S) ≤ ii z by rw [ii_le (by omega) (by omega) (by omega) (by omega)]; omega), ob_some, show ((422 : Int32)) = ii 422 from rfl, ii_add, r1, ob_some, show ((1 : Int32)) = ii 1 from rfl, ii_add, bi_ii, ii_add, show (z + 1).toNat = z.toNat + 1 by omega]
    show some (Sum.inl (ii (cnt (s_sd S) z.toNat + if s_sd S z = true then 1 else 0), ii (z + 1))) = some (Sum.inl (ii (cnt (s_sd S) z.toNat + if s_sd S (z.toNat : Int) = true then 1 else 0), ii (z + 1)))
    rw [show ((z.toNat : Nat) : Int) = z by omega]
  · rintro ⟨s1, s2⟩ ⟨hs2, hs1⟩
    dsimp only at hs1 hs2 ⊢
    subst hs1
    subst hs2
    refine Ok_inr (r := (ii (cnt (s_sd S) (s_nt S).toNat), δ)) ?_ rfl
    rw [mg0 hK, ob_some, x1, ob_some, if_pos (show ii (s_nt S) ≤ ii (s_nt S) by rw [ii_le (by omega) (by omega) (by omega) (by omega)]; omega)]
theorem q_standing (h : Ctx σ δ mo p3 k E bd R I jr) : LQ (m_X11_standing σ 0 δ) (m_X12_standing σ mo δ) (fun d => Core d mo k E bd R I jr) := by
  obtain ⟨⟨hT, hK, h3, hmo⟩, hC⟩ := id h
  have kW : KO σ 68 10 := hT.2.2.2.2.1.2.1
  have kS := hT.2.2.2.2.1.2.2.1
  have kst : KS σ (68 + 1) := hT.2.2.2.2.1.2.2.2.2.2.1
  refine LQ_mk (v := ii (cnt (s_sd (v_S (i_V I))) (s_nt (v_S (i_V I))).toNat)) h ?_ (fun d1 p1 hM => ?_)
  · have x1 := t_count kst hC.2.1.2.1.1 hC.1.2.1.1
    simp only [m_X11_standing, gR_ko hT.1 hT.2.1.2.2.1, gR_ko kW kS.2.1, ob_some, chk_ko kst.1, x1]
  · have x0 := m_count hK hM.2.1.1 hC.1.2.1.1
    simp only [m_X12_standing, p1, ob_some, x0]
end
