/-! THE LAW: a step -/
section
variable {σ : St} {δ d : Dy} {mo p3 k : Nat} {E : Ev} {bd : Bool} {R : Rl} {I : Iw} {jr : List Jn} {Wf : Wo} {ch : Nat → Nat} {st B md : Int}
theorem run_good (gE : GE E) (hG : GI E st I) (hX : XI E B I) (hc : ∀ n, okCh ch (turns E ch (startW I) n)) (hr : RunEnd E ch (startW I) Wf) : GI E (st + 60) (endI Wf) ∧ XI E (B + 60) (endI Wf) ∧ w_sp Wf = i_st I + 1 ∧ GW E (v_hi (i_V I)).length st Wf := by
  obtain ⟨n, hn, ho⟩ := hr
  have g := (turns_good gE (GW_start gE hG) hc n).1
  have x := turns_X gE (GW_start gE hG) hc (XV_start gE hG hX) n
  rw [hn] at g x
  refine ⟨GI_end g ho, XI_end x, ?_, g⟩
  rw [← hn, turns_sp]
  rfl
theorem Good_step (h : Good E bd R I) (hr : RunEnd E (fun _ => 0) (startW I) Wf) (c : i_st I < 30) : Good E bd R (endI Wf) := by
  obtain ⟨gE, hG, hX, h30, hb⟩ := h
  obtain ⟨a1, a2, a3, -⟩ := run_good gE hG hX (fun n => okCh_0) hr
  have e : 60 * i_st (endI Wf) = 60 * i_st I + 60 := by
    show 60 * w_sp Wf = _
    omega
  refine ⟨gE, by rw [e]; exact a1, by rw [e]; exact a2, ?_, hb⟩
  show 0 ≤ w_sp Wf ∧ w_sp Wf ≤ 30
  omega
/-- the survey starts anew -/
theorem t_restart (hK : KSu σ 9 8) : ∃ d, m_X9_restart σ 9 δ = some d ∧ RSu d 9 0 (fun _ => 0) (fun _ => 0) [] ∧ d.1 9 5 = 0 ∧ Fr (fun r => r = 9) δ d := by
  obtain ⟨-, k0, -⟩ := hK
  obtain ⟨d1, e1, v1, o1, F1⟩ := pI_ex (δ := δ) (r := 9) (k := 2) (x := 0) k0
  obtain ⟨d2, e2, v2, o2, F2⟩ := pI_ex (δ := d1) (r := 9) (k := 3) (x := 0) k0
  obtain ⟨d3, e3, v3, o3, F3⟩ := pI_ex (δ := d2) (r := 9) (k := 5) (x := 0) k0
  refine ⟨d3, ?_, ⟨⟨?_, by omega⟩, ?_, fun j p hp => ?_, fun j _ hj => absurd hj (by omega)⟩, v3, F1.tr (F2.tr F3)⟩
  · unfold m_X9_restart
    rw [e1, ob_some, e2, ob_some, e3, ob_some]
  · rw [o3 2 (by decide), o2 2 (by decide)]; exact v1
  · rw [o3 3 (by decide)]; exact v2
  · have : (bz ([] : List Int))[j]? = none := rfl
    rw [this] at hp
    cases hp
theorem okPl_0 {W : Wo} : okPl 0 (fun _ => 0) (fun _ => 0) W := fun l _ _ _ _ _ => by rw [if_neg (Nat.not_lt_zero _)]
/-- a step of the class, in a world at 68 or 554 -/
theorem t_stepI {wp : Nat} (hK : KWo σ wp 1 8) (hS : KSu σ 9 8) (gE : GE E) (hE : REn δ 1 8 wp E) (hG : GI E st I) (hst : st ≤ 90000) (hR : RId δ wp (e_md E) I) (hwp : 14 ≤ wp) : ∃ d d', m_X9_restart σ 9 δ = some d ∧ m_X10_doStep σ wp 9 d = some d' ∧ (∃ Wf, RunEnd E (fun _ => 0) (startW I) Wf ∧ RId d' wp (e_md E) (endI Wf)) ∧ Fr (fun r => ((wp ≤ r ∧ r < wp + 486) ∧ ¬ r = wp + 13) ∨ (9 ≤ r ∧ r < 12)) δ d' := by
  obtain ⟨d, e1, t1, -, F1⟩ := t_restart (δ := δ) hS
  have hE1 : REn d 1 8 wp E := REn_of_Fr hE gE.2.1.2 F1 (fun r a b => by omega) (fun r a b => by omega) (by omega)
  have hR1 : RId d wp (e_md E) I := RId_of_Fr hR F1 (fun r a b => by omega)
  obtain ⟨d', e2, Wf, y1, y2, y3, y4, y5⟩ := t_doStep hK hS gE hE1 hG hst hR1 t1 (fun n => okCh_0) (fun n => okPl_0)
  exact ⟨d, d', e1, e2, ⟨Wf, y1, y3⟩, (F1.wk (fun r p => by omega)).tr (y5.wk (fun r p => by unfold PT PWo at p; omega))⟩
theorem RM_back (hK : KM σ mo) (p1 : pI σ δ 12 mo 50 (0 : Int32) = some d) (h : RM d mo E bd R I) : RM δ mo E bd R I := by
  obtain ⟨d', e, -, o, F⟩ := pI_ex (δ := δ) (k := 50) (x := 0) hK.1
  have hd : d = d' := Option.some.inj (p1.symm.trans e)
  subst hd
  exact RM_eq h (fun j hj => (o j (by omega)).symm) (fun r a b => ((F r (by omega)).1).symm)
theorem o_step_y (h : Ctx σ δ mo p3 k E bd R I jr) (hk : k < 512) (g1 : v_fl (i_V I) = false) (g2 : i_st I < 30) : LX mo p3 (m_L_step σ 0 p3 δ) (fun d => m_X12_step σ mo d) (fun d => ∃ Wf, RunEnd E (fun _ => 0) (startW I) Wf ∧ Core d mo (k + 1) E bd R (endI Wf) (jr ++ [(4, 0, 0, 0)])) := by
  have h' := h
  obtain ⟨⟨hT, hK, h3, hmo⟩, hC⟩ := h'
  obtain ⟨hGd, hRT, hRM, hlen, hRep⟩ := hC
  have hGd' := hGd
  obtain ⟨gE, hGI, hXI, h30, -⟩ := hGd'
  have kWo := hT.2.2.2.2.1
  have kSu := hT.2.2.2.1
  have kW : KO σ 68 10 := kWo.2.1
  have kS := kWo.2.2.1
  have kst : KS σ (68 + 1) := kWo.2.2.2.2.2.1
  obtain ⟨d1, e1, t1, t2, t3⟩ := t_note (a := 4) (b := 0) (c := 0) (e := 0) hT hRT.2.2.2.1 (by omega)
  have hRT1 := RT_note hRT gE.2.1 t1 t2 t3
  obtain ⟨d2, d3, e2, e3, ⟨Wf, y1, y2⟩, y3⟩ := t_stepI kWo kSu gE hRT1.1 hGI (by omega) hRT1.2.1 (by omega)
  have x1 : gI σ δ 8 (68 + 1) 12 = some (bi (v_fl (i_V I))) := by rw [gI_ko kst.1]; exact congrArg some hRT.2.1.1.2.2.2.2.2.2.2.2.2.2.2.1
  have x2 : gI σ δ 10 68 10 = some (ii (i_st I)) := by rw [gI_ko kW]; exact congrArg some hRT.2.1.2.2.2.2.2.2.2.2.2
  have x3 : gI σ d3 8 (68 + 1) 11 = some (ii (v_ac (w_V Wf))) := by rw [gI_ko kst.1]; exact congrArg some y2.1.2.2.2.2.2.2.2.2.2.2.1
  rw [g1] at x1
  have hGf := Good_step hGd y1 g2
  have hRep' := Rep_add hRep (e := (4, 0, 0, 0)) (s' := (e_df E, e_md E, endI Wf)) (Or.inr (Or.inr (Or.inr (Or.inr (Or.inl ⟨rfl, g1, g2, Wf, y1, rfl⟩)))))
  have main : LX mo p3 (m_L_step σ 0 p3 δ) (fun d => m_X12_step σ mo d) (fun d => Core d mo (k + 1) E bd R (endI Wf) (jr ++ [(4, 0, 0, 0)])) := by
    refine LX_mk (E' := E) (bd' := bd) (R' := R) (I' := endI Wf) (jr' := jr ++ [(4, 0, 0, 0)]) (k' := k + 1) (v := ii (v_ac (w_V Wf))) h hGf hRep' (by rw [List.length_append, List.length_singleton]; omega) ?_ ?_
    · refine ⟨d3, ?_, ?_, (t2.wk (fun r p => by omega)).tr (y3.wk (fun r p => by omega))⟩
      · have e1' : m_X11_note σ 0 (4 : Int32) (0 : Int32) (0 : Int32) (0 : Int32) δ = some d1 := e1
        have n30 : (ii (i_st I) < (30 : Int32)) = True := by
          rw [show ((30 : Int32)) = ii 30 from rfl, ii_lt (by omega) (by omega) (by omega) (by omega)]
          exact eq_true g2
        simp only [m_L_step, m_X11_step, chk_ko hT.1, ob_some, gR_ko hT.1 hT.2.1.2.2.1, gR_ko kW kS.2.1, x1, bf0, ↓reduceIte, x2, n30, e1', gR_ko hT.1 hT.2.1.2.2.2.2.1, chk_ko kSu.2.1, e2, chk_ko kW, e3, x3, xhw_l]
      · have hmd8 := gE.2.1.2
        obtain ⟨q1, -, q3, q4, md, I'', q5⟩ := hRT1
        exact ⟨REn_of_Fr q1 gE.2.1.2 y3 (fun r a b => by omega) (fun r a b => by omega) (by omega), y2, RBg_of_Fr q3 y3 (by omega) (fun r a b => by omega), RJn_of_Fr q4 y3 (by omega) (by omega), md, I'', RId_of_Fr q5 y3 (fun r a b => by omega)⟩
    · intro d d1 p1 hM
      have hM0 : RM d mo E bd R I := RM_back hK p1 hM
      obtain ⟨d1', p1', v1, o1, F1⟩ := pI_ex (δ := d) (k := 50) (x := 0) hK.1
      have hd : d1 = d1' := Option.some.inj (p1.symm.trans p1')
      subst hd
      obtain ⟨m1, m3, m4, m5⟩ := hM0
      obtain ⟨⟨v, D⟩, e, z1, Wg, z2, z3, z4, z5, z6, z7, z8⟩ := m_step hK gE m1 m3 m4 hGI (by omega) hXI (by omega) h30 g1 (by omega)
      dsimp only at z1 z3 z4 z5 z6 z7 z8
      have hWg : Wg = Wf := RunEnd_uni z2 y1
      subst hWg
      subst z3
      refine ⟨D, e, by rw [z1, v1], ⟨REm_eq m1 (z8 7 (by decide)) (z8 14 (by decide)) (fun r _ _ => (z6 r (by omega)).1), z4, z5, ?_⟩, fun q hq => ?_⟩
      · unfold RMb at m5 ⊢
        rw [z8 20 (by decide), z8 18 (by decide), z8 19 (by decide), (z6 (mo + 14) (by omega)).1, (z6 (mo + 15) (by omega)).1, (z6 (mo + 16) (by omega)).1]
        exact m5
      · have a := z6 q (by omega)
        have b := F1 q (by omega)
        exact ⟨a.1.trans b.1.symm, a.2.trans b.2.symm⟩
  obtain ⟨c, D1, v, D2, q1, q2, q3, q4, q5⟩ := main
  exact ⟨c, D1, v, D2, q1, q2, q3, q4, Wf, y1, q5⟩
theorem o_step_n (h : Ctx σ δ mo p3 k E bd R I jr) (hno : ¬ (v_fl (i_V I) = false ∧ i_st I < 30)) : LX mo p3 (m_L_step σ 0 p3 δ) (fun d => m_X12_step σ mo d) (fun d => Core d mo k E bd R I jr) := by
  obtain ⟨⟨hT, hK, h3, hmo⟩, hC⟩ := id h
  obtain ⟨hGd, hRT, hRM, hlen, hRep⟩ := hC
  have kWo := hT.2.2.2.2.1
  have kW : KO σ 68 10 := kWo.2.1
  have kS := kWo.2.2.1
  have kst : KS σ (68 + 1) := kWo.2.2.2.2.2.1
  have h30 := hGd.2.2.2.1
  have x1 : gI σ δ 8 (68 + 1) 12 = some (bi (v_fl (i_V I))) := by rw [gI_ko kst.1]; exact congrArg some hRT.2.1.1.2.2.2.2.2.2.2.2.2.2.2.1
  have x2 : gI σ δ 10 68 10 = some (ii (i_st I)) := by rw [gI_ko kW]; exact congrArg some hRT.2.1.2.2.2.2.2.2.2.2.2
  have hor : v_fl (i_V I) = true ∨ i_st I = 30 := by
    cases hb : v_fl (i_V I) with
    | true => exact Or.inl rfl
    | false => exact Or.inr (by have : ¬ i_st I < 30 := fun g => hno ⟨hb, g⟩; omega)
  have e1 : m_L_step σ 0 p3 δ = some (1, δ) := by
    by_cases hb : v_fl (i_V I) = true
    · rw [hb] at x1
      simp only [m_L_step, m_X11_step, chk_ko hT.1, ob_some, gR_ko hT.1 hT.2.1.2.2.1, gR_ko kW kS.2.1, x1, bt0, ↓reduceIte, m_X11_step_b25, xhw_r]
    · have hb' : v_fl (i_V I) = false := by
        cases hc : v_fl (i_V I) with
        | true => exact absurd hc hb
        | false => rfl
      rw [hb'] at x1
      have n30 : (ii (i_st I) < (30 : Int32)) = False := by
        rw [show ((30 : Int32)) = ii 30 from rfl, ii_lt (by omega) (by omega) (by omega) (by omega)]
        exact eq_false (fun g => hno ⟨hb', g⟩)
      simp only [m_L_step, m_X11_step, chk_ko hT.1, ob_some, gR_ko hT.1 hT.2.1.2.2.1, gR_ko kW kS.2.1, x1, bf0, ↓reduceIte, x2, n30, m_X11_step_b25, xhw_r]
  obtain ⟨⟨v, D⟩, e, z1, z2, z3, z4⟩ := m_stepNo hK hRM.2.1 hRM.2.2.1 hor
  dsimp only at z1 z2 z3 z4
  subst z1
  exact LX_no (c := 1) (v := 0) h.2 hmo.1 (by decide) e1 e z2 z4 z3
end
