/-! THE LAW: all ends of a step -/
section
variable {σ : St} {δ d : Dy} {mo p3 k : Nat} {E : Ev} {bd : Bool} {R : Rl} {I : Iw} {jr : List Jn}
theorem ends_same {n0 : Nat} {v w : Int} (hT : (∃ r es, r ≤ 8 ∧ Done E I n0 r es ∧ v = (es.length : Nat)) ∨ (v = -1 ∧ ∃ ch es, Rnds E I n0 8 ch es)) (hM : (∃ r es, r ≤ 8 ∧ Done E I n0 r es ∧ w = (es.length : Nat)) ∨ (w = -1 ∧ ∃ ch es, Rnds E I n0 8 ch es)) : v = w := by
  rcases hT with ⟨r, es, h8, hD, hv⟩ | ⟨hv, ch, es, hR⟩
  · rcases hM with ⟨r', es', h8', hD', hw⟩ | ⟨hw, ch', es', hR'⟩
    · rw [hv, hw, Done_uni hD hD']
    · exact (Done_Rnds hD hR' h8).elim
  · rcases hM with ⟨r', es', h8', hD', hw⟩ | ⟨hw, ch', es', hR'⟩
    · exact (Done_Rnds hD' hR h8').elim
    · rw [hv, hw]
theorem o_ends_y (h : Ctx σ δ mo p3 k E bd R I jr) (g1 : v_fl (i_V I) = false) : LX mo p3 (m_L_ends σ 0 p3 δ) (fun d => m_X12_ends σ mo d) (fun d => Core d mo k E bd R I jr) := by
  have h' := h
  obtain ⟨⟨hT, hK, h3, hmo⟩, hC⟩ := h'
  obtain ⟨hGd, hRT, hRM, hlen, hRep⟩ := hC
  have hGd' := hGd
  obtain ⟨gE, hGI, hXI, h30, -⟩ := hGd'
  have kWo := hT.2.2.2.2.1
  have kSu := hT.2.2.2.1
  have kW : KO σ 68 10 := kWo.2.1
  have kS := kWo.2.2.1
  have kst : KS σ (68 + 1) := kWo.2.2.2.2.2.1
  have gnv := hGI.1.1
  have hn : (((s_nv (v_S (i_V I))).toNat : Nat) : Int) = s_nv (v_S (i_V I)) := by omega
  obtain ⟨n0, hn0⟩ : ∃ n0 : Nat, n0 = (s_nv (v_S (i_V I))).toNat := ⟨_, rfl⟩
  rw [← hn0] at hn
  have x1 : gI σ δ 8 (68 + 1) 12 = some (bi (v_fl (i_V I))) := by rw [gI_ko kst.1]; exact congrArg some hRT.2.1.1.2.2.2.2.2.2.2.2.2.2.2.1
  rw [g1] at x1
  obtain ⟨q1, q2, q3, q4, md, I', q5⟩ := id hRT
  obtain ⟨d1, e1, t1, t2, F1⟩ := t_restart (δ := δ) kSu
  have hmd8 := gE.2.1
  have hE1 : REn d1 1 8 68 E := REn_of_Fr q1 gE.2.1.2 F1 (fun r a b => by omega) (fun r a b => by omega) (by omega)
  have hR1 : RId d1 68 (e_md E) I := RId_of_Fr q2 F1 (fun r a b => by omega)
  have hS1 : RId d1 554 md I' := RId_of_Fr q5 F1 (fun r a b => by omega)
  have hE0 : TEnd E I n0 d1 [] := ⟨⟨md, I', hS1⟩, t2, fun r x hx => (by cases hx)⟩
  obtain ⟨x, e2, v, d2, hx, hv, ⟨md2, I2, hS2⟩, F2⟩ := t_endsL hT gE hE1 hGI (by omega) hXI hR1 hn hE0 ⟨fun _ => 0, 0, fun _ => 0, ⟨rfl, rfl⟩, t1, fun n => okPl_0⟩
  subst hx
  have FF : Fr PSv δ d2 := (F1.wk (fun r p => by unfold PSv; omega)).tr F2
  refine LX_mk (E' := E) (bd' := bd) (R' := R) (I' := I) (jr' := jr) (k' := k) (v := ii v) h hGd hRep hlen ?_ ?_
  · refine ⟨d2, ?_, ?_, FF.wk (fun r p => by unfold PSv at p; omega)⟩
    · have e2' : m_X11_ends_b34 σ 0 (1 : Int32) (0 : Int32) d1 = some (Sum.inl (ii v), d2) := e2
      simp only [m_L_ends, m_X11_ends, chk_ko hT.1, ob_some, gR_ko hT.1 hT.2.1.2.2.1, gR_ko kW kS.2.1, x1, bf0, ↓reduceIte, gR_ko hT.1 hT.2.1.2.2.2.2.1, chk_ko kSu.2.1, e1, e2', xhw_l]
    · exact ⟨REn_of_Fr q1 gE.2.1.2 FF (fun r a b p => by unfold PSv at p; omega) (fun r a b p => by unfold PSv at p; omega) (fun p => by unfold PSv at p; omega), RId_of_Fr q2 FF (fun r a b p => by unfold PSv at p; omega), RBg_of_Fr q3 FF (fun p => by unfold PSv at p; omega) (fun r a b p => by unfold PSv at p; omega), RJn_of_Fr q4 FF (fun p => by unfold PSv at p; omega) (fun p => by unfold PSv at p; omega), md2, I2, hS2⟩
  · intro d d1 p1 hM
    obtain ⟨m1, m3, m4, m5⟩ := hM
    obtain ⟨⟨w, D⟩, e3, hw, y1, y2, y3⟩ := m_endsW (st := 60 * i_st I) (B := 60 * i_st I) hK gE m1 m3 hGI (by omega) hXI (by omega) g1 hn
    dsimp only at hw y1 y2 y3
    have x40 : rI σ d1 (mo + 1) (7040 : Int32) = some (bi (v_fl (i_V I))) := rst (z := 7040) (k := 7040) (md0 hK) (by omega) (by omega) (by omega) m3.2.2.2.2.1
    rw [g1] at x40
    have b01 : (bi false = (1 : Int32)) = False := eq_false (by decide)
    have hwv : w = ii v := by
      rcases hw with ⟨r, es, h8, hD, hw⟩ | ⟨hw, hR⟩
      · rw [hw, ends_same hv (Or.inl ⟨r, es, h8, hD, rfl⟩)]
      · rw [hw, ends_same hv (Or.inr ⟨rfl, hR⟩)]
    subst hwv
    have yk : ∀ j, ¬ kMe j → D.1 mo j = d1.1 mo j := y3
    have yF : ∀ r, ¬ PMe mo r → D.1 r = d1.1 r := fun r hr => (y2 r hr).1
    refine ⟨D, ?_, yk 50 (by unfold kMe; omega), ⟨REm_eq m1 (yk 7 (by unfold kMe; omega)) (yk 14 (by unfold kMe; omega)) (fun r a b => yF r (by unfold PMe; omega)), RIm_lt m3 hGI.1 (by have := hXI.2; omega) hGI.2.2.2.2.2.1 y1, by rw [y1 _ (by omega)]; exact m4, ?_⟩, y2.wk (fun r p => by unfold PMe at p; omega)⟩
    · have e3' : m_X12_ends_b25 σ mo (0 : Int32) d1 = some (ii v, D) := e3
      simp only [m_X12_ends, p1, ob_some, mg0 hK, x40, b01, ↓reduceIte, e3']
    · unfold RMb at m5 ⊢
      rw [yk 20 (by unfold kMe; omega), yk 18 (by unfold kMe; omega), yk 19 (by unfold kMe; omega), yF (mo + 14) (by unfold PMe; omega), yF (mo + 15) (by unfold PMe; omega), yF (mo + 16) (by unfold PMe; omega)]
      exact m5
theorem o_ends_n (h : Ctx σ δ mo p3 k E bd R I jr) (g1 : v_fl (i_V I) = true) : LX mo p3 (m_L_ends σ 0 p3 δ) (fun d => m_X12_ends σ mo d) (fun d => Core d mo k E bd R I jr) := by
  obtain ⟨⟨hT, hK, h3, hmo⟩, hC⟩ := id h
  obtain ⟨hGd, hRT, hRM, hlen, hRep⟩ := hC
  have kWo := hT.2.2.2.2.1
  have kW : KO σ 68 10 := kWo.2.1
  have kS := kWo.2.2.1
  have kst : KS σ (68 + 1) := kWo.2.2.2.2.2.1
  have x1 : gI σ δ 8 (68 + 1) 12 = some (bi (v_fl (i_V I))) := by rw [gI_ko kst.1]; exact congrArg some hRT.2.1.1.2.2.2.2.2.2.2.2.2.2.2.1
  rw [g1] at x1
  have b11 : (bi true = (1 : Int32)) = True := eq_true rfl
  refine LX_ref (c := 1) h (by decide) ?_ (fun d1 d2 p1 hM p2 => ?_)
  · simp only [m_L_ends, m_X11_ends, chk_ko hT.1, ob_some, gR_ko hT.1 hT.2.1.2.2.1, gR_ko kW kS.2.1, x1, bt0, ↓reduceIte, xhw_r]
  · have x40 : rI σ d1 (mo + 1) (7040 : Int32) = some (bi (v_fl (i_V I))) := rst (z := 7040) (k := 7040) (md0 hK) (by omega) (by omega) (by omega) hM.2.1.2.2.2.2.1
    rw [g1] at x40
    simp only [m_X12_ends, p1, ob_some, mg0 hK, x40, b11, ↓reduceIte, chk_ko hK.1, stop_of p2]
end
