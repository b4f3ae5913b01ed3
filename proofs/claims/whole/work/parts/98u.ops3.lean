/-! THE LAW: variables, the seed -/
section
variable {σ : St} {δ d : Dy} {mo p3 k k' wp : Nat} {E E' : Ev} {bd bd' : Bool} {R R' : Rl} {I I' : Iw} {jr jr' : List Jn} {z a b c e n md st x : Int}
theorem GI_var (h : GI E st I) (hn : s_nv (v_S (i_V I)) < 60) : GI E st (varI I) := by
  obtain ⟨h1, h2, h3, h4, h5, h6, h7, h8⟩ := h
  exact ⟨GS_mkvar h1 hn, h2, h3, h4, gAs_mono h5 (by show s_nv (v_S (i_V I)) ≤ s_nv (v_S (i_V I)) + 1; omega), h6, h7, h8⟩
/-- a variable, in a world between steps -/
theorem t_varI (hK : KS σ (wp + 1)) (h : RId δ wp md I) (hG : GS (v_S (i_V I))) (hn : s_nv (v_S (i_V I)) < 60) : Ok (m_X8_makeVariable σ (wp + 1) δ) (fun r => r.1 = ii (s_nv (v_S (i_V I))) ∧ RId r.2 wp md (varI I) ∧ Fr (fun r => wp + 1 ≤ r ∧ r < wp + 11) δ r.2) := by
  obtain ⟨r1, r2, r3, r4, ⟨r5, r5'⟩, r6, r7, r8, r9, r10⟩ := h
  obtain ⟨r, e, t1, t2, t3⟩ := t_mkvar hK r1 hG hn
  have F : Fr (fun r => wp + 1 ≤ r ∧ r < wp + 11) δ r.2 := t3.wk (fun r p => by unfold blk at p; omega)
  refine ⟨r, e, t1, ⟨t2, ?_, by rw [(F (wp + 23) (by omega)).1]; exact r3, by rw [(F (wp + 18) (by omega)).1]; exact r4, ⟨by rw [(F (wp + 11) (by omega)).1]; exact r5, ?_⟩, ?_, RQ_of_Fr r7 F (fun r a b => by omega), fun j hj => RLany_of_Fr (r8 j hj) F (fun r a b => by omega), by rw [(F wp (by omega)).1]; exact r9, by rw [(F wp (by omega)).1]; exact r10⟩, F⟩
  · unfold HiR; rw [(F (wp + 21) (by omega)).2]; exact r2
  · unfold RPw; rw [(F (wp + 12) (by omega)).1]; exact r5'
  · unfold RTk; rw [(F (wp + 14) (by omega)).1]; exact r6
/-- the world's part of the class's relation is put in -/
theorem RT_world (h : RT δ E bd R I jr) (hm : 0 ≤ e_md E ∧ e_md E ≤ 8) (hI : RId d 68 (e_md E) I') (hF : Fr (fun r => (68 ≤ r ∧ r < 554) ∧ ¬ r = 81) δ d) : RT d E bd R I' jr := by
  obtain ⟨q1, -, q3, q4, md, I'', q5⟩ := h
  exact ⟨REn_of_Fr q1 hm.2 hF (fun r a b => by omega) (fun r a b => by omega) (by omega), hI, RBg_of_Fr q3 hF (by omega) (fun r a b => by omega), RJn_of_Fr q4 hF (by omega) (by omega), md, I'', RId_of_Fr q5 hF (fun r a b => by omega)⟩
theorem o_variable_y (h : Ctx σ δ mo p3 k E bd R I jr) (hk : k < 512) (g1 : s_nv (v_S (i_V I)) < 60) (g2 : v_fl (i_V I) = false) : LX mo p3 (m_L_variable σ 0 p3 δ) (fun d => m_X12_variable σ mo d) (fun d => Core d mo (k + 1) E bd R (varI I) (jr ++ [(0, 0, 0, 0)])) := by
  have h' := h
  obtain ⟨⟨hT, hK, h3, hmo⟩, hC⟩ := h'
  obtain ⟨hGd, hRT, hRM, hlen, hRep⟩ := hC
  have gE := hGd.1
  have kW : KO σ 68 10 := hT.2.2.2.2.1.2.1
  have kS := hT.2.2.2.2.1.2.2.1
  have kst : KS σ (68 + 1) := hT.2.2.2.2.1.2.2.2.2.2.1
  have gS := hGd.2.1.1
  have g0 := gS.1.1
  refine LX_mk (E' := E) (bd' := bd) (R' := R) (I' := varI I) (jr' := jr ++ [(0, 0, 0, 0)]) (k' := k + 1) (v := ii (s_nv (v_S (i_V I)))) h ⟨gE, GI_var hGd.2.1 g1, hGd.2.2.1, hGd.2.2.2.1, hGd.2.2.2.2⟩ (Rep_add hRep (Or.inl ⟨rfl, g1, g2, rfl⟩)) (by rw [List.length_append, List.length_singleton]; omega) ?_ ?_
  · obtain ⟨d1, e1, t1, t2, t3⟩ := t_note (a := 0) (b := 0) (c := 0) (e := 0) hT hRT.2.2.2.1 (by omega)
    have hRT1 := RT_note hRT gE.2.1 t1 t2 t3
    obtain ⟨⟨v, d2⟩, e2, t4, t5, t6⟩ := t_varI kst hRT1.2.1 gS g1
    dsimp only at t4 t5 t6
    subst t4
    have x1 : gI σ δ 8 (68 + 1) 2 = some (ii (s_nv (v_S (i_V I)))) := by rw [gI_ko kst.1]; exact congrArg some hRT.2.1.1.1
    have x2 : gI σ δ 8 (68 + 1) 12 = some (bi (v_fl (i_V I))) := by rw [gI_ko kst.1]; exact congrArg some hRT.2.1.1.2.2.2.2.2.2.2.2.2.2.2.1
    rw [g2] at x2
    refine ⟨d2, ?_, RT_world hRT1 gE.2.1 t5 (t6.wk (fun r p => by omega)), (t2.wk (fun r p => by omega)).tr (t6.wk (fun r p => by omega))⟩
    have e1' : m_X11_note σ 0 (0 : Int32) (0 : Int32) (0 : Int32) (0 : Int32) δ = some d1 := e1
    have n60 : ((60 : Int32) ≤ ii (s_nv (v_S (i_V I)))) = False := by
      rw [show ((60 : Int32)) = ii 60 from rfl, ii_le (by omega) (by omega) (by omega) (by omega)]
      exact eq_false (by omega)
    simp only [m_L_variable, m_X11_variable, chk_ko hT.1, ob_some, gR_ko hT.1 hT.2.1.2.2.1, gR_ko kW kS.2.1, x1, n60, ↓reduceIte, x2, bf0, e1', chk_ko kst.1, e2, xhw_l]
  · intro d d1 p1 hM
    obtain ⟨⟨m1, m2⟩, m3, m4, m5⟩ := hM
    obtain ⟨⟨v, D⟩, e2, t1, t2, t3, t4, t5⟩ := m_mkvar hK m3.1 gS g1
    dsimp only at t1 t2 t3 t4 t5
    subst t1
    have hF : Fr (fun r => r = mo + 1) d1 D := fun q hq => ⟨t3 q hq, by rw [t4]⟩
    have x0 : rI σ d1 (mo + 1) (ii 0) = some (ii (s_nv (v_S (i_V I)))) := rst (md0 hK) (by omega) (by omega) rfl m3.1.1
    have x40 : rI σ d1 (mo + 1) (ii 7040) = some (bi (v_fl (i_V I))) := rst (md0 hK) (by omega) (by omega) rfl m3.2.2.2.2.1
    rw [g2] at x40
    have hm : D.1 mo = d1.1 mo := t3 mo (by omega)
    refine ⟨D, ?_, by rw [hm], ⟨⟨RRm_eq m1 (by rw [hm]) (fun r a b => t3 r (by omega)), RNm_eq m2 (by rw [hm]) (fun r a b => t3 r (by omega))⟩, ?_, by rw [t5 _ (by omega)]; exact m4, ?_⟩, hF.wk (fun r p => by omega)⟩
    · have n60 : (ii (s_nv (v_S (i_V I))) = (60 : Int32)) = False := by
        rw [show ((60 : Int32)) = ii 60 from rfl, ii_eq (by omega) (by omega) (by omega) (by omega)]
        exact eq_false (by omega)
      have x0' : rI σ d1 (mo + 1) (0 : Int32) = some (ii (s_nv (v_S (i_V I)))) := x0
      have x40' : rI σ d1 (mo + 1) (7040 : Int32) = some (bi false) := x40
      have b01 : (bi false = (1 : Int32)) = False := eq_false (by decide)
      simp only [m_X12_variable, p1, ob_some, mg0 hK, x0', n60, ↓reduceIte, x40', b01, chk_ko hK.1, e2]
    · obtain ⟨a1, a2, a3, ⟨b1, b2, b3, b4⟩, a5, a6, a7⟩ := m3
      exact ⟨t2, RMh_eq a2 (fun k k1 _ => t5 k (by omega)) (by have h1 := hGd.2.2.1.2; have h2 := hGd.2.2.2.1; show (v_hi (i_V I)).length ≤ 2000; omega), fun w hw => by rw [t5 _ (by omega)]; exact a3 w hw, ⟨by rw [t5 _ (by omega)]; exact b1, fun k hk => by rw [t5 _ (by omega)]; exact b2 k hk, fun z hz => by rw [t5 _ (by omega)]; exact b3 z hz, by rw [t5 _ (by omega)]; exact b4⟩, by rw [t5 _ (by omega)]; exact a5, by rw [t5 _ (by omega)]; exact a6, fun j a ha => RNx_eq (a7 j a ha) (fun k k1 _ => t5 k (by omega))⟩
    · unfold RMb at m5 ⊢
      rw [hm, t3 (mo + 14) (by omega), t3 (mo + 15) (by omega), t3 (mo + 16) (by omega)]
      exact m5
theorem o_variable_n (h : Ctx σ δ mo p3 k E bd R I jr) (hno : ¬ (s_nv (v_S (i_V I)) < 60 ∧ v_fl (i_V I) = false)) : LX mo p3 (m_L_variable σ 0 p3 δ) (fun d => m_X12_variable σ mo d) (fun d => Core d mo k E bd R I jr) := by
  obtain ⟨⟨hT, hK, h3, hmo⟩, hC⟩ := id h
  have hGd := hC.1
  have hRT := hC.2.1
  have kW : KO σ 68 10 := hT.2.2.2.2.1.2.1
  have kS := hT.2.2.2.2.1.2.2.1
  have kst : KS σ (68 + 1) := hT.2.2.2.2.1.2.2.2.2.2.1
  have g0 := hGd.2.1.1.1
  have x1 : gI σ δ 8 (68 + 1) 2 = some (ii (s_nv (v_S (i_V I)))) := by rw [gI_ko kst.1]; exact congrArg some hRT.2.1.1.1
  have x2 : gI σ δ 8 (68 + 1) 12 = some (bi (v_fl (i_V I))) := by rw [gI_ko kst.1]; exact congrArg some hRT.2.1.1.2.2.2.2.2.2.2.2.2.2.2.1
  have b11 : (bi true = (1 : Int32)) = True := eq_true rfl
  by_cases g1 : s_nv (v_S (i_V I)) < 60
  · have g2 : v_fl (i_V I) = true := by
      cases hb : v_fl (i_V I) with
      | true => rfl
      | false => exact absurd ⟨g1, hb⟩ hno
    rw [g2] at x2
    refine LX_ref (c := 1) h (by decide) ?_ (fun d1 d2 p1 hM p2 => ?_)
    · have n60 : ((60 : Int32) ≤ ii (s_nv (v_S (i_V I)))) = False := by
        rw [show ((60 : Int32)) = ii 60 from rfl, ii_le (by omega) (by omega) (by omega) (by omega)]
        exact eq_false (by omega)
      simp only [m_L_variable, m_X11_variable, chk_ko hT.1, ob_some, gR_ko hT.1 hT.2.1.2.2.1, gR_ko kW kS.2.1, x1, n60, ↓reduceIte, x2, bt0, m_X11_variable_b24, xhw_r]
    · have x0' : rI σ d1 (mo + 1) (0 : Int32) = some (ii (s_nv (v_S (i_V I)))) := rst (z := 0) (md0 hK) (by omega) (by omega) rfl hM.2.1.1.1
      have x40' : rI σ d1 (mo + 1) (7040 : Int32) = some (bi (v_fl (i_V I))) := rst (z := 7040) (md0 hK) (by omega) (by omega) rfl hM.2.1.2.2.2.2.1
      rw [g2] at x40'
      have n60 : (ii (s_nv (v_S (i_V I))) = (60 : Int32)) = False := by
        rw [show ((60 : Int32)) = ii 60 from rfl, ii_eq (by omega) (by omega) (by omega) (by omega)]
        exact eq_false (by omega)
      simp only [m_X12_variable, p1, ob_some, mg0 hK, x0', n60, ↓reduceIte, x40', b11, m_X12_variable_b28, chk_ko hK.1, stop_of p2]
  · have g1' : s_nv (v_S (i_V I)) = 60 := by omega
    rw [g1'] at x1
    refine LX_ref (c := 1) h (by decide) ?_ (fun d1 d2 p1 hM p2 => ?_)
    · have n60 : ((60 : Int32) ≤ ii 60) = True := eq_true (by decide)
      simp only [m_L_variable, m_X11_variable, chk_ko hT.1, ob_some, gR_ko hT.1 hT.2.1.2.2.1, gR_ko kW kS.2.1, x1, n60, ↓reduceIte, m_X11_variable_b24, xhw_r]
    · have x0' : rI σ d1 (mo + 1) (0 : Int32) = some (ii (s_nv (v_S (i_V I)))) := rst (z := 0) (md0 hK) (by omega) (by omega) rfl hM.2.1.1.1
      rw [g1'] at x0'
      have n60 : (ii 60 = (60 : Int32)) = True := eq_true rfl
      simp only [m_X12_variable, p1, ob_some, mg0 hK, x0', n60, ↓reduceIte, m_X12_variable_b28, chk_ko hK.1, stop_of p2]
/-! the seed -/
theorem t_seedI (hK : KDr σ (wp + 11)) (h : RId δ wp md I) : ∃ d, pI σ δ 2 (wp + 11) 1 (ii x) = some d ∧ RId d wp md (seedI I x) ∧ Fr (fun r => r = wp + 11) δ d := by
  obtain ⟨r1, r2, r3, r4, ⟨r5, r5'⟩, r6, r7, r8, r9, r10⟩ := h
  obtain ⟨d, e, v, o, F⟩ := pI_ex (δ := δ) (r := wp + 11) (k := 1) (x := ii x) hK.1
  refine ⟨d, e, ⟨RS_of_Fr r1 F (fun r a b => by omega), ?_, by rw [(F (wp + 23) (by omega)).1]; exact r3, by rw [(F (wp + 18) (by omega)).1]; exact r4, ⟨v, ?_⟩, ?_, RQ_of_Fr r7 F (fun r a b => by omega), fun j hj => RLany_of_Fr (r8 j hj) F (fun r a b => by omega), by rw [(F wp (by omega)).1]; exact r9, by rw [(F wp (by omega)).1]; exact r10⟩, F⟩
  · unfold HiR; rw [(F (wp + 21) (by omega)).2]; exact r2
  · unfold RPw; rw [(F (wp + 12) (by omega)).1]; exact r5'
  · unfold RTk; rw [(F (wp + 14) (by omega)).1]; exact r6
theorem GI_seed (h : GI E st I) (hx : 0 ≤ x ∧ x ≤ 65536) : GI E st (seedI I x) := by
  obtain ⟨h1, h2, h3, h4, h5, h6, h7, h8⟩ := h
  exact ⟨h1, h2, ⟨hx.1, by show x < 65537; omega⟩, h4, h5, h6, h7, h8⟩
theorem o_seed_y (h : Ctx σ δ mo p3 k E bd R I jr) (hk : k < 512) (hx : rng x) (g : 0 ≤ x ∧ x ≤ 65536) : LX mo p3 (m_L_seed σ 0 (ii x) p3 δ) (fun d => m_X12_seed σ mo (ii x) d) (fun d => Core d mo (k + 1) E bd R (seedI I x) (jr ++ [(5, x, 0, 0)])) := by
  have h' := h
  obtain ⟨⟨hT, hK, h3, hmo⟩, hC⟩ := h'
  obtain ⟨hGd, hRT, hRM, hlen, hRep⟩ := hC
  have gE := hGd.1
  have kW : KO σ 68 10 := hT.2.2.2.2.1.2.1
  have kS := hT.2.2.2.2.1.2.2.1
  have kDr : KDr σ (68 + 11) := hT.2.2.2.2.1.2.2.2.2.2.2.2.1
  refine LX_mk (E' := E) (bd' := bd) (R' := R) (I' := seedI I x) (jr' := jr ++ [(5, x, 0, 0)]) (k' := k + 1) (v := ii (i_x I)) h ⟨gE, GI_seed hGd.2.1 g, hGd.2.2.1, hGd.2.2.2.1, hGd.2.2.2.2⟩ (Rep_add hRep (Or.inr (Or.inr (Or.inr (Or.inr (Or.inr ⟨rfl, g, rfl⟩)))))) (by rw [List.length_append, List.length_singleton]; omega) ?_ ?_
  · obtain ⟨d1, e1, t1, t2, t3⟩ := t_note (a := 5) (b := x) (c := 0) (e := 0) hT hRT.2.2.2.1 (by omega)
    have hRT1 := RT_note hRT gE.2.1 t1 t2 t3
    obtain ⟨d2, e2, t4, t5⟩ := t_seedI (x := x) kDr hRT1.2.1
    have x1 : gI σ d1 2 (68 + 11) 1 = some (ii (i_x I)) := by rw [gI_ko kDr.1]; exact congrArg some hRT1.2.1.2.2.2.2.1.1
    refine ⟨d2, ?_, RT_world hRT1 gE.2.1 t4 (t5.wk (fun r p => by omega)), (t2.wk (fun r p => by omega)).tr (t5.wk (fun r p => by omega))⟩
    have e1' : m_X11_note σ 0 (5 : Int32) (ii x) (0 : Int32) (0 : Int32) δ = some d1 := e1
    have w : m_X11_needWithin σ (ii x) (0 : Int32) (65536 : Int32) δ = some (.inl ()) := c_within_y (a := 0) (b := 65536) hx (by omega) (by omega) g
    simp only [m_L_seed, m_X11_seed, chk_ko hT.1, ob_some, w, xel_l, e1', gR_ko hT.1 hT.2.1.2.2.1, gR_ko kW kS.2.2.2.1, x1, e2, xhw_l]
  · intro d d1 p1 hM
    obtain ⟨⟨m1, m2⟩, m3, m4, m5⟩ := hM
    obtain ⟨a1, a2, a3, ⟨b1, b2, b3, b4⟩, a5, a6, a7⟩ := m3
    have x1 : rI σ d1 (mo + 1) (7038 : Int32) = some (ii (i_x I)) := rst (z := 7038) (md0 hK) (by omega) (by omega) rfl b1
    obtain ⟨D, e2, v2, o2, F2⟩ := wI_ex (δ := d1) (r := mo + 1) (z := 7038) (k := 7038) (x := ii x) (md0 hK) (by omega) (by omega) rfl
    have um : ∀ r, ¬ r = mo + 1 → D.1 r = d1.1 r := fun r hr => (F2 r hr).1
    refine ⟨D, ?_, by rw [um _ (by omega)], ⟨⟨RRm_eq m1 (by rw [um _ (by omega)]) (fun r a b => um r (by omega)), RNm_eq m2 (by rw [um _ (by omega)]) (fun r a b => um r (by omega))⟩, ?_, by rw [o2 _ (by omega)]; exact m4, ?_⟩, F2.wk (fun r p => by omega)⟩
    · have w : m_X12_in σ (ii x) (0 : Int32) (65536 : Int32) d1 = some 1 := c_in_y (a := 0) (b := 65536) hx (by omega) (by omega) g
      have e2' : wI σ d1 (mo + 1) (7038 : Int32) (ii x) = some D := e2
      simp only [m_X12_seed, p1, ob_some, w, i10, ↓reduceIte, mg0 hK, x1, e2']
    · exact ⟨RSm_eq a1 hGd.2.1.1 (fun k k1 => o2 k (by omega)), RMh_eq a2 (fun k k1 k2 => o2 k (by omega)) (by have h1 := hGd.2.2.1.2; have h2 := hGd.2.2.2.1; show (v_hi (i_V I)).length ≤ 2000; omega), fun w hw => by rw [o2 _ (by omega)]; exact a3 w hw, ⟨v2, fun k hk => by rw [o2 _ (by omega)]; exact b2 k hk, fun z hz => by rw [o2 _ (by omega)]; exact b3 z hz, by rw [o2 _ (by omega)]; exact b4⟩, by rw [o2 _ (by omega)]; exact a5, by rw [o2 _ (by omega)]; exact a6, fun j a ha => RNx_eq (a7 j a ha) (fun k k1 _ => o2 k (by omega))⟩
    · unfold RMb at m5 ⊢
      rw [um mo (by omega), um (mo + 14) (by omega), um (mo + 15) (by omega), um (mo + 16) (by omega)]
      exact m5
theorem o_seed_n (h : Ctx σ δ mo p3 k E bd R I jr) (hx : rng x) (hno : ¬ (0 ≤ x ∧ x ≤ 65536)) : LX mo p3 (m_L_seed σ 0 (ii x) p3 δ) (fun d => m_X12_seed σ mo (ii x) d) (fun d => Core d mo k E bd R I jr) := by
  obtain ⟨⟨hT, hK, h3, hmo⟩, hC⟩ := id h
  refine LX_ref (c := 1) h (by decide) ?_ (fun d1 d2 p1 hM p2 => ?_)
  · have w : m_X11_needWithin σ (ii x) (0 : Int32) (65536 : Int32) δ = some (.inr 1) := c_within_n (a := 0) (b := 65536) hx (by omega) (by omega) hno
    simp only [m_L_seed, m_X11_seed, chk_ko hT.1, ob_some, w, xel_r, xhw_r]
    try rfl
  · have w : m_X12_in σ (ii x) (0 : Int32) (65536 : Int32) d1 = some 0 := c_in_n (a := 0) (b := 65536) hx (by omega) (by omega) hno
    simp only [m_X12_seed, p1, ob_some, w, ↓reduceIte, chk_ko hK.1, stop_of p2]
end
