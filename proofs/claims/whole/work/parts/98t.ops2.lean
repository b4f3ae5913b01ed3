/-! THE LAW: definitions, variables, the seed, agents from outside -/
section
variable {σ : St} {δ d : Dy} {mo p3 k k' : Nat} {E E' : Ev} {bd bd' : Bool} {R R' : Rl} {I I' : Iw} {jr jr' : List Jn} {z a b c e n : Int}
/-- a call that goes through, with its answer, from each side's part -/
theorem LX_mkv (h : Ctx σ δ mo p3 k E bd R I jr) (hG : Good E' bd' R' I') (hRep : Rep E' jr' (e_df E', e_md E', I')) (hl : jr'.length ≤ k') {v : Int32} {mL : Option (Int32 × Dy)} {mX : Dy → Option (Int32 × Dy)} (T : ∃ D1, (mL = (wLo σ D1 p3 (0 : Int32) v.toInt64).bind fun d4 => some ((0 : Int32), d4)) ∧ RT D1 E' bd' R' I' jr' ∧ Fr (fun r => r < 1040) δ D1) (M : ∀ d d1, pI σ d 12 mo 50 (0 : Int32) = some d1 → RM d1 mo E bd R I → ∃ D4, mX d = some (v, D4) ∧ D4.1 mo 50 = d1.1 mo 50 ∧ RM D4 mo E' bd' R' I' ∧ Fr (fun r => mo ≤ r ∧ r ≤ mo + 36) d1 D4) : LXV mo p3 v mL mX (fun d => Core d mo k' E' bd' R' I' jr') := by
  obtain ⟨⟨hT, hK, h3, hmo⟩, hC⟩ := h
  obtain ⟨D1, e1, t1, t2⟩ := T
  have hw : wLo σ D1 p3 (0 : Int32) v.toInt64 = some (D1.1, u2 D1.2 p3 0 v.toInt64) := wLo_kd (z := 0) h3 (by omega) (by omega)
  have hFw : Fr (fun r => r = p3) D1 (D1.1, u2 D1.2 p3 0 v.toInt64) := Fr_u2L rfl
  have hv : (D1.1, u2 D1.2 p3 0 v.toInt64).2 p3 0 = v.toInt64 := by simp only [u2, and_self, ↓reduceIte]
  rw [hw, ob_some] at e1
  generalize (D1.1, u2 D1.2 p3 0 v.toInt64) = D2 at hFw hv e1
  have F02 : Fr (fun r => r < 1040 ∨ r = p3) δ D2 := (t2.wk (fun r p => Or.inl p)).tr (hFw.wk (fun r p => Or.inr p))
  obtain ⟨D3, p1, v1, o1, F1⟩ := pI_ex (δ := D2) (k := 50) (x := 0) hK.1
  have hM3 : RM D3 mo E bd R I := RM_eq hC.2.2.1 (fun j hj => by rw [o1 j (by omega), (F02 mo (by omega)).1]) (fun r x y => by rw [(F1 r (by omega)).1, (F02 r (by omega)).1])
  obtain ⟨D4, m1, m2, m3, m4⟩ := M D2 D3 p1 hM3
  have hT2 : RT D2 E' bd' R' I' jr' := RT_of_Fr t1 hG.1.2.1 hFw (fun r x y => by omega)
  have F24 : Fr (fun r => mo ≤ r ∧ r ≤ mo + 36) D2 D4 := (F1.wk (fun r p => by omega)).tr m4
  exact ⟨0, D2, v, D4, e1, m1, by rw [m2]; exact v1, fun _ => by rw [(F24 p3 (by omega)).2]; exact hv, ⟨hG, RT_of_Fr hT2 hG.1.2.1 F24 (fun r x y => by omega), m3, hl, hRep⟩, fun _ => rfl⟩
theorem LX_mk (h : Ctx σ δ mo p3 k E bd R I jr) (hG : Good E' bd' R' I') (hRep : Rep E' jr' (e_df E', e_md E', I')) (hl : jr'.length ≤ k') {v : Int32} {mL : Option (Int32 × Dy)} {mX : Dy → Option (Int32 × Dy)} (T : ∃ D1, (mL = (wLo σ D1 p3 (0 : Int32) v.toInt64).bind fun d4 => some ((0 : Int32), d4)) ∧ RT D1 E' bd' R' I' jr' ∧ Fr (fun r => r < 1040) δ D1) (M : ∀ d d1, pI σ d 12 mo 50 (0 : Int32) = some d1 → RM d1 mo E bd R I → ∃ D4, mX d = some (v, D4) ∧ D4.1 mo 50 = d1.1 mo 50 ∧ RM D4 mo E' bd' R' I' ∧ Fr (fun r => mo ≤ r ∧ r ≤ mo + 36) d1 D4) : LX mo p3 mL mX (fun d => Core d mo k' E' bd' R' I' jr') := (LX_mkv h hG hRep hl T M).lx
theorem t_note (hT : KT σ) (hJ : RJn δ jr) (hl : jr.length < 512) : Ok (m_X11_note σ 0 (ii a) (ii b) (ii c) (ii e) δ) (fun d => RJn d (jr ++ [(a, b, c, e)]) ∧ Fr (fun r => r = 0 ∨ r = 13) δ d ∧ ∀ j, ¬ j = 6 → d.1 0 j = δ.1 0 j) := by
  obtain ⟨h0, ⟨s0, s1, s2, s3, s4, s5⟩, h13, -⟩ := hT
  obtain ⟨j1, j2⟩ := hJ
  have g0 : gI σ δ 11 0 6 = some (ii jr.length) := by rw [gI_ko h0, j1]
  have l4 : (4 : Int32) * ii jr.length = ii (4 * jr.length) := by rw [show ((4 : Int32)) = ii 4 from rfl, ii_mul]
  obtain ⟨d1, e1, v1, o1, F1⟩ := wI_ex (δ := δ) (r := 13) (z := 4 * jr.length) (k := 4 * jr.length) (x := ii a) h13 (by omega) (by omega) (by omega)
  obtain ⟨d2, e2, v2, o2, F2⟩ := wI_ex (δ := d1) (r := 13) (z := 4 * jr.length + 1) (k := 4 * jr.length + 1) (x := ii b) h13 (by omega) (by omega) (by omega)
  obtain ⟨d3, e3, v3, o3, F3⟩ := wI_ex (δ := d2) (r := 13) (z := 4 * jr.length + 2) (k := 4 * jr.length + 2) (x := ii c) h13 (by omega) (by omega) (by omega)
  obtain ⟨d4, e4, v4, o4, F4⟩ := wI_ex (δ := d3) (r := 13) (z := 4 * jr.length + 3) (k := 4 * jr.length + 3) (x := ii e) h13 (by omega) (by omega) (by omega)
  have F14 : Fr (fun q => q = 13) δ d4 := F1.tr (F2.tr (F3.tr F4))
  have g4 : gI σ d4 11 0 6 = some (ii jr.length) := by rw [gI_ko h0, (F14 0 (by omega)).1, j1]
  obtain ⟨d5, e5, v5, o5, F5⟩ := pI_ex (δ := d4) (r := 0) (k := 6) (x := ii ((jr.length : Int) + 1)) h0
  refine ⟨d5, ?_, ⟨?_, fun j x hx => ?_⟩, (F14.wk (fun r p => Or.inr p)).tr (F5.wk (fun r p => Or.inl p)), fun j hj => by rw [o5 j hj, (F14 0 (by omega)).1]⟩
  · unfold m_X11_note
    rw [g0, ob_some, if_pos (show ii jr.length < 512 by rw [show ((512 : Int32)) = ii 512 from rfl, ii_lt (by omega) (by omega) (by omega) (by omega)]; omega), ob_some, gR_ko h0 s5, ob_some, l4, e1, ob_some, ob_some, show ((1 : Int32)) = ii 1 from rfl, ii_add, e2, ob_some, ob_some, show ((2 : Int32)) = ii 2 from rfl, ii_add, e3, ob_some, ob_some, show ((3 : Int32)) = ii 3 from rfl, ii_add, e4, ob_some, g4, ob_some, ii_add, e5, ob_some]
  · rw [v5, List.length_append, List.length_singleton]; rfl
  · have hj := (List.getElem?_eq_some_iff.mp hx).1
    rw [List.length_append, List.length_singleton] at hj
    have u : ∀ q, d5.1 13 q = d4.1 13 q := fun q => by rw [(F5 13 (by omega)).1]
    rw [u, u, u, u]
    by_cases hjl : j < jr.length
    · rw [List.getElem?_append_left hjl] at hx
      obtain ⟨q1, q2, q3, q4⟩ := j2 j x hx
      have w : ∀ q, q < 4 * jr.length → d4.1 13 q = δ.1 13 q := fun q hq => by rw [o4 q (by omega), o3 q (by omega), o2 q (by omega), o1 q (by omega)]
      rw [w _ (by omega), w _ (by omega), w _ (by omega), w _ (by omega)]
      exact ⟨q1, q2, q3, q4⟩
    · have hj2 : j = jr.length := by omega
      subst hj2
      rw [List.getElem?_append_right (Nat.le_refl _), Nat.sub_self] at hx
      have hx' : (a, b, c, e) = x := Option.some.inj hx
      subst hx'
      refine ⟨?_, ?_, ?_, v4⟩
      · rw [o4 _ (by omega), o3 _ (by omega), o2 _ (by omega)]; exact v1
      · rw [o4 _ (by omega), o3 _ (by omega)]; exact v2
      · rw [o4 _ (by omega)]; exact v3
/-- the class's relation where only the journal was written -/
theorem RT_note (h : RT δ E bd R I jr) (hm : 0 ≤ e_md E ∧ e_md E ≤ 8) (hJ : RJn d jr') (hF : Fr (fun r => r = 0 ∨ r = 13) δ d) (ho : ∀ j, ¬ j = 6 → d.1 0 j = δ.1 0 j) : RT d E bd R I jr' := by
  obtain ⟨h1, h2, ⟨h3, h3'⟩, -, md, I', h5⟩ := h
  refine ⟨REn_of_Fr h1 hm.2 hF (fun r a b => by omega) (fun r a b => by omega) (by omega), RId_of_Fr h2 hF (fun r a b => by omega), ⟨by rw [ho 7 (by decide)]; exact h3, fun hb => ?_⟩, hJ, md, I', RId_of_Fr h5 hF (fun r a b => by omega)⟩
  obtain ⟨q1, q2⟩ := h3' hb
  exact ⟨RRu_of_Fr q1 hF (fun r a b => by omega), by rw [(hF _ (by omega)).1]; exact q2⟩
theorem RBg_of_Fr {ru : Nat} {P : Nat → Prop} (h : RBg δ ru bd R) (hF : Fr P δ d) (h0 : ¬ P 0) (hd : ∀ r, ru ≤ r → r < ru + 6 → ¬ P r) : RBg d ru bd R := ⟨by rw [(hF 0 h0).1]; exact h.1, fun hb => ⟨RRu_of_Fr (h.2 hb).1 hF hd, by rw [(hF ru (hd ru (Nat.le_refl _) (by omega))).1]; exact (h.2 hb).2⟩⟩
theorem RJn_of_Fr {P : Nat → Prop} (h : RJn δ jr) (hF : Fr P δ d) (h0 : ¬ P 0) (h13 : ¬ P 13) : RJn d jr := ⟨by rw [(hF 0 h0).1]; exact h.1, by rw [(hF 13 h13).1]; exact h.2⟩
/-! define -/
def dfE (E : Ev) (z n : Int) : Ev := (E.1, upf (e_df E) z n, E.2.2)
theorem o_define_y (h : Ctx σ δ mo p3 k E bd R I jr) (hk : k < 512) (hz : rng z) (hn : rng n) (g1 : 0 ≤ z ∧ z ≤ 5) (g2 : gNode E n) : LX mo p3 (m_L_define σ 0 (ii z) (ii n) p3 δ) (fun d => m_X12_define σ mo (ii z) (ii n) d) (fun d => Core d mo (k + 1) (dfE E z n) bd R I (jr ++ [(1, z, n, 0)])) := by
  have h' := h
  obtain ⟨⟨hT, hK, h3, hmo⟩, hC⟩ := h'
  obtain ⟨hGd, hRT, hRM, hlen, hRep⟩ := hC
  have gE := hGd.1
  have hR := hRT.1.1
  have hc0 := gE.1
  have g2' : 0 ≤ n ∧ n < e_ct E := g2
  have kW : KO σ 68 10 := hT.2.2.2.2.1.2.1
  have kS := hT.2.2.2.2.1.2.2.1
  have kD : KD σ (68 + 13) 100 6 := hT.2.2.2.2.1.2.2.2.2.2.2.2.2.1
  refine LX_mk (E' := dfE E z n) (bd' := bd) (R' := R) (I' := I) (jr' := jr ++ [(1, z, n, 0)]) (k' := k + 1) (v := ii (e_df E z)) h ⟨⟨gE.1, gE.2.1, gE.2.2.1, fun d d0 d1 => ?_, gE.2.2.2.2⟩, hGd.2⟩ (Rep_add (Rep_mono (E' := dfE E z n) hRep rfl rfl (Int.le_refl _) (Int.le_refl _)) (Or.inr (Or.inl ⟨rfl, g1, g2, rfl⟩))) (show (jr ++ [((1 : Int), z, n, (0 : Int))]).length ≤ k + 1 by rw [List.length_append, List.length_singleton]; omega) ?_ ?_
  · show upf (e_df E) z n d = -1 ∨ gNode E (upf (e_df E) z n d)
    unfold upf
    by_cases c : d = z
    · rw [if_pos c]; exact Or.inr g2
    · rw [if_neg c]; exact gE.2.2.2.1 d d0 d1
  · obtain ⟨d1, e1, t1, t2, t3⟩ := t_note (a := 1) (b := z) (c := n) (e := 0) hT hRT.2.2.2.1 (by omega)
    have hRT1 := RT_note hRT gE.2.1 t1 t2 t3
    have r1 : rI σ d1 (68 + 13) (ii z) = some (ii (e_df E z)) := by rw [rI_kd kD g1.1 (by omega), hRT1.1.2.2 z g1.1 (by omega)]
    obtain ⟨d2, e2, v2, o2, F2⟩ := wI_ex (δ := d1) (r := 68 + 13) (z := z) (k := z.toNat) (x := ii n) kD g1.1 (by omega) rfl
    refine ⟨d2, ?_, ?_, (t2.wk (fun r p => by omega)).tr (F2.wk (fun r p => by omega))⟩
    · have e1' : m_X11_note σ 0 (1 : Int32) (ii z) (ii n) (0 : Int32) δ = some d1 := e1
      simp only [m_L_define, m_X11_define, chk_ko hT.1, ob_some, c_def_y hz g1, c_node_y hT hR hc0 hn g2, xel_l, e1', gR_ko hT.1 hT.2.1.2.2.1, gR_ko kW kS.2.2.2.2.1, r1, e2, xhw_l]
    · obtain ⟨⟨q1, q2, q3⟩, q4, ⟨q5, q5'⟩, q6, md, I', q7⟩ := hRT1
      refine ⟨⟨RN_of_Fr q1 F2 (fun r a b => by omega), RRs_of_Fr q2 gE.2.1.2 F2 (fun r a b => by omega), fun d d0 d6 => ?_⟩, ?_, RBg_of_Fr (ru := 14 + 6 * (e_md E).toNat) ⟨q5, q5'⟩ F2 (by omega) (fun r a b => by have := gE.2.1; omega), RJn_of_Fr q6 F2 (by omega) (by omega), md, I', RId_of_Fr q7 F2 (fun r a b => by omega)⟩
      · show d2.1 (68 + 13) d.toNat = ii (upf (e_df E) z n d)
        unfold upf
        by_cases c : d = z
        · rw [if_pos c, c]; exact v2
        · rw [if_neg c, o2 _ (by omega)]; exact q3 d d0 d6
      · obtain ⟨r1, r2, r3, r4, ⟨r5, r5'⟩, r6, r7, r8, r9, r10⟩ := q4
        refine ⟨RS_of_Fr r1 F2 (fun r a b => by omega), ?_, by rw [(F2 (68 + 23) (by omega)).1]; exact r3, by rw [(F2 (68 + 18) (by omega)).1]; exact r4, ⟨by rw [(F2 (68 + 11) (by omega)).1]; exact r5, ?_⟩, ?_, RQ_of_Fr r7 F2 (fun r a b => by omega), fun j hj => RLany_of_Fr (r8 j hj) F2 (fun r a b => by omega), by rw [(F2 68 (by omega)).1]; exact r9, by rw [(F2 68 (by omega)).1]; exact r10⟩
        · unfold HiR; rw [(F2 (68 + 21) (by omega)).2]; exact r2
        · unfold RPw; rw [(F2 (68 + 12) (by omega)).1]; exact r5'
        · unfold RTk; rw [(F2 (68 + 14) (by omega)).1]; exact r6
  · intro d d1 p1 hM
    obtain ⟨⟨m1, m2⟩, m3, m4, m5⟩ := hM
    have r1 : rI σ d1 (mo + 8) (ii z) = some (ii (e_df E z)) := rst (md8 hK) (by omega) (by omega) rfl (by have := m2.2.1 z.toNat (by omega); rw [this]; exact congrArg (fun x => ii (e_df E x)) (by omega))
    obtain ⟨d2, e2, v2, o2, F2⟩ := wI_ex (δ := d1) (r := mo + 8) (z := z) (k := z.toNat) (x := ii n) (md8 hK) g1.1 (by omega) rfl
    have um : ∀ r, ¬ r = mo + 8 → d2.1 r = d1.1 r := fun r hr => (F2 r hr).1
    refine ⟨d2, ?_, by rw [um _ (by omega)], ⟨⟨RRm_eq m1 (by rw [um _ (by omega)]) (fun r a b => um r (by omega)), ?_⟩, RIm_eq m3 (um _ (by omega)), by rw [um _ (by omega)]; exact m4, ?_⟩, F2.wk (fun r p => by omega)⟩
    · have w : m_X12_in σ (ii z) (0 : Int32) (5 : Int32) d1 = some 1 := c_in_y (a := 0) (b := 5) hz (by omega) (by omega) g1
      simp only [m_X12_define, p1, ob_some, w, i10, ↓reduceIte, chk_ko hK.1, cm_node_y hK m2 hc0 hn g2, mg8 hK, r1, e2]
    · obtain ⟨a1, a2, a3⟩ := m2
      refine ⟨by rw [um _ (by omega)]; exact a1, fun i hi => ?_, fun q hq => ?_⟩
      · show d2.1 (mo + 8) i = ii (upf (e_df E) z n i)
        unfold upf
        by_cases c : (i : Int) = z
        · rw [if_pos c, show i = z.toNat by omega]; exact v2
        · rw [if_neg c, o2 _ (by omega)]; exact a2 i hi
      · have := a3 q hq
        rw [um (mo + 3) (by omega), um (mo + 4) (by omega), um (mo + 5) (by omega), um (mo + 6) (by omega), um (mo + 7) (by omega)]
        exact this
    · unfold RMb at m5 ⊢
      rw [um mo (by omega), um (mo + 14) (by omega), um (mo + 15) (by omega), um (mo + 16) (by omega)]
      exact m5
theorem o_define_n (h : Ctx σ δ mo p3 k E bd R I jr) (hz : rng z) (hn : rng n) (hno : ¬ ((0 ≤ z ∧ z ≤ 5) ∧ gNode E n)) : LX mo p3 (m_L_define σ 0 (ii z) (ii n) p3 δ) (fun d => m_X12_define σ mo (ii z) (ii n) d) (fun d => Core d mo k E bd R I jr) := by
  obtain ⟨⟨hT, hK, h3, hmo⟩, hC⟩ := id h
  have gE := hC.1.1
  have hR := hC.2.1.1.1
  have hc0 := gE.1
  by_cases g1 : 0 ≤ z ∧ z ≤ 5
  · have g2 : ¬ gNode E n := fun q => hno ⟨g1, q⟩
    refine LX_ref (c := 1) h (by decide) ?_ (fun d1 d2 p1 hM p2 => ?_)
    · simp only [m_L_define, m_X11_define, chk_ko hT.1, ob_some, c_def_y hz g1, c_node_n hT hR hc0 hn g2, xel_l, xel_r, xhw_r]
      try rfl
    · have w : m_X12_in σ (ii z) (0 : Int32) (5 : Int32) d1 = some 1 := c_in_y (a := 0) (b := 5) hz (by omega) (by omega) g1
      simp only [m_X12_define, p1, ob_some, w, i10, ↓reduceIte, chk_ko hK.1, cm_node_n hK hM.1.2 hc0 hn g2, m_X12_define_b22, stop_of p2]
  · refine LX_ref (c := 1) h (by decide) ?_ (fun d1 d2 p1 hM p2 => ?_)
    · simp only [m_L_define, m_X11_define, chk_ko hT.1, ob_some, c_def_n hz g1, xel_l, xel_r, xhw_r]
      try rfl
    · have w : m_X12_in σ (ii z) (0 : Int32) (5 : Int32) d1 = some 0 := c_in_n (a := 0) (b := 5) hz (by omega) (by omega) g1
      simp only [m_X12_define, p1, ob_some, w, ↓reduceIte, chk_ko hK.1, m_X12_define_b22, stop_of p2]
end
