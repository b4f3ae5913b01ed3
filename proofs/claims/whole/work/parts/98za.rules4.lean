/-! THE LAW: guards and bodies -/
section
variable {σ : St} {δ d : Dy} {mo p3 k ru : Nat} {E : Ev} {bd kp : Bool} {R : Rl} {I : Iw} {jr : List Jn} {a b s c x hh : Int}
theorem GR_gd (hR : GR R) (gb : bd = true) (hc : gCond c) (ha : gRt bd R a) (hb : gRt bd R b) : GR (gdR R c a b) := by
  obtain ⟨r1, r2, r3, r4, r5, r6, r7⟩ := hR
  exact ⟨r1, r2, r3, r4, r5, r6, fun _ => ⟨hc, ha.imp id (fun q => q.2), hb.imp id (fun q => q.2)⟩⟩
theorem gRt_rng (h : gRt bd R a) : -100000 ≤ a ∧ a ≤ 100000 := by
  rcases h with h | h
  · have h' : -99 ≤ a ∧ a ≤ 99 := h
    omega
  · have h' : 200 ≤ a ∧ a < 204 := h.2.1
    omega
theorem o_guard_y (h : Ctx σ δ mo p3 k E bd R I jr) (hc : rng c) (ha : rng a) (hb : rng b) (g1 : gCond c) (g2 : gRt bd R a ∧ gRt bd R (if c = 3 then 0 else b)) (g3 : bd = true ∧ l_gd R = false ∧ l_nb R = 0) : LXV mo p3 1 (m_L_guard σ 0 (ii c) (ii a) (ii b) p3 δ) (fun d => m_X12_guard σ mo (ii c) (ii a) (ii b) d) (fun d => Core d mo k E true (gdR R c a (if c = 3 then 0 else b)) I jr) := by
  have h' := h
  obtain ⟨⟨hT, hK, h3, hmo⟩, hC⟩ := h'
  obtain ⟨hGd, hRT, hRM, hlen, hRep⟩ := hC
  obtain ⟨gb, gg, gn⟩ := g3
  have gE := hGd.1
  have hm := gE.2.1
  have kru := KRu_begun (σ := σ) hT hm
  have hbg := hRT.2.2.1
  obtain ⟨hru, hmk⟩ := hbg.2 gb
  obtain ⟨u1, u2', u3, u4, u5, u6, u7, u8, u9⟩ := hru
  have hGR := hGd.2.2.2.2 gb
  have hb2 : rng (if c = 3 then 0 else b) := by split <;> omega
  have gc2 : (0 ≤ c ∧ c ≤ 3) ∨ (10 ≤ c ∧ c ≤ 15) := g1
  refine LX_mkv (E' := E) (bd' := true) (R' := gdR R c a (if c = 3 then 0 else b)) (I' := I) (jr' := jr) (k' := k) (v := 1) h ⟨gE, hGd.2.1, hGd.2.2.1, hGd.2.2.2.1, fun _ => GR_gd hGR gb g1 g2.1 g2.2⟩ hRep hlen ?_ ?_
  · obtain ⟨d1, e1, v1, o1, F1⟩ := pZ_ex (δ := δ) (r := 14 + 6 * (e_md E).toNat) (k := 8) (x := 1) kru.1 (Or.inr rfl)
    obtain ⟨d2, e2, v2, o2, F2⟩ := pI_ex (δ := d1) (r := 14 + 6 * (e_md E).toNat) (k := 9) (x := ii c) kru.1
    obtain ⟨d3, e3, v3, o3, F3⟩ := pI_ex (δ := d2) (r := 14 + 6 * (e_md E).toNat) (k := 10) (x := ii a) kru.1
    obtain ⟨d4, e4, v4, o4, F4⟩ := pI_ex (δ := d3) (r := 14 + 6 * (e_md E).toNat) (k := 11) (x := ii (if c = 3 then 0 else b)) kru.1
    have F04 : Fr (fun q => q = 14 + 6 * (e_md E).toNat) δ d4 := F1.tr (F2.tr (F3.tr F4))
    have F05 : Fr (fun r => r = 0 ∨ (14 + 6 * (e_md E).toNat ≤ r ∧ r < 14 + 6 * (e_md E).toNat + 6)) δ d4 := F04.wk (fun r p => by omega)
    have oo : ∀ j, ¬ j = 8 → ¬ j = 9 → ¬ j = 10 → ¬ j = 11 → d4.1 (14 + 6 * (e_md E).toNat) j = δ.1 (14 + 6 * (e_md E).toNat) j := fun j h1 h2 h3 h4 => by rw [o4 j h4, o3 j h3, o2 j h2, o1 j h1]
    have un : ∀ r, ¬ r = 14 + 6 * (e_md E).toNat → d4.1 r = δ.1 r := fun r hr => (F04 r hr).1
    have hv5 : gI σ δ 11 0 7 = some (bi true) := by rw [gI_ko hT.1, hbg.1, gb]
    have q8 : gI σ δ 7 (14 + 6 * (e_md E).toNat) 8 = some (bi false) := by rw [gI_ko kru.1, u8, gg]
    have q6 : gI σ δ 7 (14 + 6 * (e_md E).toNat) 6 = some (ii 0) := by rw [gI_ko kru.1, u5, gn]
    have n0 : (ii 0 ≤ (0 : Int32)) = True := eq_true (by decide)
    refine ⟨d4, ?_, ?_, F05.wk (fun r p => by omega)⟩
    · simp only [m_L_guard, m_X11_guard, chk_ko hT.1, ob_some, c_cond_y hc g1, c_asked hc, c_rts_y hT hRT hm ha hb2 g2, xel_l, c_begun hT hRT.2.1 hm, hv5, bt0, ↓reduceIte, q8, bf0, q6, n0, chk_ko kru.1, m_X7_addGuard, e1, e2, e3, e4, xhw_l, i10, m_L_guard_b18]
      rfl
    · refine RT_mk hRT hm ⟨by rw [un 0 (by omega), hbg.1, gb], fun _ => ⟨⟨?_, ?_, ?_, ?_, ?_, ?_, ?_, ?_, fun _ => ⟨?_, ?_, v4⟩⟩, fun t ht => ?_⟩⟩ (by rw [un 0 (by omega)]) F05
      · rw [oo 5 (by decide) (by decide) (by decide) (by decide)]; exact u1
      · rw [un _ (by omega)]; exact u2'
      · rw [un _ (by omega)]; exact u3
      · rw [un _ (by omega)]; exact u4
      · rw [oo 6 (by decide) (by decide) (by decide) (by decide)]; exact u5
      · rw [un _ (by omega)]; exact u6
      · rw [un _ (by omega)]; exact u7
      · rw [o4 8 (by decide), o3 8 (by decide), o2 8 (by decide)]; exact v1
      · rw [o4 9 (by decide), o3 9 (by decide)]; exact v2
      · rw [o4 10 (by decide)]; exact v3
      · rw [oo 7 (by decide) (by decide) (by decide) (by decide)]; exact hmk t ht
  · intro d d1 p1 hM
    have hMb := hM.2.2.2
    obtain ⟨m18, m19, mh, ⟨mg, mg'⟩, mb⟩ := hMb.2 gb
    obtain ⟨d2, e2, v2, o2, F2⟩ := wI_ex (δ := d1) (r := mo + 15) (z := 0) (k := 0) (x := ii c) (md16 hK) (by omega) (by omega) rfl
    obtain ⟨d3, e3, v3, o3, F3⟩ := wI_ex (δ := d2) (r := mo + 15) (z := 1) (k := 1) (x := ii a) (md16 hK) (by omega) (by omega) rfl
    obtain ⟨D, e4, v4, o4, F4⟩ := wI_ex (δ := d3) (r := mo + 15) (z := 2) (k := 2) (x := ii b) (md16 hK) (by omega) (by omega) rfl
    have FD : Fr (fun q => q = mo + 15) d1 D := F2.tr (F3.tr F4)
    have un : ∀ r, ¬ r = mo + 15 → D.1 r = d1.1 r := fun r hr => (FD r hr).1
    have g20 : gI σ d1 12 mo 20 = some (bi true) := by rw [gI_ko hK.1, hMb.1, gb]
    have g19 : gI σ d1 12 mo 19 = some (ii 0) := by rw [gI_ko hK.1, m19, gn]
    have r0 : rI σ d1 (mo + 15) (0 : Int32) = some (-1 : Int32) := rst (z := 0) (k := 0) (md16 hK) (by omega) (by omega) rfl (by rw [mg, gg]; rfl)
    have n0 : (ii 0 ≤ (0 : Int32)) = True := eq_true (by decide)
    have e2' : wI σ d1 (mo + 15) (0 : Int32) (ii c) = some d2 := e2
    have e3' : wI σ d2 (mo + 15) (1 : Int32) (ii a) = some d3 := e3
    have e4' : wI σ d3 (mo + 15) (2 : Int32) (ii b) = some D := e4
    have b40 : m_X12_guard_b40 σ mo (ii c) (ii a) (ii b) d1 = some (1, D) := by
      simp only [m_X12_guard_b40, g20, ob_some, bt0, ↓reduceIte, mg16 hK, r0, g19, n0, e2', e3', e4']
    have ra := (cm_rt hK hMb hGd.2.2.2.2 ha).1 g2.1
    refine ⟨D, ?_, by rw [un mo (by omega)], RM_mk hM ⟨by rw [un mo (by omega), hMb.1, gb], fun _ => ⟨by rw [un mo (by omega)]; exact m18, by rw [un mo (by omega)]; exact m19, by rw [un (mo + 14) (by omega)]; exact mh, ⟨?_, fun _ => ⟨?_, fun hw => ?_⟩⟩, by rw [un (mo + 16) (by omega)]; exact mb⟩⟩ (fun j hj => by rw [un mo (by omega)]) (FD.wk (fun r p => by omega)), FD.wk (fun r p => by omega)⟩
    · by_cases c3 : c = 3
      · have n3 : (ii c = (3 : Int32)) = True := eq_true (by rw [c3]; rfl)
        simp only [m_X12_guard, p1, ob_some, cm_cond_y hc g1, i10, ↓reduceIte, chk_ko hK.1, ra, n3, b40]
      · have n3 : (ii c = (3 : Int32)) = False := eq_false (by rw [show ((3 : Int32)) = ii 3 from rfl, ii_eq hc.1 hc.2 (by omega) (by omega)]; exact c3)
        have rb := (cm_rt hK hMb hGd.2.2.2.2 hb).1 (by have := g2.2; rw [if_neg c3] at this; exact this)
        simp only [m_X12_guard, p1, ob_some, cm_cond_y hc g1, i10, ↓reduceIte, chk_ko hK.1, ra, n3, rb, b40]
    · rw [o4 0 (by decide), o3 0 (by decide)]; exact v2
    · rw [o4 1 (by decide)]; exact v3
    · have hw' : ¬ c = 3 := hw
      show D.1 (mo + 15) 2 = ii (if c = 3 then 0 else b)
      rw [if_neg hw']
      exact v4
theorem o_guard_n (h : Ctx σ δ mo p3 k E bd R I jr) (hc : rng c) (ha : rng a) (hb : rng b) (hno : ¬ (gCond c ∧ (gRt bd R a ∧ gRt bd R (if c = 3 then 0 else b)) ∧ bd = true ∧ l_gd R = false ∧ l_nb R = 0)) : LXV mo p3 1 (m_L_guard σ 0 (ii c) (ii a) (ii b) p3 δ) (fun d => m_X12_guard σ mo (ii c) (ii a) (ii b) d) (fun d => Core d mo k E bd R I jr) := by
  obtain ⟨⟨hT, hK, h3, hmo⟩, hC⟩ := id h
  have hGd := hC.1
  have hRT := hC.2.1
  have hm := hGd.1.2.1
  have kru := KRu_begun (σ := σ) hT hm
  have hbg := hRT.2.2.1
  have hb2 : rng (if c = 3 then 0 else b) := by split <;> omega
  by_cases g1 : gCond c
  · by_cases g2 : gRt bd R a ∧ gRt bd R (if c = 3 then 0 else b)
    · refine LX_refv (c := 2) h (by decide) ?_ (fun d1 d2 p1 hM p2 => ?_)
      · have hv5 : gI σ δ 11 0 7 = some (bi bd) := by rw [gI_ko hT.1, hbg.1]
        have hts := c_rts_y hT hRT hm ha hb2 g2
        cases gb : bd with
        | false =>
          rw [gb] at hv5
          simp only [m_L_guard, m_X11_guard, chk_ko hT.1, ob_some, c_cond_y hc g1, c_asked hc, hts, xel_l, c_begun hT hRT.2.1 hm, hv5, bf0, ↓reduceIte, m_X11_guard_b47, xhw_r]
          try rfl
        | true =>
          rw [gb] at hv5
          obtain ⟨⟨u1, -, -, -, u5, -, -, u8, -⟩, -⟩ := hbg.2 gb
          have hGR := hGd.2.2.2.2 gb
          have r4 := hGR.2.2.2.1
          have q8 : gI σ δ 7 (14 + 6 * (e_md E).toNat) 8 = some (bi (l_gd R)) := by rw [gI_ko kru.1, u8]
          have q6 : gI σ δ 7 (14 + 6 * (e_md E).toNat) 6 = some (ii (l_nb R)) := by rw [gI_ko kru.1, u5]
          cases c2 : l_gd R with
          | true =>
            rw [c2] at q8
            simp only [m_L_guard, m_X11_guard, chk_ko hT.1, ob_some, c_cond_y hc g1, c_asked hc, hts, xel_l, c_begun hT hRT.2.1 hm, hv5, bt0, ↓reduceIte, q8, m_X11_guard_b47, xhw_r]
            try rfl
          | false =>
            rw [c2] at q8
            have c3 : ¬ l_nb R = 0 := fun q => hno ⟨g1, g2, gb, c2, q⟩
            have n0 : (ii (l_nb R) ≤ (0 : Int32)) = False := i_nle (b := 0) (by omega) (by omega) (by omega)
            simp only [m_L_guard, m_X11_guard, chk_ko hT.1, ob_some, c_cond_y hc g1, c_asked hc, hts, xel_l, c_begun hT hRT.2.1 hm, hv5, bt0, bf0, ↓reduceIte, q8, q6, n0, m_X11_guard_b47, xhw_r]
            try rfl
      · have hMb := hM.2.2.2
        have g20 : gI σ d1 12 mo 20 = some (bi bd) := by rw [gI_ko hK.1, hMb.1]
        have ra := (cm_rt hK hMb hGd.2.2.2.2 ha).1 g2.1
        have b40 : m_X12_guard_b40 σ mo (ii c) (ii a) (ii b) d1 = some (0, d2) := by
          cases gb : bd with
          | false =>
            rw [gb] at g20
            simp only [m_X12_guard_b40, g20, ob_some, bf0, ↓reduceIte, m_X12_guard_b64, p2]
          | true =>
            rw [gb] at g20
            obtain ⟨m18, m19, -, ⟨mg, -⟩, -⟩ := hMb.2 gb
            have hGR := hGd.2.2.2.2 gb
            have r4 := hGR.2.2.2.1
            have g19 : gI σ d1 12 mo 19 = some (ii (l_nb R)) := by rw [gI_ko hK.1, m19]
            cases c2 : l_gd R with
            | true =>
              have hgc := (hGR.2.2.2.2.2.2 c2).1
              have r0 : rI σ d1 (mo + 15) (0 : Int32) = some (ii (l_gc R)) := rst (z := 0) (k := 0) (md16 hK) (by omega) (by omega) rfl (by rw [mg, c2]; rfl)
              have nm : (ii (l_gc R) = (-1 : Int32)) = False := eq_false (by rw [show ((-1 : Int32)) = ii (-1) from rfl, ii_eq (by omega) (by omega) (by omega) (by omega)]; omega)
              simp only [m_X12_guard_b40, g20, ob_some, bt0, ↓reduceIte, mg16 hK, r0, nm, m_X12_guard_b64, p2]
            | false =>
              have r0 : rI σ d1 (mo + 15) (0 : Int32) = some (-1 : Int32) := rst (z := 0) (k := 0) (md16 hK) (by omega) (by omega) rfl (by rw [mg, c2]; rfl)
              have c3 : ¬ l_nb R = 0 := fun q => hno ⟨g1, g2, gb, c2, q⟩
              have n0 : (ii (l_nb R) ≤ (0 : Int32)) = False := i_nle (b := 0) (by omega) (by omega) (by omega)
              simp only [m_X12_guard_b40, g20, ob_some, bt0, ↓reduceIte, mg16 hK, r0, g19, n0, m_X12_guard_b64, p2]
        by_cases c3 : c = 3
        · have n3 : (ii c = (3 : Int32)) = True := eq_true (by rw [c3]; rfl)
          simp only [m_X12_guard, p1, ob_some, cm_cond_y hc g1, i10, ↓reduceIte, chk_ko hK.1, ra, n3, b40]
        · have n3 : (ii c = (3 : Int32)) = False := eq_false (by rw [show ((3 : Int32)) = ii 3 from rfl, ii_eq hc.1 hc.2 (by omega) (by omega)]; exact c3)
          have rb := (cm_rt hK hMb hGd.2.2.2.2 hb).1 (by have := g2.2; rw [if_neg c3] at this; exact this)
          simp only [m_X12_guard, p1, ob_some, cm_cond_y hc g1, i10, ↓reduceIte, chk_ko hK.1, ra, n3, rb, b40]
    · refine LX_refv (c := 1) h (by decide) ?_ (fun d1 d2 p1 hM p2 => ?_)
      · simp only [m_L_guard, m_X11_guard, chk_ko hT.1, ob_some, c_cond_y hc g1, c_asked hc, c_rts_n hT hRT hm ha hb2 g2, xel_l, xel_r, xhw_r]
        try rfl
      · have hMb := hM.2.2.2
        by_cases ga : gRt bd R a
        · have ra := (cm_rt hK hMb hGd.2.2.2.2 ha).1 ga
          have c3 : ¬ c = 3 := fun q => g2 ⟨ga, by rw [if_pos q]; exact Or.inl ⟨by decide, by decide⟩⟩
          have n3 : (ii c = (3 : Int32)) = False := eq_false (by rw [show ((3 : Int32)) = ii 3 from rfl, ii_eq hc.1 hc.2 (by omega) (by omega)]; exact c3)
          have rb := (cm_rt hK hMb hGd.2.2.2.2 hb).2 (fun q => g2 ⟨ga, by rw [if_neg c3]; exact q⟩)
          simp only [m_X12_guard, p1, ob_some, cm_cond_y hc g1, i10, ↓reduceIte, chk_ko hK.1, ra, n3, rb, m_X12_guard_b33, p2]
        · have ra := (cm_rt hK hMb hGd.2.2.2.2 ha).2 ga
          simp only [m_X12_guard, p1, ob_some, cm_cond_y hc g1, i10, ↓reduceIte, chk_ko hK.1, ra, m_X12_guard_b33, p2]
  · refine LX_refv (c := 1) h (by decide) ?_ (fun d1 d2 p1 hM p2 => ?_)
    · simp only [m_L_guard, m_X11_guard, chk_ko hT.1, ob_some, c_cond_n hc g1, xel_r, xhw_r]
      try rfl
    · simp only [m_X12_guard, p1, ob_some, cm_cond_n hc g1, ↓reduceIte, m_X12_guard_b33, p2]
theorem c_inm_y (hs : rng s) (g : -1 ≤ s ∧ s ≤ 5) : m_X12_in σ (ii s) (-1 : Int32) (5 : Int32) δ = some 1 := by
  rw [show ((-1 : Int32)) = ii (-1) from rfl, show ((5 : Int32)) = ii 5 from rfl]
  exact c_in_y hs (by omega) (by omega) g
theorem c_inm_n (hs : rng s) (g : ¬ (-1 ≤ s ∧ s ≤ 5)) : m_X12_in σ (ii s) (-1 : Int32) (5 : Int32) δ = some 0 := by
  rw [show ((-1 : Int32)) = ii (-1) from rfl, show ((5 : Int32)) = ii 5 from rfl]
  exact c_in_n hs (by omega) (by omega) g
/-! body -/
theorem GR_bd (hR : GR R) (gb : bd = true) (hn : l_nb R < 2) (hs : -1 ≤ s ∧ s ≤ 5) (ha : gRt bd R a) (hb : gRt bd R b) : GR (bdR R s a b) := by
  obtain ⟨r1, r2, r3, r4, r5, r6, r7⟩ := hR
  refine ⟨r1, r2, r3, show 0 ≤ l_nb R + 1 ∧ l_nb R + 1 ≤ 2 by omega, fun z z0 z1 => ?_, fun z z0 z1 => ?_, r7⟩
  · have z1' : z < l_nb R + 1 := z1
    show -1 ≤ upf (l_bs R) (l_nb R) s z ∧ upf (l_bs R) (l_nb R) s z ≤ 5
    unfold upf
    by_cases c : z = l_nb R
    · rw [if_pos c]; exact hs
    · rw [if_neg c]; exact r5 z z0 (by omega)
  · have z1' : z < 2 * (l_nb R + 1) := z1
    show valu (upf (upf (l_bt R) (2 * l_nb R) a) (2 * l_nb R + 1) b z) ∨ bnd R (upf (upf (l_bt R) (2 * l_nb R) a) (2 * l_nb R + 1) b z)
    unfold upf
    by_cases c1 : z = 2 * l_nb R + 1
    · rw [if_pos c1]; exact hb.imp id (fun q => q.2)
    · rw [if_neg c1]
      by_cases c2 : z = 2 * l_nb R
      · rw [if_pos c2]; exact ha.imp id (fun q => q.2)
      · rw [if_neg c2]; exact r6 z z0 (by omega)
theorem tb_sort (hs : rng s) {F : Option ((Int32 ⊕ Nat) × Dy)} : ((-1 ≤ s ∧ s ≤ 5) → (if ii s = (-1 : Int32) then F else (m_X11_needSort σ (ii s) δ).bind fun v7 => xel v7 (fun x8 => F) (fun e => (Sum.inr e, δ))) = F) ∧ (¬ (-1 ≤ s ∧ s ≤ 5) → (if ii s = (-1 : Int32) then F else (m_X11_needSort σ (ii s) δ).bind fun v7 => xel v7 (fun x8 => F) (fun e => (Sum.inr e, δ))) = some (Sum.inr 1, δ)) := by
  have hne : ¬ s = -1 → ¬ ii s = (-1 : Int32) := fun c => by rw [show ((-1 : Int32)) = ii (-1) from rfl, ii_eq hs.1 hs.2 (by omega) (by omega)]; exact c
  constructor
  · intro g
    by_cases c : s = -1
    · rw [if_pos (show ii s = -1 by rw [c]; rfl)]
    · rw [if_neg (hne c), c_sort_y hs (by omega), ob_some, xel_l]
  · intro g
    rw [if_neg (hne (by omega)), c_sort_n hs (by omega), ob_some, xel_r]
theorem o_body_y (h : Ctx σ δ mo p3 k E bd R I jr) (hs : rng s) (ha : rng a) (hb : rng b) (g1 : -1 ≤ s ∧ s ≤ 5) (g2 : gRt bd R a ∧ gRt bd R b) (gb : bd = true) (gn : l_nb R < 2) : LX mo p3 (m_L_body σ 0 (ii s) (ii a) (ii b) p3 δ) (fun d => m_X12_body σ mo (ii s) (ii a) (ii b) d) (fun d => Core d mo k E true (bdR R s a b) I jr) := by
  have h' := h
  obtain ⟨⟨hT, hK, h3, hmo⟩, hC⟩ := h'
  obtain ⟨hGd, hRT, hRM, hlen, hRep⟩ := hC
  have gE := hGd.1
  have hm := gE.2.1
  have kru := KRu_begun (σ := σ) hT hm
  have hbg := hRT.2.2.1
  obtain ⟨hru, hmk⟩ := hbg.2 gb
  obtain ⟨u1, u2', u3, u4, u5, u6, u7, u8, u9⟩ := hru
  have hGR := hGd.2.2.2.2 gb
  have r4 := hGR.2.2.2.1
  refine LX_mk (E' := E) (bd' := true) (R' := bdR R s a b) (I' := I) (jr' := jr) (k' := k) (v := ii (l_nb R + 1)) h ⟨gE, hGd.2.1, hGd.2.2.1, hGd.2.2.2.1, fun _ => GR_bd hGR gb gn g1 g2.1 g2.2⟩ hRep hlen ?_ ?_
  · obtain ⟨k0, ⟨k1, k2, k3, k4, k5⟩, c1, c2, c3, c4, c5⟩ := id kru
    obtain ⟨d1, e1, v1, o1, F1⟩ := wI_ex (δ := δ) (r := 14 + 6 * (e_md E).toNat + 4) (z := l_nb R) (k := (l_nb R).toNat) (x := ii s) c4 r4.1 (by omega) rfl
    obtain ⟨d2, e2, v2, o2, F2⟩ := wI_ex (δ := d1) (r := 14 + 6 * (e_md E).toNat + 5) (z := 2 * l_nb R) (k := (2 * l_nb R).toNat) (x := ii a) c5 (by omega) (by omega) rfl
    obtain ⟨d3, e3, v3, o3, F3⟩ := wI_ex (δ := d2) (r := 14 + 6 * (e_md E).toNat + 5) (z := 2 * l_nb R + 1) (k := (2 * l_nb R + 1).toNat) (x := ii b) c5 (by omega) (by omega) rfl
    obtain ⟨d4, e4, v4, o4, F4⟩ := pI_ex (δ := d3) (r := 14 + 6 * (e_md E).toNat) (k := 6) (x := ii (l_nb R + 1)) k0
    have F03 : Fr (fun r => r = 14 + 6 * (e_md E).toNat + 4 ∨ r = 14 + 6 * (e_md E).toNat + 5) δ d3 := (F1.wk (fun r p => by omega)).tr ((F2.wk (fun r p => by omega)).tr (F3.wk (fun r p => by omega)))
    have F05 : Fr (fun r => r = 0 ∨ (14 + 6 * (e_md E).toNat ≤ r ∧ r < 14 + 6 * (e_md E).toNat + 6)) δ d4 := (F03.wk (fun r p => by omega)).tr (F4.wk (fun r p => by omega))
    have b0 : δ.1 (14 + 6 * (e_md E).toNat) 6 = ii (l_nb R) := u5
    have b1 : d1.1 (14 + 6 * (e_md E).toNat) 6 = ii (l_nb R) := by rw [(F1 _ (by omega)).1]; exact b0
    have b2 : d2.1 (14 + 6 * (e_md E).toNat) 6 = ii (l_nb R) := by rw [(F2 _ (by omega)).1]; exact b1
    have b3 : d3.1 (14 + 6 * (e_md E).toNat) 6 = ii (l_nb R) := by rw [(F3 _ (by omega)).1]; exact b2
    have um : ∀ j, ¬ j = 6 → d4.1 (14 + 6 * (e_md E).toNat) j = δ.1 (14 + 6 * (e_md E).toNat) j := fun j hj => by rw [o4 j hj, (F03 _ (by omega)).1]
    have un : ∀ r, ¬ r = 14 + 6 * (e_md E).toNat → ¬ (r = 14 + 6 * (e_md E).toNat + 4 ∨ r = 14 + 6 * (e_md E).toNat + 5) → d4.1 r = δ.1 r := fun r h1 h2 => by rw [(F4 r h1).1, (F03 r h2).1]
    have hv5 : gI σ δ 11 0 7 = some (bi true) := by rw [gI_ko hT.1, hbg.1, gb]
    have q6 : gI σ δ 7 (14 + 6 * (e_md E).toNat) 6 = some (ii (l_nb R)) := by rw [gI_ko k0, b0]
    have n2 : (ii (l_nb R) < (2 : Int32)) = True := i_lt (b := 2) (by omega) (by omega) (by omega)
    have eadd : m_X7_addBody σ (14 + 6 * (e_md E).toNat) (ii s) (ii a) (ii b) δ = some (ii (l_nb R + 1), d4) := by
      unfold m_X7_addBody
      rw [q6, ob_some, if_pos (show ii (l_nb R) < 2 by rw [n2]; trivial), gR_ko k0 k4, ob_some, ob_some, e1, ob_some, gR_ko k0 k5, ob_some, gI_ko k0, ob_some, b1, show ((2 : Int32)) = ii 2 from rfl, ii_mul, e2, ob_some, ob_some, gI_ko k0, ob_some, b2, ii_mul, show ((1 : Int32)) = ii 1 from rfl, ii_add, e3, ob_some, gI_ko k0, ob_some, b3, ii_add, e4, ob_some, gI_ko k0, ob_some, v4]
    refine ⟨d4, ?_, ?_, F05.wk (fun r p => by omega)⟩
    · have b9 : m_X11_body_b9 σ 0 (ii s) (ii a) (ii b) δ = some (Sum.inl (ii (l_nb R + 1)), d4) := by
        simp only [m_X11_body_b9, chk_ko hT.1, ob_some, c_rts_y hT hRT hm ha hb g2, xel_l, c_begun hT hRT.2.1 hm, hv5, bt0, ↓reduceIte, q6, n2, chk_ko k0, eadd]
        try rfl
      have hsrt := (tb_sort (σ := σ) (δ := δ) hs (F := m_X11_body_b9 σ 0 (ii s) (ii a) (ii b) δ)).1 g1
      unfold m_L_body m_X11_body
      rw [chk_ko hT.1, ob_some, hsrt, b9, ob_some, xhw_l]
    · refine RT_mk hRT hm ⟨by rw [un 0 (by omega) (by omega), hbg.1, gb], fun _ => ⟨⟨?_, ?_, ?_, ?_, v4, fun z z0 z1 => ?_, fun z z0 z1 => ?_, ?_, ?_⟩, fun t ht => ?_⟩⟩ (by rw [un 0 (by omega) (by omega)]) F05
      · rw [um 5 (by decide)]; exact u1
      · rw [un _ (by omega) (by omega)]; exact u2'
      · rw [un _ (by omega) (by omega)]; exact u3
      · rw [un _ (by omega) (by omega)]; exact u4
      · have z1' : z < l_nb R + 1 := z1
        show d4.1 (14 + 6 * (e_md E).toNat + 4) z.toNat = ii (upf (l_bs R) (l_nb R) s z)
        rw [(F4 _ (by omega)).1, (F3 _ (by omega)).1, (F2 _ (by omega)).1]
        unfold upf
        by_cases c : z = l_nb R
        · rw [if_pos c, c]; exact v1
        · rw [if_neg c, o1 _ (by omega)]; exact u6 z z0 (by omega)
      · have z1' : z < 2 * (l_nb R + 1) := z1
        show d4.1 (14 + 6 * (e_md E).toNat + 5) z.toNat = ii (upf (upf (l_bt R) (2 * l_nb R) a) (2 * l_nb R + 1) b z)
        rw [(F4 _ (by omega)).1]
        unfold upf
        by_cases c1 : z = 2 * l_nb R + 1
        · rw [if_pos c1, c1]; exact v3
        · rw [if_neg c1, o3 _ (by omega)]
          by_cases c2 : z = 2 * l_nb R
          · rw [if_pos c2, c2]; exact v2
          · rw [if_neg c2, o2 _ (by omega), (F1 _ (by omega)).1]; exact u7 z z0 (by omega)
      · rw [um 8 (by decide)]; exact u8
      · intro q
        rw [um 9 (by decide), um 10 (by decide), um 11 (by decide)]; exact u9 q
      · rw [um 7 (by decide)]; exact hmk t ht
  · intro d d1 p1 hM
    have hMb := hM.2.2.2
    obtain ⟨m18, m19, mh, ⟨mg, mg'⟩, mb⟩ := hMb.2 gb
    obtain ⟨d2, e2, v2, o2, F2⟩ := wI_ex (δ := d1) (r := mo + 16) (z := 3 * l_nb R) (k := (3 * l_nb R).toNat) (x := ii s) (md17 hK) (by omega) (by omega) rfl
    obtain ⟨d3, e3, v3, o3, F3⟩ := wI_ex (δ := d2) (r := mo + 16) (z := 3 * l_nb R + 1) (k := (3 * l_nb R + 1).toNat) (x := ii a) (md17 hK) (by omega) (by omega) rfl
    obtain ⟨d4, e4, v4, o4, F4⟩ := wI_ex (δ := d3) (r := mo + 16) (z := 3 * l_nb R + 2) (k := (3 * l_nb R + 2).toNat) (x := ii b) (md17 hK) (by omega) (by omega) rfl
    obtain ⟨D, e5, v5, o5, F5⟩ := pI_ex (δ := d4) (r := mo) (k := 19) (x := ii (l_nb R + 1)) hK.1
    have F14 : Fr (fun q => q = mo + 16) d1 d4 := F2.tr (F3.tr F4)
    have FD : Fr (fun r => r = mo ∨ r = mo + 16) d1 D := (F14.wk (fun r p => Or.inr p)).tr (F5.wk (fun r p => Or.inl p))
    have um : ∀ j, ¬ j = 19 → D.1 mo j = d1.1 mo j := fun j hj => by rw [o5 j hj, (F14 mo (by omega)).1]
    have b2 : d2.1 mo 19 = ii (l_nb R) := by rw [(F2 _ (by omega)).1]; exact m19
    have b3 : d3.1 mo 19 = ii (l_nb R) := by rw [(F3 _ (by omega)).1]; exact b2
    have b4 : d4.1 mo 19 = ii (l_nb R) := by rw [(F4 _ (by omega)).1]; exact b3
    have g20 : gI σ d1 12 mo 20 = some (bi true) := by rw [gI_ko hK.1, hMb.1, gb]
    have g19 : gI σ d1 12 mo 19 = some (ii (l_nb R)) := by rw [gI_ko hK.1, m19]
    have g19b : gI σ d2 12 mo 19 = some (ii (l_nb R)) := by rw [gI_ko hK.1, b2]
    have g19c : gI σ d3 12 mo 19 = some (ii (l_nb R)) := by rw [gI_ko hK.1, b3]
    have g19d : gI σ d4 12 mo 19 = some (ii (l_nb R)) := by rw [gI_ko hK.1, b4]
    have g19e : gI σ D 12 mo 19 = some (ii (l_nb R + 1)) := by rw [gI_ko hK.1, v5]
    have n2 : (ii (l_nb R) = (2 : Int32)) = False := eq_false (by rw [show ((2 : Int32)) = ii 2 from rfl, ii_eq (by omega) (by omega) (by omega) (by omega)]; omega)
    have w : m_X12_in σ (ii s) (-1 : Int32) (5 : Int32) d1 = some 1 := c_inm_y hs g1
    have ra := (cm_rt hK hMb hGd.2.2.2.2 ha).1 g2.1
    have rb := (cm_rt hK hMb hGd.2.2.2.2 hb).1 g2.2
    have l3 : (3 : Int32) * ii (l_nb R) = ii (3 * l_nb R) := by rw [show ((3 : Int32)) = ii 3 from rfl, ii_mul]
    have l31 : ii (3 * l_nb R) + (1 : Int32) = ii (3 * l_nb R + 1) := by rw [show ((1 : Int32)) = ii 1 from rfl, ii_add]
    have l32 : ii (3 * l_nb R) + (2 : Int32) = ii (3 * l_nb R + 2) := by rw [show ((2 : Int32)) = ii 2 from rfl, ii_add]
    have l1 : ii (l_nb R) + (1 : Int32) = ii (l_nb R + 1) := by rw [show ((1 : Int32)) = ii 1 from rfl, ii_add]
    refine ⟨D, ?_, um 50 (by decide), RM_mk hM ⟨by rw [um 20 (by decide), hMb.1, gb], fun _ => ⟨by rw [um 18 (by decide)]; exact m18, v5, by rw [(FD (mo + 14) (by omega)).1]; exact mh, ⟨by rw [(FD (mo + 15) (by omega)).1]; exact mg, by rw [(FD (mo + 15) (by omega)).1]; exact mg'⟩, fun z z0 z1 => ?_⟩⟩ (fun j hj => um j (by omega)) (FD.wk (fun r p => by omega)), FD.wk (fun r p => by omega)⟩
    · simp only [m_X12_body, p1, ob_some, w, i10, ↓reduceIte, chk_ko hK.1, ra, rb, g20, bt0, g19, n2, mg17 hK, l3, e2, g19b, l31, e3, g19c, l32, e4, g19d, l1, e5, g19e]
    · have z1' : z < l_nb R + 1 := z1
      rw [(F5 (mo + 16) (by omega)).1]
      show _ = ii (upf (l_bs R) (l_nb R) s z) ∧ _ = ii (upf (upf (l_bt R) (2 * l_nb R) a) (2 * l_nb R + 1) b (2 * z)) ∧ _ = ii (upf (upf (l_bt R) (2 * l_nb R) a) (2 * l_nb R + 1) b (2 * z + 1))
      unfold upf
      by_cases c : z = l_nb R
      · subst c
        rw [if_pos rfl, if_neg (by omega), if_pos rfl, if_pos rfl]
        exact ⟨by rw [o4 _ (by omega), o3 _ (by omega)]; exact v2, by rw [o4 _ (by omega)]; exact v3, v4⟩
      · rw [if_neg c, if_neg (by omega), if_neg (by omega), if_neg (by omega), if_neg (by omega), o4 _ (by omega), o3 _ (by omega), o2 _ (by omega), o4 _ (by omega), o3 _ (by omega), o2 _ (by omega), o4 _ (by omega), o3 _ (by omega), o2 _ (by omega)]
        exact mb z z0 (by omega)
theorem o_body_n (h : Ctx σ δ mo p3 k E bd R I jr) (hs : rng s) (ha : rng a) (hb : rng b) (hno : ¬ ((-1 ≤ s ∧ s ≤ 5) ∧ (gRt bd R a ∧ gRt bd R b) ∧ bd = true ∧ l_nb R < 2)) : LX mo p3 (m_L_body σ 0 (ii s) (ii a) (ii b) p3 δ) (fun d => m_X12_body σ mo (ii s) (ii a) (ii b) d) (fun d => Core d mo k E bd R I jr) := by
  obtain ⟨⟨hT, hK, h3, hmo⟩, hC⟩ := id h
  have hGd := hC.1
  have hRT := hC.2.1
  have hm := hGd.1.2.1
  have kru := KRu_begun (σ := σ) hT hm
  have hbg := hRT.2.2.1
  have hsrt := tb_sort (σ := σ) (δ := δ) hs (F := m_X11_body_b9 σ 0 (ii s) (ii a) (ii b) δ)
  by_cases g1 : -1 ≤ s ∧ s ≤ 5
  · by_cases g2 : gRt bd R a ∧ gRt bd R b
    · refine LX_ref (c := 2) h (by decide) ?_ (fun d1 d2 p1 hM p2 => ?_)
      · have hv5 : gI σ δ 11 0 7 = some (bi bd) := by rw [gI_ko hT.1, hbg.1]
        have b9 : m_X11_body_b9 σ 0 (ii s) (ii a) (ii b) δ = some (Sum.inr 0, δ) := by
          have hts := c_rts_y hT hRT hm ha hb g2
          cases gb : bd with
          | false =>
            rw [gb] at hv5
            simp only [m_X11_body_b9, chk_ko hT.1, ob_some, hts, xel_l, c_begun hT hRT.2.1 hm, hv5, bf0, ↓reduceIte, m_X11_body_b37]
          | true =>
            rw [gb] at hv5
            obtain ⟨⟨u1, -, -, -, u5, -, -, u8, -⟩, -⟩ := hbg.2 gb
            have hGR := hGd.2.2.2.2 gb
            have r4 := hGR.2.2.2.1
            have q6 : gI σ δ 7 (14 + 6 * (e_md E).toNat) 6 = some (ii (l_nb R)) := by rw [gI_ko kru.1, u5]
            have c3 : ¬ l_nb R < 2 := fun q => hno ⟨g1, g2, gb, q⟩
            have n2 : (ii (l_nb R) < (2 : Int32)) = False := i_nlt (b := 2) (by omega) (by omega) (by omega)
            simp only [m_X11_body_b9, chk_ko hT.1, ob_some, hts, xel_l, c_begun hT hRT.2.1 hm, hv5, bt0, ↓reduceIte, q6, n2, m_X11_body_b37]
        unfold m_L_body m_X11_body
        rw [chk_ko hT.1, ob_some, hsrt.1 g1, b9, ob_some, xhw_r]
        rfl
      · have hMb := hM.2.2.2
        have g20 : gI σ d1 12 mo 20 = some (bi bd) := by rw [gI_ko hK.1, hMb.1]
        have w : m_X12_in σ (ii s) (-1 : Int32) (5 : Int32) d1 = some 1 := c_inm_y hs g1
        have ra := (cm_rt hK hMb hGd.2.2.2.2 ha).1 g2.1
        have rb := (cm_rt hK hMb hGd.2.2.2.2 hb).1 g2.2
        cases gb : bd with
        | false =>
          rw [gb] at g20
          simp only [m_X12_body, p1, ob_some, w, i10, ↓reduceIte, chk_ko hK.1, ra, rb, g20, bf0, m_X12_body_b51, stop_of p2]
        | true =>
          rw [gb] at g20
          obtain ⟨m18, m19, -, ⟨mg, -⟩, -⟩ := hMb.2 gb
          have r4 := (hGd.2.2.2.2 gb).2.2.2.1
          have g19 : gI σ d1 12 mo 19 = some (ii (l_nb R)) := by rw [gI_ko hK.1, m19]
          have c3 : ¬ l_nb R < 2 := fun q => hno ⟨g1, g2, gb, q⟩
          have n2 : (ii (l_nb R) = (2 : Int32)) = True := eq_true (by rw [show l_nb R = 2 by omega]; rfl)
          simp only [m_X12_body, p1, ob_some, w, i10, ↓reduceIte, chk_ko hK.1, ra, rb, g20, bt0, g19, n2, m_X12_body_b51, stop_of p2]
    · refine LX_ref (c := 1) h (by decide) ?_ (fun d1 d2 p1 hM p2 => ?_)
      · have b9 : m_X11_body_b9 σ 0 (ii s) (ii a) (ii b) δ = some (Sum.inr 1, δ) := by
          simp only [m_X11_body_b9, chk_ko hT.1, ob_some, c_rts_n hT hRT hm ha hb g2, xel_r]
        unfold m_L_body m_X11_body
        rw [chk_ko hT.1, ob_some, hsrt.1 g1, b9, ob_some, xhw_r]
        rfl
      · have hMb := hM.2.2.2
        have w : m_X12_in σ (ii s) (-1 : Int32) (5 : Int32) d1 = some 1 := c_inm_y hs g1
        by_cases ga : gRt bd R a
        · have ra := (cm_rt hK hMb hGd.2.2.2.2 ha).1 ga
          have rb := (cm_rt hK hMb hGd.2.2.2.2 hb).2 (fun q => g2 ⟨ga, q⟩)
          simp only [m_X12_body, p1, ob_some, w, i10, ↓reduceIte, chk_ko hK.1, ra, rb, m_X12_body_b30, stop_of p2]
        · have ra := (cm_rt hK hMb hGd.2.2.2.2 ha).2 ga
          simp only [m_X12_body, p1, ob_some, w, i10, ↓reduceIte, chk_ko hK.1, ra, m_X12_body_b30, stop_of p2]
  · refine LX_ref (c := 1) h (by decide) ?_ (fun d1 d2 p1 hM p2 => ?_)
    · unfold m_L_body m_X11_body
      rw [chk_ko hT.1, ob_some, hsrt.2 g1, ob_some, xhw_r]
      rfl
    · have w : m_X12_in σ (ii s) (-1 : Int32) (5 : Int32) d1 = some 0 := c_inm_n hs g1
      simp only [m_X12_body, p1, ob_some, w, ↓reduceIte, m_X12_body_b30, chk_ko hK.1, stop_of p2]
end
