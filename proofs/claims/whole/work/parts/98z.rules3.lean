/-! THE LAW: other heads, guards, bodies -/
section
variable {σ : St} {δ d : Dy} {mo p3 k ru : Nat} {E : Ev} {bd kp : Bool} {R : Rl} {I : Iw} {jr : List Jn} {a b s c x hh : Int}
theorem GR_ot (hR : GR R) (h1 : l_hd R = 1) (h0 : l_nb R = 0) (hg : l_gd R = false) (hs : 0 ≤ s ∧ s ≤ 5) (ha : gPat a) (hb : gPat b) : GR (otR R s a b kp) := by
  obtain ⟨r1, r2, r3, r4, r5, r6, r7⟩ := hR
  refine ⟨show (1 : Int) ≤ 2 ∧ (2 : Int) ≤ 2 by decide, fun z z0 z1 => ?_, fun p p0 p1 => ?_, r4, r5, fun z z0 z1 => ?_, fun h => ?_⟩
  · have z1' : z < 2 := z1
    show 0 ≤ upf (l_so R) 1 s z ∧ upf (l_so R) 1 s z ≤ 5
    unfold upf
    by_cases c : z = 1
    · rw [if_pos c]; exact hs
    · rw [if_neg c]; exact r2 z z0 (by omega)
  · have p1' : p < 2 * 2 := p1
    show valu (if p = 2 then a else if p = 3 then b else l_pa R p) ∨ slot (if p = 2 then a else if p = 3 then b else l_pa R p) ∨ (if p = 2 then a else if p = 3 then b else l_pa R p) = 300
    by_cases c2 : p = 2
    · rw [if_pos c2]; exact (gPat_rng ha).1
    · rw [if_neg c2]
      by_cases c3 : p = 3
      · rw [if_pos c3]; exact (gPat_rng hb).1
      · rw [if_neg c3]; exact r3 p p0 (by omega)
  · have z1' : z < 2 * l_nb R := z1
    omega
  · have h' : l_gd R = true := h
    rw [hg] at h'
    cases h'
theorem bnd_ot {t : Int} (h1 : l_hd R = 1) (ht : slot t) : bnd (otR R s a b kp) t ↔ ((bnd R t ∨ a = t) ∨ b = t) := by
  constructor
  · rintro ⟨-, p, h0, hp, h2⟩
    have hp' : p < 2 * 2 := hp
    have h2' : (if p = 2 then a else if p = 3 then b else l_pa R p) = t := h2
    by_cases c2 : p = 2
    · rw [if_pos c2] at h2'; exact Or.inl (Or.inr h2')
    · rw [if_neg c2] at h2'
      by_cases c3 : p = 3
      · rw [if_pos c3] at h2'; exact Or.inr h2'
      · rw [if_neg c3] at h2'; exact Or.inl (Or.inl ⟨ht, p, h0, by omega, h2'⟩)
  · rintro ((⟨-, p, h0, hp, h2⟩ | h) | h)
    · refine ⟨ht, p, h0, by show p < 2 * 2; omega, ?_⟩
      show (if p = 2 then a else if p = 3 then b else l_pa R p) = t
      rw [if_neg (by omega), if_neg (by omega)]
      exact h2
    · exact ⟨ht, 2, by decide, by show (2 : Int) < 2 * 2; omega, h⟩
    · exact ⟨ht, 3, by decide, by show (3 : Int) < 2 * 2; omega, h⟩
theorem o_other_y (h : Ctx σ δ mo p3 k E bd R I jr) (hs : rng s) (ha : rng a) (hb : rng b) (g1 : 0 ≤ s ∧ s ≤ 5) (g2 : gPat a ∧ gPat b) (g3 : bd = true ∧ l_hd R = 1 ∧ l_gd R = false ∧ l_nb R = 0) : LX mo p3 (m_L_other σ 0 (ii s) (ii a) (ii b) (bi kp) p3 δ) (fun d => m_X12_other σ mo (ii s) (ii a) (ii b) (bi kp) d) (fun d => Core d mo k E true (otR R s a b kp) I jr) := by
  have h' := h
  obtain ⟨⟨hT, hK, h3, hmo⟩, hC⟩ := h'
  obtain ⟨hGd, hRT, hRM, hlen, hRep⟩ := hC
  obtain ⟨gb, gh, gg, gn⟩ := g3
  have gE := hGd.1
  have hm := gE.2.1
  have kru := KRu_begun (σ := σ) hT hm
  have hbg := hRT.2.2.1
  obtain ⟨hru, hmk⟩ := hbg.2 gb
  obtain ⟨u1, u2', u3, u4, u5, u6, u7, u8, u9⟩ := hru
  have hGR := hGd.2.2.2.2 gb
  refine LX_mk (E' := E) (bd' := true) (R' := otR R s a b kp) (I' := I) (jr' := jr) (k' := k) (v := ii 2) h ⟨gE, hGd.2.1, hGd.2.2.1, hGd.2.2.2.1, fun _ => GR_ot hGR gh gn gg g1 g2.1 g2.2⟩ hRep hlen ?_ ?_
  · rw [gh] at u1
    obtain ⟨⟨r, d5⟩, e5, w1, w2, ⟨w3, w3'⟩, ⟨w4, w5, w5'⟩, ⟨w6, w6'⟩, w7, w8, F5⟩ := t_addHead (σ := σ) (δ := δ) kru u1 ⟨by omega, by omega⟩ g2.1 g2.2 (s := s) (kp := kp)
    dsimp only at w1 w2 w3 w3' w4 w5 w5' w6 w6' w7 w8 F5
    subst w1
    have F05 : Fr (fun r => r = 0 ∨ (14 + 6 * (e_md E).toNat ≤ r ∧ r < 14 + 6 * (e_md E).toNat + 6)) δ d5 := F5.wk (fun r p => by omega)
    have hv5 : gI σ δ 11 0 7 = some (bi true) := by rw [gI_ko hT.1, hbg.1, gb]
    have q5 : gI σ δ 7 (14 + 6 * (e_md E).toNat) 5 = some (ii 1) := by rw [gI_ko kru.1, u1]
    have q8 : gI σ δ 7 (14 + 6 * (e_md E).toNat) 8 = some (bi false) := by rw [gI_ko kru.1, u8, gg]
    have q6 : gI σ δ 7 (14 + 6 * (e_md E).toNat) 6 = some (ii 0) := by rw [gI_ko kru.1, u5, gn]
    have n2 : ((2 : Int32) ≤ ii 1) = False := eq_false (by decide)
    have n0 : (ii 0 ≤ (0 : Int32)) = True := eq_true (by decide)
    refine ⟨d5, ?_, ?_, F05.wk (fun r p => by omega)⟩
    · simp only [m_L_other, m_X11_other, chk_ko hT.1, ob_some, c_sort_y hs g1, c_pats_y ha hb g2, xel_l, c_begun hT hRT.2.1 hm, hv5, bt0, ↓reduceIte, q5, n2, q8, bf0, q6, n0, chk_ko kru.1, e5, xhw_l]
      rfl
    · refine RT_mk hRT hm ⟨by rw [(F5 0 (by omega)).1, hbg.1, gb], fun _ => ⟨⟨w2, fun z z0 z1 => ?_, fun z z0 z1 => ?_, fun z z0 z1 => ?_, ?_, ?_, ?_, ?_, ?_⟩, fun t ht => ?_⟩⟩ (by rw [(F5 0 (by omega)).1]) F05
      · have z1' : z < 2 := z1
        show _ = ii (upf (l_so R) 1 s z)
        unfold upf
        by_cases c : z = 1
        · rw [if_pos c, c]; exact w3
        · rw [if_neg c, w3' _ (by omega)]; exact u2' z z0 (by omega)
      · have z1' : z < 2 * 2 := z1
        show _ = ii (if z = 2 then a else if z = 3 then b else l_pa R z)
        by_cases c2 : z = 2
        · rw [if_pos c2, c2]; exact w4
        · rw [if_neg c2]
          by_cases c3 : z = 3
          · rw [if_pos c3, c3]; exact w5
          · rw [if_neg c3, w5' _ (by omega) (by omega)]; exact u3 z z0 (by omega)
      · have z1' : z < 2 := z1
        show _ = bi (upf (l_sy R) 1 kp z)
        unfold upf
        by_cases c : z = 1
        · rw [if_pos c, c]; exact w6
        · rw [if_neg c, w6' _ (by omega)]; exact u4 z z0 (by omega)
      · rw [w8 6 (by decide) (by decide)]; exact u5
      · rw [(F5 _ (by omega)).1]; exact u6
      · rw [(F5 _ (by omega)).1]; exact u7
      · rw [w8 8 (by decide) (by decide)]; exact u8
      · intro q
        rw [w8 9 (by decide) (by decide), w8 10 (by decide) (by decide), w8 11 (by decide) (by decide)]; exact u9 q
      · rw [w7 t ht, hmk t ht, bnd_ot gh (show slot (200 + (t : Int)) from ⟨by omega, by omega⟩)]
  · intro d d1 p1 hM
    have hMb := hM.2.2.2
    obtain ⟨m18, m19, mh, ⟨mg, mg'⟩, mb⟩ := hMb.2 gb
    rw [gh] at m18
    have w : m_X12_in σ (ii s) (0 : Int32) (5 : Int32) d1 = some 1 := c_in_y (a := 0) (b := 5) hs (by omega) (by omega) g1
    obtain ⟨D, e6, w1, ⟨w2, w3, w4, w5⟩, w6, w7, F6⟩ := m_putHead (σ := σ) (δ := d1) hK m18 ⟨by omega, by omega⟩ (s := s) (a := a) (b := b) (kp := kp)
    have FF : Fr (fun r => r = mo ∨ r = mo + 14 ∨ r = mo + 15 ∨ r = mo + 16) d1 D := F6.wk (fun r p => by omega)
    have g20 : gI σ d1 12 mo 20 = some (bi true) := by rw [gI_ko hK.1, hMb.1, gb]
    have g18 : gI σ d1 12 mo 18 = some (ii 1) := by rw [gI_ko hK.1, m18]
    have g19 : gI σ d1 12 mo 19 = some (ii 0) := by rw [gI_ko hK.1, m19, gn]
    have r0 : rI σ d1 (mo + 15) (0 : Int32) = some (-1 : Int32) := rst (z := 0) (k := 0) (md16 hK) (by omega) (by omega) rfl (by rw [mg, gg]; rfl)
    have g18D : gI σ D 12 mo 18 = some (ii 2) := by rw [gI_ko hK.1, w1]; rfl
    have n2 : (ii 1 = (2 : Int32)) = False := eq_false (by decide)
    have n0 : (ii 0 ≤ (0 : Int32)) = True := eq_true (by decide)
    refine ⟨D, ?_, w7 50 (by decide), RM_mk hM ⟨by rw [w7 20 (by decide), hMb.1, gb], fun _ => ⟨w1, by rw [w7 19 (by decide)]; exact m19, fun z z0 z1 => ?_, ⟨by rw [(F6 (mo + 15) (by omega)).1]; exact mg, fun q => ?_⟩, fun z z0 z1 => ?_⟩⟩ (fun j hj => w7 j (by omega)) FF, FF.wk (fun r p => by omega)⟩
    · simp only [m_X12_other, p1, ob_some, w, cm_pat_y ha g2.1, cm_pat_y hb g2.2, i10, ↓reduceIte, g20, bt0, g18, n2, mg16 hK, r0, g19, n0, chk_ko hK.1, e6, g18D]
    · have z1' : z < 2 := z1
      show _ = ii (upf (l_so R) 1 s z) ∧ _ = ii (if 2 * z = 2 then a else if 2 * z = 3 then b else l_pa R (2 * z)) ∧ _ = ii (if 2 * z + 1 = 2 then a else if 2 * z + 1 = 3 then b else l_pa R (2 * z + 1)) ∧ _ = bi (upf (l_sy R) 1 kp z)
      unfold upf
      by_cases c : z = 1
      · subst c
        rw [if_pos rfl, if_pos (by decide), if_neg (by decide), if_pos (by decide), if_pos rfl]
        exact ⟨w2, w3, w4, w5⟩
      · rw [if_neg c, if_neg (by omega), if_neg (by omega), if_neg (by omega), if_neg (by omega), if_neg c, w6 _ (by omega), w6 _ (by omega), w6 _ (by omega), w6 _ (by omega)]
        exact mh z z0 (by omega)
    · rw [(F6 (mo + 15) (by omega)).1]; exact mg' q
    · rw [(F6 (mo + 16) (by omega)).1]; exact mb z z0 z1
theorem o_other_n (h : Ctx σ δ mo p3 k E bd R I jr) (hs : rng s) (ha : rng a) (hb : rng b) (hno : ¬ ((0 ≤ s ∧ s ≤ 5) ∧ (gPat a ∧ gPat b) ∧ bd = true ∧ l_hd R = 1 ∧ l_gd R = false ∧ l_nb R = 0)) : LX mo p3 (m_L_other σ 0 (ii s) (ii a) (ii b) (bi kp) p3 δ) (fun d => m_X12_other σ mo (ii s) (ii a) (ii b) (bi kp) d) (fun d => Core d mo k E bd R I jr) := by
  obtain ⟨⟨hT, hK, h3, hmo⟩, hC⟩ := id h
  have hGd := hC.1
  have hRT := hC.2.1
  have hm := hGd.1.2.1
  have kru := KRu_begun (σ := σ) hT hm
  have hbg := hRT.2.2.1
  by_cases g1 : 0 ≤ s ∧ s ≤ 5
  · by_cases g2 : gPat a ∧ gPat b
    · refine LX_ref (c := 2) h (by decide) ?_ (fun d1 d2 p1 hM p2 => ?_)
      · have hv5 : gI σ δ 11 0 7 = some (bi bd) := by rw [gI_ko hT.1, hbg.1]
        cases gb : bd with
        | false =>
          rw [gb] at hv5
          simp only [m_L_other, m_X11_other, chk_ko hT.1, ob_some, c_sort_y hs g1, c_pats_y ha hb g2, xel_l, c_begun hT hRT.2.1 hm, hv5, bf0, ↓reduceIte, m_X11_other_b47, xhw_r]
          try rfl
        | true =>
          rw [gb] at hv5
          obtain ⟨⟨u1, -, -, -, u5, -, -, u8, -⟩, -⟩ := hbg.2 gb
          have hGR := hGd.2.2.2.2 gb
          have r1 := hGR.1
          have r4 := hGR.2.2.2.1
          have q5 : gI σ δ 7 (14 + 6 * (e_md E).toNat) 5 = some (ii (l_hd R)) := by rw [gI_ko kru.1, u1]
          have q8 : gI σ δ 7 (14 + 6 * (e_md E).toNat) 8 = some (bi (l_gd R)) := by rw [gI_ko kru.1, u8]
          have q6 : gI σ δ 7 (14 + 6 * (e_md E).toNat) 6 = some (ii (l_nb R)) := by rw [gI_ko kru.1, u5]
          by_cases c1 : l_hd R = 1
          · have n2 : ((2 : Int32) ≤ ii (l_hd R)) = False := i_nle (a := 2) (by omega) (by omega) (by omega)
            cases c2 : l_gd R with
            | true =>
              rw [c2] at q8
              simp only [m_L_other, m_X11_other, chk_ko hT.1, ob_some, c_sort_y hs g1, c_pats_y ha hb g2, xel_l, c_begun hT hRT.2.1 hm, hv5, bt0, ↓reduceIte, q5, n2, q8, m_X11_other_b47, xhw_r]
              try rfl
            | false =>
              rw [c2] at q8
              have c3 : ¬ l_nb R = 0 := fun q => hno ⟨g1, g2, gb, c1, c2, q⟩
              have n0 : (ii (l_nb R) ≤ (0 : Int32)) = False := i_nle (b := 0) (by omega) (by omega) (by omega)
              simp only [m_L_other, m_X11_other, chk_ko hT.1, ob_some, c_sort_y hs g1, c_pats_y ha hb g2, xel_l, c_begun hT hRT.2.1 hm, hv5, bt0, bf0, ↓reduceIte, q5, n2, q8, q6, n0, m_X11_other_b47, xhw_r]
              try rfl
          · have n2 : ((2 : Int32) ≤ ii (l_hd R)) = True := i_le (a := 2) (by omega) (by omega) (by omega)
            simp only [m_L_other, m_X11_other, chk_ko hT.1, ob_some, c_sort_y hs g1, c_pats_y ha hb g2, xel_l, c_begun hT hRT.2.1 hm, hv5, bt0, ↓reduceIte, q5, n2, m_X11_other_b47, xhw_r]
            try rfl
      · have hMb := hM.2.2.2
        have w : m_X12_in σ (ii s) (0 : Int32) (5 : Int32) d1 = some 1 := c_in_y (a := 0) (b := 5) hs (by omega) (by omega) g1
        have g20 : gI σ d1 12 mo 20 = some (bi bd) := by rw [gI_ko hK.1, hMb.1]
        cases gb : bd with
        | false =>
          rw [gb] at g20
          simp only [m_X12_other, p1, ob_some, w, cm_pat_y ha g2.1, cm_pat_y hb g2.2, i10, ↓reduceIte, g20, bf0, m_X12_other_b66, chk_ko hK.1, stop_of p2]
        | true =>
          rw [gb] at g20
          obtain ⟨m18, m19, -, ⟨mg, -⟩, -⟩ := hMb.2 gb
          have hGR := hGd.2.2.2.2 gb
          have r1 := hGR.1
          have r4 := hGR.2.2.2.1
          have g18 : gI σ d1 12 mo 18 = some (ii (l_hd R)) := by rw [gI_ko hK.1, m18]
          have g19 : gI σ d1 12 mo 19 = some (ii (l_nb R)) := by rw [gI_ko hK.1, m19]
          by_cases c1 : l_hd R = 1
          · have n2 : (ii (l_hd R) = (2 : Int32)) = False := eq_false (by rw [c1]; decide)
            cases c2 : l_gd R with
            | true =>
              have hgc := (hGR.2.2.2.2.2.2 c2).1
              have r0 : rI σ d1 (mo + 15) (0 : Int32) = some (ii (l_gc R)) := rst (z := 0) (k := 0) (md16 hK) (by omega) (by omega) rfl (by rw [mg, c2]; rfl)
              have nm : (ii (l_gc R) = (-1 : Int32)) = False := eq_false (by rw [show ((-1 : Int32)) = ii (-1) from rfl, ii_eq (by omega) (by omega) (by omega) (by omega)]; omega)
              simp only [m_X12_other, p1, ob_some, w, cm_pat_y ha g2.1, cm_pat_y hb g2.2, i10, ↓reduceIte, g20, bt0, g18, n2, mg16 hK, r0, nm, m_X12_other_b66, chk_ko hK.1, stop_of p2]
            | false =>
              have r0 : rI σ d1 (mo + 15) (0 : Int32) = some (-1 : Int32) := rst (z := 0) (k := 0) (md16 hK) (by omega) (by omega) rfl (by rw [mg, c2]; rfl)
              have c3 : ¬ l_nb R = 0 := fun q => hno ⟨g1, g2, gb, c1, c2, q⟩
              have n0 : (ii (l_nb R) ≤ (0 : Int32)) = False := i_nle (b := 0) (by omega) (by omega) (by omega)
              simp only [m_X12_other, p1, ob_some, w, cm_pat_y ha g2.1, cm_pat_y hb g2.2, i10, ↓reduceIte, g20, bt0, g18, n2, mg16 hK, r0, g19, n0, m_X12_other_b66, chk_ko hK.1, stop_of p2]
          · have n2 : (ii (l_hd R) = (2 : Int32)) = True := eq_true (by rw [show l_hd R = 2 by omega]; rfl)
            simp only [m_X12_other, p1, ob_some, w, cm_pat_y ha g2.1, cm_pat_y hb g2.2, i10, ↓reduceIte, g20, bt0, g18, n2, m_X12_other_b66, chk_ko hK.1, stop_of p2]
    · refine LX_ref (c := 1) h (by decide) ?_ (fun d1 d2 p1 hM p2 => ?_)
      · simp only [m_L_other, m_X11_other, chk_ko hT.1, ob_some, c_sort_y hs g1, c_pats_n ha hb g2, xel_l, xel_r, xhw_r]
        try rfl
      · have w : m_X12_in σ (ii s) (0 : Int32) (5 : Int32) d1 = some 1 := c_in_y (a := 0) (b := 5) hs (by omega) (by omega) g1
        by_cases ga : gPat a
        · simp only [m_X12_other, p1, ob_some, w, cm_pat_y ha ga, cm_pat_n hb (fun q => g2 ⟨ga, q⟩), i10, ↓reduceIte, m_X12_other_b28, chk_ko hK.1, stop_of p2]
        · simp only [m_X12_other, p1, ob_some, w, cm_pat_n ha ga, i10, ↓reduceIte, m_X12_other_b28, chk_ko hK.1, stop_of p2]
  · refine LX_ref (c := 1) h (by decide) ?_ (fun d1 d2 p1 hM p2 => ?_)
    · simp only [m_L_other, m_X11_other, chk_ko hT.1, ob_some, c_sort_n hs g1, xel_r, xhw_r]
      try rfl
    · have w : m_X12_in σ (ii s) (0 : Int32) (5 : Int32) d1 = some 0 := c_in_n (a := 0) (b := 5) hs (by omega) (by omega) g1
      simp only [m_X12_other, p1, ob_some, w, ↓reduceIte, m_X12_other_b28, chk_ko hK.1, stop_of p2]
end
