/-! THE LAW: heads -/
section
variable {σ : St} {δ d : Dy} {mo p3 k ru : Nat} {E : Ev} {bd kp : Bool} {R : Rl} {I : Iw} {jr : List Jn} {a b s c x hh : Int}
theorem gPat_rng (h : gPat a) : (valu a ∨ slot a ∨ a = 300) ∧ -100000 ≤ a ∧ a ≤ 100000 := by
  rcases h with (h | h) | h
  · have h' : -99 ≤ a ∧ a ≤ 99 := h
    exact ⟨Or.inl h, by omega, by omega⟩
  · have h' : 200 ≤ a ∧ a < 204 := h
    exact ⟨Or.inr (Or.inl h), by omega, by omega⟩
  · exact ⟨Or.inr (Or.inr h), by omega, by omega⟩
theorem t_bind (hK : KRu σ ru) (ha : gPat a) : ∃ d, m_X7_bind σ ru (ii a) δ = some d ∧ (∀ s : Nat, s < 4 → ((d.1 ru 7).toBitVec.getLsbD s = true ↔ ((δ.1 ru 7).toBitVec.getLsbD s = true ∨ a = 200 + (s : Int)))) ∧ (∀ j, ¬ j = 7 → d.1 ru j = δ.1 ru j) ∧ Fr (fun r => r = ru) δ d := by
  obtain ⟨h1, h2, h3⟩ := gPat_rng ha
  unfold m_X7_bind
  rw [isSlot_ii h2 h3, ob_some]
  by_cases hs : 200 ≤ a ∧ a < 204
  · obtain ⟨d, e, v, o, F⟩ := pI_ex (δ := δ) (r := ru) (k := 7) (x := δ.1 ru 7 ||| ((1 : Int32) <<< ((ii (a - 200)) &&& 31))) hK.1
    refine ⟨d, ?_, fun s hs4 => ?_, o, F⟩
    · rw [decide_eq_true hs, if_neg (show ¬ bi true = 0 by decide), gI_ko hK.1, ob_some, show ((200 : Int32)) = ii 200 from rfl, ii_sub, e, ob_some]
    · rw [v, Int32.toBitVec_or, BitVec.getLsbD_or, bit_32 (by omega) (by omega) s (by omega), Bool.or_eq_true, decide_eq_true_iff]
      constructor
      · rintro (q | q)
        · exact Or.inl q
        · exact Or.inr (by omega)
      · rintro (q | q)
        · exact Or.inl q
        · exact Or.inr (by omega)
  · refine ⟨δ, ?_, fun s hs4 => ⟨fun q => Or.inl q, fun q => q.resolve_right (by omega)⟩, fun _ _ => rfl, Fr.rf⟩
    rw [decide_eq_false hs, if_pos (show bi false = 0 from rfl)]
theorem t_addHead (hK : KRu σ ru) (h5 : δ.1 ru 5 = ii hh) (h0 : 0 ≤ hh ∧ hh < 2) (ha : gPat a) (hb : gPat b) : Ok (m_X7_addHead σ ru (ii s) (ii a) (ii b) (bi kp) δ) (fun r => r.1 = ii (hh + 1) ∧ r.2.1 ru 5 = ii (hh + 1) ∧ (r.2.1 (ru + 1) hh.toNat = ii s ∧ ∀ j, ¬ j = hh.toNat → r.2.1 (ru + 1) j = δ.1 (ru + 1) j) ∧ (r.2.1 (ru + 2) (2 * hh).toNat = ii a ∧ r.2.1 (ru + 2) (2 * hh + 1).toNat = ii b ∧ ∀ j, ¬ j = (2 * hh).toNat → ¬ j = (2 * hh + 1).toNat → r.2.1 (ru + 2) j = δ.1 (ru + 2) j) ∧ (r.2.1 (ru + 3) hh.toNat = bi kp ∧ ∀ j, ¬ j = hh.toNat → r.2.1 (ru + 3) j = δ.1 (ru + 3) j) ∧ (∀ s : Nat, s < 4 → ((r.2.1 ru 7).toBitVec.getLsbD s = true ↔ (((δ.1 ru 7).toBitVec.getLsbD s = true ∨ a = 200 + (s : Int)) ∨ b = 200 + (s : Int)))) ∧ (∀ j, ¬ j = 5 → ¬ j = 7 → r.2.1 ru j = δ.1 ru j) ∧ Fr (fun r => ru ≤ r ∧ r < ru + 4) δ r.2) := by
  obtain ⟨k0, ⟨k1, k2, k3, k4, k5⟩, c1, c2, c3, c4, c5⟩ := id hK
  obtain ⟨d1, e1, v1, o1, F1⟩ := wI_ex (δ := δ) (r := ru + 1) (z := hh) (k := hh.toNat) (x := ii s) c1 h0.1 (by omega) rfl
  obtain ⟨d2, e2, v2, o2, F2⟩ := wI_ex (δ := d1) (r := ru + 2) (z := 2 * hh) (k := (2 * hh).toNat) (x := ii a) c2 (by omega) (by omega) rfl
  obtain ⟨d3, e3, v3, o3, F3⟩ := wI_ex (δ := d2) (r := ru + 2) (z := 2 * hh + 1) (k := (2 * hh + 1).toNat) (x := ii b) c2 (by omega) (by omega) rfl
  have e4 : wZ σ d3 (ru + 3) (ii hh) (bi kp) = some (u2 d3.1 (ru + 3) hh.toNat (bi kp), d3.2) := wZ_kd c3 (bi_01 kp) h0.1 (by omega)
  have v4 : (u2 d3.1 (ru + 3) hh.toNat (bi kp), d3.2).1 (ru + 3) hh.toNat = bi kp := by simp only [u2, and_self, ↓reduceIte]
  have o4 : ∀ j, ¬ j = hh.toNat → (u2 d3.1 (ru + 3) hh.toNat (bi kp), d3.2).1 (ru + 3) j = d3.1 (ru + 3) j := fun j hj => by simp (disch := omega) only [u2, if_neg]
  have F4 : Fr (fun q => q = ru + 3) d3 (u2 d3.1 (ru + 3) hh.toNat (bi kp), d3.2) := Fr_u2 rfl
  generalize (u2 d3.1 (ru + 3) hh.toNat (bi kp), d3.2) = d4 at e4 v4 o4 F4
  obtain ⟨d5, e5, v5, o5, F5⟩ := t_bind (σ := σ) (δ := d4) hK ha
  obtain ⟨d6, e6, v6, o6, F6⟩ := t_bind (σ := σ) (δ := d5) hK hb
  obtain ⟨d7, e7, v7, o7, F7⟩ := pI_ex (δ := d6) (r := ru) (k := 5) (x := ii (hh + 1)) k0
  have g1 : d1.1 ru 5 = ii hh := by rw [(F1 ru (by omega)).1]; exact h5
  have g2 : d2.1 ru 5 = ii hh := by rw [(F2 ru (by omega)).1]; exact g1
  have g3 : d3.1 ru 5 = ii hh := by rw [(F3 ru (by omega)).1]; exact g2
  have g4 : d4.1 ru 5 = ii hh := by rw [(F4 ru (by omega)).1]; exact g3
  have g6 : d6.1 ru 5 = ii hh := by rw [o6 5 (by decide), o5 5 (by decide)]; exact g4
  have FF : Fr (fun r => ru ≤ r ∧ r < ru + 4) δ d7 := (F1.wk (fun r p => by omega)).tr ((F2.wk (fun r p => by omega)).tr ((F3.wk (fun r p => by omega)).tr ((F4.wk (fun r p => by omega)).tr ((F5.wk (fun r p => by omega)).tr ((F6.wk (fun r p => by omega)).tr (F7.wk (fun r p => by omega)))))))
  have u : ∀ r, ¬ r = ru → d7.1 r = d4.1 r := fun r hr => by rw [(F7 r hr).1, (F6 r hr).1, (F5 r hr).1]
  refine ⟨(ii (hh + 1), d7), ?_, rfl, v7, ⟨?_, fun j hj => ?_⟩, ⟨?_, ?_, fun j h1 h2 => ?_⟩, ⟨?_, fun j hj => ?_⟩, fun s hs => ?_, fun j h1 h2 => ?_, FF⟩
  · unfold m_X7_addHead
    rw [gI_ko k0, ob_some, h5, if_pos (show ii hh < 2 by rw [show ((2 : Int32)) = ii 2 from rfl, ii_lt (by omega) (by omega) (by omega) (by omega)]; omega), gR_ko k0 k1, ob_some, ob_some, e1, ob_some, gR_ko k0 k2, ob_some, gI_ko k0, ob_some, g1, show ((2 : Int32)) = ii 2 from rfl, ii_mul, e2, ob_some, ob_some, gI_ko k0, ob_some, g2, ii_mul, show ((1 : Int32)) = ii 1 from rfl, ii_add, e3, ob_some, gR_ko k0 k3, ob_some, gI_ko k0, ob_some, g3, e4, ob_some, chk_ko k0, ob_some, e5, ob_some, ob_some, e6, ob_some, gI_ko k0, ob_some, g6, ii_add, e7, ob_some, gI_ko k0, ob_some, v7]
  · show d7.1 (ru + 1) hh.toNat = ii s
    rw [u _ (by omega), (F4 _ (by omega)).1, (F3 _ (by omega)).1, (F2 _ (by omega)).1]; exact v1
  · show d7.1 (ru + 1) j = _
    rw [u _ (by omega), (F4 _ (by omega)).1, (F3 _ (by omega)).1, (F2 _ (by omega)).1, o1 j hj]
  · show d7.1 (ru + 2) _ = _
    rw [u _ (by omega), (F4 _ (by omega)).1, o3 _ (by omega)]; exact v2
  · show d7.1 (ru + 2) _ = _
    rw [u _ (by omega), (F4 _ (by omega)).1]; exact v3
  · show d7.1 (ru + 2) j = _
    rw [u _ (by omega), (F4 _ (by omega)).1, o3 j h2, o2 j h1, (F1 _ (by omega)).1]
  · show d7.1 (ru + 3) _ = _
    rw [u _ (by omega)]; exact v4
  · show d7.1 (ru + 3) j = _
    rw [u _ (by omega), o4 j hj, (F3 _ (by omega)).1, (F2 _ (by omega)).1, (F1 _ (by omega)).1]
  · show ((d7.1 ru 7).toBitVec.getLsbD s = true) ↔ _
    rw [o7 7 (by decide), v6 s hs, v5 s hs, (F4 ru (by omega)).1, (F3 ru (by omega)).1, (F2 ru (by omega)).1, (F1 ru (by omega)).1]
  · show d7.1 ru j = _
    rw [o7 j h1, o6 j h2, o5 j h2, (F4 ru (by omega)).1, (F3 ru (by omega)).1, (F2 ru (by omega)).1, (F1 ru (by omega)).1]
theorem m_putHead (hK : KM σ mo) (h18 : δ.1 mo 18 = ii hh) (h0 : 0 ≤ hh ∧ hh < 2) : Ok (m_X12_putHead σ mo (ii s) (ii a) (ii b) (bi kp) δ) (fun d => d.1 mo 18 = ii (hh + 1) ∧ (d.1 (mo + 14) (4 * hh).toNat = ii s ∧ d.1 (mo + 14) (4 * hh + 1).toNat = ii a ∧ d.1 (mo + 14) (4 * hh + 2).toNat = ii b ∧ d.1 (mo + 14) (4 * hh + 3).toNat = bi kp) ∧ (∀ j, ¬ ((4 * hh).toNat ≤ j ∧ j < (4 * hh).toNat + 4) → d.1 (mo + 14) j = δ.1 (mo + 14) j) ∧ (∀ j, ¬ j = 18 → d.1 mo j = δ.1 mo j) ∧ Fr (fun r => r = mo ∨ r = mo + 14) δ d) := by
  obtain ⟨d1, e1, v1, o1, F1⟩ := wI_ex (δ := δ) (r := mo + 14) (z := 4 * hh) (k := (4 * hh).toNat) (x := ii s) (md15 hK) (by omega) (by omega) rfl
  obtain ⟨d2, e2, v2, o2, F2⟩ := wI_ex (δ := d1) (r := mo + 14) (z := 4 * hh + 1) (k := (4 * hh + 1).toNat) (x := ii a) (md15 hK) (by omega) (by omega) rfl
  obtain ⟨d3, e3, v3, o3, F3⟩ := wI_ex (δ := d2) (r := mo + 14) (z := 4 * hh + 2) (k := (4 * hh + 2).toNat) (x := ii b) (md15 hK) (by omega) (by omega) rfl
  obtain ⟨d4, e4, v4, o4, F4⟩ := wI_ex (δ := d3) (r := mo + 14) (z := 4 * hh + 3) (k := (4 * hh + 3).toNat) (x := bi kp) (md15 hK) (by omega) (by omega) rfl
  obtain ⟨d5, e5, v5, o5, F5⟩ := pI_ex (δ := d4) (r := mo) (k := 18) (x := ii (hh + 1)) hK.1
  have F14 : Fr (fun q => q = mo + 14) δ d4 := F1.tr (F2.tr (F3.tr F4))
  have g1 : d1.1 mo 18 = ii hh := by rw [(F1 mo (by omega)).1]; exact h18
  have g2 : d2.1 mo 18 = ii hh := by rw [(F2 mo (by omega)).1]; exact g1
  have g3 : d3.1 mo 18 = ii hh := by rw [(F3 mo (by omega)).1]; exact g2
  have g4 : d4.1 mo 18 = ii hh := by rw [(F4 mo (by omega)).1]; exact g3
  have u : ∀ j, d5.1 (mo + 14) j = d4.1 (mo + 14) j := fun j => by rw [(F5 _ (by omega)).1]
  have hb62 : ∀ v, v = bi kp → m_X12_putHead_b62 σ mo (mo + 14) (ii (4 * hh + 3)) v d3 = some d5 := by
    intro v hv
    unfold m_X12_putHead_b62
    rw [hv, e4, ob_some, gI_ko hK.1, ob_some, g4, show ((1 : Int32)) = ii 1 from rfl, ii_add, e5, ob_some]
  refine ⟨d5, ?_, v5, ⟨?_, ?_, ?_, ?_⟩, fun j hj => ?_, fun j hj => ?_, (F14.wk (fun r p => Or.inr p)).tr (F5.wk (fun r p => Or.inl p))⟩
  · unfold m_X12_putHead
    rw [mg15 hK, ob_some, gI_ko hK.1, ob_some, h18, show ((4 : Int32)) = ii 4 from rfl, ii_mul, e1, ob_some, ob_some, gI_ko hK.1, ob_some, g1, ii_mul, show ((1 : Int32)) = ii 1 from rfl, ii_add, e2, ob_some, ob_some, gI_ko hK.1, ob_some, g2, ii_mul, show ((2 : Int32)) = ii 2 from rfl, ii_add, e3, ob_some, ob_some, gI_ko hK.1, ob_some, g3, ii_mul, show ((3 : Int32)) = ii 3 from rfl, ii_add]
    cases hkp : kp with
    | true => rw [if_neg (show ¬ bi true = 0 by decide)]; exact hb62 _ (by rw [hkp]; rfl)
    | false => rw [if_pos (show bi false = 0 from rfl)]; exact hb62 _ (by rw [hkp]; rfl)
  · rw [u, o4 _ (by omega), o3 _ (by omega), o2 _ (by omega)]; exact v1
  · rw [u, o4 _ (by omega), o3 _ (by omega)]; exact v2
  · rw [u, o4 _ (by omega)]; exact v3
  · rw [u]; exact v4
  · rw [u, o4 _ (by omega), o3 _ (by omega), o2 _ (by omega), o1 _ (by omega)]
  · rw [o5 j hj, (F14 mo (by omega)).1]
/-- the class's relation where only the rule in the making was written -/
theorem RT_mk {bd' : Bool} {R' : Rl} (h : RT δ E bd R I jr) (hm : 0 ≤ e_md E ∧ e_md E ≤ 8) (hB : RBg d (14 + 6 * (e_md E).toNat) bd' R') (h6 : d.1 0 6 = δ.1 0 6) (hF : Fr (fun r => r = 0 ∨ (14 + 6 * (e_md E).toNat ≤ r ∧ r < 14 + 6 * (e_md E).toNat + 6)) δ d) : RT d E bd' R' I jr := by
  obtain ⟨⟨q1, q2, q3⟩, q4, -, q6, md, I', q7⟩ := h
  refine ⟨⟨RN_of_Fr q1 hF (fun r a b => by omega), fun w w0 w1 => RRu_of_Fr (q2 w w0 w1) hF (fun r a b => by omega), by rw [(hF (68 + 13) (by omega)).1]; exact q3⟩, RId_of_Fr q4 hF (fun r a b => by omega), hB, ⟨by rw [h6]; exact q6.1, by rw [(hF 13 (by omega)).1]; exact q6.2⟩, md, I', RId_of_Fr q7 hF (fun r a b => by omega)⟩
theorem RM_mk {bd' : Bool} {R' : Rl} (h : RM δ mo E bd R I) (hB : RMb d mo bd' R') (ho : ∀ j, j = 7 ∨ j = 14 → d.1 mo j = δ.1 mo j) (hF : Fr (fun r => r = mo ∨ r = mo + 14 ∨ r = mo + 15 ∨ r = mo + 16) δ d) : RM d mo E bd' R' I := by
  obtain ⟨⟨m1, m2⟩, m3, m4, -⟩ := h
  exact ⟨⟨RRm_eq m1 (ho 14 (Or.inr rfl)) (fun r a b => (hF r (by omega)).1), RNm_eq m2 (ho 7 (Or.inl rfl)) (fun r a b => (hF r (by omega)).1)⟩, RIm_eq m3 (hF _ (by omega)).1, by rw [(hF _ (by omega)).1]; exact m4, hB⟩
/-! head -/
theorem GR_hd (hs : 0 ≤ s ∧ s ≤ 5) (ha : gPat a) (hb : gPat b) : GR (hdR s a b kp) := by
  refine ⟨show (1 : Int) ≤ 1 ∧ (1 : Int) ≤ 2 by decide, fun z _ _ => hs, fun p h0 h1 => ?_, show (0 : Int) ≤ 0 ∧ (0 : Int) ≤ 2 by decide, fun z h0 h1 => ?_, fun z h0 h1 => ?_, fun h => by cases h⟩
  · show valu (if p = 0 then a else b) ∨ slot (if p = 0 then a else b) ∨ (if p = 0 then a else b) = 300
    by_cases c : p = 0
    · rw [if_pos c]; exact (gPat_rng ha).1
    · rw [if_neg c]; exact (gPat_rng hb).1
  · have h1' : z < 0 := h1
    omega
  · have h1' : z < 2 * 0 := h1
    omega
theorem bnd_hd {t : Int} (ht : slot t) : bnd (hdR s a b kp) t ↔ (a = t ∨ b = t) := by
  constructor
  · rintro ⟨-, p, h0, h1, h2⟩
    have h2' : (if p = 0 then a else b) = t := h2
    by_cases c : p = 0
    · rw [if_pos c] at h2'; exact Or.inl h2'
    · rw [if_neg c] at h2'; exact Or.inr h2'
  · rintro (h | h)
    · exact ⟨ht, 0, by decide, by show (0 : Int) < 2 * 1; omega, h⟩
    · exact ⟨ht, 1, by decide, by show (1 : Int) < 2 * 1; omega, h⟩
theorem o_head_y (h : Ctx σ δ mo p3 k E bd R I jr) (hs : rng s) (ha : rng a) (hb : rng b) (g1 : 0 ≤ s ∧ s ≤ 5) (g2 : gPat a ∧ gPat b) : LXV mo p3 (bi bd) (m_L_head σ 0 (ii s) (ii a) (ii b) (bi kp) p3 δ) (fun d => m_X12_head σ mo (ii s) (ii a) (ii b) (bi kp) d) (fun d => Core d mo k E true (hdR s a b kp) I jr) := by
  have h' := h
  obtain ⟨⟨hT, hK, h3, hmo⟩, hC⟩ := h'
  obtain ⟨hGd, hRT, hRM, hlen, hRep⟩ := hC
  have gE := hGd.1
  have hm := gE.2.1
  have kru := KRu_begun (σ := σ) hT hm
  have hbg := hRT.2.2.1
  refine LX_mkv (E' := E) (bd' := true) (R' := hdR s a b kp) (I' := I) (jr' := jr) (k' := k) (v := bi bd) h ⟨gE, hGd.2.1, hGd.2.2.1, hGd.2.2.2.1, fun _ => GR_hd g1 g2.1 g2.2⟩ hRep hlen ?_ ?_
  · obtain ⟨d1, e1, v1, o1, F1⟩ := pI_ex (δ := δ) (r := 14 + 6 * (e_md E).toNat) (k := 5) (x := ii 0) kru.1
    obtain ⟨d2, e2, v2, o2, F2⟩ := pI_ex (δ := d1) (r := 14 + 6 * (e_md E).toNat) (k := 6) (x := 0) kru.1
    obtain ⟨d3, e3, v3, o3, F3⟩ := pI_ex (δ := d2) (r := 14 + 6 * (e_md E).toNat) (k := 7) (x := 0) kru.1
    obtain ⟨d4, e4, v4, o4, F4⟩ := pZ_ex (δ := d3) (r := 14 + 6 * (e_md E).toNat) (k := 8) (x := 0) kru.1 (Or.inl rfl)
    have hc5 : d4.1 (14 + 6 * (e_md E).toNat) 5 = ii 0 := by rw [o4 5 (by decide), o3 5 (by decide), o2 5 (by decide)]; exact v1
    have hc6 : d4.1 (14 + 6 * (e_md E).toNat) 6 = 0 := by rw [o4 6 (by decide), o3 6 (by decide)]; exact v2
    have hc7 : d4.1 (14 + 6 * (e_md E).toNat) 7 = 0 := by rw [o4 7 (by decide)]; exact v3
    obtain ⟨⟨r, d5⟩, e5, w1, w2, ⟨w3, -⟩, ⟨w4, w5, -⟩, ⟨w6, -⟩, w7, w8, F5⟩ := t_addHead (σ := σ) (δ := d4) kru hc5 ⟨by omega, by omega⟩ g2.1 g2.2 (s := s) (kp := kp)
    dsimp only at w1 w2 w3 w4 w5 w6 w7 w8 F5
    obtain ⟨d6, e6, v6, o6, F6⟩ := pZ_ex (δ := d5) (r := 0) (k := 7) (x := 1) hT.1 (Or.inr rfl)
    have F04 : Fr (fun q => q = 14 + 6 * (e_md E).toNat) δ d4 := F1.tr (F2.tr (F3.tr F4))
    have F05 : Fr (fun r => 14 + 6 * (e_md E).toNat ≤ r ∧ r < 14 + 6 * (e_md E).toNat + 6) δ d5 := (F04.wk (fun r p => by omega)).tr (F5.wk (fun r p => by omega))
    have F06 : Fr (fun r => r = 0 ∨ (14 + 6 * (e_md E).toNat ≤ r ∧ r < 14 + 6 * (e_md E).toNat + 6)) δ d6 := (F05.wk (fun r p => Or.inr p)).tr (F6.wk (fun r p => Or.inl p))
    have u6 : ∀ r, ¬ r = 0 → d6.1 r = d5.1 r := fun r hr => (F6 r hr).1
    have hv5 : gI σ δ 11 0 7 = some (bi bd) := by rw [gI_ko hT.1, hbg.1]
    have ecl : m_X7_clear σ (14 + 6 * (e_md E).toNat) δ = some d4 := by
      have e1' : pI σ δ 7 (14 + 6 * (e_md E).toNat) 5 (0 : Int32) = some d1 := e1
      simp only [m_X7_clear, e1', e2, e3, e4, ob_some]
    refine ⟨d6, ?_, ?_, F06.wk (fun r p => by omega)⟩
    · simp only [m_L_head, m_X11_head, chk_ko hT.1, ob_some, c_sort_y hs g1, c_pats_y ha hb g2, xel_l, hv5, c_begun hT hRT.2.1 hm, chk_ko kru.1, ecl, e5, e6, zo_bi, xhw_l, m_L_head_b20]
      cases bd with
      | true => rw [if_neg (show ¬ bi true = 0 by decide)]; rfl
      | false => rw [if_pos (show bi false = 0 from rfl)]; rfl
    · refine RT_mk hRT hm ⟨v6, fun _ => ⟨⟨?_, fun z z0 z1 => ?_, fun z z0 z1 => ?_, fun z z0 z1 => ?_, ?_, fun z z0 z1 => ?_, fun z z0 z1 => ?_, ?_, fun q => by cases q⟩, fun t ht => ?_⟩⟩ (by rw [o6 6 (by decide), (F05 0 (by omega)).1]) F06
      · rw [u6 _ (by omega)]; exact w2
      · have z1' : z < 1 := z1
        rw [u6 _ (by omega), show z.toNat = (0 : Int).toNat by omega]; exact w3
      · have z1' : z < 2 * 1 := z1
        show _ = ii (if z = 0 then a else b)
        rw [u6 _ (by omega)]
        by_cases c : z = 0
        · rw [if_pos c, c]; exact w4
        · rw [if_neg c, show z.toNat = (2 * (0 : Int) + 1).toNat by omega]; exact w5
      · have z1' : z < 1 := z1
        rw [u6 _ (by omega), show z.toNat = (0 : Int).toNat by omega]; exact w6
      · rw [u6 _ (by omega), w8 6 (by decide) (by decide)]; exact hc6
      · have z1' : z < 0 := z1
        omega
      · have z1' : z < 2 * 0 := z1
        omega
      · rw [u6 _ (by omega), w8 8 (by decide) (by decide)]; exact v4
      · rw [u6 _ (by omega), w7 t ht, hc7, bnd_hd (show slot (200 + (t : Int)) from ⟨by omega, by omega⟩)]
        have z0 : (0 : Int32).toBitVec.getLsbD t = false := BitVec.getLsbD_zero
        rw [z0]
        constructor
        · rintro ((q | q) | q)
          · cases q
          · exact Or.inl q
          · exact Or.inr q
        · rintro (q | q)
          · exact Or.inl (Or.inr q)
          · exact Or.inr q
  · intro d d1 p1 hM
    have hMb := hM.2.2.2
    have w : m_X12_in σ (ii s) (0 : Int32) (5 : Int32) d1 = some 1 := c_in_y (a := 0) (b := 5) hs (by omega) (by omega) g1
    obtain ⟨d2, e2, v2, o2, F2⟩ := pZ_ex (δ := d1) (r := mo) (k := 20) (x := 1) hK.1 (Or.inr rfl)
    obtain ⟨d3, e3, v3, o3, F3⟩ := pI_ex (δ := d2) (r := mo) (k := 18) (x := 0) hK.1
    obtain ⟨d4, e4, v4, o4, F4⟩ := pI_ex (δ := d3) (r := mo) (k := 19) (x := 0) hK.1
    obtain ⟨d5, e5, v5, o5, F5⟩ := wI_ex (δ := d4) (r := mo + 15) (z := 0) (k := 0) (x := ii (-1)) (md16 hK) (by omega) (by omega) rfl
    have h18 : d5.1 mo 18 = ii 0 := by rw [(F5 mo (by omega)).1, o4 18 (by decide)]; exact v3
    obtain ⟨D, e6, w1, ⟨w2, w3, w4, w5⟩, w6, w7, F6⟩ := m_putHead (σ := σ) (δ := d5) hK h18 ⟨by omega, by omega⟩ (s := s) (a := a) (b := b) (kp := kp)
    have FF : Fr (fun r => r = mo ∨ r = mo + 14 ∨ r = mo + 15 ∨ r = mo + 16) d1 D := (F2.wk (fun r p => by omega)).tr ((F3.wk (fun r p => by omega)).tr ((F4.wk (fun r p => by omega)).tr ((F5.wk (fun r p => by omega)).tr (F6.wk (fun r p => by omega)))))
    have oo : ∀ j, ¬ j = 18 → ¬ j = 19 → ¬ j = 20 → D.1 mo j = d1.1 mo j := fun j h1 h2 h3 => by rw [w7 j h1, (F5 mo (by omega)).1, o4 j h2, o3 j h1, o2 j h3]
    have g20 : gI σ d1 12 mo 20 = some (bi bd) := by rw [gI_ko hK.1, hMb.1]
    refine ⟨D, ?_, oo 50 (by decide) (by decide) (by decide), RM_mk hM ⟨?_, fun _ => ⟨w1, ?_, fun z z0 z1 => ?_, ⟨?_, fun q => by cases q⟩, fun z z0 z1 => ?_⟩⟩ (fun j hj => oo j (by omega) (by omega) (by omega)) FF, FF.wk (fun r p => by omega)⟩
    · have e5' : wI σ d4 (mo + 15) (0 : Int32) (-1 : Int32) = some d5 := e5
      simp only [m_X12_head, p1, ob_some, w, cm_pat_y ha g2.1, cm_pat_y hb g2.2, i10, ↓reduceIte, g20, e2, e3, e4, mg16 hK, e5', chk_ko hK.1, e6, zo_bi]
    · rw [w7 20 (by decide), (F5 mo (by omega)).1, o4 20 (by decide), o3 20 (by decide)]; exact v2
    · rw [w7 19 (by decide), (F5 mo (by omega)).1]; exact v4
    · have z1' : z < 1 := z1
      have z2 : z = 0 := by omega
      subst z2
      exact ⟨w2, w3, w4, w5⟩
    · rw [(F6 (mo + 15) (by omega)).1]; exact v5
    · have z1' : z < 0 := z1
      omega
theorem o_head_n (h : Ctx σ δ mo p3 k E bd R I jr) (hs : rng s) (ha : rng a) (hb : rng b) (hno : ¬ ((0 ≤ s ∧ s ≤ 5) ∧ gPat a ∧ gPat b)) : LXV mo p3 (bi bd) (m_L_head σ 0 (ii s) (ii a) (ii b) (bi kp) p3 δ) (fun d => m_X12_head σ mo (ii s) (ii a) (ii b) (bi kp) d) (fun d => Core d mo k E bd R I jr) := by
  obtain ⟨⟨hT, hK, h3, hmo⟩, hC⟩ := id h
  by_cases g1 : 0 ≤ s ∧ s ≤ 5
  · have g2 : ¬ (gPat a ∧ gPat b) := fun q => hno ⟨g1, q⟩
    refine LX_refv (c := 1) h (by decide) ?_ (fun d1 d2 p1 hM p2 => ?_)
    · simp only [m_L_head, m_X11_head, chk_ko hT.1, ob_some, c_sort_y hs g1, c_pats_n ha hb g2, xel_l, xel_r, xhw_r]
      try rfl
    · have w : m_X12_in σ (ii s) (0 : Int32) (5 : Int32) d1 = some 1 := c_in_y (a := 0) (b := 5) hs (by omega) (by omega) g1
      by_cases ga : gPat a
      · simp only [m_X12_head, p1, ob_some, w, cm_pat_y ha ga, cm_pat_n hb (fun q => g2 ⟨ga, q⟩), i10, ↓reduceIte, m_X12_head_b28, p2]
      · simp only [m_X12_head, p1, ob_some, w, cm_pat_n ha ga, i10, ↓reduceIte, m_X12_head_b28, p2]
  · refine LX_refv (c := 1) h (by decide) ?_ (fun d1 d2 p1 hM p2 => ?_)
    · simp only [m_L_head, m_X11_head, chk_ko hT.1, ob_some, c_sort_n hs g1, xel_r, xhw_r]
      try rfl
    · have w : m_X12_in σ (ii s) (0 : Int32) (5 : Int32) d1 = some 0 := c_in_n (a := 0) (b := 5) hs (by omega) (by omega) g1
      simp only [m_X12_head, p1, ob_some, w, ↓reduceIte, m_X12_head_b28, p2]
end
