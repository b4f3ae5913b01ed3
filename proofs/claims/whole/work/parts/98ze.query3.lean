/-! THE LAW: part, isMadeBy, chance -/
section
variable {σ : St} {δ d : Dy} {mo p3 k wp dr : Nat} {E : Ev} {bd kp : Bool} {R : Rl} {I : Iw} {jr : List Jn} {md n a b z x i : Int} {S : Sto}
theorem o_part_y (h : Ctx σ δ mo p3 k E bd R I jr) (hz : rng z) (hi : rng i) (g : 0 ≤ z ∧ z < s_nt (v_S (i_V I))) (g2 : 0 ≤ i ∧ i ≤ 4) : LX mo p3 (m_L_part σ 0 (ii z) (ii i) p3 δ) (fun d => m_X12_part σ mo (ii z) (ii i) d) (fun d => Core d mo k E bd R I jr) := by
  obtain ⟨⟨hT, hK, h3, hmo⟩, hC⟩ := id h
  have kW : KO σ 68 10 := hT.2.2.2.2.1.2.1
  have kS := hT.2.2.2.2.1.2.2.1
  have kst : KS σ (68 + 1) := hT.2.2.2.2.1.2.2.2.2.2.1
  obtain ⟨s0, ⟨-, -, s3, s4, s5, s6, s7, -, -⟩, -, -, d3, d4, d5, d6, d7, -⟩ := id kst
  have gS := hC.1.2.1.1
  have g0 : 0 ≤ s_nt (v_S (i_V I)) ∧ s_nt (v_S (i_V I)) ≤ 100 := ⟨gS.1.2.2.1, gS.1.2.2.2⟩
  obtain ⟨-, -, -, -, r5, r6, r7, r8, r9, -⟩ := hC.2.1.2.1.1
  have ht1 := gS.2.2.2.2.1 z g.1 g.2
  have ht2 := gS.2.2.2.2.2 z g.1 g.2
  have gnv := gS.1
  have hr1 := tm_rng ht1 gnv.2.1
  have hr2 := tm_rng ht2 gnv.2.1
  have tk := (c_tok (σ := σ) (δ := δ) hT hC.2.1.2.1 g0 hz).1 g
  have w : ∀ d, m_X12_in σ (ii i) (0 : Int32) (4 : Int32) d = some 1 := fun d => c_in_y (a := 0) (b := 4) hi (by omega) (by omega) g2
  rcases (show i = 0 ∨ i = 1 ∨ i = 2 ∨ i = 3 ∨ i = 4 by omega) with rfl | rfl | rfl | rfl | rfl
  · refine LX_q (v := ii (s_so (v_S (i_V I)) z)) h ?_ (fun d d1 p1 hM => ?_)
    · have e : rI σ δ (68 + 1 + 3) (ii z) = some (ii (s_so (v_S (i_V I)) z)) := by rw [rI_kd d3 g.1 (by omega), r5 z g.1 g.2]
      have n : (ii 0 = (0 : Int32)) = True := eq_true rfl
      simp only [m_L_part, m_X11_part, chk_ko hT.1, ob_some, tk, xel_l, gR_ko hT.1 hT.2.1.2.2.1, gR_ko kW kS.2.1, n, ↓reduceIte, gR_ko s0 s3, e]
      rfl
    · have tm' := (cm_tok hK hM.2.1.1.2.2.2.1 g0 hz).1 g
      have e : rI σ d1 (mo + 1) ((122 : Int32) + ii z) = some (ii (s_so (v_S (i_V I)) z)) := by rw [show ((122 : Int32)) = ii 122 from rfl, ii_add]; exact rst (md0 hK) (by omega) (by omega) rfl (hM.2.1.1.2.2.2.2.1 z g.1 g.2)
      have n : (ii 0 = (0 : Int32)) = True := eq_true rfl
      simp only [m_X12_part, p1, ob_some, chk_ko hK.1, tm', i10, ↓reduceIte, w, n, mg0 hK, e]
  · refine LX_q (v := ii (form (v_S (i_V I)) (s_fi (v_S (i_V I)) z))) h ?_ (fun d d1 p1 hM => ?_)
    · have e : rI σ δ (68 + 1 + 4) (ii z) = some (ii (s_fi (v_S (i_V I)) z)) := by rw [rI_kd d4 g.1 (by omega), r6 z g.1 g.2]
      have n : (ii 1 = (0 : Int32)) = False := eq_false (by decide)
      have n1 : (ii 1 = (1 : Int32)) = True := eq_true rfl
      have f := t_form kst hC.2.1.2.1.1 gS (t := s_fi (v_S (i_V I)) z) (by omega) (by omega)
      simp only [m_L_part, m_X11_part, chk_ko hT.1, ob_some, tk, xel_l, gR_ko hT.1 hT.2.1.2.2.1, gR_ko kW kS.2.1, n, n1, ↓reduceIte, gR_ko s0 s4, e, chk_ko s0, f]
      rfl
    · have tm' := (cm_tok hK hM.2.1.1.2.2.2.1 g0 hz).1 g
      have e : rI σ d1 (mo + 1) ((222 : Int32) + ii z) = some (ii (s_fi (v_S (i_V I)) z)) := by rw [show ((222 : Int32)) = ii 222 from rfl, ii_add]; exact rst (md0 hK) (by omega) (by omega) rfl (hM.2.1.1.2.2.2.2.2.1 z g.1 g.2)
      have n : (ii 1 = (0 : Int32)) = False := eq_false (by decide)
      have n1 : (ii 1 = (1 : Int32)) = True := eq_true rfl
      have n3 : ((3 : Int32) ≤ ii 1) = False := eq_false (by decide)
      have f := m_asTold hK hM.2.1.1 gS ht1
      simp only [m_X12_part, p1, ob_some, chk_ko hK.1, tm', i10, ↓reduceIte, w, n, n1, n3, mg0 hK, e, m_X12_part_b82, f]
  · refine LX_q (v := ii (form (v_S (i_V I)) (s_se (v_S (i_V I)) z))) h ?_ (fun d d1 p1 hM => ?_)
    · have e : rI σ δ (68 + 1 + 5) (ii z) = some (ii (s_se (v_S (i_V I)) z)) := by rw [rI_kd d5 g.1 (by omega), r7 z g.1 g.2]
      have n : (ii 2 = (0 : Int32)) = False := eq_false (by decide)
      have n1 : (ii 2 = (1 : Int32)) = False := eq_false (by decide)
      have n2 : (ii 2 = (2 : Int32)) = True := eq_true rfl
      have f := t_form kst hC.2.1.2.1.1 gS (t := s_se (v_S (i_V I)) z) (by omega) (by omega)
      simp only [m_L_part, m_X11_part, chk_ko hT.1, ob_some, tk, xel_l, gR_ko hT.1 hT.2.1.2.2.1, gR_ko kW kS.2.1, n, n1, n2, ↓reduceIte, gR_ko s0 s5, e, chk_ko s0, f]
      rfl
    · have tm' := (cm_tok hK hM.2.1.1.2.2.2.1 g0 hz).1 g
      have e : rI σ d1 (mo + 1) ((322 : Int32) + ii z) = some (ii (s_se (v_S (i_V I)) z)) := by rw [show ((322 : Int32)) = ii 322 from rfl, ii_add]; exact rst (md0 hK) (by omega) (by omega) rfl (hM.2.1.1.2.2.2.2.2.2.1 z g.1 g.2)
      have n : (ii 2 = (0 : Int32)) = False := eq_false (by decide)
      have n1 : (ii 2 = (1 : Int32)) = False := eq_false (by decide)
      have n3 : ((3 : Int32) ≤ ii 2) = False := eq_false (by decide)
      have f := m_asTold hK hM.2.1.1 gS ht2
      simp only [m_X12_part, p1, ob_some, chk_ko hK.1, tm', i10, ↓reduceIte, w, n, n1, n3, mg0 hK, e, m_X12_part_b82, f]
  · refine LX_q (v := bi (s_sd (v_S (i_V I)) z)) h ?_ (fun d d1 p1 hM => ?_)
    · have e : rZ σ δ (68 + 1 + 7) (ii z) = some (bi (s_sd (v_S (i_V I)) z)) := by rw [rZ_kd d7 g.1 (by omega), r9 z g.1 g.2]
      have n : (ii 3 = (0 : Int32)) = False := eq_false (by decide)
      have n1 : (ii 3 = (1 : Int32)) = False := eq_false (by decide)
      have n2 : (ii 3 = (2 : Int32)) = False := eq_false (by decide)
      have n3 : (ii 3 = (3 : Int32)) = True := eq_true rfl
      cases hb : s_sd (v_S (i_V I)) z with
      | true =>
        rw [hb] at e
        simp only [m_L_part, m_X11_part, chk_ko hT.1, ob_some, tk, xel_l, gR_ko hT.1 hT.2.1.2.2.1, gR_ko kW kS.2.1, n, n1, n2, n3, ↓reduceIte, gR_ko s0 s7, e, bt0]
        rfl
      | false =>
        rw [hb] at e
        simp only [m_L_part, m_X11_part, chk_ko hT.1, ob_some, tk, xel_l, gR_ko hT.1 hT.2.1.2.2.1, gR_ko kW kS.2.1, n, n1, n2, n3, ↓reduceIte, gR_ko s0 s7, e, bf0]
        rfl
    · have tm' := (cm_tok hK hM.2.1.1.2.2.2.1 g0 hz).1 g
      have e : rI σ d1 (mo + 1) ((422 : Int32) + ii z) = some (bi (s_sd (v_S (i_V I)) z)) := by rw [show ((422 : Int32)) = ii 422 from rfl, ii_add]; exact rst (md0 hK) (by omega) (by omega) rfl (hM.2.1.1.2.2.2.2.2.2.2.1 z g.1 g.2)
      have n : (ii 3 = (0 : Int32)) = False := eq_false (by decide)
      have n3 : ((3 : Int32) ≤ ii 3) = True := eq_true (by decide)
      have n4 : (ii 3 = (3 : Int32)) = True := eq_true rfl
      simp only [m_X12_part, p1, ob_some, chk_ko hK.1, tm', i10, ↓reduceIte, w, n, n3, n4, mg0 hK, e]
  · refine LX_q (v := bi (s_la (v_S (i_V I)) z)) h ?_ (fun d d1 p1 hM => ?_)
    · have e : rZ σ δ (68 + 1 + 6) (ii z) = some (bi (s_la (v_S (i_V I)) z)) := by rw [rZ_kd d6 g.1 (by omega), r8 z g.1 g.2]
      have n : (ii 4 = (0 : Int32)) = False := eq_false (by decide)
      have n1 : (ii 4 = (1 : Int32)) = False := eq_false (by decide)
      have n2 : (ii 4 = (2 : Int32)) = False := eq_false (by decide)
      have n3 : (ii 4 = (3 : Int32)) = False := eq_false (by decide)
      have n4 : (ii 4 = (4 : Int32)) = True := eq_true rfl
      cases hb : s_la (v_S (i_V I)) z with
      | true =>
        rw [hb] at e
        simp only [m_L_part, m_X11_part, chk_ko hT.1, ob_some, tk, xel_l, gR_ko hT.1 hT.2.1.2.2.1, gR_ko kW kS.2.1, n, n1, n2, n3, n4, ↓reduceIte, gR_ko s0 s6, e, bt0]
        rfl
      | false =>
        rw [hb] at e
        simp only [m_L_part, m_X11_part, chk_ko hT.1, ob_some, tk, xel_l, gR_ko hT.1 hT.2.1.2.2.1, gR_ko kW kS.2.1, n, n1, n2, n3, n4, ↓reduceIte, gR_ko s0 s6, e, bf0]
        rfl
    · have tm' := (cm_tok hK hM.2.1.1.2.2.2.1 g0 hz).1 g
      have e : rI σ d1 (mo + 1) ((522 : Int32) + ii z) = some (bi (s_la (v_S (i_V I)) z)) := by rw [show ((522 : Int32)) = ii 522 from rfl, ii_add]; exact rst (md0 hK) (by omega) (by omega) rfl (hM.2.1.1.2.2.2.2.2.2.2.2.1 z g.1 g.2)
      have n : (ii 4 = (0 : Int32)) = False := eq_false (by decide)
      have n3 : ((3 : Int32) ≤ ii 4) = True := eq_true (by decide)
      have n4 : (ii 4 = (3 : Int32)) = False := eq_false (by decide)
      simp only [m_X12_part, p1, ob_some, chk_ko hK.1, tm', i10, ↓reduceIte, w, n, n3, n4, mg0 hK, e]
theorem o_part_n (h : Ctx σ δ mo p3 k E bd R I jr) (hz : rng z) (hi : rng i) (hno : ¬ ((0 ≤ z ∧ z < s_nt (v_S (i_V I))) ∧ 0 ≤ i ∧ i ≤ 4)) : LX mo p3 (m_L_part σ 0 (ii z) (ii i) p3 δ) (fun d => m_X12_part σ mo (ii z) (ii i) d) (fun d => Core d mo k E bd R I jr) := by
  obtain ⟨⟨hT, hK, h3, hmo⟩, hC⟩ := id h
  have kW : KO σ 68 10 := hT.2.2.2.2.1.2.1
  have kS := hT.2.2.2.2.1.2.2.1
  have gS := hC.1.2.1.1
  have g0 : 0 ≤ s_nt (v_S (i_V I)) ∧ s_nt (v_S (i_V I)) ≤ 100 := ⟨gS.1.2.2.1, gS.1.2.2.2⟩
  by_cases g : 0 ≤ z ∧ z < s_nt (v_S (i_V I))
  · have g2 : ¬ (0 ≤ i ∧ i ≤ 4) := fun q => hno ⟨g, q⟩
    have ne : ∀ c : Int, 0 ≤ c → c ≤ 4 → (ii i = ii c) = False := fun c c0 c4 => eq_false (by rw [ii_eq hi.1 hi.2 (by omega) (by omega)]; omega)
    refine LX_ref (c := 2) h (by decide) ?_ (fun d1 d2 p1 hM p2 => ?_)
    · have tk := (c_tok (σ := σ) (δ := δ) hT hC.2.1.2.1 g0 hz).1 g
      have n0 : (ii i = (0 : Int32)) = False := ne 0 (by omega) (by omega)
      have n1 : (ii i = (1 : Int32)) = False := ne 1 (by omega) (by omega)
      have n2 : (ii i = (2 : Int32)) = False := ne 2 (by omega) (by omega)
      have n3 : (ii i = (3 : Int32)) = False := ne 3 (by omega) (by omega)
      have n4 : (ii i = (4 : Int32)) = False := ne 4 (by omega) (by omega)
      simp only [m_L_part, m_X11_part, chk_ko hT.1, ob_some, tk, xel_l, gR_ko hT.1 hT.2.1.2.2.1, gR_ko kW kS.2.1, n0, n1, n2, n3, n4, ↓reduceIte]
      rfl
    · have tm' := (cm_tok hK hM.2.1.1.2.2.2.1 g0 hz).1 g
      have w : m_X12_in σ (ii i) (0 : Int32) (4 : Int32) d1 = some 0 := c_in_n (a := 0) (b := 4) hi (by omega) (by omega) g2
      simp only [m_X12_part, p1, ob_some, chk_ko hK.1, tm', i10, ↓reduceIte, w, stop_of p2]
  · refine LX_ref (c := 1) h (by decide) ?_ (fun d1 d2 p1 hM p2 => ?_)
    · have tk := (c_tok (σ := σ) (δ := δ) hT hC.2.1.2.1 g0 hz).2 g
      simp only [m_L_part, m_X11_part, chk_ko hT.1, ob_some, tk, xel_r]
      rfl
    · have tm' := (cm_tok hK hM.2.1.1.2.2.2.1 g0 hz).2 g
      simp only [m_X12_part, p1, ob_some, chk_ko hK.1, tm', ↓reduceIte, stop_of p2]
/-! isMadeBy -/
theorem o_isMadeBy_y (h : Ctx σ δ mo p3 k E bd R I jr) (ha : rng a) (hb : rng b) (g1 : 0 ≤ a ∧ a < s_nt (v_S (i_V I))) (g2 : 0 ≤ b ∧ b < s_nt (v_S (i_V I))) : LXV mo p3 (bi (s_sl (v_S (i_V I)) a b.toNat)) (m_L_isMadeBy σ 0 (ii a) (ii b) p3 δ) (fun d => m_X12_isMadeBy σ mo (ii a) (ii b) d) (fun d => Core d mo k E bd R I jr) := by
  obtain ⟨⟨hT, hK, h3, hmo⟩, hC⟩ := id h
  have kW : KO σ 68 10 := hT.2.2.2.2.1.2.1
  have kS := hT.2.2.2.2.1.2.2.1
  have kst : KS σ (68 + 1) := hT.2.2.2.2.1.2.2.2.2.2.1
  obtain ⟨s0, ⟨-, -, -, -, -, -, -, s8, s9⟩, -, -, -, -, -, -, -, d8, d9⟩ := id kst
  have gS := hC.1.2.1.1
  have g0 : 0 ≤ s_nt (v_S (i_V I)) ∧ s_nt (v_S (i_V I)) ≤ 100 := ⟨gS.1.2.2.1, gS.1.2.2.2⟩
  obtain ⟨-, -, -, -, -, -, -, -, -, r10, -⟩ := hC.2.1.2.1.1
  refine LX_qv h ?_ (fun d d1 p1 hM => ?_)
  · have e1 : rL σ δ (68 + 1 + 8) (ii a) = some (δ.2 (68 + 1 + 8) a.toNat) := rL_kd d8 g1.1 (by omega)
    have e2 : rL σ δ (68 + 1 + 9) (ii a) = some (δ.2 (68 + 1 + 9) a.toNat) := rL_kd d9 g1.1 (by omega)
    have e3 := t_isIn (σ := σ) (δ := δ) (z := b) g2.1 (by omega) (r10 a g1.1 g1.2)
    cases hv : s_sl (v_S (i_V I)) a b.toNat with
    | true =>
      rw [hv] at e3
      simp only [m_L_isMadeBy, m_X11_isMadeBy, chk_ko hT.1, ob_some, (c_tok hT hC.2.1.2.1 g0 ha).1 g1, (c_tok hT hC.2.1.2.1 g0 hb).1 g2, xel_l, gR_ko hT.1 hT.2.1.2.2.1, gR_ko kW kS.2.1, gR_ko s0 s8, gR_ko s0 s9, e1, e2, e3, zo_bi]
      rfl
    | false =>
      rw [hv] at e3
      simp only [m_L_isMadeBy, m_X11_isMadeBy, chk_ko hT.1, ob_some, (c_tok hT hC.2.1.2.1 g0 ha).1 g1, (c_tok hT hC.2.1.2.1 g0 hb).1 g2, xel_l, gR_ko hT.1 hT.2.1.2.2.1, gR_ko kW kS.2.1, gR_ko s0 s8, gR_ko s0 s9, e1, e2, e3, zo_bi]
      rfl
  · have hd := dvI_ii (a := b) (b := 32) g2.1 (by omega) (by omega) (by omega)
    have hr := rmI_ii (a := b) (b := 32) g2.1 (by omega) (by omega) (by omega)
    have hd' : dvI (ii b) (32 : Int32) = some (ii (b / 32)) := hd
    have hr' : rmI (ii b) (32 : Int32) = some (ii (b % 32)) := hr
    have e1 : rI σ d1 (mo + 1) (((622 : Int32) + ((4 : Int32) * ii a)) + ii (b / 32)) = some (d1.1 (mo + 1) (622 + 4 * a + (b / 32).toNat).toNat) := by
      rw [show ((622 : Int32)) = ii 622 from rfl, show ((4 : Int32)) = ii 4 from rfl, ii_mul, ii_add, ii_add]
      exact rst (md0 hK) (by omega) (by omega) (by omega) rfl
    have hbit := hM.2.1.1.2.2.2.2.2.2.2.2.2 a g1.1 g1.2 (b / 32).toNat (b % 32).toNat (by omega) (by omega)
    rw [show 32 * (b / 32).toNat + (b % 32).toNat = b.toNat by omega] at hbit
    dsimp only at hbit
    have hmb := m_bit (v := d1.1 (mo + 1) (622 + 4 * a + (b / 32).toNat).toNat) (t := b % 32) (by omega) (by omega)
    have ha1 := and1 ((d1.1 (mo + 1) (622 + 4 * a + (b / 32).toNat).toNat) >>> ((ii (b % 32)) &&& 31))
    rw [hbit] at hmb
    cases hv : s_sl (v_S (i_V I)) a b.toNat with
    | true =>
      rw [hv] at hmb
      have n0 : ¬ (((d1.1 (mo + 1) (622 + 4 * a + (b / 32).toNat).toNat) >>> ((ii (b % 32)) &&& 31)) &&& (1 : Int32)) = ii 0 := by rw [hmb]; decide
      have n1 : ((((d1.1 (mo + 1) (622 + 4 * a + (b / 32).toNat).toNat) >>> ((ii (b % 32)) &&& 31)) &&& (1 : Int32)) = (1 : Int32)) = True := eq_true (ha1.resolve_left n0)
      simp only [m_X12_isMadeBy, p1, ob_some, chk_ko hK.1, (cm_tok hK hM.2.1.1.2.2.2.1 g0 ha).1 g1, (cm_tok hK hM.2.1.1.2.2.2.1 g0 hb).1 g2, i10, ↓reduceIte, mg0 hK, hd', e1, hr', n1]
      rfl
    | false =>
      rw [hv] at hmb
      have n0 : (((d1.1 (mo + 1) (622 + 4 * a + (b / 32).toNat).toNat) >>> ((ii (b % 32)) &&& 31)) &&& (1 : Int32)) = ii 0 := by rw [hmb]
      have n1 : ((((d1.1 (mo + 1) (622 + 4 * a + (b / 32).toNat).toNat) >>> ((ii (b % 32)) &&& 31)) &&& (1 : Int32)) = (1 : Int32)) = False := eq_false (by rw [n0]; decide)
      simp only [m_X12_isMadeBy, p1, ob_some, chk_ko hK.1, (cm_tok hK hM.2.1.1.2.2.2.1 g0 ha).1 g1, (cm_tok hK hM.2.1.1.2.2.2.1 g0 hb).1 g2, i10, ↓reduceIte, mg0 hK, hd', e1, hr', n1]
      rfl
theorem o_isMadeBy_n (h : Ctx σ δ mo p3 k E bd R I jr) (ha : rng a) (hb : rng b) (g : ¬ ((0 ≤ a ∧ a < s_nt (v_S (i_V I))) ∧ 0 ≤ b ∧ b < s_nt (v_S (i_V I)))) : LXV mo p3 0 (m_L_isMadeBy σ 0 (ii a) (ii b) p3 δ) (fun d => m_X12_isMadeBy σ mo (ii a) (ii b) d) (fun d => Core d mo k E bd R I jr) := by
  obtain ⟨⟨hT, hK, h3, hmo⟩, hC⟩ := id h
  have gS := hC.1.2.1.1
  have g0 : 0 ≤ s_nt (v_S (i_V I)) ∧ s_nt (v_S (i_V I)) ≤ 100 := ⟨gS.1.2.2.1, gS.1.2.2.2⟩
  refine LX_refv (c := 1) h (by decide) ?_ (fun d1 d2 p1 hM p2 => ?_)
  · by_cases g1 : 0 ≤ a ∧ a < s_nt (v_S (i_V I))
    · simp only [m_L_isMadeBy, m_X11_isMadeBy, chk_ko hT.1, ob_some, (c_tok hT hC.2.1.2.1 g0 ha).1 g1, (c_tok hT hC.2.1.2.1 g0 hb).2 (fun q => g ⟨g1, q⟩), xel_l, xel_r]
      rfl
    · simp only [m_L_isMadeBy, m_X11_isMadeBy, chk_ko hT.1, ob_some, (c_tok hT hC.2.1.2.1 g0 ha).2 g1, xel_r]
      rfl
  · by_cases g1 : 0 ≤ a ∧ a < s_nt (v_S (i_V I))
    · simp only [m_X12_isMadeBy, p1, ob_some, chk_ko hK.1, (cm_tok hK hM.2.1.1.2.2.2.1 g0 ha).1 g1, (cm_tok hK hM.2.1.1.2.2.2.1 g0 hb).2 (fun q => g ⟨g1, q⟩), i10, ↓reduceIte, m_X12_isMadeBy_b21, p2]
    · simp only [m_X12_isMadeBy, p1, ob_some, chk_ko hK.1, (cm_tok hK hM.2.1.1.2.2.2.1 g0 ha).2 g1, ↓reduceIte, m_X12_isMadeBy_b21, p2]
/-! chance -/
theorem m_primeOf (i0 : 0 ≤ i) (i7 : i < 7) : m_X12_primeOf σ (ii i) δ = some (ii (pr7 i)) := by
  rcases (show i = 0 ∨ i = 1 ∨ i = 2 ∨ i = 3 ∨ i = 4 ∨ i = 5 ∨ i = 6 by omega) with rfl | rfl | rfl | rfl | rfl | rfl | rfl <;> rfl
/-- the power that counts above, or below, the line -/
def ePw (up : Bool) (pw : Int → Int) (i : Int) : Int := if up = true then pw i else -(pw i)
theorem t_line (hK : KDr σ dr) {pw : Int → Int} (hR : RPw δ (dr + 1) pw) (hb : ∀ i, -1000000 ≤ pw i ∧ pw i ≤ 1000000) {up : Bool} : m_X2_line σ dr (bi up) δ = some (lnO (ePw up pw) 7).toInt32 := by
  obtain ⟨k0, k1, kd⟩ := hK
  refine Ok_eq ?_
  unfold m_X2_line m_X2_line_b5
  refine Ok_for (fun z s => s.2 = ii z ∧ s.1 = lnO (ePw up pw) z.toNat) 0 7 (by omega) (by omega) ?_ ?_ ⟨rfl, rfl⟩
  · rintro z ⟨s1, s2⟩ z0 z1 ⟨hs2, hs1⟩
    dsimp only at hs1 hs2 ⊢
    subst hs1
    subst hs2
    have r1 : rI σ δ (dr + 1) (ii z) = some (ii (pw z)) := by rw [rI_kd kd z0 (by omega), hR z z0 z1]
    have hbz := hb z
    have b36 : Ok (m_X2_line_b36 σ dr (bi up) (lnO (ePw up pw) z.toNat) (ii z) (ii (ePw up pw z)) δ) (PL (fun s : Int64 × Int32 => s.2 = ii (z + 1) ∧ s.1 = lnO (ePw up pw) (z + 1).toNat) (fun r => r = (lnO (ePw up pw) 7).toInt32)) := by
      have he : -1000000 ≤ ePw up pw z ∧ ePw up pw z ≤ 1000000 := by unfold ePw; split <;> omega
      have hstep : lnO (ePw up pw) (z + 1).toNat = lnI (lnO (ePw up pw) z.toNat) (ii (pr7 z)) (ePw up pw z).toNat := by
        rw [show (z + 1).toNat = z.toNat + 1 by omega]
        show lnI (lnO (ePw up pw) z.toNat) (ii (pr7 (z.toNat : Nat))) (ePw up pw (z.toNat : Nat)).toNat = _
        rw [show ((z.toNat : Nat) : Int) = z by omega]
      rw [hstep]
      unfold m_X2_line_b36 m_X2_line_b41
      by_cases hneg : ePw up pw z ≤ 0
      · refine Ok_lp (fun s => s = (lnO (ePw up pw) z.toNat, (0 : Int32))) (fun _ => 0) ?_ rfl (by decide)
        rintro s rfl
        refine Ok_inr (r := Sum.inl (lnO (ePw up pw) z.toNat, ii (z + 1))) ?_ ⟨rfl, by rw [show (ePw up pw z).toNat = 0 by omega]; rfl⟩
        rw [if_pos (show ii (ePw up pw z) ≤ (0 : Int32) by rw [show ((0 : Int32)) = ii 0 from rfl, ii_le (by omega) (by omega) (by omega) (by omega)]; exact hneg), show ((1 : Int32)) = ii 1 from rfl, ii_add]
      · refine Ok_for (fun y s => s.2 = ii y ∧ s.1 = lnI (lnO (ePw up pw) z.toNat) (ii (pr7 z)) y.toNat) 0 (ePw up pw z) (by omega) (by omega) ?_ ?_ ⟨rfl, rfl⟩
        · rintro y ⟨t1, t2⟩ y0 y1 ⟨ht2, ht1⟩
          dsimp only at ht1 ht2 ⊢
          subst ht1
          subst ht2
          refine Ok_inl (s' := (lnI (lnO (ePw up pw) z.toNat) (ii (pr7 z)) (y + 1).toNat, ii (y + 1))) ?_ ⟨rfl, rfl⟩
          rw [if_neg (show ¬ ii (ePw up pw z) ≤ ii y by rw [ii_le (by omega) (by omega) (by omega) (by omega)]; omega), rP_ii z0 z1, ob_some, rmL_m, ob_some, show ((1 : Int32)) = ii 1 from rfl, ii_add, show (y + 1).toNat = y.toNat + 1 by omega]
          rfl
        · rintro ⟨t1, t2⟩ ⟨ht2, ht1⟩
          dsimp only at ht1 ht2 ⊢
          subst ht1
          subst ht2
          refine Ok_inr (r := Sum.inl (lnI (lnO (ePw up pw) z.toNat) (ii (pr7 z)) (ePw up pw z).toNat, ii (z + 1))) ?_ ⟨rfl, rfl⟩
          rw [if_pos (show ii (ePw up pw z) ≤ ii (ePw up pw z) by rw [ii_le (by omega) (by omega) (by omega) (by omega)]; omega), show ((1 : Int32)) = ii 1 from rfl, ii_add]
    rw [if_neg (show ¬ (7 : Int32) ≤ ii z by rw [show ((7 : Int32)) = ii 7 from rfl, ii_le (by omega) (by omega) (by omega) (by omega)]; omega)]
    cases hu : up with
    | true =>
      rw [hu] at b36
      rw [if_neg (show ¬ bi true = 0 by decide), gR_ko k0 k1, ob_some, r1, ob_some]
      exact b36
    | false =>
      rw [hu] at b36
      rw [if_pos (show bi false = 0 from rfl), gR_ko k0 k1, ob_some, r1, ob_some, ii_neg]
      exact b36
  · rintro ⟨s1, s2⟩ ⟨hs2, hs1⟩
    dsimp only at hs1 hs2 ⊢
    subst hs1
    subst hs2
    exact Ok_inr (r := (lnO (ePw up pw) 7).toInt32) (by rw [if_pos (show (7 : Int32) ≤ ii 7 by decide)]; rfl) rfl
theorem m_line (hK : KM σ mo) {pw : Int → Int} (hR : ∀ k : Nat, k < 7 → δ.1 (mo + 1) (7031 + k) = ii (pw k)) (hb : ∀ i, -1000000 ≤ pw i ∧ pw i ≤ 1000000) {up : Bool} : m_X12_chance_b10 σ mo (bi up) (1 : Int64) (0 : Int32) δ = some ((lnO (ePw up pw) 7).toInt32, δ) := by
  refine Ok_eq ?_
  unfold m_X12_chance_b10
  refine Ok_for (fun z s => s.2 = ii z ∧ s.1 = lnO (ePw up pw) z.toNat) 0 7 (by omega) (by omega) ?_ ?_ ⟨rfl, rfl⟩
  · rintro z ⟨s1, s2⟩ z0 z1 ⟨hs2, hs1⟩
    dsimp only at hs1 hs2 ⊢
    subst hs1
    subst hs2
    have hRz := hR z.toNat (by omega)
    rw [show ((z.toNat : Nat) : Int) = z by omega] at hRz
    have r1 : rI σ δ (mo + 1) ((7031 : Int32) + ii z) = some (ii (pw z)) := by rw [show ((7031 : Int32)) = ii 7031 from rfl, ii_add]; exact rst (md0 hK) (by omega) (by omega) (by omega) hRz
    have hbz := hb z
    have b36 : Ok (m_X12_chance_b47 σ mo (bi up) (lnO (ePw up pw) z.toNat) (ii z) (ii (ePw up pw z)) δ) (PL (fun s : Int64 × Int32 => s.2 = ii (z + 1) ∧ s.1 = lnO (ePw up pw) (z + 1).toNat) (fun r => r = ((lnO (ePw up pw) 7).toInt32, δ))) := by
      have he : -1000000 ≤ ePw up pw z ∧ ePw up pw z ≤ 1000000 := by unfold ePw; split <;> omega
      have hstep : lnO (ePw up pw) (z + 1).toNat = lnI (lnO (ePw up pw) z.toNat) (ii (pr7 z)) (ePw up pw z).toNat := by
        rw [show (z + 1).toNat = z.toNat + 1 by omega]
        show lnI (lnO (ePw up pw) z.toNat) (ii (pr7 (z.toNat : Nat))) (ePw up pw (z.toNat : Nat)).toNat = _
        rw [show ((z.toNat : Nat) : Int) = z by omega]
      rw [hstep]
      unfold m_X12_chance_b47 m_X12_chance_b52
      by_cases hneg : ePw up pw z ≤ 0
      · refine Ok_lp (fun s => s = (lnO (ePw up pw) z.toNat, (0 : Int32))) (fun _ => 0) ?_ rfl (by decide)
        rintro s rfl
        refine Ok_inr (r := Sum.inl (lnO (ePw up pw) z.toNat, ii (z + 1))) ?_ ⟨rfl, by rw [show (ePw up pw z).toNat = 0 by omega]; rfl⟩
        rw [if_pos (show ii (ePw up pw z) ≤ (0 : Int32) by rw [show ((0 : Int32)) = ii 0 from rfl, ii_le (by omega) (by omega) (by omega) (by omega)]; exact hneg), show ((1 : Int32)) = ii 1 from rfl, ii_add]
      · refine Ok_for (fun y s => s.2 = ii y ∧ s.1 = lnI (lnO (ePw up pw) z.toNat) (ii (pr7 z)) y.toNat) 0 (ePw up pw z) (by omega) (by omega) ?_ ?_ ⟨rfl, rfl⟩
        · rintro y ⟨t1, t2⟩ y0 y1 ⟨ht2, ht1⟩
          dsimp only at ht1 ht2 ⊢
          subst ht1
          subst ht2
          refine Ok_inl (s' := (lnI (lnO (ePw up pw) z.toNat) (ii (pr7 z)) (y + 1).toNat, ii (y + 1))) ?_ ⟨rfl, rfl⟩
          rw [if_neg (show ¬ ii (ePw up pw z) ≤ ii y by rw [ii_le (by omega) (by omega) (by omega) (by omega)]; omega), m_primeOf z0 z1, ob_some, rmL_m, ob_some, show ((1 : Int32)) = ii 1 from rfl, ii_add, show (y + 1).toNat = y.toNat + 1 by omega]
          rfl
        · rintro ⟨t1, t2⟩ ⟨ht2, ht1⟩
          dsimp only at ht1 ht2 ⊢
          subst ht1
          subst ht2
          refine Ok_inr (r := Sum.inl (lnI (lnO (ePw up pw) z.toNat) (ii (pr7 z)) (ePw up pw z).toNat, ii (z + 1))) ?_ ⟨rfl, rfl⟩
          rw [if_pos (show ii (ePw up pw z) ≤ ii (ePw up pw z) by rw [ii_le (by omega) (by omega) (by omega) (by omega)]; omega), show ((1 : Int32)) = ii 1 from rfl, ii_add]
    rw [if_neg (show ¬ (7 : Int32) ≤ ii z by rw [show ((7 : Int32)) = ii 7 from rfl, ii_le (by omega) (by omega) (by omega) (by omega)]; omega)]
    cases hu : up with
    | true =>
      rw [hu] at b36
      rw [if_neg (show ¬ bi true = 0 by decide), mg0 hK, ob_some, r1, ob_some]
      exact b36
    | false =>
      rw [hu] at b36
      rw [if_pos (show bi false = 0 from rfl), mg0 hK, ob_some, r1, ob_some, ii_neg]
      exact b36
  · rintro ⟨s1, s2⟩ ⟨hs2, hs1⟩
    dsimp only at hs1 hs2 ⊢
    subst hs1
    subst hs2
    exact Ok_inr (r := ((lnO (ePw up pw) 7).toInt32, δ)) (by rw [if_pos (show (7 : Int32) ≤ ii 7 by decide)]; rfl) rfl
theorem q_chance (h : Ctx σ δ mo p3 k E bd R I jr) {up : Bool} : LQ (m_X11_chance σ 0 (bi up) δ) (m_X12_chance σ mo (bi up) δ) (fun d => Core d mo k E bd R I jr) := by
  obtain ⟨⟨hT, hK, h3, hmo⟩, hC⟩ := id h
  have kW : KO σ 68 10 := hT.2.2.2.2.1.2.1
  have kS := hT.2.2.2.2.1.2.2.1
  have kDr : KDr σ (68 + 11) := hT.2.2.2.2.1.2.2.2.2.2.2.2.1
  have hpw := hC.1.2.1.2.2.2.2.2.2.1
  have hst := hC.1.2.2.2.1
  have hb : ∀ i, -1000000 ≤ i_pw I i ∧ i_pw I i ≤ 1000000 := fun i => by have := hpw i; omega
  refine LQ_mk (v := (lnO (ePw up (i_pw I)) 7).toInt32) h ?_ (fun d1 p1 hM => ?_)
  · have e1 := t_line (up := up) kDr hC.2.1.2.1.2.2.2.2.1.2 hb
    simp only [m_X11_chance, gR_ko hT.1 hT.2.1.2.2.1, gR_ko kW kS.2.2.2.1, ob_some, chk_ko kDr.1, e1]
  · have e1 := m_line (up := up) hK hM.2.1.2.2.2.1.2.1 hb
    simp only [m_X12_chance, p1, ob_some, e1]
end
