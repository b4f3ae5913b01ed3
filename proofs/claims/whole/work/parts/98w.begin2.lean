/-! THE LAW: begin -/
theorem i_lt {a b : Int} (ha : rng a) (hb : rng b) (h : a < b) : (ii a < ii b) = True := eq_true (by rw [ii_lt ha.1 ha.2 hb.1 hb.2]; exact h)
theorem i_nlt {a b : Int} (ha : rng a) (hb : rng b) (h : ¬ a < b) : (ii a < ii b) = False := eq_false (by rw [ii_lt ha.1 ha.2 hb.1 hb.2]; exact h)
theorem i_le {a b : Int} (ha : rng a) (hb : rng b) (h : a ≤ b) : (ii a ≤ ii b) = True := eq_true (by rw [ii_le ha.1 ha.2 hb.1 hb.2]; exact h)
theorem i_nle {a b : Int} (ha : rng a) (hb : rng b) (h : ¬ a ≤ b) : (ii a ≤ ii b) = False := eq_false (by rw [ii_le ha.1 ha.2 hb.1 hb.2]; exact h)
section
variable {σ : St} {δ d : Dy} {mo p3 k : Nat} {E : Ev} {bd : Bool} {R : Rl} {I : Iw} {jr : List Jn} {a b n nv : Int}
/-- the class's looks at the two terms, when both are no variables that there are not -/
theorem tb_terms {F : Option ((Int32 ⊕ Nat) × Dy)} (hT : KT σ) (ha : rng a) (hb : rng b) (h0 : 0 ≤ nv ∧ nv ≤ 60) (va : ¬ badV nv a) (vb : ¬ badV nv b) {x : Int32} : (tm nv a → tm nv b → ((m_X11_isValue σ (ii a) δ).bind fun v5 => if v5 = 0 then if ii a < (400 : Int32) then m_X11_begin_b59 σ δ else m_X11_begin_b45 σ 0 x (ii a) (ii b) δ else m_X11_begin_b45 σ 0 x (ii a) (ii b) δ) = m_X11_begin_b69 σ 0 x (ii a) (ii b) δ) ∧ (¬ (tm nv a ∧ tm nv b) → ((m_X11_isValue σ (ii a) δ).bind fun v5 => if v5 = 0 then if ii a < (400 : Int32) then m_X11_begin_b59 σ δ else m_X11_begin_b45 σ 0 x (ii a) (ii b) δ else m_X11_begin_b45 σ 0 x (ii a) (ii b) δ) = some (Sum.inr 1, δ)) := by
  have va' : ¬ (400 ≤ a ∧ ¬ a < 400 + nv) := va
  have vb' : ¬ (400 ≤ b ∧ ¬ b < 400 + nv) := vb
  have hb45 : (tm nv b → m_X11_begin_b45 σ 0 x (ii a) (ii b) δ = m_X11_begin_b69 σ 0 x (ii a) (ii b) δ) ∧ (¬ tm nv b → m_X11_begin_b45 σ 0 x (ii a) (ii b) δ = some (Sum.inr 1, δ)) := by
    constructor
    · intro ht
      have ht' : (-99 ≤ b ∧ b ≤ 99) ∨ (400 ≤ b ∧ b < 400 + nv) := ht
      unfold m_X11_begin_b45
      rw [c_isValue hb, ob_some, show ((400 : Int32)) = ii 400 from rfl]
      by_cases c : -99 ≤ b ∧ b ≤ 99
      · rw [decide_eq_true c, if_neg (show ¬ bi true = 0 by decide)]
      · rw [decide_eq_false c, if_pos (show bi false = 0 from rfl), if_pos (show ii 400 ≤ ii b by rw [ii_le (by omega) (by omega) hb.1 hb.2]; omega)]
    · intro ht
      have ht' : ¬ ((-99 ≤ b ∧ b ≤ 99) ∨ (400 ≤ b ∧ b < 400 + nv)) := ht
      unfold m_X11_begin_b45
      rw [c_isValue hb, ob_some, show ((400 : Int32)) = ii 400 from rfl, decide_eq_false (show ¬ (-99 ≤ b ∧ b ≤ 99) by omega), if_pos (show bi false = 0 from rfl), if_neg (show ¬ ii 400 ≤ ii b by rw [ii_le (by omega) (by omega) hb.1 hb.2]; omega)]
      rfl
  rw [c_isValue ha, ob_some, show ((400 : Int32)) = ii 400 from rfl]
  constructor
  · intro h1 h2
    have h1' : (-99 ≤ a ∧ a ≤ 99) ∨ (400 ≤ a ∧ a < 400 + nv) := h1
    by_cases c : -99 ≤ a ∧ a ≤ 99
    · rw [decide_eq_true c, if_neg (show ¬ bi true = 0 by decide)]
      exact hb45.1 h2
    · rw [decide_eq_false c, if_pos (show bi false = 0 from rfl), if_neg (show ¬ ii a < ii 400 by rw [ii_lt ha.1 ha.2 (by omega) (by omega)]; omega)]
      exact hb45.1 h2
  · intro hno
    by_cases h1 : tm nv a
    · have h1' : (-99 ≤ a ∧ a ≤ 99) ∨ (400 ≤ a ∧ a < 400 + nv) := h1
      by_cases c : -99 ≤ a ∧ a ≤ 99
      · rw [decide_eq_true c, if_neg (show ¬ bi true = 0 by decide)]
        exact hb45.2 (fun q => hno ⟨h1, q⟩)
      · rw [decide_eq_false c, if_pos (show bi false = 0 from rfl), if_neg (show ¬ ii a < ii 400 by rw [ii_lt ha.1 ha.2 (by omega) (by omega)]; omega)]
        exact hb45.2 (fun q => hno ⟨h1, q⟩)
    · have h1' : ¬ ((-99 ≤ a ∧ a ≤ 99) ∨ (400 ≤ a ∧ a < 400 + nv)) := h1
      rw [decide_eq_false (show ¬ (-99 ≤ a ∧ a ≤ 99) by omega), if_pos (show bi false = 0 from rfl), if_pos (show ii a < ii 400 by rw [ii_lt ha.1 ha.2 (by omega) (by omega)]; omega)]
      rfl
/-- the reference's -/
theorem mb_terms (hK : KM σ mo) (h0 : δ.1 (mo + 1) 0 = ii nv) (hn : 0 ≤ nv ∧ nv ≤ 60) (ha : rng a) (hb : rng b) {x : Int32} : (badV nv a → (if ii a < (400 : Int32) then m_X12_begin_b28 σ mo x (ii a) (ii b) δ else (m_X12_isOutside σ mo (ii a) δ).bind fun v28 => if v28 = 0 then m_X12_begin_b43 σ mo δ else m_X12_begin_b28 σ mo x (ii a) (ii b) δ) = m_X12_begin_b43 σ mo δ) ∧ (¬ badV nv a → (if ii a < (400 : Int32) then m_X12_begin_b28 σ mo x (ii a) (ii b) δ else (m_X12_isOutside σ mo (ii a) δ).bind fun v28 => if v28 = 0 then m_X12_begin_b43 σ mo δ else m_X12_begin_b28 σ mo x (ii a) (ii b) δ) = m_X12_begin_b28 σ mo x (ii a) (ii b) δ) ∧ (badV nv b → m_X12_begin_b28 σ mo x (ii a) (ii b) δ = m_X12_begin_b43 σ mo δ) ∧ (¬ badV nv b → m_X12_begin_b28 σ mo x (ii a) (ii b) δ = m_X12_begin_b49 σ mo x (ii a) (ii b) δ) := by
  obtain ⟨oa1, oa2⟩ := cm_out hK h0 hn ha
  obtain ⟨ob1, ob2⟩ := cm_out hK h0 hn hb
  refine ⟨fun h => ?_, fun h => ?_, fun h => ?_, fun h => ?_⟩
  · have h' : 400 ≤ a ∧ ¬ a < 400 + nv := h
    rw [show ((400 : Int32)) = ii 400 from rfl, if_neg (show ¬ ii a < ii 400 by rw [ii_lt ha.1 ha.2 (by omega) (by omega)]; omega), oa2 (fun q => by have q' : (-99 ≤ a ∧ a ≤ 99) ∨ (400 ≤ a ∧ a < 400 + nv) := q; omega), ob_some, if_pos (show (0 : Int32) = 0 from rfl)]
  · have h' : ¬ (400 ≤ a ∧ ¬ a < 400 + nv) := h
    rw [show ((400 : Int32)) = ii 400 from rfl]
    by_cases c : a < 400
    · rw [if_pos (show ii a < ii 400 by rw [ii_lt ha.1 ha.2 (by omega) (by omega)]; exact c)]
    · rw [if_neg (show ¬ ii a < ii 400 by rw [ii_lt ha.1 ha.2 (by omega) (by omega)]; exact c), oa1 (Or.inr ⟨by omega, by omega⟩), ob_some, if_neg (show ¬ (1 : Int32) = 0 by decide)]
  · have h' : 400 ≤ b ∧ ¬ b < 400 + nv := h
    unfold m_X12_begin_b28
    rw [show ((400 : Int32)) = ii 400 from rfl, if_neg (show ¬ ii b < ii 400 by rw [ii_lt hb.1 hb.2 (by omega) (by omega)]; omega), chk_ko hK.1, ob_some, ob2 (fun q => by have q' : (-99 ≤ b ∧ b ≤ 99) ∨ (400 ≤ b ∧ b < 400 + nv) := q; omega), ob_some, if_pos (show (0 : Int32) = 0 from rfl)]
  · have h' : ¬ (400 ≤ b ∧ ¬ b < 400 + nv) := h
    unfold m_X12_begin_b28
    rw [show ((400 : Int32)) = ii 400 from rfl]
    by_cases c : b < 400
    · rw [if_pos (show ii b < ii 400 by rw [ii_lt hb.1 hb.2 (by omega) (by omega)]; exact c)]
    · rw [if_neg (show ¬ ii b < ii 400 by rw [ii_lt hb.1 hb.2 (by omega) (by omega)]; exact c), chk_ko hK.1, ob_some, ob1 (Or.inr ⟨by omega, by omega⟩), ob_some, if_neg (show ¬ (1 : Int32) = 0 by decide)]
def begOk (E : Ev) (I : Iw) (n a b : Int) : Prop := gNode E n ∧ tm (s_nv (v_S (i_V I))) a ∧ tm (s_nv (v_S (i_V I))) b ∧ v_fl (i_V I) = false ∧ (i_nx I).length < 30
theorem tm_noV (h : tm nv a) (h0 : 0 ≤ nv ∧ nv ≤ 60) : ¬ badV nv a := fun q => by
  have h' : (-99 ≤ a ∧ a ≤ 99) ∨ (400 ≤ a ∧ a < 400 + nv) := h
  have q' : 400 ≤ a ∧ ¬ a < 400 + nv := q
  omega
theorem o_begin_y (h : Ctx σ δ mo p3 k E bd R I jr) (hk : k < 512) (hn : rng n) (ha : rng a) (hb : rng b) (g : begOk E I n a b) : LX mo p3 (m_L_begin σ 0 (ii n) (ii a) (ii b) p3 δ) (fun d => m_X12_begin σ mo (ii n) (ii a) (ii b) d) (fun d => Core d mo (k + 1) E bd R (admI I n a b) (jr ++ [(3, n, a, b)])) := by
  have h' := h
  obtain ⟨⟨hT, hK, h3, hmo⟩, hC⟩ := h'
  obtain ⟨hGd, hRT, hRM, hlen, hRep⟩ := hC
  obtain ⟨g1, g2, g3, g4, g5⟩ := g
  have gE := hGd.1
  have hc0 := gE.1
  have hR := hRT.1.1
  have kW : KO σ 68 10 := hT.2.2.2.2.1.2.1
  have kS := hT.2.2.2.2.1.2.2.1
  have kst : KS σ (68 + 1) := hT.2.2.2.2.1.2.2.2.2.2.1
  have g0' : 0 ≤ s_nv (v_S (i_V I)) ∧ s_nv (v_S (i_V I)) ≤ 60 := ⟨hGd.2.1.1.1.1, hGd.2.1.1.1.2.1⟩
  have va := tm_noV g2 g0'
  have vb := tm_noV g3 g0'
  refine LX_mk (E' := E) (bd' := bd) (R' := R) (I' := admI I n a b) (jr' := jr ++ [(3, n, a, b)]) (k' := k + 1) (v := ii (((i_nx I).length : Int) + 1)) h ⟨gE, GI_adm hGd.2.1 g1 g2 g3 (by omega), hGd.2.2.1, hGd.2.2.2.1, hGd.2.2.2.2⟩ (Rep_add hRep (Or.inr (Or.inr (Or.inr (Or.inl ⟨rfl, g1, g2, g3, g4, g5, rfl⟩))))) (by rw [List.length_append, List.length_singleton]; omega) ?_ ?_
  · obtain ⟨d1, e1, t1, t2, t3⟩ := t_note (a := 3) (b := n) (c := a) (e := b) hT hRT.2.2.2.1 (by omega)
    have hRT1 := RT_note hRT gE.2.1 t1 t2 t3
    obtain ⟨d2, e2, t4, t5⟩ := t_admit (n := n) (a := a) (b := b) hT.2.2.2.2.1 hRT1.2.1 (by omega)
    have F2 : Fr (fun r => (68 ≤ r ∧ r < 554) ∧ ¬ r = 81) d1 d2 := t5.wk (fun r p => by omega)
    have hRT2 := RT_world hRT1 gE.2.1 t4 F2
    have x2 : gI σ δ 8 (68 + 1) 12 = some (bi (v_fl (i_V I))) := by rw [gI_ko kst.1]; exact congrArg some hRT.2.1.1.2.2.2.2.2.2.2.2.2.2.2.1
    rw [g4] at x2
    have f1 := t_forNext hT.2.2.2.2.1 hRT.2.1
    have f2 := t_forNext hT.2.2.2.2.1 hRT2.2.1
    have hln : (i_nx (admI I n a b)).length = (i_nx I).length + 1 := by
      show (i_nx I ++ [begA n a b]).length = _
      rw [List.length_append, List.length_singleton]
    rw [hln] at f2
    refine ⟨d2, ?_, hRT2, (t2.wk (fun r p => by omega)).tr (F2.wk (fun r p => by omega))⟩
    have e1' : m_X11_note σ 0 (3 : Int32) (ii n) (ii a) (ii b) δ = some d1 := e1
    have n30 : (ii (i_nx I).length < (30 : Int32)) = True := i_lt (b := 30) (by omega) (by omega) (by omega)
    have b69 : m_X11_begin_b69 σ 0 (ii n) (ii a) (ii b) δ = some (Sum.inl (ii (((i_nx I).length : Int) + 1)), d2) := by
      simp only [m_X11_begin_b69, gR_ko hT.1 hT.2.1.2.2.1, gR_ko kW kS.2.1, ob_some, x2, bf0, ↓reduceIte, chk_ko kW, f1, n30, chk_ko hT.1, e1', e2, f2]
      rfl
    have hb0 := ((tb_terms (F := none) (σ := σ) (δ := δ) hT ha hb g0' va vb (x := ii n)).1 g2 g3).trans b69
    simp only [m_L_begin, m_X11_begin, chk_ko hT.1, ob_some, c_node_y hT hR hc0 hn g1, xel_l, c_noV_y hT hRT.2.1 g0' ha va, c_noV_y hT hRT.2.1 g0' hb vb, ↓reduceIte, hb0, xhw_l]
  · intro d d1 p1 hM
    obtain ⟨⟨m1, m2⟩, m3, m4, m5⟩ := hM
    obtain ⟨a1, a2, a3, ⟨b1, b2, b3, b4⟩, a5, a6, a7⟩ := m3
    have h00 : d1.1 (mo + 1) 0 = ii (s_nv (v_S (i_V I))) := a1.1
    obtain ⟨-, mt2, -, mt4⟩ := mb_terms (x := ii n) hK h00 g0' ha hb
    have oa := (cm_out hK h00 g0' ha).1 g2
    have ob := (cm_out hK h00 g0' hb).1 g3
    have x40 : rI σ d1 (mo + 1) (7040 : Int32) = some (bi (v_fl (i_V I))) := rst (z := 7040) (md0 hK) (by omega) (by omega) rfl a5
    rw [g4] at x40
    have x41 : rI σ d1 (mo + 1) (7041 : Int32) = some (ii (i_nx I).length) := rst (z := 7041) (md0 hK) (by omega) (by omega) rfl a6
    obtain ⟨⟨v, D⟩, e2, w1, w2, ⟨w3, w4, w5, w6⟩, w7, F2⟩ := m_begW (σ := σ) (δ := d1) hK (show (i_nx I).length < 60 by omega) a6 (x := ii n) (y := ii a) (w := ii b)
    dsimp only at w1 w2 w3 w4 w5 w6 w7 F2
    subst w1
    have um : ∀ r, ¬ r = mo + 1 → D.1 r = d1.1 r := fun r hr => (F2 r hr).1
    have uo : ∀ q, ¬ (7041 ≤ q ∧ q < 9742) → D.1 (mo + 1) q = d1.1 (mo + 1) q := fun q hq => w7 q (by omega) (by omega)
    refine ⟨D, ?_, by rw [um _ (by omega)], ⟨⟨RRm_eq m1 (by rw [um _ (by omega)]) (fun r a b => um r (by omega)), RNm_eq m2 (by rw [um _ (by omega)]) (fun r a b => um r (by omega))⟩, ?_, by rw [uo _ (by omega)]; exact m4, ?_⟩, F2.wk (fun r p => by omega)⟩
    · have b01 : (bi false = (1 : Int32)) = False := eq_false (by decide)
      have n30 : (ii (i_nx I).length < (30 : Int32)) = True := i_lt (b := 30) (by omega) (by omega) (by omega)
      have l9 : (7042 : Int32) + (9 : Int32) * ii (i_nx I).length = ii (7042 + 9 * (i_nx I).length) := by
        rw [show ((7042 : Int32)) = ii 7042 from rfl, show ((9 : Int32)) = ii 9 from rfl, ii_mul, ii_add]
      have k49 : m_X12_begin_b49 σ mo (ii n) (ii a) (ii b) d1 = some (ii (((i_nx I).length : Int) + 1), D) := by
        simp only [m_X12_begin_b49, chk_ko hK.1, ob_some, oa, ob, i10, ↓reduceIte, mg0 hK, x40, b01, x41, n30, l9, e2]
      have k28 := ((mt2 va).trans (mt4 vb)).trans k49
      simp only [m_X12_begin, p1, ob_some, chk_ko hK.1, cm_node_y hK m2 hc0 hn g1, i10, ↓reduceIte, k28]
    · refine ⟨RSm_eq a1 hGd.2.1.1 (fun k k1 => uo k (by omega)), RMh_eq a2 (fun k k1 k2 => uo k (by omega)) (by have h1 := hGd.2.2.1.2; have h2 := hGd.2.2.2.1; show (v_hi (i_V I)).length ≤ 2000; omega), fun w hw => by rw [uo _ (by omega)]; exact a3 w hw, ⟨by rw [uo _ (by omega)]; exact b1, fun k hk => by rw [uo _ (by omega)]; exact b2 k hk, fun z hz => by rw [uo _ (by omega)]; exact b3 z hz, by rw [uo _ (by omega)]; exact b4⟩, by rw [uo _ (by omega)]; exact a5, ?_, fun j x hx => ?_⟩
      · show D.1 (mo + 1) 7041 = ii ((i_nx I ++ [begA n a b]).length : Nat)
        rw [w2, List.length_append, List.length_singleton]
        rfl
      · have hx' : (i_nx I ++ [begA n a b])[j]? = some x := hx
        have hj := (List.getElem?_eq_some_iff.mp hx').1
        rw [List.length_append, List.length_singleton] at hj
        by_cases c : j < (i_nx I).length
        · rw [List.getElem?_append_left c] at hx'
          exact RNx_eq (a7 j x hx') (fun k k1 k2 => w7 k (by omega) (by omega))
        · have hj2 : j = (i_nx I).length := by omega
          subst hj2
          rw [List.getElem?_append_right (Nat.le_refl _), Nat.sub_self] at hx'
          have hx2 : begA n a b = x := Option.some.inj hx'
          subst hx2
          refine ⟨w3, fun z hz => ?_, fun k s hk hs => ?_⟩
          · show D.1 (mo + 1) (7042 + 9 * (i_nx I).length + 1 + z) = ii (if (z : Int) = 0 then a else if (z : Int) = 1 then b else 0)
            by_cases c0 : z = 0
            · rw [c0, if_pos (by decide)]; exact w4
            · rw [if_neg (by omega)]
              by_cases c1 : z = 1
              · rw [c1, if_pos (by decide)]; exact w5
              · rw [if_neg (by omega)]
                have := w6 (1 + z) (by omega) (by omega)
                rw [← Nat.add_assoc] at this
                rw [this]; rfl
          · show (D.1 (mo + 1) (7042 + 9 * (i_nx I).length + 5 + k)).toBitVec.getLsbD s = false
            have := w6 (5 + k) (by omega) (by omega)
            rw [← Nat.add_assoc] at this
            rw [this]
            exact BitVec.getLsbD_zero
    · unfold RMb at m5 ⊢
      rw [um mo (by omega), um (mo + 14) (by omega), um (mo + 15) (by omega), um (mo + 16) (by omega)]
      exact m5
theorem o_begin_n (h : Ctx σ δ mo p3 k E bd R I jr) (hn : rng n) (ha : rng a) (hb : rng b) (hno : ¬ begOk E I n a b) : LX mo p3 (m_L_begin σ 0 (ii n) (ii a) (ii b) p3 δ) (fun d => m_X12_begin σ mo (ii n) (ii a) (ii b) d) (fun d => Core d mo k E bd R I jr) := by
  obtain ⟨⟨hT, hK, h3, hmo⟩, hC⟩ := id h
  have hGd := hC.1
  have hRT := hC.2.1
  have gE := hGd.1
  have hc0 := gE.1
  have hR := hRT.1.1
  have kW : KO σ 68 10 := hT.2.2.2.2.1.2.1
  have kS := hT.2.2.2.2.1.2.2.1
  have kst : KS σ (68 + 1) := hT.2.2.2.2.1.2.2.2.2.2.1
  have g0' : 0 ≤ s_nv (v_S (i_V I)) ∧ s_nv (v_S (i_V I)) ≤ 60 := ⟨hGd.2.1.1.1.1, hGd.2.1.1.1.2.1⟩
  have x2 : gI σ δ 8 (68 + 1) 12 = some (bi (v_fl (i_V I))) := by rw [gI_ko kst.1]; exact congrArg some hRT.2.1.1.2.2.2.2.2.2.2.2.2.2.2.1
  have b11 : (bi true = (1 : Int32)) = True := eq_true rfl
  have b01 : (bi false = (1 : Int32)) = False := eq_false (by decide)
  by_cases g1 : gNode E n
  · by_cases va : badV (s_nv (v_S (i_V I))) a
    · refine LX_ref (c := 1) h (by decide) ?_ (fun d1 d2 p1 hM p2 => ?_)
      · simp only [m_L_begin, m_X11_begin, chk_ko hT.1, ob_some, c_node_y hT hR hc0 hn g1, xel_l, c_noV_n hT hRT.2.1 g0' ha va, i10, ↓reduceIte, m_X11_begin_b21, xhw_r]
        try rfl
      · have k43 : m_X12_begin_b43 σ mo d1 = some (0, d2) := by simp only [m_X12_begin_b43, chk_ko hK.1, ob_some, stop_of p2]
        have mt := ((mb_terms (x := ii n) hK hM.2.1.1.1 g0' ha hb).1 va).trans k43
        simp only [m_X12_begin, p1, ob_some, chk_ko hK.1, cm_node_y hK hM.1.2 hc0 hn g1, i10, ↓reduceIte, mt]
    · by_cases vb : badV (s_nv (v_S (i_V I))) b
      · refine LX_ref (c := 1) h (by decide) ?_ (fun d1 d2 p1 hM p2 => ?_)
        · simp only [m_L_begin, m_X11_begin, chk_ko hT.1, ob_some, c_node_y hT hR hc0 hn g1, xel_l, c_noV_y hT hRT.2.1 g0' ha va, c_noV_n hT hRT.2.1 g0' hb vb, i10, ↓reduceIte, m_X11_begin_b21, xhw_r]
          try rfl
        · obtain ⟨-, mt2, mt3, -⟩ := mb_terms (x := ii n) hK hM.2.1.1.1 g0' ha hb
          have k43 : m_X12_begin_b43 σ mo d1 = some (0, d2) := by simp only [m_X12_begin_b43, chk_ko hK.1, ob_some, stop_of p2]
          have mt := ((mt2 va).trans (mt3 vb)).trans k43
          simp only [m_X12_begin, p1, ob_some, chk_ko hK.1, cm_node_y hK hM.1.2 hc0 hn g1, i10, ↓reduceIte, mt]
      · by_cases gt : tm (s_nv (v_S (i_V I))) a ∧ tm (s_nv (v_S (i_V I))) b
        · have hb0 := (tb_terms (F := none) (σ := σ) (δ := δ) hT ha hb g0' va vb (x := ii n)).1 gt.1 gt.2
          have f1 := t_forNext hT.2.2.2.2.1 hRT.2.1
          have hnl := hGd.2.1.2.2.2.2.2.1
          refine LX_ref (c := 3) h (by decide) ?_ (fun d1 d2 p1 hM p2 => ?_)
          · have b69 : m_X11_begin_b69 σ 0 (ii n) (ii a) (ii b) δ = some (Sum.inr 0, δ) := by
              cases hfl : v_fl (i_V I) with
              | true =>
                rw [hfl] at x2
                simp only [m_X11_begin_b69, gR_ko hT.1 hT.2.1.2.2.1, gR_ko kW kS.2.1, ob_some, x2, bt0, ↓reduceIte, m_X11_begin_b94]
              | false =>
                rw [hfl] at x2
                have hl : ¬ (i_nx I).length < 30 := fun q => hno ⟨g1, gt.1, gt.2, hfl, q⟩
                have n30 : (ii (i_nx I).length < (30 : Int32)) = False := i_nlt (b := 30) (by omega) (by omega) (by omega)
                simp only [m_X11_begin_b69, gR_ko hT.1 hT.2.1.2.2.1, gR_ko kW kS.2.1, ob_some, x2, bf0, ↓reduceIte, chk_ko kW, f1, n30, m_X11_begin_b94]
            have hb1 := hb0.trans b69
            simp only [m_L_begin, m_X11_begin, chk_ko hT.1, ob_some, c_node_y hT hR hc0 hn g1, xel_l, c_noV_y hT hRT.2.1 g0' ha va, c_noV_y hT hRT.2.1 g0' hb vb, ↓reduceIte, hb1, xhw_r]
            try rfl
          · obtain ⟨-, mt2, -, mt4⟩ := mb_terms (x := ii n) hK hM.2.1.1.1 g0' ha hb
            have oa := (cm_out hK hM.2.1.1.1 g0' ha).1 gt.1
            have ob := (cm_out hK hM.2.1.1.1 g0' hb).1 gt.2
            have x40 : rI σ d1 (mo + 1) (7040 : Int32) = some (bi (v_fl (i_V I))) := rst (z := 7040) (md0 hK) (by omega) (by omega) rfl hM.2.1.2.2.2.2.1
            have x41 : rI σ d1 (mo + 1) (7041 : Int32) = some (ii (i_nx I).length) := rst (z := 7041) (md0 hK) (by omega) (by omega) rfl hM.2.1.2.2.2.2.2.1
            have k49 : m_X12_begin_b49 σ mo (ii n) (ii a) (ii b) d1 = some (0, d2) := by
              cases hfl : v_fl (i_V I) with
              | true =>
                rw [hfl] at x40
                simp only [m_X12_begin_b49, chk_ko hK.1, ob_some, oa, ob, i10, ↓reduceIte, mg0 hK, x40, b11, m_X12_begin_b96, stop_of p2]
              | false =>
                rw [hfl] at x40
                have hl : ¬ (i_nx I).length < 30 := fun q => hno ⟨g1, gt.1, gt.2, hfl, q⟩
                have n30 : (ii (i_nx I).length < (30 : Int32)) = False := i_nlt (b := 30) (by omega) (by omega) (by omega)
                simp only [m_X12_begin_b49, chk_ko hK.1, ob_some, oa, ob, i10, ↓reduceIte, mg0 hK, x40, b01, x41, n30, m_X12_begin_b96, stop_of p2]
            have k28 := ((mt2 va).trans (mt4 vb)).trans k49
            simp only [m_X12_begin, p1, ob_some, chk_ko hK.1, cm_node_y hK hM.1.2 hc0 hn g1, i10, ↓reduceIte, k28]
        · refine LX_ref (c := 2) h (by decide) ?_ (fun d1 d2 p1 hM p2 => ?_)
          · have hb0 := (tb_terms (F := none) (σ := σ) (δ := δ) hT ha hb g0' va vb (x := ii n)).2 gt
            simp only [m_L_begin, m_X11_begin, chk_ko hT.1, ob_some, c_node_y hT hR hc0 hn g1, xel_l, c_noV_y hT hRT.2.1 g0' ha va, c_noV_y hT hRT.2.1 g0' hb vb, ↓reduceIte, hb0, xhw_r]
            try rfl
          · obtain ⟨-, mt2, -, mt4⟩ := mb_terms (x := ii n) hK hM.2.1.1.1 g0' ha hb
            obtain ⟨oa1, oa2⟩ := cm_out hK hM.2.1.1.1 g0' ha
            obtain ⟨ob1, ob2⟩ := cm_out hK hM.2.1.1.1 g0' hb
            have k49 : m_X12_begin_b49 σ mo (ii n) (ii a) (ii b) d1 = some (0, d2) := by
              by_cases ga : tm (s_nv (v_S (i_V I))) a
              · simp only [m_X12_begin_b49, chk_ko hK.1, ob_some, oa1 ga, ob2 (fun q => gt ⟨ga, q⟩), i10, ↓reduceIte, m_X12_begin_b65, stop_of p2]
              · simp only [m_X12_begin_b49, chk_ko hK.1, ob_some, oa2 ga, ↓reduceIte, m_X12_begin_b65, stop_of p2]
            have k28 := ((mt2 va).trans (mt4 vb)).trans k49
            simp only [m_X12_begin, p1, ob_some, chk_ko hK.1, cm_node_y hK hM.1.2 hc0 hn g1, i10, ↓reduceIte, k28]
  · refine LX_ref (c := 1) h (by decide) ?_ (fun d1 d2 p1 hM p2 => ?_)
    · simp only [m_L_begin, m_X11_begin, chk_ko hT.1, ob_some, c_node_n hT hR hc0 hn g1, xel_r, xhw_r]
      try rfl
    · simp only [m_X12_begin, p1, ob_some, chk_ko hK.1, cm_node_n hK hM.1.2 hc0 hn g1, ↓reduceIte, m_X12_begin_b43, stop_of p2]
end
