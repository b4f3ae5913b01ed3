/-! THE LAW: the calls that make nodes -/
def GNv (E : Ev) (kk w a b on ot : Int) : Prop := (0 ≤ kk ∧ kk ≤ 13) ∧ (gTm a ∧ gTm b) ∧ (0 ≤ w ∧ w ≤ 15) ∧ (kk = 1 ∨ kk = 2 → w ≤ 5) ∧ (kk = 4 ∨ kk = 10 ∨ kk = 11 → gCond w) ∧ (kk = 5 → (e_kd E on = 4 ∧ e_kd E ot = 4) ∧ valu a ∧ valu b) ∧ (kk = 6 → w ≤ 3) ∧ (kk = 7 → w ≤ 5) ∧ (kk = 12 → (1 ≤ a ∧ a ≤ 9) ∧ 1 ≤ b ∧ b ≤ 9) ∧ (kk = 3 ∨ kk = 4 ∨ kk = 5 ∨ kk = 6 ∨ (8 ≤ kk ∧ kk ≤ 13) → gNode E on) ∧ (kk = 3 ∨ kk = 5 ∨ kk = 12 ∨ kk = 13 → gNode E ot)
def RNv (D : Dy) (mo : Nat) (n : Int) (kk w a b on ot : Int) : Prop := D.1 (mo + 3) n.toNat = ii (kM kk) ∧
  (kk = 0 → D.1 (mo + 4) n.toNat = ii a ∧ D.1 (mo + 5) n.toNat = ii b) ∧
  (kk = 1 ∨ kk = 2 → D.1 (mo + 4) n.toNat = ii w ∧ D.1 (mo + 5) n.toNat = ii a ∧ D.1 (mo + 6) n.toNat = ii b ∧ D.1 (mo + 7) n.toNat = bi (decide (kk = 2))) ∧
  (kk = 3 ∨ kk = 13 → D.1 (mo + 4) n.toNat = ii on ∧ D.1 (mo + 5) n.toNat = ii ot) ∧
  (kk = 4 ∨ kk = 10 ∨ kk = 11 → D.1 (mo + 4) n.toNat = ii w ∧ D.1 (mo + 5) n.toNat = ii a ∧ (¬ w = 3 → D.1 (mo + 6) n.toNat = ii b) ∧ D.1 (mo + 7) n.toNat = ii on) ∧
  (kk = 5 → D.1 (mo + 4) n.toNat = ii on ∧ D.1 (mo + 5) n.toNat = ii a ∧ D.1 (mo + 6) n.toNat = ii ot ∧ D.1 (mo + 7) n.toNat = ii b) ∧
  (kk = 6 → D.1 (mo + 4) n.toNat = ii w ∧ D.1 (mo + 5) n.toNat = ii on) ∧
  (kk = 7 → D.1 (mo + 4) n.toNat = ii w ∧ D.1 (mo + 5) n.toNat = ii a ∧ D.1 (mo + 6) n.toNat = ii b) ∧
  (kk = 8 ∨ kk = 9 → D.1 (mo + 4) n.toNat = ii on) ∧
  (kk = 12 → D.1 (mo + 4) n.toNat = ii a ∧ D.1 (mo + 5) n.toNat = ii on ∧ D.1 (mo + 6) n.toNat = ii b ∧ D.1 (mo + 7) n.toNat = ii ot)
theorem bt0 : (bi true = (0 : Int32)) = False := eq_false (by decide)
theorem bf0 : (bi false = (0 : Int32)) = True := eq_true rfl
theorem i10 : ((1 : Int32) = 0) = False := eq_false (by decide)
theorem gT0 : gTm 0 := Or.inl ⟨by decide, by decide⟩
section
variable {σ : St} {δ d : Dy} {mo p3 k : Nat} {E : Ev} {bd : Bool} {R : Rl} {I : Iw} {jr : List Jn} {z kk w a b on ot p q s c : Int}
theorem GN_of (hx : HasN E kk w a b on ot) (h : GNv E kk w a b on ot) : GN (bumpN E) (e_ct E) := by
  obtain ⟨x1, x2, x3, x4, x5, x6⟩ := hx
  obtain ⟨q1, q2, q3, q4, q5, q6, q7, q8, q9, q10, q11⟩ := h
  have gn : ∀ n, gNode E n → gNode (bumpN E) n := fun n h => ⟨h.1, by show n < e_ct E + 1; have := h.2; omega⟩
  unfold GN
  rw [show e_kd (bumpN E) (e_ct E) = kk from x1, show e_wh (bumpN E) (e_ct E) = w from x2, show e_a (bumpN E) (e_ct E) = a from x3, show e_b (bumpN E) (e_ct E) = b from x4, show e_on (bumpN E) (e_ct E) = on from x5, show e_ot (bumpN E) (e_ct E) = ot from x6]
  exact ⟨q1, q2, q3, q4, q5, q6, q7, q8, q9, fun h => gn _ (q10 h), fun h => gn _ (q11 h)⟩
theorem RN1_of (hx : HasN E kk w a b on ot) (h : RNv d mo (e_ct E) kk w a b on ot) : RN1 d mo E (e_ct E) := by
  obtain ⟨x1, x2, x3, x4, x5, x6⟩ := hx
  unfold RN1
  rw [x1, x2, x3, x4, x5, x6]
  exact h
theorem c_node_y (hT : KT σ) (hR : RN δ 1 E) (hc : 0 ≤ e_ct E ∧ e_ct E ≤ 60) (hz : rng z) (g : gNode E z) : m_X11_needNode σ 0 (ii z) δ = some (.inl ()) := by
  have g' : 0 ≤ z ∧ z < e_ct E := g
  unfold m_X11_needNode
  rw [show ((0 : Int32)) = ii 0 from rfl, if_neg (show ¬ ii z < ii 0 by rw [ii_lt hz.1 hz.2 (by omega) (by omega)]; omega), gR_ko hT.1 hT.2.1.1, ob_some, gI_ko hT.2.2.2.2.1.2.2.2.1.1, ob_some, hR.1, if_pos (show ii z < ii (e_ct E) by rw [ii_lt hz.1 hz.2 (by omega) (by omega)]; omega)]
theorem c_node_n (hT : KT σ) (hR : RN δ 1 E) (hc : 0 ≤ e_ct E ∧ e_ct E ≤ 60) (hz : rng z) (g : ¬ gNode E z) : m_X11_needNode σ 0 (ii z) δ = some (.inr 2) := by
  have g' : ¬ (0 ≤ z ∧ z < e_ct E) := g
  unfold m_X11_needNode
  rw [show ((0 : Int32)) = ii 0 from rfl]
  by_cases h : z < 0
  · rw [if_pos (show ii z < ii 0 by rw [ii_lt hz.1 hz.2 (by omega) (by omega)]; omega)]; rfl
  · rw [if_neg (show ¬ ii z < ii 0 by rw [ii_lt hz.1 hz.2 (by omega) (by omega)]; omega), gR_ko hT.1 hT.2.1.1, ob_some, gI_ko hT.2.2.2.2.1.2.2.2.1.1, ob_some, hR.1, if_neg (show ¬ ii z < ii (e_ct E) by rw [ii_lt hz.1 hz.2 (by omega) (by omega)]; omega)]; rfl
theorem c_room_y (hT : KT σ) (hR : RN δ 1 E) (hc : 0 ≤ e_ct E ∧ e_ct E < 60) : m_X11_needRoom σ 0 δ = some (.inl ()) := by
  unfold m_X11_needRoom
  rw [gR_ko hT.1 hT.2.1.1, ob_some, gI_ko hT.2.2.2.2.1.2.2.2.1.1, ob_some, hR.1, show ((60 : Int32)) = ii 60 from rfl, if_pos (show ii (e_ct E) < ii 60 by rw [ii_lt (by omega) (by omega) (by omega) (by omega)]; omega)]
theorem c_room_n (hT : KT σ) (hR : RN δ 1 E) (hc : e_ct E = 60) : m_X11_needRoom σ 0 δ = some (.inr 0) := by
  unfold m_X11_needRoom
  rw [gR_ko hT.1 hT.2.1.1, ob_some, gI_ko hT.2.2.2.2.1.2.2.2.1.1, ob_some, hR.1, hc, if_neg (show ¬ ii 60 < 60 by decide)]
theorem cm_node_y (hK : KM σ mo) (hN : RNm δ mo E) (hc : 0 ≤ e_ct E ∧ e_ct E ≤ 60) (hz : rng z) (g : gNode E z) : m_X12_isNode σ mo (ii z) δ = some 1 := by
  have g' : 0 ≤ z ∧ z < e_ct E := g
  rw [cm_node hK hN.1 hc hz, decide_eq_true (show 0 ≤ z ∧ z ≤ e_ct E - 1 by omega)]; rfl
theorem cm_node_n (hK : KM σ mo) (hN : RNm δ mo E) (hc : 0 ≤ e_ct E ∧ e_ct E ≤ 60) (hz : rng z) (g : ¬ gNode E z) : m_X12_isNode σ mo (ii z) δ = some 0 := by
  have g' : ¬ (0 ≤ z ∧ z < e_ct E) := g
  rw [cm_node hK hN.1 hc hz, decide_eq_false (show ¬ (0 ≤ z ∧ z ≤ e_ct E - 1) by omega)]; rfl
theorem c_in_y {a b : Int} (hz : rng z) (ha : rng a) (hb : rng b) (h : a ≤ z ∧ z ≤ b) : m_X12_in σ (ii z) (ii a) (ii b) δ = some 1 := by rw [c_in hz ha hb, decide_eq_true h]; rfl
theorem c_in_n {a b : Int} (hz : rng z) (ha : rng a) (hb : rng b) (h : ¬ (a ≤ z ∧ z ≤ b)) : m_X12_in σ (ii z) (ii a) (ii b) δ = some 0 := by rw [c_in hz ha hb, decide_eq_false h]; rfl
theorem m_full (hK : KM σ mo) (hN : RNm δ mo E) (hc : e_ct E = 60) {x0 x1 x2 x3 x4 : Int32} : m_X12_makeNode σ mo x0 x1 x2 x3 x4 δ = some (-1, δ) := by
  unfold m_X12_makeNode
  rw [gI_ko hK.1, ob_some, hN.1, hc, if_pos (show ii 60 = 60 from rfl)]
theorem m_told_no (hK : KM σ mo) {c : Int32} (h : pI σ δ 12 mo 50 c = some d) : m_X12_toldNode σ mo (-1) c δ = some (0, d) := by
  unfold m_X12_toldNode m_X12_stop
  rw [if_pos rfl, chk_ko hK.1, ob_some, h, ob_some, ob_some]
theorem m_told_ok {n c : Int32} (h : ¬ n = -1) : m_X12_toldNode σ mo n c δ = some (n, δ) := by
  unfold m_X12_toldNode
  rw [if_neg h]
theorem stop_of {c : Int32} (h : pI σ δ 12 mo 50 c = some d) : m_X12_stop σ mo c δ = some (0, d) := by
  unfold m_X12_stop
  rw [h, ob_some]
/-- a call that both sides refuse -/
theorem LX_refv {v0 : Int32} (h : Ctx σ δ mo p3 k E bd R I jr) {mL : Option (Int32 × Dy)} {mX : Dy → Option (Int32 × Dy)} {c : Int32} (hc : ¬ c = 0) (e1 : mL = some (c, δ)) (e2 : ∀ d1 d2, pI σ δ 12 mo 50 (0 : Int32) = some d1 → RM d1 mo E bd R I → pI σ d1 12 mo 50 c = some d2 → mX δ = some (0, d2)) : LXV mo p3 v0 mL mX (fun d => Core d mo k E bd R I jr) := by
  obtain ⟨⟨hT, hK, h3, hmo⟩, hC⟩ := h
  obtain ⟨d1, p1, v1, o1, F1⟩ := pI_ex (δ := δ) (k := 50) (x := 0) hK.1
  obtain ⟨d2, p2, v2, o2, F2⟩ := pI_ex (δ := d1) (k := 50) (x := c) hK.1
  have hM1 := RM_eq hC.2.2.1 (fun j hj => o1 j (by omega)) (fun r a b => (F1 r (by omega)).1)
  exact LX_nov hC (by omega) hc e1 (e2 d1 d2 p1 hM1 p2) v2 (fun j hj => by rw [o2 j hj, o1 j hj]) (F1.tr F2)
theorem LX_ref (h : Ctx σ δ mo p3 k E bd R I jr) {mL : Option (Int32 × Dy)} {mX : Dy → Option (Int32 × Dy)} {c : Int32} (hc : ¬ c = 0) (e1 : mL = some (c, δ)) (e2 : ∀ d1 d2, pI σ δ 12 mo 50 (0 : Int32) = some d1 → RM d1 mo E bd R I → pI σ d1 12 mo 50 c = some d2 → mX δ = some (0, d2)) : LX mo p3 mL mX (fun d => Core d mo k E bd R I jr) := (LX_refv (v0 := 0) h hc e1 e2).lx
/-! each call -/
theorem c_kind (hT : KT σ) (hR : RN δ 1 E) (hc : 0 ≤ e_ct E ∧ e_ct E ≤ 60) (g : gNode E z) : rI σ δ (1 + 1) (ii z) = some (ii (e_kd E z)) := by
  have g' : 0 ≤ z ∧ z < e_ct E := g
  rw [rI_kd hT.2.2.2.2.1.2.2.2.1.2.2.1 g'.1 (by omega), (hR.2 z g).1]
theorem c_ne4 (gE : GE E) (g : gNode E z) (h : ¬ e_kd E z = 4) : ¬ ii (e_kd E z) = 4 := by
  have := (gE.2.2.2.2 z g).1
  rw [show ((4 : Int32)) = ii 4 from rfl, ii_eq (by omega) (by omega) (by omega) (by omega)]
  exact h
theorem c_ne3 (gE : GE E) (g : gNode E z) (h : ¬ e_kd E z = 4) : ¬ ii (kM (e_kd E z)) = 3 := by
  have := (gE.2.2.2.2 z g).1
  have hkM : ¬ kM (e_kd E z) = 3 := by unfold kM; split <;> omega
  have hkr : 0 ≤ kM (e_kd E z) ∧ kM (e_kd E z) ≤ 13 := by unfold kM; split <;> omega
  rw [show ((3 : Int32)) = ii 3 from rfl, ii_eq (by omega) (by omega) (by omega) (by omega)]
  exact hkM
theorem o_equate_y (h : Ctx σ δ mo p3 k E bd R I jr) (hp : rng p) (hq : rng q) (g1 : (gTm p ∧ gTm q)) (hrm : e_ct E < 60) (hx : HasN E 0 0 p q (-1) (-1)) : LX mo p3 (m_L_equate σ 0 (ii p) (ii q) p3 δ) (fun d => m_X12_equate σ mo (ii p) (ii q) d) (fun d => Core d mo k (bumpN E) bd R I jr) := by
  obtain ⟨⟨hT, hK, h3, hmo⟩, hC⟩ := id h
  have gE := hC.1.1
  have hR := hC.2.1.1.1
  have hc0 := gE.1
  have k1 : KO σ 1 5 := hT.2.2.2.2.1.2.2.2.1.1
  refine LX_node (x1 := (ii p)) (x2 := (ii q)) (x3 := (0 : Int32)) (x4 := (0 : Int32)) h hrm hx (GN_of hx ⟨by omega, ⟨g1.1, g1.2⟩, by omega, fun h => absurd h (by decide), fun h => absurd h (by decide), fun h => absurd h (by decide), fun h => absurd h (by decide), fun h => absurd h (by decide), fun h => absurd h (by decide), fun h => absurd h (by decide), fun h => absurd h (by decide)⟩) (fun D y0 y1 y2 y3 y4 => RN1_of hx ⟨y0, fun _ => ⟨y1, y2⟩, fun h => absurd h (by decide), fun h => absurd h (by decide), fun h => absurd h (by decide), fun h => absurd h (by decide), fun h => absurd h (by decide), fun h => absurd h (by decide), fun h => absurd h (by decide), fun h => absurd h (by decide)⟩) ?_ ?_
  · intro D t
    have t' : m_X5_add σ 1 (0 : Int32) (0 : Int32) (ii p) (ii q) ((-1) : Int32) ((-1) : Int32) δ = some (ii (e_ct E), D) := t
    simp only [m_L_equate, m_X11_equate, chk_ko hT.1, ob_some, c_terms_y hp hq g1, c_room_y hT hR ⟨hc0.1, hrm⟩, xel_l, gR_ko hT.1 hT.2.1.1, chk_ko k1,  t', xhw_l, ↓reduceIte]
    try rfl
  · intro d d1 D p1 hN m hneg
    have m' : m_X12_makeNode σ mo (0 : Int32) (ii p) (ii q) (0 : Int32) (0 : Int32) d1 = some (ii (e_ct E), D) := m
    simp only [m_X12_equate, p1, ob_some, chk_ko hK.1, cm_term_y hp g1.1, cm_term_y hq g1.2, i10, ↓reduceIte,  m', m_told_ok hneg]
    try rfl
theorem o_equate_n (h : Ctx σ δ mo p3 k E bd R I jr) (hp : rng p) (hq : rng q) (hno : ¬ ((gTm p ∧ gTm q) ∧ e_ct E < 60)) : LX mo p3 (m_L_equate σ 0 (ii p) (ii q) p3 δ) (fun d => m_X12_equate σ mo (ii p) (ii q) d) (fun d => Core d mo k E bd R I jr) := by
  obtain ⟨⟨hT, hK, h3, hmo⟩, hC⟩ := id h
  have gE := hC.1.1
  have hR := hC.2.1.1.1
  have hc0 := gE.1
  have k1 : KO σ 1 5 := hT.2.2.2.2.1.2.2.2.1.1
  by_cases g1 : (gTm p ∧ gTm q)
  · skip
    have hrm : e_ct E = 60 := Int.le_antisymm hc0.2 (Int.not_lt.mp (fun q => hno ⟨g1, q⟩))
    refine LX_ref (c := 2) h (by decide) ?_ (fun d1 d2 p1 hM p2 => ?_)
    · simp only [m_L_equate, m_X11_equate, chk_ko hT.1, ob_some, c_terms_y hp hq g1, c_room_n hT hR hrm, xel_l, xel_r, gR_ko hT.1 hT.2.1.1, chk_ko k1,  xhw_r, ↓reduceIte]
      try rfl
    · have hN := hM.1.2
      simp only [m_X12_equate, p1, ob_some, chk_ko hK.1, cm_term_y hp g1.1, cm_term_y hq g1.2, i10, ↓reduceIte,  m_full hK hN hrm, m_told_no hK p2]
      try rfl
  · by_cases gv : gTm p
    · refine LX_ref (c := 1) h (by decide) ?_ (fun d1 d2 p1 hM p2 => ?_)
      · simp only [m_L_equate, m_X11_equate, chk_ko hT.1, ob_some, c_terms_n hp hq g1, xel_l, xel_r, gR_ko hT.1 hT.2.1.1, chk_ko k1,  xhw_r, ↓reduceIte]
        try rfl
      · have hN := hM.1.2
        simp only [m_X12_equate, p1, ob_some, chk_ko hK.1, cm_term_y hp gv, cm_term_n hq (fun q => g1 ⟨gv, q⟩), i10, ↓reduceIte,  m_X12_equate_b19, stop_of p2, p2]
        try rfl
    · refine LX_ref (c := 1) h (by decide) ?_ (fun d1 d2 p1 hM p2 => ?_)
      · simp only [m_L_equate, m_X11_equate, chk_ko hT.1, ob_some, c_terms_n hp hq g1, xel_l, xel_r, gR_ko hT.1 hT.2.1.1, chk_ko k1,  xhw_r, ↓reduceIte]
        try rfl
      · have hN := hM.1.2
        simp only [m_X12_equate, p1, ob_some, chk_ko hK.1, cm_term_n hp gv, i10, ↓reduceIte,  m_X12_equate_b19, stop_of p2, p2]
        try rfl
theorem o_both_y (h : Ctx σ δ mo p3 k E bd R I jr) (hp : rng p) (hq : rng q) (g1 : gNode E p) (g2 : gNode E q) (hrm : e_ct E < 60) (hx : HasN E 3 0 0 0 p q) : LX mo p3 (m_L_both σ 0 (ii p) (ii q) p3 δ) (fun d => m_X12_both σ mo (ii p) (ii q) d) (fun d => Core d mo k (bumpN E) bd R I jr) := by
  obtain ⟨⟨hT, hK, h3, hmo⟩, hC⟩ := id h
  have gE := hC.1.1
  have hR := hC.2.1.1.1
  have hc0 := gE.1
  have k1 : KO σ 1 5 := hT.2.2.2.2.1.2.2.2.1.1
  refine LX_node (x1 := (ii p)) (x2 := (ii q)) (x3 := (0 : Int32)) (x4 := (0 : Int32)) h hrm hx (GN_of hx ⟨by omega, ⟨gT0, gT0⟩, by omega, fun h => absurd h (by decide), fun h => absurd h (by decide), fun h => absurd h (by decide), fun h => absurd h (by decide), fun h => absurd h (by decide), fun h => absurd h (by decide), fun _ => g1, fun _ => g2⟩) (fun D y0 y1 y2 y3 y4 => RN1_of hx ⟨y0, fun h => absurd h (by decide), fun h => absurd h (by decide), fun _ => ⟨y1, y2⟩, fun h => absurd h (by decide), fun h => absurd h (by decide), fun h => absurd h (by decide), fun h => absurd h (by decide), fun h => absurd h (by decide), fun h => absurd h (by decide)⟩) ?_ ?_
  · intro D t
    have t' : m_X5_add σ 1 (3 : Int32) (0 : Int32) (0 : Int32) (0 : Int32) (ii p) (ii q) δ = some (ii (e_ct E), D) := t
    simp only [m_L_both, m_X11_both, chk_ko hT.1, ob_some, c_node_y hT hR hc0 hp g1, c_node_y hT hR hc0 hq g2, c_room_y hT hR ⟨hc0.1, hrm⟩, xel_l, gR_ko hT.1 hT.2.1.1, chk_ko k1,  t', xhw_l, ↓reduceIte]
    try rfl
  · intro d d1 D p1 hN m hneg
    have m' : m_X12_makeNode σ mo (2 : Int32) (ii p) (ii q) (0 : Int32) (0 : Int32) d1 = some (ii (e_ct E), D) := m
    simp only [m_X12_both, p1, ob_some, chk_ko hK.1, cm_node_y hK hN hc0 hp g1, cm_node_y hK hN hc0 hq g2, i10, ↓reduceIte,  m', m_told_ok hneg]
    try rfl
theorem o_both_n (h : Ctx σ δ mo p3 k E bd R I jr) (hp : rng p) (hq : rng q) (hno : ¬ (gNode E p ∧ gNode E q ∧ e_ct E < 60)) : LX mo p3 (m_L_both σ 0 (ii p) (ii q) p3 δ) (fun d => m_X12_both σ mo (ii p) (ii q) d) (fun d => Core d mo k E bd R I jr) := by
  obtain ⟨⟨hT, hK, h3, hmo⟩, hC⟩ := id h
  have gE := hC.1.1
  have hR := hC.2.1.1.1
  have hc0 := gE.1
  have k1 : KO σ 1 5 := hT.2.2.2.2.1.2.2.2.1.1
  by_cases g1 : gNode E p
  · skip
    by_cases g2 : gNode E q
    · skip
      have hrm : e_ct E = 60 := Int.le_antisymm hc0.2 (Int.not_lt.mp (fun q => hno ⟨g1, g2, q⟩))
      refine LX_ref (c := 2) h (by decide) ?_ (fun d1 d2 p1 hM p2 => ?_)
      · simp only [m_L_both, m_X11_both, chk_ko hT.1, ob_some, c_node_y hT hR hc0 hp g1, c_node_y hT hR hc0 hq g2, c_room_n hT hR hrm, xel_l, xel_r, gR_ko hT.1 hT.2.1.1, chk_ko k1,  xhw_r, ↓reduceIte]
        try rfl
      · have hN := hM.1.2
        simp only [m_X12_both, p1, ob_some, chk_ko hK.1, cm_node_y hK hN hc0 hp g1, cm_node_y hK hN hc0 hq g2, i10, ↓reduceIte,  m_full hK hN hrm, m_told_no hK p2]
        try rfl
    · refine LX_ref (c := 1) h (by decide) ?_ (fun d1 d2 p1 hM p2 => ?_)
      · simp only [m_L_both, m_X11_both, chk_ko hT.1, ob_some, c_node_y hT hR hc0 hp g1, c_node_n hT hR hc0 hq g2, xel_l, xel_r, gR_ko hT.1 hT.2.1.1, chk_ko k1,  xhw_r, ↓reduceIte]
        try rfl
      · have hN := hM.1.2
        simp only [m_X12_both, p1, ob_some, chk_ko hK.1, cm_node_y hK hN hc0 hp g1, cm_node_n hK hN hc0 hq g2, i10, ↓reduceIte,  m_X12_both_b21, stop_of p2, p2]
        try rfl
  · refine LX_ref (c := 1) h (by decide) ?_ (fun d1 d2 p1 hM p2 => ?_)
    · simp only [m_L_both, m_X11_both, chk_ko hT.1, ob_some, c_node_n hT hR hc0 hp g1, xel_l, xel_r, gR_ko hT.1 hT.2.1.1, chk_ko k1,  xhw_r, ↓reduceIte]
      try rfl
    · have hN := hM.1.2
      simp only [m_X12_both, p1, ob_some, chk_ko hK.1, cm_node_n hK hN hc0 hp g1, i10, ↓reduceIte,  m_X12_both_b21, stop_of p2, p2]
      try rfl
theorem o_when_y (h : Ctx σ δ mo p3 k E bd R I jr) (hc : rng c) (ha : rng a) (hb : rng b) (hp : rng p) (g1 : gNode E p) (g2 : gAsk c a b) (hrm : e_ct E < 60) (hx : HasN E 4 c a (if c = 3 then 0 else b) p (-1)) : LX mo p3 (m_L_when σ 0 (ii c) (ii a) (ii b) (ii p) p3 δ) (fun d => m_X12_when σ mo (ii c) (ii a) (ii b) (ii p) d) (fun d => Core d mo k (bumpN E) bd R I jr) := by
  obtain ⟨⟨hT, hK, h3, hmo⟩, hC⟩ := id h
  have gE := hC.1.1
  have hR := hC.2.1.1.1
  have hc0 := gE.1
  have k1 : KO σ 1 5 := hT.2.2.2.2.1.2.2.2.1.1
  have gc : gCond c := g2.1
  have hb2 : rng (if c = 3 then 0 else b) := by split <;> omega
  have gc2 : (0 ≤ c ∧ c ≤ 3) ∨ (10 ≤ c ∧ c ≤ 15) := g2.1
  refine LX_node (x1 := (ii c)) (x2 := (ii a)) (x3 := (ii b)) (x4 := (ii p)) h hrm hx (GN_of hx ⟨by omega, ⟨g2.2.1, g2.2.2⟩, by omega, fun h => absurd h (by decide), fun _ => gc, fun h => absurd h (by decide), fun h => absurd h (by decide), fun h => absurd h (by decide), fun h => absurd h (by decide), fun _ => g1, fun h => absurd h (by decide)⟩) (fun D y0 y1 y2 y3 y4 => RN1_of hx ⟨y0, fun h => absurd h (by decide), fun h => absurd h (by decide), fun h => absurd h (by decide), fun _ => ⟨y1, y2, fun hw => by rw [if_neg hw]; exact y3, y4⟩, fun h => absurd h (by decide), fun h => absurd h (by decide), fun h => absurd h (by decide), fun h => absurd h (by decide), fun h => absurd h (by decide)⟩) ?_ ?_
  · intro D t
    have t' : m_X5_add σ 1 (4 : Int32) (ii c) (ii a) (ii (if c = 3 then 0 else b)) (ii p) ((-1) : Int32) δ = some (ii (e_ct E), D) := t
    simp only [m_L_when, m_X11_when, chk_ko hT.1, ob_some, c_node_y hT hR hc0 hp g1, c_cond_y hc g2.1, c_asked hc, c_terms_y ha hb2 g2.2, c_room_y hT hR ⟨hc0.1, hrm⟩, xel_l, gR_ko hT.1 hT.2.1.1, chk_ko k1,  t', xhw_l, ↓reduceIte]
    try rfl
  · intro d d1 D p1 hN m hneg
    have m' : m_X12_makeNode σ mo (3 : Int32) (ii c) (ii a) (ii b) (ii p) d1 = some (ii (e_ct E), D) := m
    simp only [m_X12_when, p1, ob_some, chk_ko hK.1, cm_node_y hK hN hc0 hp g1, cm_told_y hc ha hb g2, i10, ↓reduceIte,  m', m_told_ok hneg]
    try rfl
theorem o_when_n (h : Ctx σ δ mo p3 k E bd R I jr) (hc : rng c) (ha : rng a) (hb : rng b) (hp : rng p) (hno : ¬ (gNode E p ∧ gAsk c a b ∧ e_ct E < 60)) : LX mo p3 (m_L_when σ 0 (ii c) (ii a) (ii b) (ii p) p3 δ) (fun d => m_X12_when σ mo (ii c) (ii a) (ii b) (ii p) d) (fun d => Core d mo k E bd R I jr) := by
  obtain ⟨⟨hT, hK, h3, hmo⟩, hC⟩ := id h
  have gE := hC.1.1
  have hR := hC.2.1.1.1
  have hc0 := gE.1
  have k1 : KO σ 1 5 := hT.2.2.2.2.1.2.2.2.1.1
  by_cases g1 : gNode E p
  · skip
    by_cases g2 : gAsk c a b
    · skip
      have gc : gCond c := g2.1
      have hb2 : rng (if c = 3 then 0 else b) := by split <;> omega
      have gc2 : (0 ≤ c ∧ c ≤ 3) ∨ (10 ≤ c ∧ c ≤ 15) := g2.1
      have hrm : e_ct E = 60 := Int.le_antisymm hc0.2 (Int.not_lt.mp (fun q => hno ⟨g1, g2, q⟩))
      refine LX_ref (c := 3) h (by decide) ?_ (fun d1 d2 p1 hM p2 => ?_)
      · simp only [m_L_when, m_X11_when, chk_ko hT.1, ob_some, c_node_y hT hR hc0 hp g1, c_cond_y hc g2.1, c_asked hc, c_terms_y ha hb2 g2.2, c_room_n hT hR hrm, xel_l, xel_r, gR_ko hT.1 hT.2.1.1, chk_ko k1,  xhw_r, ↓reduceIte]
        try rfl
      · have hN := hM.1.2
        simp only [m_X12_when, p1, ob_some, chk_ko hK.1, cm_node_y hK hN hc0 hp g1, cm_told_y hc ha hb g2, i10, ↓reduceIte,  m_full hK hN hrm, m_told_no hK p2]
        try rfl
    · by_cases gv : gCond c
      · have hb2 : rng (if c = 3 then 0 else b) := by split <;> omega
        refine LX_ref (c := 2) h (by decide) ?_ (fun d1 d2 p1 hM p2 => ?_)
        · simp only [m_L_when, m_X11_when, chk_ko hT.1, ob_some, c_node_y hT hR hc0 hp g1, c_cond_y hc gv, c_asked hc, c_terms_n ha hb2 (fun q => g2 ⟨gv, q⟩), xel_l, xel_r, gR_ko hT.1 hT.2.1.1, chk_ko k1,  xhw_r, ↓reduceIte]
          try rfl
        · have hN := hM.1.2
          simp only [m_X12_when, p1, ob_some, chk_ko hK.1, cm_node_y hK hN hc0 hp g1, cm_told_n hc ha hb g2, i10, ↓reduceIte,  stop_of p2, p2]
          try rfl
      · refine LX_ref (c := 2) h (by decide) ?_ (fun d1 d2 p1 hM p2 => ?_)
        · simp only [m_L_when, m_X11_when, chk_ko hT.1, ob_some, c_node_y hT hR hc0 hp g1, c_cond_n hc gv, xel_l, xel_r, gR_ko hT.1 hT.2.1.1, chk_ko k1,  xhw_r, ↓reduceIte]
          try rfl
        · have hN := hM.1.2
          simp only [m_X12_when, p1, ob_some, chk_ko hK.1, cm_node_y hK hN hc0 hp g1, cm_told_n hc ha hb g2, i10, ↓reduceIte,  stop_of p2, p2]
          try rfl
  · refine LX_ref (c := 1) h (by decide) ?_ (fun d1 d2 p1 hM p2 => ?_)
    · simp only [m_L_when, m_X11_when, chk_ko hT.1, ob_some, c_node_n hT hR hc0 hp g1, xel_l, xel_r, gR_ko hT.1 hT.2.1.1, chk_ko k1,  xhw_r, ↓reduceIte]
      try rfl
    · have hN := hM.1.2
      simp only [m_X12_when, p1, ob_some, chk_ko hK.1, cm_node_n hK hN hc0 hp g1, i10, ↓reduceIte,  stop_of p2, p2]
      try rfl
theorem o_either_y (h : Ctx σ δ mo p3 k E bd R I jr) (hp : rng p) (ha : rng a) (hq : rng q) (hb : rng b) (g1 : gNode E p) (g2 : gNode E q) (g3 : (e_kd E p = 4 ∧ e_kd E q = 4)) (g4 : (0 ≤ a ∧ a ≤ 9)) (g5 : (0 ≤ b ∧ b ≤ 9)) (hrm : e_ct E < 60) (hx : HasN E 5 0 a b p q) : LX mo p3 (m_L_either σ 0 (ii p) (ii a) (ii q) (ii b) p3 δ) (fun d => m_X12_either σ mo (ii p) (ii a) (ii q) (ii b) d) (fun d => Core d mo k (bumpN E) bd R I jr) := by
  obtain ⟨⟨hT, hK, h3, hmo⟩, hC⟩ := id h
  have gE := hC.1.1
  have hR := hC.2.1.1.1
  have hc0 := gE.1
  have k1 : KO σ 1 5 := hT.2.2.2.2.1.2.2.2.1.1
  have rp : rI σ δ (1 + 1) (ii p) = some (ii (e_kd E p)) := c_kind hT hR hc0 g1
  have rq : rI σ δ (1 + 1) (ii q) = some (ii (e_kd E q)) := c_kind hT hR hc0 g2
  rw [g3.1] at rp
  rw [g3.2] at rq
  have e4 : (ii 4 = (4 : Int32)) = True := eq_true rfl
  have va : ∀ d, m_X11_needWithin σ (ii a) (0 : Int32) (9 : Int32) d = some (.inl ()) := fun d => c_within_y (a := 0) (b := 9) ha (by omega) (by omega) g4
  have vb : ∀ d, m_X11_needWithin σ (ii b) (0 : Int32) (9 : Int32) d = some (.inl ()) := fun d => c_within_y (a := 0) (b := 9) hb (by omega) (by omega) g5
  refine LX_node (x1 := (ii p)) (x2 := (ii a)) (x3 := (ii q)) (x4 := (ii b)) h hrm hx (GN_of hx ⟨by omega, ⟨(Or.inl ⟨by omega, by omega⟩), (Or.inl ⟨by omega, by omega⟩)⟩, by omega, fun h => absurd h (by decide), fun h => absurd h (by decide), fun _ => ⟨g3, ⟨by omega, by omega⟩, ⟨by omega, by omega⟩⟩, fun h => absurd h (by decide), fun h => absurd h (by decide), fun h => absurd h (by decide), fun _ => g1, fun _ => g2⟩) (fun D y0 y1 y2 y3 y4 => RN1_of hx ⟨y0, fun h => absurd h (by decide), fun h => absurd h (by decide), fun h => absurd h (by decide), fun h => absurd h (by decide), fun _ => ⟨y1, y2, y3, y4⟩, fun h => absurd h (by decide), fun h => absurd h (by decide), fun h => absurd h (by decide), fun h => absurd h (by decide)⟩) ?_ ?_
  · intro D t
    have t' : m_X5_add σ 1 (5 : Int32) (0 : Int32) (ii a) (ii b) (ii p) (ii q) δ = some (ii (e_ct E), D) := t
    simp only [m_L_either, m_X11_either, chk_ko hT.1, ob_some, c_node_y hT hR hc0 hp g1, c_node_y hT hR hc0 hq g2, rp, rq, e4, va, vb, c_room_y hT hR ⟨hc0.1, hrm⟩, xel_l, gR_ko hT.1 hT.2.1.1, chk_ko k1, gR_ko k1 hT.2.2.2.2.1.2.2.2.1.2.1.1, t', xhw_l, ↓reduceIte]
    try rfl
  · intro d d1 D p1 hN m hneg
    have m' : m_X12_makeNode σ mo (4 : Int32) (ii p) (ii a) (ii q) (ii b) d1 = some (ii (e_ct E), D) := m
    have sp := m_nk (σ := σ) (δ := d1) hK hN hc0.2 g1
    have sq := m_nk (σ := σ) (δ := d1) hK hN hc0.2 g2
    rw [g3.1] at sp
    rw [g3.2] at sq
    have e3 : (ii (kM 4) = (3 : Int32)) = True := eq_true rfl
    have wa : ∀ d, m_X12_in σ (ii a) (0 : Int32) (9 : Int32) d = some 1 := fun d => c_in_y (a := 0) (b := 9) ha (by omega) (by omega) g4
    have wb : ∀ d, m_X12_in σ (ii b) (0 : Int32) (9 : Int32) d = some 1 := fun d => c_in_y (a := 0) (b := 9) hb (by omega) (by omega) g5
    simp only [m_X12_either, p1, ob_some, chk_ko hK.1, cm_node_y hK hN hc0 hp g1, cm_node_y hK hN hc0 hq g2, sp, sq, e3, wa, wb, i10, ↓reduceIte, mg2 hK, m', m_told_ok hneg]
    try rfl
theorem o_either_n (h : Ctx σ δ mo p3 k E bd R I jr) (hp : rng p) (ha : rng a) (hq : rng q) (hb : rng b) (hno : ¬ (gNode E p ∧ gNode E q ∧ (e_kd E p = 4 ∧ e_kd E q = 4) ∧ (0 ≤ a ∧ a ≤ 9) ∧ (0 ≤ b ∧ b ≤ 9) ∧ e_ct E < 60)) : LX mo p3 (m_L_either σ 0 (ii p) (ii a) (ii q) (ii b) p3 δ) (fun d => m_X12_either σ mo (ii p) (ii a) (ii q) (ii b) d) (fun d => Core d mo k E bd R I jr) := by
  obtain ⟨⟨hT, hK, h3, hmo⟩, hC⟩ := id h
  have gE := hC.1.1
  have hR := hC.2.1.1.1
  have hc0 := gE.1
  have k1 : KO σ 1 5 := hT.2.2.2.2.1.2.2.2.1.1
  by_cases g1 : gNode E p
  · skip
    by_cases g2 : gNode E q
    · skip
      by_cases g3 : (e_kd E p = 4 ∧ e_kd E q = 4)
      · skip
        by_cases g4 : (0 ≤ a ∧ a ≤ 9)
        · skip
          by_cases g5 : (0 ≤ b ∧ b ≤ 9)
          · skip
            have rp : rI σ δ (1 + 1) (ii p) = some (ii (e_kd E p)) := c_kind hT hR hc0 g1
            have rq : rI σ δ (1 + 1) (ii q) = some (ii (e_kd E q)) := c_kind hT hR hc0 g2
            rw [g3.1] at rp
            rw [g3.2] at rq
            have e4 : (ii 4 = (4 : Int32)) = True := eq_true rfl
            have va : ∀ d, m_X11_needWithin σ (ii a) (0 : Int32) (9 : Int32) d = some (.inl ()) := fun d => c_within_y (a := 0) (b := 9) ha (by omega) (by omega) g4
            have vb : ∀ d, m_X11_needWithin σ (ii b) (0 : Int32) (9 : Int32) d = some (.inl ()) := fun d => c_within_y (a := 0) (b := 9) hb (by omega) (by omega) g5
            have hrm : e_ct E = 60 := Int.le_antisymm hc0.2 (Int.not_lt.mp (fun q => hno ⟨g1, g2, g3, g4, g5, q⟩))
            refine LX_ref (c := 3) h (by decide) ?_ (fun d1 d2 p1 hM p2 => ?_)
            · simp only [m_L_either, m_X11_either, chk_ko hT.1, ob_some, c_node_y hT hR hc0 hp g1, c_node_y hT hR hc0 hq g2, rp, rq, e4, va, vb, c_room_n hT hR hrm, xel_l, xel_r, gR_ko hT.1 hT.2.1.1, chk_ko k1, gR_ko k1 hT.2.2.2.2.1.2.2.2.1.2.1.1, xhw_r, ↓reduceIte]
              try rfl
            · have hN := hM.1.2
              have sp := m_nk (σ := σ) (δ := d1) hK hN hc0.2 g1
              have sq := m_nk (σ := σ) (δ := d1) hK hN hc0.2 g2
              rw [g3.1] at sp
              rw [g3.2] at sq
              have e3 : (ii (kM 4) = (3 : Int32)) = True := eq_true rfl
              have wa : ∀ d, m_X12_in σ (ii a) (0 : Int32) (9 : Int32) d = some 1 := fun d => c_in_y (a := 0) (b := 9) ha (by omega) (by omega) g4
              have wb : ∀ d, m_X12_in σ (ii b) (0 : Int32) (9 : Int32) d = some 1 := fun d => c_in_y (a := 0) (b := 9) hb (by omega) (by omega) g5
              simp only [m_X12_either, p1, ob_some, chk_ko hK.1, cm_node_y hK hN hc0 hp g1, cm_node_y hK hN hc0 hq g2, sp, sq, e3, wa, wb, i10, ↓reduceIte, mg2 hK, m_full hK hN hrm, m_told_no hK p2]
              try rfl
          · have rp : rI σ δ (1 + 1) (ii p) = some (ii (e_kd E p)) := c_kind hT hR hc0 g1
            have rq : rI σ δ (1 + 1) (ii q) = some (ii (e_kd E q)) := c_kind hT hR hc0 g2
            rw [g3.1] at rp
            rw [g3.2] at rq
            have e4 : (ii 4 = (4 : Int32)) = True := eq_true rfl
            have va : ∀ d, m_X11_needWithin σ (ii a) (0 : Int32) (9 : Int32) d = some (.inl ()) := fun d => c_within_y (a := 0) (b := 9) ha (by omega) (by omega) g4
            have vb : ∀ d, m_X11_needWithin σ (ii b) (0 : Int32) (9 : Int32) d = some (.inr 1) := fun d => c_within_n (a := 0) (b := 9) hb (by omega) (by omega) g5
            refine LX_ref (c := 2) h (by decide) ?_ (fun d1 d2 p1 hM p2 => ?_)
            · simp only [m_L_either, m_X11_either, chk_ko hT.1, ob_some, c_node_y hT hR hc0 hp g1, c_node_y hT hR hc0 hq g2, rp, rq, e4, va, vb, xel_l, xel_r, gR_ko hT.1 hT.2.1.1, chk_ko k1, gR_ko k1 hT.2.2.2.2.1.2.2.2.1.2.1.1, xhw_r, ↓reduceIte]
              try rfl
            · have hN := hM.1.2
              have sp := m_nk (σ := σ) (δ := d1) hK hN hc0.2 g1
              have sq := m_nk (σ := σ) (δ := d1) hK hN hc0.2 g2
              rw [g3.1] at sp
              rw [g3.2] at sq
              have e3 : (ii (kM 4) = (3 : Int32)) = True := eq_true rfl
              have wa : ∀ d, m_X12_in σ (ii a) (0 : Int32) (9 : Int32) d = some 1 := fun d => c_in_y (a := 0) (b := 9) ha (by omega) (by omega) g4
              have wb : ∀ d, m_X12_in σ (ii b) (0 : Int32) (9 : Int32) d = some 0 := fun d => c_in_n (a := 0) (b := 9) hb (by omega) (by omega) g5
              simp only [m_X12_either, p1, ob_some, chk_ko hK.1, cm_node_y hK hN hc0 hp g1, cm_node_y hK hN hc0 hq g2, sp, sq, e3, wa, wb, i10, ↓reduceIte, mg2 hK, m_X12_either_b21, m_X12_either_b68, stop_of p2, p2]
              try rfl
        · have rp : rI σ δ (1 + 1) (ii p) = some (ii (e_kd E p)) := c_kind hT hR hc0 g1
          have rq : rI σ δ (1 + 1) (ii q) = some (ii (e_kd E q)) := c_kind hT hR hc0 g2
          rw [g3.1] at rp
          rw [g3.2] at rq
          have e4 : (ii 4 = (4 : Int32)) = True := eq_true rfl
          have va : ∀ d, m_X11_needWithin σ (ii a) (0 : Int32) (9 : Int32) d = some (.inr 1) := fun d => c_within_n (a := 0) (b := 9) ha (by omega) (by omega) g4
          refine LX_ref (c := 2) h (by decide) ?_ (fun d1 d2 p1 hM p2 => ?_)
          · simp only [m_L_either, m_X11_either, chk_ko hT.1, ob_some, c_node_y hT hR hc0 hp g1, c_node_y hT hR hc0 hq g2, rp, rq, e4, va, xel_l, xel_r, gR_ko hT.1 hT.2.1.1, chk_ko k1, gR_ko k1 hT.2.2.2.2.1.2.2.2.1.2.1.1, xhw_r, ↓reduceIte]
            try rfl
          · have hN := hM.1.2
            have sp := m_nk (σ := σ) (δ := d1) hK hN hc0.2 g1
            have sq := m_nk (σ := σ) (δ := d1) hK hN hc0.2 g2
            rw [g3.1] at sp
            rw [g3.2] at sq
            have e3 : (ii (kM 4) = (3 : Int32)) = True := eq_true rfl
            have wa : ∀ d, m_X12_in σ (ii a) (0 : Int32) (9 : Int32) d = some 0 := fun d => c_in_n (a := 0) (b := 9) ha (by omega) (by omega) g4
            simp only [m_X12_either, p1, ob_some, chk_ko hK.1, cm_node_y hK hN hc0 hp g1, cm_node_y hK hN hc0 hq g2, sp, sq, e3, wa, i10, ↓reduceIte, mg2 hK, m_X12_either_b21, m_X12_either_b68, stop_of p2, p2]
            try rfl
      · by_cases gv : e_kd E p = 4
        · have rp : rI σ δ (1 + 1) (ii p) = some (ii (e_kd E p)) := c_kind hT hR hc0 g1
          have rq : rI σ δ (1 + 1) (ii q) = some (ii (e_kd E q)) := c_kind hT hR hc0 g2
          rw [gv] at rp
          have e4 : (ii 4 = (4 : Int32)) = True := eq_true rfl
          have n4 : (ii (e_kd E q) = (4 : Int32)) = False := eq_false (c_ne4 gE g2 (fun q => g3 ⟨gv, q⟩))
          refine LX_ref (c := 2) h (by decide) ?_ (fun d1 d2 p1 hM p2 => ?_)
          · simp only [m_L_either, m_X11_either, chk_ko hT.1, ob_some, c_node_y hT hR hc0 hp g1, c_node_y hT hR hc0 hq g2, rp, rq, e4, n4, m_X11_either_b36, xel_l, xel_r, gR_ko hT.1 hT.2.1.1, chk_ko k1, gR_ko k1 hT.2.2.2.2.1.2.2.2.1.2.1.1, xhw_r, ↓reduceIte]
            try rfl
          · have hN := hM.1.2
            have sp := m_nk (σ := σ) (δ := d1) hK hN hc0.2 g1
            have sq := m_nk (σ := σ) (δ := d1) hK hN hc0.2 g2
            rw [gv] at sp
            have e3 : (ii (kM 4) = (3 : Int32)) = True := eq_true rfl
            have n3 : (ii (kM (e_kd E q)) = (3 : Int32)) = False := eq_false (c_ne3 gE g2 (fun q => g3 ⟨gv, q⟩))
            simp only [m_X12_either, p1, ob_some, chk_ko hK.1, cm_node_y hK hN hc0 hp g1, cm_node_y hK hN hc0 hq g2, sp, sq, e3, n3, i10, ↓reduceIte, mg2 hK, m_X12_either_b21, m_X12_either_b68, stop_of p2, p2]
            try rfl
        · have rp : rI σ δ (1 + 1) (ii p) = some (ii (e_kd E p)) := c_kind hT hR hc0 g1
          have rq : rI σ δ (1 + 1) (ii q) = some (ii (e_kd E q)) := c_kind hT hR hc0 g2
          have n4 : (ii (e_kd E p) = (4 : Int32)) = False := eq_false (c_ne4 gE g1 gv)
          refine LX_ref (c := 2) h (by decide) ?_ (fun d1 d2 p1 hM p2 => ?_)
          · simp only [m_L_either, m_X11_either, chk_ko hT.1, ob_some, c_node_y hT hR hc0 hp g1, c_node_y hT hR hc0 hq g2, rp, n4, m_X11_either_b36, xel_l, xel_r, gR_ko hT.1 hT.2.1.1, chk_ko k1, gR_ko k1 hT.2.2.2.2.1.2.2.2.1.2.1.1, xhw_r, ↓reduceIte]
            try rfl
          · have hN := hM.1.2
            have sp := m_nk (σ := σ) (δ := d1) hK hN hc0.2 g1
            have n3 : (ii (kM (e_kd E p)) = (3 : Int32)) = False := eq_false (c_ne3 gE g1 gv)
            simp only [m_X12_either, p1, ob_some, chk_ko hK.1, cm_node_y hK hN hc0 hp g1, cm_node_y hK hN hc0 hq g2, sp, n3, i10, ↓reduceIte, mg2 hK, m_X12_either_b21, m_X12_either_b68, stop_of p2, p2]
            try rfl
    · refine LX_ref (c := 1) h (by decide) ?_ (fun d1 d2 p1 hM p2 => ?_)
      · simp only [m_L_either, m_X11_either, chk_ko hT.1, ob_some, c_node_y hT hR hc0 hp g1, c_node_n hT hR hc0 hq g2, xel_l, xel_r, gR_ko hT.1 hT.2.1.1, chk_ko k1, gR_ko k1 hT.2.2.2.2.1.2.2.2.1.2.1.1, xhw_r, ↓reduceIte]
        try rfl
      · have hN := hM.1.2
        simp only [m_X12_either, p1, ob_some, chk_ko hK.1, cm_node_y hK hN hc0 hp g1, cm_node_n hK hN hc0 hq g2, i10, ↓reduceIte, mg2 hK, m_X12_either_b21, m_X12_either_b68, stop_of p2, p2]
        try rfl
  · refine LX_ref (c := 1) h (by decide) ?_ (fun d1 d2 p1 hM p2 => ?_)
    · simp only [m_L_either, m_X11_either, chk_ko hT.1, ob_some, c_node_n hT hR hc0 hp g1, xel_l, xel_r, gR_ko hT.1 hT.2.1.1, chk_ko k1, gR_ko k1 hT.2.2.2.2.1.2.2.2.1.2.1.1, xhw_r, ↓reduceIte]
      try rfl
    · have hN := hM.1.2
      simp only [m_X12_either, p1, ob_some, chk_ko hK.1, cm_node_n hK hN hc0 hp g1, i10, ↓reduceIte, mg2 hK, m_X12_either_b21, m_X12_either_b68, stop_of p2, p2]
      try rfl
theorem o_hide_y (h : Ctx σ δ mo p3 k E bd R I jr) (hs : rng s) (hp : rng p) (g1 : gNode E p) (g2 : (0 ≤ s ∧ s ≤ 3)) (hrm : e_ct E < 60) (hx : HasN E 6 s 0 0 p (-1)) : LX mo p3 (m_L_hide σ 0 (ii s) (ii p) p3 δ) (fun d => m_X12_hide σ mo (ii s) (ii p) d) (fun d => Core d mo k (bumpN E) bd R I jr) := by
  obtain ⟨⟨hT, hK, h3, hmo⟩, hC⟩ := id h
  have gE := hC.1.1
  have hR := hC.2.1.1.1
  have hc0 := gE.1
  have k1 : KO σ 1 5 := hT.2.2.2.2.1.2.2.2.1.1
  have vs : ∀ d, m_X11_needWithin σ (ii s) (0 : Int32) (3 : Int32) d = some (.inl ()) := fun d => c_within_y (a := 0) (b := 3) hs (by omega) (by omega) g2
  refine LX_node (x1 := (ii s)) (x2 := (ii p)) (x3 := (0 : Int32)) (x4 := (0 : Int32)) h hrm hx (GN_of hx ⟨by omega, ⟨gT0, gT0⟩, by omega, fun h => absurd h (by decide), fun h => absurd h (by decide), fun h => absurd h (by decide), fun _ => by omega, fun h => absurd h (by decide), fun h => absurd h (by decide), fun _ => g1, fun h => absurd h (by decide)⟩) (fun D y0 y1 y2 y3 y4 => RN1_of hx ⟨y0, fun h => absurd h (by decide), fun h => absurd h (by decide), fun h => absurd h (by decide), fun h => absurd h (by decide), fun h => absurd h (by decide), fun _ => ⟨y1, y2⟩, fun h => absurd h (by decide), fun h => absurd h (by decide), fun h => absurd h (by decide)⟩) ?_ ?_
  · intro D t
    have t' : m_X5_add σ 1 (6 : Int32) (ii s) (0 : Int32) (0 : Int32) (ii p) ((-1) : Int32) δ = some (ii (e_ct E), D) := t
    simp only [m_L_hide, m_X11_hide, chk_ko hT.1, ob_some, c_node_y hT hR hc0 hp g1, vs, c_room_y hT hR ⟨hc0.1, hrm⟩, xel_l, gR_ko hT.1 hT.2.1.1, chk_ko k1,  t', xhw_l, ↓reduceIte]
    try rfl
  · intro d d1 D p1 hN m hneg
    have m' : m_X12_makeNode σ mo (5 : Int32) (ii s) (ii p) (0 : Int32) (0 : Int32) d1 = some (ii (e_ct E), D) := m
    have ws : ∀ d, m_X12_in σ (ii s) (0 : Int32) (3 : Int32) d = some 1 := fun d => c_in_y (a := 0) (b := 3) hs (by omega) (by omega) g2
    simp only [m_X12_hide, p1, ob_some, chk_ko hK.1, cm_node_y hK hN hc0 hp g1, ws, i10, ↓reduceIte,  m', m_told_ok hneg]
    try rfl
theorem o_hide_n (h : Ctx σ δ mo p3 k E bd R I jr) (hs : rng s) (hp : rng p) (hno : ¬ (gNode E p ∧ (0 ≤ s ∧ s ≤ 3) ∧ e_ct E < 60)) : LX mo p3 (m_L_hide σ 0 (ii s) (ii p) p3 δ) (fun d => m_X12_hide σ mo (ii s) (ii p) d) (fun d => Core d mo k E bd R I jr) := by
  obtain ⟨⟨hT, hK, h3, hmo⟩, hC⟩ := id h
  have gE := hC.1.1
  have hR := hC.2.1.1.1
  have hc0 := gE.1
  have k1 : KO σ 1 5 := hT.2.2.2.2.1.2.2.2.1.1
  by_cases g1 : gNode E p
  · skip
    by_cases g2 : (0 ≤ s ∧ s ≤ 3)
    · skip
      have vs : ∀ d, m_X11_needWithin σ (ii s) (0 : Int32) (3 : Int32) d = some (.inl ()) := fun d => c_within_y (a := 0) (b := 3) hs (by omega) (by omega) g2
      have hrm : e_ct E = 60 := Int.le_antisymm hc0.2 (Int.not_lt.mp (fun q => hno ⟨g1, g2, q⟩))
      refine LX_ref (c := 3) h (by decide) ?_ (fun d1 d2 p1 hM p2 => ?_)
      · simp only [m_L_hide, m_X11_hide, chk_ko hT.1, ob_some, c_node_y hT hR hc0 hp g1, vs, c_room_n hT hR hrm, xel_l, xel_r, gR_ko hT.1 hT.2.1.1, chk_ko k1,  xhw_r, ↓reduceIte]
        try rfl
      · have hN := hM.1.2
        have ws : ∀ d, m_X12_in σ (ii s) (0 : Int32) (3 : Int32) d = some 1 := fun d => c_in_y (a := 0) (b := 3) hs (by omega) (by omega) g2
        simp only [m_X12_hide, p1, ob_some, chk_ko hK.1, cm_node_y hK hN hc0 hp g1, ws, i10, ↓reduceIte,  m_full hK hN hrm, m_told_no hK p2]
        try rfl
    · have vs : ∀ d, m_X11_needWithin σ (ii s) (0 : Int32) (3 : Int32) d = some (.inr 1) := fun d => c_within_n (a := 0) (b := 3) hs (by omega) (by omega) g2
      refine LX_ref (c := 2) h (by decide) ?_ (fun d1 d2 p1 hM p2 => ?_)
      · simp only [m_L_hide, m_X11_hide, chk_ko hT.1, ob_some, c_node_y hT hR hc0 hp g1, vs, xel_l, xel_r, gR_ko hT.1 hT.2.1.1, chk_ko k1,  xhw_r, ↓reduceIte]
        try rfl
      · have hN := hM.1.2
        have ws : ∀ d, m_X12_in σ (ii s) (0 : Int32) (3 : Int32) d = some 0 := fun d => c_in_n (a := 0) (b := 3) hs (by omega) (by omega) g2
        simp only [m_X12_hide, p1, ob_some, chk_ko hK.1, cm_node_y hK hN hc0 hp g1, ws, i10, ↓reduceIte,  stop_of p2, p2]
        try rfl
  · refine LX_ref (c := 1) h (by decide) ?_ (fun d1 d2 p1 hM p2 => ?_)
    · simp only [m_L_hide, m_X11_hide, chk_ko hT.1, ob_some, c_node_n hT hR hc0 hp g1, xel_l, xel_r, gR_ko hT.1 hT.2.1.1, chk_ko k1,  xhw_r, ↓reduceIte]
      try rfl
    · have hN := hM.1.2
      simp only [m_X12_hide, p1, ob_some, chk_ko hK.1, cm_node_n hK hN hc0 hp g1, i10, ↓reduceIte,  stop_of p2, p2]
      try rfl
theorem o_call_y (h : Ctx σ δ mo p3 k E bd R I jr) (hs : rng s) (hp : rng p) (hq : rng q) (g1 : (0 ≤ s ∧ s ≤ 5)) (g2 : (gTm p ∧ gTm q)) (hrm : e_ct E < 60) (hx : HasN E 7 s p q (-1) (-1)) : LX mo p3 (m_L_call σ 0 (ii s) (ii p) (ii q) p3 δ) (fun d => m_X12_call σ mo (ii s) (ii p) (ii q) d) (fun d => Core d mo k (bumpN E) bd R I jr) := by
  obtain ⟨⟨hT, hK, h3, hmo⟩, hC⟩ := id h
  have gE := hC.1.1
  have hR := hC.2.1.1.1
  have hc0 := gE.1
  have k1 : KO σ 1 5 := hT.2.2.2.2.1.2.2.2.1.1
  refine LX_node (x1 := (ii s)) (x2 := (ii p)) (x3 := (ii q)) (x4 := (0 : Int32)) h hrm hx (GN_of hx ⟨by omega, ⟨g2.1, g2.2⟩, by omega, fun h => absurd h (by decide), fun h => absurd h (by decide), fun h => absurd h (by decide), fun h => absurd h (by decide), fun _ => by omega, fun h => absurd h (by decide), fun h => absurd h (by decide), fun h => absurd h (by decide)⟩) (fun D y0 y1 y2 y3 y4 => RN1_of hx ⟨y0, fun h => absurd h (by decide), fun h => absurd h (by decide), fun h => absurd h (by decide), fun h => absurd h (by decide), fun h => absurd h (by decide), fun h => absurd h (by decide), fun _ => ⟨y1, y2, y3⟩, fun h => absurd h (by decide), fun h => absurd h (by decide)⟩) ?_ ?_
  · intro D t
    have t' : m_X5_add σ 1 (7 : Int32) (ii s) (ii p) (ii q) ((-1) : Int32) ((-1) : Int32) δ = some (ii (e_ct E), D) := t
    simp only [m_L_call, m_X11_call, chk_ko hT.1, ob_some, c_def_y hs g1, c_terms_y hp hq g2, c_room_y hT hR ⟨hc0.1, hrm⟩, xel_l, gR_ko hT.1 hT.2.1.1, chk_ko k1,  t', xhw_l, ↓reduceIte]
    try rfl
  · intro d d1 D p1 hN m hneg
    have m' : m_X12_makeNode σ mo (6 : Int32) (ii s) (ii p) (ii q) (0 : Int32) d1 = some (ii (e_ct E), D) := m
    have ws : ∀ d, m_X12_in σ (ii s) (0 : Int32) (5 : Int32) d = some 1 := fun d => c_in_y (a := 0) (b := 5) hs (by omega) (by omega) g1
    simp only [m_X12_call, p1, ob_some, chk_ko hK.1, ws, cm_term_y hp g2.1, cm_term_y hq g2.2, i10, ↓reduceIte,  m', m_told_ok hneg]
    try rfl
theorem o_call_n (h : Ctx σ δ mo p3 k E bd R I jr) (hs : rng s) (hp : rng p) (hq : rng q) (hno : ¬ ((0 ≤ s ∧ s ≤ 5) ∧ (gTm p ∧ gTm q) ∧ e_ct E < 60)) : LX mo p3 (m_L_call σ 0 (ii s) (ii p) (ii q) p3 δ) (fun d => m_X12_call σ mo (ii s) (ii p) (ii q) d) (fun d => Core d mo k E bd R I jr) := by
  obtain ⟨⟨hT, hK, h3, hmo⟩, hC⟩ := id h
  have gE := hC.1.1
  have hR := hC.2.1.1.1
  have hc0 := gE.1
  have k1 : KO σ 1 5 := hT.2.2.2.2.1.2.2.2.1.1
  by_cases g1 : (0 ≤ s ∧ s ≤ 5)
  · skip
    by_cases g2 : (gTm p ∧ gTm q)
    · skip
      have hrm : e_ct E = 60 := Int.le_antisymm hc0.2 (Int.not_lt.mp (fun q => hno ⟨g1, g2, q⟩))
      refine LX_ref (c := 3) h (by decide) ?_ (fun d1 d2 p1 hM p2 => ?_)
      · simp only [m_L_call, m_X11_call, chk_ko hT.1, ob_some, c_def_y hs g1, c_terms_y hp hq g2, c_room_n hT hR hrm, xel_l, xel_r, gR_ko hT.1 hT.2.1.1, chk_ko k1,  xhw_r, ↓reduceIte]
        try rfl
      · have hN := hM.1.2
        have ws : ∀ d, m_X12_in σ (ii s) (0 : Int32) (5 : Int32) d = some 1 := fun d => c_in_y (a := 0) (b := 5) hs (by omega) (by omega) g1
        simp only [m_X12_call, p1, ob_some, chk_ko hK.1, ws, cm_term_y hp g2.1, cm_term_y hq g2.2, i10, ↓reduceIte,  m_full hK hN hrm, m_told_no hK p2]
        try rfl
    · by_cases gv : gTm p
      · refine LX_ref (c := 2) h (by decide) ?_ (fun d1 d2 p1 hM p2 => ?_)
        · simp only [m_L_call, m_X11_call, chk_ko hT.1, ob_some, c_def_y hs g1, c_terms_n hp hq g2, xel_l, xel_r, gR_ko hT.1 hT.2.1.1, chk_ko k1,  xhw_r, ↓reduceIte]
          try rfl
        · have hN := hM.1.2
          have ws : ∀ d, m_X12_in σ (ii s) (0 : Int32) (5 : Int32) d = some 1 := fun d => c_in_y (a := 0) (b := 5) hs (by omega) (by omega) g1
          simp only [m_X12_call, p1, ob_some, chk_ko hK.1, ws, cm_term_y hp gv, cm_term_n hq (fun q => g2 ⟨gv, q⟩), i10, ↓reduceIte,  m_X12_call_b34, stop_of p2, p2]
          try rfl
      · refine LX_ref (c := 2) h (by decide) ?_ (fun d1 d2 p1 hM p2 => ?_)
        · simp only [m_L_call, m_X11_call, chk_ko hT.1, ob_some, c_def_y hs g1, c_terms_n hp hq g2, xel_l, xel_r, gR_ko hT.1 hT.2.1.1, chk_ko k1,  xhw_r, ↓reduceIte]
          try rfl
        · have hN := hM.1.2
          have ws : ∀ d, m_X12_in σ (ii s) (0 : Int32) (5 : Int32) d = some 1 := fun d => c_in_y (a := 0) (b := 5) hs (by omega) (by omega) g1
          simp only [m_X12_call, p1, ob_some, chk_ko hK.1, ws, cm_term_n hp gv, i10, ↓reduceIte,  m_X12_call_b34, stop_of p2, p2]
          try rfl
  · refine LX_ref (c := 1) h (by decide) ?_ (fun d1 d2 p1 hM p2 => ?_)
    · simp only [m_L_call, m_X11_call, chk_ko hT.1, ob_some, c_def_n hs g1, xel_l, xel_r, gR_ko hT.1 hT.2.1.1, chk_ko k1,  xhw_r, ↓reduceIte]
      try rfl
    · have hN := hM.1.2
      have ws : ∀ d, m_X12_in σ (ii s) (0 : Int32) (5 : Int32) d = some 0 := fun d => c_in_n (a := 0) (b := 5) hs (by omega) (by omega) g1
      simp only [m_X12_call, p1, ob_some, chk_ko hK.1, ws, i10, ↓reduceIte,  m_X12_call_b34, stop_of p2, p2]
      try rfl
theorem o_next_y (h : Ctx σ δ mo p3 k E bd R I jr) (hp : rng p) (g1 : gNode E p) (hrm : e_ct E < 60) (hx : HasN E 8 0 0 0 p (-1)) : LX mo p3 (m_L_next σ 0 (ii p) p3 δ) (fun d => m_X12_next σ mo (ii p) d) (fun d => Core d mo k (bumpN E) bd R I jr) := by
  obtain ⟨⟨hT, hK, h3, hmo⟩, hC⟩ := id h
  have gE := hC.1.1
  have hR := hC.2.1.1.1
  have hc0 := gE.1
  have k1 : KO σ 1 5 := hT.2.2.2.2.1.2.2.2.1.1
  refine LX_node (x1 := (ii p)) (x2 := (0 : Int32)) (x3 := (0 : Int32)) (x4 := (0 : Int32)) h hrm hx (GN_of hx ⟨by omega, ⟨gT0, gT0⟩, by omega, fun h => absurd h (by decide), fun h => absurd h (by decide), fun h => absurd h (by decide), fun h => absurd h (by decide), fun h => absurd h (by decide), fun h => absurd h (by decide), fun _ => g1, fun h => absurd h (by decide)⟩) (fun D y0 y1 y2 y3 y4 => RN1_of hx ⟨y0, fun h => absurd h (by decide), fun h => absurd h (by decide), fun h => absurd h (by decide), fun h => absurd h (by decide), fun h => absurd h (by decide), fun h => absurd h (by decide), fun h => absurd h (by decide), fun _ => y1, fun h => absurd h (by decide)⟩) ?_ ?_
  · intro D t
    have t' : m_X5_add σ 1 (8 : Int32) (0 : Int32) (0 : Int32) (0 : Int32) (ii p) ((-1) : Int32) δ = some (ii (e_ct E), D) := t
    simp only [m_L_next, m_X11_next, chk_ko hT.1, ob_some, c_node_y hT hR hc0 hp g1, c_room_y hT hR ⟨hc0.1, hrm⟩, xel_l, gR_ko hT.1 hT.2.1.1, chk_ko k1,  t', xhw_l, ↓reduceIte]
    try rfl
  · intro d d1 D p1 hN m hneg
    have m' : m_X12_makeNode σ mo (7 : Int32) (ii p) (0 : Int32) (0 : Int32) (0 : Int32) d1 = some (ii (e_ct E), D) := m
    simp only [m_X12_next, p1, ob_some, chk_ko hK.1, cm_node_y hK hN hc0 hp g1, i10, ↓reduceIte,  m', m_told_ok hneg]
    try rfl
theorem o_next_n (h : Ctx σ δ mo p3 k E bd R I jr) (hp : rng p) (hno : ¬ (gNode E p ∧ e_ct E < 60)) : LX mo p3 (m_L_next σ 0 (ii p) p3 δ) (fun d => m_X12_next σ mo (ii p) d) (fun d => Core d mo k E bd R I jr) := by
  obtain ⟨⟨hT, hK, h3, hmo⟩, hC⟩ := id h
  have gE := hC.1.1
  have hR := hC.2.1.1.1
  have hc0 := gE.1
  have k1 : KO σ 1 5 := hT.2.2.2.2.1.2.2.2.1.1
  by_cases g1 : gNode E p
  · skip
    have hrm : e_ct E = 60 := Int.le_antisymm hc0.2 (Int.not_lt.mp (fun q => hno ⟨g1, q⟩))
    refine LX_ref (c := 2) h (by decide) ?_ (fun d1 d2 p1 hM p2 => ?_)
    · simp only [m_L_next, m_X11_next, chk_ko hT.1, ob_some, c_node_y hT hR hc0 hp g1, c_room_n hT hR hrm, xel_l, xel_r, gR_ko hT.1 hT.2.1.1, chk_ko k1,  xhw_r, ↓reduceIte]
      try rfl
    · have hN := hM.1.2
      simp only [m_X12_next, p1, ob_some, chk_ko hK.1, cm_node_y hK hN hc0 hp g1, i10, ↓reduceIte,  m_full hK hN hrm, m_told_no hK p2]
      try rfl
  · refine LX_ref (c := 1) h (by decide) ?_ (fun d1 d2 p1 hM p2 => ?_)
    · simp only [m_L_next, m_X11_next, chk_ko hT.1, ob_some, c_node_n hT hR hc0 hp g1, xel_l, xel_r, gR_ko hT.1 hT.2.1.1, chk_ko k1,  xhw_r, ↓reduceIte]
      try rfl
    · have hN := hM.1.2
      simp only [m_X12_next, p1, ob_some, chk_ko hK.1, cm_node_n hK hN hc0 hp g1, i10, ↓reduceIte,  stop_of p2, p2]
      try rfl
theorem o_each_y (h : Ctx σ δ mo p3 k E bd R I jr) (hp : rng p) (g1 : gNode E p) (hrm : e_ct E < 60) (hx : HasN E 9 0 0 0 p (-1)) : LX mo p3 (m_L_each σ 0 (ii p) p3 δ) (fun d => m_X12_each σ mo (ii p) d) (fun d => Core d mo k (bumpN E) bd R I jr) := by
  obtain ⟨⟨hT, hK, h3, hmo⟩, hC⟩ := id h
  have gE := hC.1.1
  have hR := hC.2.1.1.1
  have hc0 := gE.1
  have k1 : KO σ 1 5 := hT.2.2.2.2.1.2.2.2.1.1
  refine LX_node (x1 := (ii p)) (x2 := (0 : Int32)) (x3 := (0 : Int32)) (x4 := (0 : Int32)) h hrm hx (GN_of hx ⟨by omega, ⟨gT0, gT0⟩, by omega, fun h => absurd h (by decide), fun h => absurd h (by decide), fun h => absurd h (by decide), fun h => absurd h (by decide), fun h => absurd h (by decide), fun h => absurd h (by decide), fun _ => g1, fun h => absurd h (by decide)⟩) (fun D y0 y1 y2 y3 y4 => RN1_of hx ⟨y0, fun h => absurd h (by decide), fun h => absurd h (by decide), fun h => absurd h (by decide), fun h => absurd h (by decide), fun h => absurd h (by decide), fun h => absurd h (by decide), fun h => absurd h (by decide), fun _ => y1, fun h => absurd h (by decide)⟩) ?_ ?_
  · intro D t
    have t' : m_X5_add σ 1 (9 : Int32) (0 : Int32) (0 : Int32) (0 : Int32) (ii p) ((-1) : Int32) δ = some (ii (e_ct E), D) := t
    simp only [m_L_each, m_X11_each, chk_ko hT.1, ob_some, c_node_y hT hR hc0 hp g1, c_room_y hT hR ⟨hc0.1, hrm⟩, xel_l, gR_ko hT.1 hT.2.1.1, chk_ko k1,  t', xhw_l, ↓reduceIte]
    try rfl
  · intro d d1 D p1 hN m hneg
    have m' : m_X12_makeNode σ mo (8 : Int32) (ii p) (0 : Int32) (0 : Int32) (0 : Int32) d1 = some (ii (e_ct E), D) := m
    simp only [m_X12_each, p1, ob_some, chk_ko hK.1, cm_node_y hK hN hc0 hp g1, i10, ↓reduceIte,  m', m_told_ok hneg]
    try rfl
theorem o_each_n (h : Ctx σ δ mo p3 k E bd R I jr) (hp : rng p) (hno : ¬ (gNode E p ∧ e_ct E < 60)) : LX mo p3 (m_L_each σ 0 (ii p) p3 δ) (fun d => m_X12_each σ mo (ii p) d) (fun d => Core d mo k E bd R I jr) := by
  obtain ⟨⟨hT, hK, h3, hmo⟩, hC⟩ := id h
  have gE := hC.1.1
  have hR := hC.2.1.1.1
  have hc0 := gE.1
  have k1 : KO σ 1 5 := hT.2.2.2.2.1.2.2.2.1.1
  by_cases g1 : gNode E p
  · skip
    have hrm : e_ct E = 60 := Int.le_antisymm hc0.2 (Int.not_lt.mp (fun q => hno ⟨g1, q⟩))
    refine LX_ref (c := 2) h (by decide) ?_ (fun d1 d2 p1 hM p2 => ?_)
    · simp only [m_L_each, m_X11_each, chk_ko hT.1, ob_some, c_node_y hT hR hc0 hp g1, c_room_n hT hR hrm, xel_l, xel_r, gR_ko hT.1 hT.2.1.1, chk_ko k1,  xhw_r, ↓reduceIte]
      try rfl
    · have hN := hM.1.2
      simp only [m_X12_each, p1, ob_some, chk_ko hK.1, cm_node_y hK hN hc0 hp g1, i10, ↓reduceIte,  m_full hK hN hrm, m_told_no hK p2]
      try rfl
  · refine LX_ref (c := 1) h (by decide) ?_ (fun d1 d2 p1 hM p2 => ?_)
    · simp only [m_L_each, m_X11_each, chk_ko hT.1, ob_some, c_node_n hT hR hc0 hp g1, xel_l, xel_r, gR_ko hT.1 hT.2.1.1, chk_ko k1,  xhw_r, ↓reduceIte]
      try rfl
    · have hN := hM.1.2
      simp only [m_X12_each, p1, ob_some, chk_ko hK.1, cm_node_n hK hN hc0 hp g1, i10, ↓reduceIte,  stop_of p2, p2]
      try rfl
theorem o_lot_y (h : Ctx σ δ mo p3 k E bd R I jr) (ha : rng a) (hp : rng p) (hb : rng b) (hq : rng q) (g1 : gNode E p) (g2 : gNode E q) (g3 : (1 ≤ a ∧ a ≤ 9)) (g4 : (1 ≤ b ∧ b ≤ 9)) (hrm : e_ct E < 60) (hx : HasN E 12 0 a b p q) : LX mo p3 (m_L_lot σ 0 (ii a) (ii p) (ii b) (ii q) p3 δ) (fun d => m_X12_lot σ mo (ii a) (ii p) (ii b) (ii q) d) (fun d => Core d mo k (bumpN E) bd R I jr) := by
  obtain ⟨⟨hT, hK, h3, hmo⟩, hC⟩ := id h
  have gE := hC.1.1
  have hR := hC.2.1.1.1
  have hc0 := gE.1
  have k1 : KO σ 1 5 := hT.2.2.2.2.1.2.2.2.1.1
  have va : ∀ d, m_X11_needWithin σ (ii a) (1 : Int32) (9 : Int32) d = some (.inl ()) := fun d => c_within_y (a := 1) (b := 9) ha (by omega) (by omega) g3
  have vb : ∀ d, m_X11_needWithin σ (ii b) (1 : Int32) (9 : Int32) d = some (.inl ()) := fun d => c_within_y (a := 1) (b := 9) hb (by omega) (by omega) g4
  refine LX_node (x1 := (ii a)) (x2 := (ii p)) (x3 := (ii b)) (x4 := (ii q)) h hrm hx (GN_of hx ⟨by omega, ⟨(Or.inl ⟨by omega, by omega⟩), (Or.inl ⟨by omega, by omega⟩)⟩, by omega, fun h => absurd h (by decide), fun h => absurd h (by decide), fun h => absurd h (by decide), fun h => absurd h (by decide), fun h => absurd h (by decide), fun _ => ⟨by omega, by omega⟩, fun _ => g1, fun _ => g2⟩) (fun D y0 y1 y2 y3 y4 => RN1_of hx ⟨y0, fun h => absurd h (by decide), fun h => absurd h (by decide), fun h => absurd h (by decide), fun h => absurd h (by decide), fun h => absurd h (by decide), fun h => absurd h (by decide), fun h => absurd h (by decide), fun h => absurd h (by decide), fun _ => ⟨y1, y2, y3, y4⟩⟩) ?_ ?_
  · intro D t
    have t' : m_X5_add σ 1 (12 : Int32) (0 : Int32) (ii a) (ii b) (ii p) (ii q) δ = some (ii (e_ct E), D) := t
    simp only [m_L_lot, m_X11_lot, chk_ko hT.1, ob_some, c_node_y hT hR hc0 hp g1, c_node_y hT hR hc0 hq g2, va, vb, c_room_y hT hR ⟨hc0.1, hrm⟩, xel_l, gR_ko hT.1 hT.2.1.1, chk_ko k1,  t', xhw_l, ↓reduceIte]
    try rfl
  · intro d d1 D p1 hN m hneg
    have m' : m_X12_makeNode σ mo (11 : Int32) (ii a) (ii p) (ii b) (ii q) d1 = some (ii (e_ct E), D) := m
    have wa : ∀ d, m_X12_in σ (ii a) (1 : Int32) (9 : Int32) d = some 1 := fun d => c_in_y (a := 1) (b := 9) ha (by omega) (by omega) g3
    have wb : ∀ d, m_X12_in σ (ii b) (1 : Int32) (9 : Int32) d = some 1 := fun d => c_in_y (a := 1) (b := 9) hb (by omega) (by omega) g4
    simp only [m_X12_lot, p1, ob_some, chk_ko hK.1, cm_node_y hK hN hc0 hp g1, cm_node_y hK hN hc0 hq g2, wa, wb, i10, ↓reduceIte,  m', m_told_ok hneg]
    try rfl
theorem o_lot_n (h : Ctx σ δ mo p3 k E bd R I jr) (ha : rng a) (hp : rng p) (hb : rng b) (hq : rng q) (hno : ¬ (gNode E p ∧ gNode E q ∧ (1 ≤ a ∧ a ≤ 9) ∧ (1 ≤ b ∧ b ≤ 9) ∧ e_ct E < 60)) : LX mo p3 (m_L_lot σ 0 (ii a) (ii p) (ii b) (ii q) p3 δ) (fun d => m_X12_lot σ mo (ii a) (ii p) (ii b) (ii q) d) (fun d => Core d mo k E bd R I jr) := by
  obtain ⟨⟨hT, hK, h3, hmo⟩, hC⟩ := id h
  have gE := hC.1.1
  have hR := hC.2.1.1.1
  have hc0 := gE.1
  have k1 : KO σ 1 5 := hT.2.2.2.2.1.2.2.2.1.1
  by_cases g1 : gNode E p
  · skip
    by_cases g2 : gNode E q
    · skip
      by_cases g3 : (1 ≤ a ∧ a ≤ 9)
      · skip
        by_cases g4 : (1 ≤ b ∧ b ≤ 9)
        · skip
          have va : ∀ d, m_X11_needWithin σ (ii a) (1 : Int32) (9 : Int32) d = some (.inl ()) := fun d => c_within_y (a := 1) (b := 9) ha (by omega) (by omega) g3
          have vb : ∀ d, m_X11_needWithin σ (ii b) (1 : Int32) (9 : Int32) d = some (.inl ()) := fun d => c_within_y (a := 1) (b := 9) hb (by omega) (by omega) g4
          have hrm : e_ct E = 60 := Int.le_antisymm hc0.2 (Int.not_lt.mp (fun q => hno ⟨g1, g2, g3, g4, q⟩))
          refine LX_ref (c := 3) h (by decide) ?_ (fun d1 d2 p1 hM p2 => ?_)
          · simp only [m_L_lot, m_X11_lot, chk_ko hT.1, ob_some, c_node_y hT hR hc0 hp g1, c_node_y hT hR hc0 hq g2, va, vb, c_room_n hT hR hrm, xel_l, xel_r, gR_ko hT.1 hT.2.1.1, chk_ko k1,  xhw_r, ↓reduceIte]
            try rfl
          · have hN := hM.1.2
            have wa : ∀ d, m_X12_in σ (ii a) (1 : Int32) (9 : Int32) d = some 1 := fun d => c_in_y (a := 1) (b := 9) ha (by omega) (by omega) g3
            have wb : ∀ d, m_X12_in σ (ii b) (1 : Int32) (9 : Int32) d = some 1 := fun d => c_in_y (a := 1) (b := 9) hb (by omega) (by omega) g4
            simp only [m_X12_lot, p1, ob_some, chk_ko hK.1, cm_node_y hK hN hc0 hp g1, cm_node_y hK hN hc0 hq g2, wa, wb, i10, ↓reduceIte,  m_full hK hN hrm, m_told_no hK p2]
            try rfl
        · have va : ∀ d, m_X11_needWithin σ (ii a) (1 : Int32) (9 : Int32) d = some (.inl ()) := fun d => c_within_y (a := 1) (b := 9) ha (by omega) (by omega) g3
          have vb : ∀ d, m_X11_needWithin σ (ii b) (1 : Int32) (9 : Int32) d = some (.inr 1) := fun d => c_within_n (a := 1) (b := 9) hb (by omega) (by omega) g4
          refine LX_ref (c := 2) h (by decide) ?_ (fun d1 d2 p1 hM p2 => ?_)
          · simp only [m_L_lot, m_X11_lot, chk_ko hT.1, ob_some, c_node_y hT hR hc0 hp g1, c_node_y hT hR hc0 hq g2, va, vb, xel_l, xel_r, gR_ko hT.1 hT.2.1.1, chk_ko k1,  xhw_r, ↓reduceIte]
            try rfl
          · have hN := hM.1.2
            have wa : ∀ d, m_X12_in σ (ii a) (1 : Int32) (9 : Int32) d = some 1 := fun d => c_in_y (a := 1) (b := 9) ha (by omega) (by omega) g3
            have wb : ∀ d, m_X12_in σ (ii b) (1 : Int32) (9 : Int32) d = some 0 := fun d => c_in_n (a := 1) (b := 9) hb (by omega) (by omega) g4
            simp only [m_X12_lot, p1, ob_some, chk_ko hK.1, cm_node_y hK hN hc0 hp g1, cm_node_y hK hN hc0 hq g2, wa, wb, i10, ↓reduceIte,  m_X12_lot_b22, m_X12_lot_b48, stop_of p2, p2]
            try rfl
      · have va : ∀ d, m_X11_needWithin σ (ii a) (1 : Int32) (9 : Int32) d = some (.inr 1) := fun d => c_within_n (a := 1) (b := 9) ha (by omega) (by omega) g3
        refine LX_ref (c := 2) h (by decide) ?_ (fun d1 d2 p1 hM p2 => ?_)
        · simp only [m_L_lot, m_X11_lot, chk_ko hT.1, ob_some, c_node_y hT hR hc0 hp g1, c_node_y hT hR hc0 hq g2, va, xel_l, xel_r, gR_ko hT.1 hT.2.1.1, chk_ko k1,  xhw_r, ↓reduceIte]
          try rfl
        · have hN := hM.1.2
          have wa : ∀ d, m_X12_in σ (ii a) (1 : Int32) (9 : Int32) d = some 0 := fun d => c_in_n (a := 1) (b := 9) ha (by omega) (by omega) g3
          simp only [m_X12_lot, p1, ob_some, chk_ko hK.1, cm_node_y hK hN hc0 hp g1, cm_node_y hK hN hc0 hq g2, wa, i10, ↓reduceIte,  m_X12_lot_b22, m_X12_lot_b48, stop_of p2, p2]
          try rfl
    · refine LX_ref (c := 1) h (by decide) ?_ (fun d1 d2 p1 hM p2 => ?_)
      · simp only [m_L_lot, m_X11_lot, chk_ko hT.1, ob_some, c_node_y hT hR hc0 hp g1, c_node_n hT hR hc0 hq g2, xel_l, xel_r, gR_ko hT.1 hT.2.1.1, chk_ko k1,  xhw_r, ↓reduceIte]
        try rfl
      · have hN := hM.1.2
        simp only [m_X12_lot, p1, ob_some, chk_ko hK.1, cm_node_y hK hN hc0 hp g1, cm_node_n hK hN hc0 hq g2, i10, ↓reduceIte,  m_X12_lot_b22, m_X12_lot_b48, stop_of p2, p2]
        try rfl
  · refine LX_ref (c := 1) h (by decide) ?_ (fun d1 d2 p1 hM p2 => ?_)
    · simp only [m_L_lot, m_X11_lot, chk_ko hT.1, ob_some, c_node_n hT hR hc0 hp g1, xel_l, xel_r, gR_ko hT.1 hT.2.1.1, chk_ko k1,  xhw_r, ↓reduceIte]
      try rfl
    · have hN := hM.1.2
      simp only [m_X12_lot, p1, ob_some, chk_ko hK.1, cm_node_n hK hN hc0 hp g1, i10, ↓reduceIte,  m_X12_lot_b22, m_X12_lot_b48, stop_of p2, p2]
      try rfl
theorem o_attempt_y (h : Ctx σ δ mo p3 k E bd R I jr) (hp : rng p) (hq : rng q) (g1 : gNode E p) (g2 : gNode E q) (hrm : e_ct E < 60) (hx : HasN E 13 0 0 0 p q) : LX mo p3 (m_L_attempt σ 0 (ii p) (ii q) p3 δ) (fun d => m_X12_attempt σ mo (ii p) (ii q) d) (fun d => Core d mo k (bumpN E) bd R I jr) := by
  obtain ⟨⟨hT, hK, h3, hmo⟩, hC⟩ := id h
  have gE := hC.1.1
  have hR := hC.2.1.1.1
  have hc0 := gE.1
  have k1 : KO σ 1 5 := hT.2.2.2.2.1.2.2.2.1.1
  refine LX_node (x1 := (ii p)) (x2 := (ii q)) (x3 := (0 : Int32)) (x4 := (0 : Int32)) h hrm hx (GN_of hx ⟨by omega, ⟨gT0, gT0⟩, by omega, fun h => absurd h (by decide), fun h => absurd h (by decide), fun h => absurd h (by decide), fun h => absurd h (by decide), fun h => absurd h (by decide), fun h => absurd h (by decide), fun _ => g1, fun _ => g2⟩) (fun D y0 y1 y2 y3 y4 => RN1_of hx ⟨y0, fun h => absurd h (by decide), fun h => absurd h (by decide), fun _ => ⟨y1, y2⟩, fun h => absurd h (by decide), fun h => absurd h (by decide), fun h => absurd h (by decide), fun h => absurd h (by decide), fun h => absurd h (by decide), fun h => absurd h (by decide)⟩) ?_ ?_
  · intro D t
    have t' : m_X5_add σ 1 (13 : Int32) (0 : Int32) (0 : Int32) (0 : Int32) (ii p) (ii q) δ = some (ii (e_ct E), D) := t
    simp only [m_L_attempt, m_X11_attempt, chk_ko hT.1, ob_some, c_node_y hT hR hc0 hp g1, c_node_y hT hR hc0 hq g2, c_room_y hT hR ⟨hc0.1, hrm⟩, xel_l, gR_ko hT.1 hT.2.1.1, chk_ko k1,  t', xhw_l, ↓reduceIte]
    try rfl
  · intro d d1 D p1 hN m hneg
    have m' : m_X12_makeNode σ mo (12 : Int32) (ii p) (ii q) (0 : Int32) (0 : Int32) d1 = some (ii (e_ct E), D) := m
    simp only [m_X12_attempt, p1, ob_some, chk_ko hK.1, cm_node_y hK hN hc0 hp g1, cm_node_y hK hN hc0 hq g2, i10, ↓reduceIte,  m', m_told_ok hneg]
    try rfl
theorem o_attempt_n (h : Ctx σ δ mo p3 k E bd R I jr) (hp : rng p) (hq : rng q) (hno : ¬ (gNode E p ∧ gNode E q ∧ e_ct E < 60)) : LX mo p3 (m_L_attempt σ 0 (ii p) (ii q) p3 δ) (fun d => m_X12_attempt σ mo (ii p) (ii q) d) (fun d => Core d mo k E bd R I jr) := by
  obtain ⟨⟨hT, hK, h3, hmo⟩, hC⟩ := id h
  have gE := hC.1.1
  have hR := hC.2.1.1.1
  have hc0 := gE.1
  have k1 : KO σ 1 5 := hT.2.2.2.2.1.2.2.2.1.1
  by_cases g1 : gNode E p
  · skip
    by_cases g2 : gNode E q
    · skip
      have hrm : e_ct E = 60 := Int.le_antisymm hc0.2 (Int.not_lt.mp (fun q => hno ⟨g1, g2, q⟩))
      refine LX_ref (c := 2) h (by decide) ?_ (fun d1 d2 p1 hM p2 => ?_)
      · simp only [m_L_attempt, m_X11_attempt, chk_ko hT.1, ob_some, c_node_y hT hR hc0 hp g1, c_node_y hT hR hc0 hq g2, c_room_n hT hR hrm, xel_l, xel_r, gR_ko hT.1 hT.2.1.1, chk_ko k1,  xhw_r, ↓reduceIte]
        try rfl
      · have hN := hM.1.2
        simp only [m_X12_attempt, p1, ob_some, chk_ko hK.1, cm_node_y hK hN hc0 hp g1, cm_node_y hK hN hc0 hq g2, i10, ↓reduceIte,  m_full hK hN hrm, m_told_no hK p2]
        try rfl
    · refine LX_ref (c := 1) h (by decide) ?_ (fun d1 d2 p1 hM p2 => ?_)
      · simp only [m_L_attempt, m_X11_attempt, chk_ko hT.1, ob_some, c_node_y hT hR hc0 hp g1, c_node_n hT hR hc0 hq g2, xel_l, xel_r, gR_ko hT.1 hT.2.1.1, chk_ko k1,  xhw_r, ↓reduceIte]
        try rfl
      · have hN := hM.1.2
        simp only [m_X12_attempt, p1, ob_some, chk_ko hK.1, cm_node_y hK hN hc0 hp g1, cm_node_n hK hN hc0 hq g2, i10, ↓reduceIte,  m_X12_attempt_b21, stop_of p2, p2]
        try rfl
  · refine LX_ref (c := 1) h (by decide) ?_ (fun d1 d2 p1 hM p2 => ?_)
    · simp only [m_L_attempt, m_X11_attempt, chk_ko hT.1, ob_some, c_node_n hT hR hc0 hp g1, xel_l, xel_r, gR_ko hT.1 hT.2.1.1, chk_ko k1,  xhw_r, ↓reduceIte]
      try rfl
    · have hN := hM.1.2
      simp only [m_X12_attempt, p1, ob_some, chk_ko hK.1, cm_node_n hK hN hc0 hp g1, i10, ↓reduceIte,  m_X12_attempt_b21, stop_of p2, p2]
      try rfl
theorem o_token0_y (h : Ctx σ δ mo p3 k E bd R I jr) (hs : rng s) (hp : rng p) (hq : rng q) (g1 : (0 ≤ s ∧ s ≤ 5)) (g2 : (gTm p ∧ gTm q)) (hrm : e_ct E < 60) (hx : HasN E 1 s p q (-1) (-1)) : LX mo p3 (m_L_token σ 0 (ii s) (ii p) (ii q) (0 : Int32) p3 δ) (fun d => m_X12_token σ mo (ii s) (ii p) (ii q) (0 : Int32) d) (fun d => Core d mo k (bumpN E) bd R I jr) := by
  obtain ⟨⟨hT, hK, h3, hmo⟩, hC⟩ := id h
  have gE := hC.1.1
  have hR := hC.2.1.1.1
  have hc0 := gE.1
  have k1 : KO σ 1 5 := hT.2.2.2.2.1.2.2.2.1.1
  refine LX_node (x1 := (ii s)) (x2 := (ii p)) (x3 := (ii q)) (x4 := (0 : Int32)) h hrm hx (GN_of hx ⟨by omega, ⟨g2.1, g2.2⟩, by omega, fun _ => by omega, fun h => absurd h (by decide), fun h => absurd h (by decide), fun h => absurd h (by decide), fun h => absurd h (by decide), fun h => absurd h (by decide), fun h => absurd h (by decide), fun h => absurd h (by decide)⟩) (fun D y0 y1 y2 y3 y4 => RN1_of hx ⟨y0, fun h => absurd h (by decide), fun _ => ⟨y1, y2, y3, y4⟩, fun h => absurd h (by decide), fun h => absurd h (by decide), fun h => absurd h (by decide), fun h => absurd h (by decide), fun h => absurd h (by decide), fun h => absurd h (by decide), fun h => absurd h (by decide)⟩) ?_ ?_
  · intro D t
    have t' : m_X5_add σ 1 (1 : Int32) (ii s) (ii p) (ii q) ((-1) : Int32) ((-1) : Int32) δ = some (ii (e_ct E), D) := t
    simp only [m_L_token, m_X11_token, chk_ko hT.1, ob_some, c_sort_y hs g1, c_terms_y hp hq g2, c_room_y hT hR ⟨hc0.1, hrm⟩, xel_l, gR_ko hT.1 hT.2.1.1, chk_ko k1, m_X11_token_b27, i10, t', xhw_l, ↓reduceIte]
    try rfl
  · intro d d1 D p1 hN m hneg
    have m' : m_X12_makeNode σ mo (1 : Int32) (ii s) (ii p) (ii q) (0 : Int32) d1 = some (ii (e_ct E), D) := m
    have ws : ∀ d, m_X12_in σ (ii s) (0 : Int32) (5 : Int32) d = some 1 := fun d => c_in_y (a := 0) (b := 5) hs (by omega) (by omega) g1
    simp only [m_X12_token, p1, ob_some, chk_ko hK.1, ws, cm_term_y hp g2.1, cm_term_y hq g2.2, i10, ↓reduceIte, m_X12_token_b50, m', m_told_ok hneg]
    try rfl
theorem o_token0_n (h : Ctx σ δ mo p3 k E bd R I jr) (hs : rng s) (hp : rng p) (hq : rng q) (hno : ¬ ((0 ≤ s ∧ s ≤ 5) ∧ (gTm p ∧ gTm q) ∧ e_ct E < 60)) : LX mo p3 (m_L_token σ 0 (ii s) (ii p) (ii q) (0 : Int32) p3 δ) (fun d => m_X12_token σ mo (ii s) (ii p) (ii q) (0 : Int32) d) (fun d => Core d mo k E bd R I jr) := by
  obtain ⟨⟨hT, hK, h3, hmo⟩, hC⟩ := id h
  have gE := hC.1.1
  have hR := hC.2.1.1.1
  have hc0 := gE.1
  have k1 : KO σ 1 5 := hT.2.2.2.2.1.2.2.2.1.1
  by_cases g1 : (0 ≤ s ∧ s ≤ 5)
  · skip
    by_cases g2 : (gTm p ∧ gTm q)
    · skip
      have hrm : e_ct E = 60 := Int.le_antisymm hc0.2 (Int.not_lt.mp (fun q => hno ⟨g1, g2, q⟩))
      refine LX_ref (c := 2) h (by decide) ?_ (fun d1 d2 p1 hM p2 => ?_)
      · simp only [m_L_token, m_X11_token, chk_ko hT.1, ob_some, c_sort_y hs g1, c_terms_y hp hq g2, c_room_n hT hR hrm, xel_l, xel_r, gR_ko hT.1 hT.2.1.1, chk_ko k1, m_X11_token_b27, i10, xhw_r, ↓reduceIte]
        try rfl
      · have hN := hM.1.2
        have ws : ∀ d, m_X12_in σ (ii s) (0 : Int32) (5 : Int32) d = some 1 := fun d => c_in_y (a := 0) (b := 5) hs (by omega) (by omega) g1
        simp only [m_X12_token, p1, ob_some, chk_ko hK.1, ws, cm_term_y hp g2.1, cm_term_y hq g2.2, i10, ↓reduceIte, m_X12_token_b50, m_full hK hN hrm, m_told_no hK p2]
        try rfl
    · by_cases gv : gTm p
      · refine LX_ref (c := 1) h (by decide) ?_ (fun d1 d2 p1 hM p2 => ?_)
        · simp only [m_L_token, m_X11_token, chk_ko hT.1, ob_some, c_sort_y hs g1, c_terms_n hp hq g2, xel_l, xel_r, gR_ko hT.1 hT.2.1.1, chk_ko k1, m_X11_token_b27, i10, xhw_r, ↓reduceIte]
          try rfl
        · have hN := hM.1.2
          have ws : ∀ d, m_X12_in σ (ii s) (0 : Int32) (5 : Int32) d = some 1 := fun d => c_in_y (a := 0) (b := 5) hs (by omega) (by omega) g1
          simp only [m_X12_token, p1, ob_some, chk_ko hK.1, ws, cm_term_y hp gv, cm_term_n hq (fun q => g2 ⟨gv, q⟩), i10, ↓reduceIte, m_X12_token_b50, m_X12_token_b28, stop_of p2, p2]
          try rfl
      · refine LX_ref (c := 1) h (by decide) ?_ (fun d1 d2 p1 hM p2 => ?_)
        · simp only [m_L_token, m_X11_token, chk_ko hT.1, ob_some, c_sort_y hs g1, c_terms_n hp hq g2, xel_l, xel_r, gR_ko hT.1 hT.2.1.1, chk_ko k1, m_X11_token_b27, i10, xhw_r, ↓reduceIte]
          try rfl
        · have hN := hM.1.2
          have ws : ∀ d, m_X12_in σ (ii s) (0 : Int32) (5 : Int32) d = some 1 := fun d => c_in_y (a := 0) (b := 5) hs (by omega) (by omega) g1
          simp only [m_X12_token, p1, ob_some, chk_ko hK.1, ws, cm_term_n hp gv, i10, ↓reduceIte, m_X12_token_b50, m_X12_token_b28, stop_of p2, p2]
          try rfl
  · refine LX_ref (c := 1) h (by decide) ?_ (fun d1 d2 p1 hM p2 => ?_)
    · simp only [m_L_token, m_X11_token, chk_ko hT.1, ob_some, c_sort_n hs g1, xel_l, xel_r, gR_ko hT.1 hT.2.1.1, chk_ko k1, m_X11_token_b27, i10, xhw_r, ↓reduceIte]
      try rfl
    · have hN := hM.1.2
      have ws : ∀ d, m_X12_in σ (ii s) (0 : Int32) (5 : Int32) d = some 0 := fun d => c_in_n (a := 0) (b := 5) hs (by omega) (by omega) g1
      simp only [m_X12_token, p1, ob_some, chk_ko hK.1, ws, i10, ↓reduceIte, m_X12_token_b50, m_X12_token_b28, stop_of p2, p2]
      try rfl
theorem o_token1_y (h : Ctx σ δ mo p3 k E bd R I jr) (hs : rng s) (hp : rng p) (hq : rng q) (g1 : (0 ≤ s ∧ s ≤ 5)) (g2 : (gTm p ∧ gTm q)) (hrm : e_ct E < 60) (hx : HasN E 2 s p q (-1) (-1)) : LX mo p3 (m_L_token σ 0 (ii s) (ii p) (ii q) (1 : Int32) p3 δ) (fun d => m_X12_token σ mo (ii s) (ii p) (ii q) (1 : Int32) d) (fun d => Core d mo k (bumpN E) bd R I jr) := by
  obtain ⟨⟨hT, hK, h3, hmo⟩, hC⟩ := id h
  have gE := hC.1.1
  have hR := hC.2.1.1.1
  have hc0 := gE.1
  have k1 : KO σ 1 5 := hT.2.2.2.2.1.2.2.2.1.1
  refine LX_node (x1 := (ii s)) (x2 := (ii p)) (x3 := (ii q)) (x4 := (1 : Int32)) h hrm hx (GN_of hx ⟨by omega, ⟨g2.1, g2.2⟩, by omega, fun _ => by omega, fun h => absurd h (by decide), fun h => absurd h (by decide), fun h => absurd h (by decide), fun h => absurd h (by decide), fun h => absurd h (by decide), fun h => absurd h (by decide), fun h => absurd h (by decide)⟩) (fun D y0 y1 y2 y3 y4 => RN1_of hx ⟨y0, fun h => absurd h (by decide), fun _ => ⟨y1, y2, y3, y4⟩, fun h => absurd h (by decide), fun h => absurd h (by decide), fun h => absurd h (by decide), fun h => absurd h (by decide), fun h => absurd h (by decide), fun h => absurd h (by decide), fun h => absurd h (by decide)⟩) ?_ ?_
  · intro D t
    have t' : m_X5_add σ 1 (2 : Int32) (ii s) (ii p) (ii q) ((-1) : Int32) ((-1) : Int32) δ = some (ii (e_ct E), D) := t
    simp only [m_L_token, m_X11_token, chk_ko hT.1, ob_some, c_sort_y hs g1, c_terms_y hp hq g2, c_room_y hT hR ⟨hc0.1, hrm⟩, xel_l, gR_ko hT.1 hT.2.1.1, chk_ko k1, m_X11_token_b27, i10, t', xhw_l, ↓reduceIte]
    try rfl
  · intro d d1 D p1 hN m hneg
    have m' : m_X12_makeNode σ mo (1 : Int32) (ii s) (ii p) (ii q) (1 : Int32) d1 = some (ii (e_ct E), D) := m
    have ws : ∀ d, m_X12_in σ (ii s) (0 : Int32) (5 : Int32) d = some 1 := fun d => c_in_y (a := 0) (b := 5) hs (by omega) (by omega) g1
    simp only [m_X12_token, p1, ob_some, chk_ko hK.1, ws, cm_term_y hp g2.1, cm_term_y hq g2.2, i10, ↓reduceIte, m_X12_token_b50, m', m_told_ok hneg]
    try rfl
theorem o_token1_n (h : Ctx σ δ mo p3 k E bd R I jr) (hs : rng s) (hp : rng p) (hq : rng q) (hno : ¬ ((0 ≤ s ∧ s ≤ 5) ∧ (gTm p ∧ gTm q) ∧ e_ct E < 60)) : LX mo p3 (m_L_token σ 0 (ii s) (ii p) (ii q) (1 : Int32) p3 δ) (fun d => m_X12_token σ mo (ii s) (ii p) (ii q) (1 : Int32) d) (fun d => Core d mo k E bd R I jr) := by
  obtain ⟨⟨hT, hK, h3, hmo⟩, hC⟩ := id h
  have gE := hC.1.1
  have hR := hC.2.1.1.1
  have hc0 := gE.1
  have k1 : KO σ 1 5 := hT.2.2.2.2.1.2.2.2.1.1
  by_cases g1 : (0 ≤ s ∧ s ≤ 5)
  · skip
    by_cases g2 : (gTm p ∧ gTm q)
    · skip
      have hrm : e_ct E = 60 := Int.le_antisymm hc0.2 (Int.not_lt.mp (fun q => hno ⟨g1, g2, q⟩))
      refine LX_ref (c := 2) h (by decide) ?_ (fun d1 d2 p1 hM p2 => ?_)
      · simp only [m_L_token, m_X11_token, chk_ko hT.1, ob_some, c_sort_y hs g1, c_terms_y hp hq g2, c_room_n hT hR hrm, xel_l, xel_r, gR_ko hT.1 hT.2.1.1, chk_ko k1, m_X11_token_b27, i10, xhw_r, ↓reduceIte]
        try rfl
      · have hN := hM.1.2
        have ws : ∀ d, m_X12_in σ (ii s) (0 : Int32) (5 : Int32) d = some 1 := fun d => c_in_y (a := 0) (b := 5) hs (by omega) (by omega) g1
        simp only [m_X12_token, p1, ob_some, chk_ko hK.1, ws, cm_term_y hp g2.1, cm_term_y hq g2.2, i10, ↓reduceIte, m_X12_token_b50, m_full hK hN hrm, m_told_no hK p2]
        try rfl
    · by_cases gv : gTm p
      · refine LX_ref (c := 1) h (by decide) ?_ (fun d1 d2 p1 hM p2 => ?_)
        · simp only [m_L_token, m_X11_token, chk_ko hT.1, ob_some, c_sort_y hs g1, c_terms_n hp hq g2, xel_l, xel_r, gR_ko hT.1 hT.2.1.1, chk_ko k1, m_X11_token_b27, i10, xhw_r, ↓reduceIte]
          try rfl
        · have hN := hM.1.2
          have ws : ∀ d, m_X12_in σ (ii s) (0 : Int32) (5 : Int32) d = some 1 := fun d => c_in_y (a := 0) (b := 5) hs (by omega) (by omega) g1
          simp only [m_X12_token, p1, ob_some, chk_ko hK.1, ws, cm_term_y hp gv, cm_term_n hq (fun q => g2 ⟨gv, q⟩), i10, ↓reduceIte, m_X12_token_b50, m_X12_token_b28, stop_of p2, p2]
          try rfl
      · refine LX_ref (c := 1) h (by decide) ?_ (fun d1 d2 p1 hM p2 => ?_)
        · simp only [m_L_token, m_X11_token, chk_ko hT.1, ob_some, c_sort_y hs g1, c_terms_n hp hq g2, xel_l, xel_r, gR_ko hT.1 hT.2.1.1, chk_ko k1, m_X11_token_b27, i10, xhw_r, ↓reduceIte]
          try rfl
        · have hN := hM.1.2
          have ws : ∀ d, m_X12_in σ (ii s) (0 : Int32) (5 : Int32) d = some 1 := fun d => c_in_y (a := 0) (b := 5) hs (by omega) (by omega) g1
          simp only [m_X12_token, p1, ob_some, chk_ko hK.1, ws, cm_term_n hp gv, i10, ↓reduceIte, m_X12_token_b50, m_X12_token_b28, stop_of p2, p2]
          try rfl
  · refine LX_ref (c := 1) h (by decide) ?_ (fun d1 d2 p1 hM p2 => ?_)
    · simp only [m_L_token, m_X11_token, chk_ko hT.1, ob_some, c_sort_n hs g1, xel_l, xel_r, gR_ko hT.1 hT.2.1.1, chk_ko k1, m_X11_token_b27, i10, xhw_r, ↓reduceIte]
      try rfl
    · have hN := hM.1.2
      have ws : ∀ d, m_X12_in σ (ii s) (0 : Int32) (5 : Int32) d = some 0 := fun d => c_in_n (a := 0) (b := 5) hs (by omega) (by omega) g1
      simp only [m_X12_token, p1, ob_some, chk_ko hK.1, ws, i10, ↓reduceIte, m_X12_token_b50, m_X12_token_b28, stop_of p2, p2]
      try rfl
theorem o_unless0_y (h : Ctx σ δ mo p3 k E bd R I jr) (hc : rng c) (ha : rng a) (hb : rng b) (hp : rng p) (g1 : gNode E p) (g2 : gAsk c a b) (hrm : e_ct E < 60) (hx : HasN E 10 c a (if c = 3 then 0 else b) p (-1)) : LX mo p3 (m_L_unless σ 0 (0 : Int32) (ii c) (ii a) (ii b) (ii p) p3 δ) (fun d => m_X12_unless σ mo (0 : Int32) (ii c) (ii a) (ii b) (ii p) d) (fun d => Core d mo k (bumpN E) bd R I jr) := by
  obtain ⟨⟨hT, hK, h3, hmo⟩, hC⟩ := id h
  have gE := hC.1.1
  have hR := hC.2.1.1.1
  have hc0 := gE.1
  have k1 : KO σ 1 5 := hT.2.2.2.2.1.2.2.2.1.1
  have gc : gCond c := g2.1
  have hb2 : rng (if c = 3 then 0 else b) := by split <;> omega
  have gc2 : (0 ≤ c ∧ c ≤ 3) ∨ (10 ≤ c ∧ c ≤ 15) := g2.1
  refine LX_node (x1 := (ii c)) (x2 := (ii a)) (x3 := (ii b)) (x4 := (ii p)) h hrm hx (GN_of hx ⟨by omega, ⟨g2.2.1, g2.2.2⟩, by omega, fun h => absurd h (by decide), fun _ => gc, fun h => absurd h (by decide), fun h => absurd h (by decide), fun h => absurd h (by decide), fun h => absurd h (by decide), fun _ => g1, fun h => absurd h (by decide)⟩) (fun D y0 y1 y2 y3 y4 => RN1_of hx ⟨y0, fun h => absurd h (by decide), fun h => absurd h (by decide), fun h => absurd h (by decide), fun _ => ⟨y1, y2, fun hw => by rw [if_neg hw]; exact y3, y4⟩, fun h => absurd h (by decide), fun h => absurd h (by decide), fun h => absurd h (by decide), fun h => absurd h (by decide), fun h => absurd h (by decide)⟩) ?_ ?_
  · intro D t
    have t' : m_X5_add σ 1 (10 : Int32) (ii c) (ii a) (ii (if c = 3 then 0 else b)) (ii p) ((-1) : Int32) δ = some (ii (e_ct E), D) := t
    simp only [m_L_unless, m_X11_unless, chk_ko hT.1, ob_some, c_node_y hT hR hc0 hp g1, c_cond_y hc g2.1, c_asked hc, c_terms_y ha hb2 g2.2, c_room_y hT hR ⟨hc0.1, hrm⟩, xel_l, gR_ko hT.1 hT.2.1.1, chk_ko k1, m_X11_unless_b43, i10, t', xhw_l, ↓reduceIte]
    try rfl
  · intro d d1 D p1 hN m hneg
    have m' : m_X12_makeNode σ mo (9 : Int32) (ii c) (ii a) (ii b) (ii p) d1 = some (ii (e_ct E), D) := m
    simp only [m_X12_unless, p1, ob_some, chk_ko hK.1, cm_node_y hK hN hc0 hp g1, cm_told_y hc ha hb g2, i10, ↓reduceIte, m_X12_unless_b49, m', m_told_ok hneg]
    try rfl
theorem o_unless0_n (h : Ctx σ δ mo p3 k E bd R I jr) (hc : rng c) (ha : rng a) (hb : rng b) (hp : rng p) (hno : ¬ (gNode E p ∧ gAsk c a b ∧ e_ct E < 60)) : LX mo p3 (m_L_unless σ 0 (0 : Int32) (ii c) (ii a) (ii b) (ii p) p3 δ) (fun d => m_X12_unless σ mo (0 : Int32) (ii c) (ii a) (ii b) (ii p) d) (fun d => Core d mo k E bd R I jr) := by
  obtain ⟨⟨hT, hK, h3, hmo⟩, hC⟩ := id h
  have gE := hC.1.1
  have hR := hC.2.1.1.1
  have hc0 := gE.1
  have k1 : KO σ 1 5 := hT.2.2.2.2.1.2.2.2.1.1
  by_cases g1 : gNode E p
  · skip
    by_cases g2 : gAsk c a b
    · skip
      have gc : gCond c := g2.1
      have hb2 : rng (if c = 3 then 0 else b) := by split <;> omega
      have gc2 : (0 ≤ c ∧ c ≤ 3) ∨ (10 ≤ c ∧ c ≤ 15) := g2.1
      have hrm : e_ct E = 60 := Int.le_antisymm hc0.2 (Int.not_lt.mp (fun q => hno ⟨g1, g2, q⟩))
      refine LX_ref (c := 3) h (by decide) ?_ (fun d1 d2 p1 hM p2 => ?_)
      · simp only [m_L_unless, m_X11_unless, chk_ko hT.1, ob_some, c_node_y hT hR hc0 hp g1, c_cond_y hc g2.1, c_asked hc, c_terms_y ha hb2 g2.2, c_room_n hT hR hrm, xel_l, xel_r, gR_ko hT.1 hT.2.1.1, chk_ko k1, m_X11_unless_b43, i10, xhw_r, ↓reduceIte]
        try rfl
      · have hN := hM.1.2
        simp only [m_X12_unless, p1, ob_some, chk_ko hK.1, cm_node_y hK hN hc0 hp g1, cm_told_y hc ha hb g2, i10, ↓reduceIte, m_X12_unless_b49, m_full hK hN hrm, m_told_no hK p2]
        try rfl
    · by_cases gv : gCond c
      · have hb2 : rng (if c = 3 then 0 else b) := by split <;> omega
        refine LX_ref (c := 2) h (by decide) ?_ (fun d1 d2 p1 hM p2 => ?_)
        · simp only [m_L_unless, m_X11_unless, chk_ko hT.1, ob_some, c_node_y hT hR hc0 hp g1, c_cond_y hc gv, c_asked hc, c_terms_n ha hb2 (fun q => g2 ⟨gv, q⟩), xel_l, xel_r, gR_ko hT.1 hT.2.1.1, chk_ko k1, m_X11_unless_b43, i10, xhw_r, ↓reduceIte]
          try rfl
        · have hN := hM.1.2
          simp only [m_X12_unless, p1, ob_some, chk_ko hK.1, cm_node_y hK hN hc0 hp g1, cm_told_n hc ha hb g2, i10, ↓reduceIte, m_X12_unless_b49, stop_of p2, p2]
          try rfl
      · refine LX_ref (c := 2) h (by decide) ?_ (fun d1 d2 p1 hM p2 => ?_)
        · simp only [m_L_unless, m_X11_unless, chk_ko hT.1, ob_some, c_node_y hT hR hc0 hp g1, c_cond_n hc gv, xel_l, xel_r, gR_ko hT.1 hT.2.1.1, chk_ko k1, m_X11_unless_b43, i10, xhw_r, ↓reduceIte]
          try rfl
        · have hN := hM.1.2
          simp only [m_X12_unless, p1, ob_some, chk_ko hK.1, cm_node_y hK hN hc0 hp g1, cm_told_n hc ha hb g2, i10, ↓reduceIte, m_X12_unless_b49, stop_of p2, p2]
          try rfl
  · refine LX_ref (c := 1) h (by decide) ?_ (fun d1 d2 p1 hM p2 => ?_)
    · simp only [m_L_unless, m_X11_unless, chk_ko hT.1, ob_some, c_node_n hT hR hc0 hp g1, xel_l, xel_r, gR_ko hT.1 hT.2.1.1, chk_ko k1, m_X11_unless_b43, i10, xhw_r, ↓reduceIte]
      try rfl
    · have hN := hM.1.2
      simp only [m_X12_unless, p1, ob_some, chk_ko hK.1, cm_node_n hK hN hc0 hp g1, i10, ↓reduceIte, m_X12_unless_b49, stop_of p2, p2]
      try rfl
theorem o_unless1_y (h : Ctx σ δ mo p3 k E bd R I jr) (hc : rng c) (ha : rng a) (hb : rng b) (hp : rng p) (g1 : gNode E p) (g2 : gAsk c a b) (hrm : e_ct E < 60) (hx : HasN E 11 c a (if c = 3 then 0 else b) p (-1)) : LX mo p3 (m_L_unless σ 0 (1 : Int32) (ii c) (ii a) (ii b) (ii p) p3 δ) (fun d => m_X12_unless σ mo (1 : Int32) (ii c) (ii a) (ii b) (ii p) d) (fun d => Core d mo k (bumpN E) bd R I jr) := by
  obtain ⟨⟨hT, hK, h3, hmo⟩, hC⟩ := id h
  have gE := hC.1.1
  have hR := hC.2.1.1.1
  have hc0 := gE.1
  have k1 : KO σ 1 5 := hT.2.2.2.2.1.2.2.2.1.1
  have gc : gCond c := g2.1
  have hb2 : rng (if c = 3 then 0 else b) := by split <;> omega
  have gc2 : (0 ≤ c ∧ c ≤ 3) ∨ (10 ≤ c ∧ c ≤ 15) := g2.1
  refine LX_node (x1 := (ii c)) (x2 := (ii a)) (x3 := (ii b)) (x4 := (ii p)) h hrm hx (GN_of hx ⟨by omega, ⟨g2.2.1, g2.2.2⟩, by omega, fun h => absurd h (by decide), fun _ => gc, fun h => absurd h (by decide), fun h => absurd h (by decide), fun h => absurd h (by decide), fun h => absurd h (by decide), fun _ => g1, fun h => absurd h (by decide)⟩) (fun D y0 y1 y2 y3 y4 => RN1_of hx ⟨y0, fun h => absurd h (by decide), fun h => absurd h (by decide), fun h => absurd h (by decide), fun _ => ⟨y1, y2, fun hw => by rw [if_neg hw]; exact y3, y4⟩, fun h => absurd h (by decide), fun h => absurd h (by decide), fun h => absurd h (by decide), fun h => absurd h (by decide), fun h => absurd h (by decide)⟩) ?_ ?_
  · intro D t
    have t' : m_X5_add σ 1 (11 : Int32) (ii c) (ii a) (ii (if c = 3 then 0 else b)) (ii p) ((-1) : Int32) δ = some (ii (e_ct E), D) := t
    simp only [m_L_unless, m_X11_unless, chk_ko hT.1, ob_some, c_node_y hT hR hc0 hp g1, c_cond_y hc g2.1, c_asked hc, c_terms_y ha hb2 g2.2, c_room_y hT hR ⟨hc0.1, hrm⟩, xel_l, gR_ko hT.1 hT.2.1.1, chk_ko k1, m_X11_unless_b43, i10, t', xhw_l, ↓reduceIte]
    try rfl
  · intro d d1 D p1 hN m hneg
    have m' : m_X12_makeNode σ mo (10 : Int32) (ii c) (ii a) (ii b) (ii p) d1 = some (ii (e_ct E), D) := m
    simp only [m_X12_unless, p1, ob_some, chk_ko hK.1, cm_node_y hK hN hc0 hp g1, cm_told_y hc ha hb g2, i10, ↓reduceIte, m_X12_unless_b49, m', m_told_ok hneg]
    try rfl
theorem o_unless1_n (h : Ctx σ δ mo p3 k E bd R I jr) (hc : rng c) (ha : rng a) (hb : rng b) (hp : rng p) (hno : ¬ (gNode E p ∧ gAsk c a b ∧ e_ct E < 60)) : LX mo p3 (m_L_unless σ 0 (1 : Int32) (ii c) (ii a) (ii b) (ii p) p3 δ) (fun d => m_X12_unless σ mo (1 : Int32) (ii c) (ii a) (ii b) (ii p) d) (fun d => Core d mo k E bd R I jr) := by
  obtain ⟨⟨hT, hK, h3, hmo⟩, hC⟩ := id h
  have gE := hC.1.1
  have hR := hC.2.1.1.1
  have hc0 := gE.1
  have k1 : KO σ 1 5 := hT.2.2.2.2.1.2.2.2.1.1
  by_cases g1 : gNode E p
  · skip
    by_cases g2 : gAsk c a b
    · skip
      have gc : gCond c := g2.1
      have hb2 : rng (if c = 3 then 0 else b) := by split <;> omega
      have gc2 : (0 ≤ c ∧ c ≤ 3) ∨ (10 ≤ c ∧ c ≤ 15) := g2.1
      have hrm : e_ct E = 60 := Int.le_antisymm hc0.2 (Int.not_lt.mp (fun q => hno ⟨g1, g2, q⟩))
      refine LX_ref (c := 3) h (by decide) ?_ (fun d1 d2 p1 hM p2 => ?_)
      · simp only [m_L_unless, m_X11_unless, chk_ko hT.1, ob_some, c_node_y hT hR hc0 hp g1, c_cond_y hc g2.1, c_asked hc, c_terms_y ha hb2 g2.2, c_room_n hT hR hrm, xel_l, xel_r, gR_ko hT.1 hT.2.1.1, chk_ko k1, m_X11_unless_b43, i10, xhw_r, ↓reduceIte]
        try rfl
      · have hN := hM.1.2
        simp only [m_X12_unless, p1, ob_some, chk_ko hK.1, cm_node_y hK hN hc0 hp g1, cm_told_y hc ha hb g2, i10, ↓reduceIte, m_X12_unless_b49, m_full hK hN hrm, m_told_no hK p2]
        try rfl
    · by_cases gv : gCond c
      · have hb2 : rng (if c = 3 then 0 else b) := by split <;> omega
        refine LX_ref (c := 2) h (by decide) ?_ (fun d1 d2 p1 hM p2 => ?_)
        · simp only [m_L_unless, m_X11_unless, chk_ko hT.1, ob_some, c_node_y hT hR hc0 hp g1, c_cond_y hc gv, c_asked hc, c_terms_n ha hb2 (fun q => g2 ⟨gv, q⟩), xel_l, xel_r, gR_ko hT.1 hT.2.1.1, chk_ko k1, m_X11_unless_b43, i10, xhw_r, ↓reduceIte]
          try rfl
        · have hN := hM.1.2
          simp only [m_X12_unless, p1, ob_some, chk_ko hK.1, cm_node_y hK hN hc0 hp g1, cm_told_n hc ha hb g2, i10, ↓reduceIte, m_X12_unless_b49, stop_of p2, p2]
          try rfl
      · refine LX_ref (c := 2) h (by decide) ?_ (fun d1 d2 p1 hM p2 => ?_)
        · simp only [m_L_unless, m_X11_unless, chk_ko hT.1, ob_some, c_node_y hT hR hc0 hp g1, c_cond_n hc gv, xel_l, xel_r, gR_ko hT.1 hT.2.1.1, chk_ko k1, m_X11_unless_b43, i10, xhw_r, ↓reduceIte]
          try rfl
        · have hN := hM.1.2
          simp only [m_X12_unless, p1, ob_some, chk_ko hK.1, cm_node_y hK hN hc0 hp g1, cm_told_n hc ha hb g2, i10, ↓reduceIte, m_X12_unless_b49, stop_of p2, p2]
          try rfl
  · refine LX_ref (c := 1) h (by decide) ?_ (fun d1 d2 p1 hM p2 => ?_)
    · simp only [m_L_unless, m_X11_unless, chk_ko hT.1, ob_some, c_node_n hT hR hc0 hp g1, xel_l, xel_r, gR_ko hT.1 hT.2.1.1, chk_ko k1, m_X11_unless_b43, i10, xhw_r, ↓reduceIte]
      try rfl
    · have hN := hM.1.2
      simp only [m_X12_unless, p1, ob_some, chk_ko hK.1, cm_node_n hK hN hc0 hp g1, i10, ↓reduceIte, m_X12_unless_b49, stop_of p2, p2]
      try rfl
end
