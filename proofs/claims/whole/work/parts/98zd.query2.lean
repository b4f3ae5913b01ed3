/-! THE LAW: questions that may be refused -/
theorem one_bits : ∀ i : Fin 32, ¬ (i : Nat) = 0 → (1 : Int32).toBitVec.getLsbD i = false := by decide
theorem and1 (y : Int32) : y &&& 1 = 0 ∨ y &&& 1 = 1 := by
  cases h : y.toBitVec.getLsbD 0 with
  | false =>
    refine Or.inl (Int32.toBitVec_inj.mp (BitVec.eq_of_getLsbD_eq fun i hi => ?_))
    rw [Int32.toBitVec_and, BitVec.getLsbD_and, show (0 : Int32).toBitVec.getLsbD i = false from BitVec.getLsbD_zero]
    by_cases c : i = 0
    · rw [c, h, Bool.false_and]
    · rw [one_bits ⟨i, hi⟩ c, Bool.and_false]
  | true =>
    refine Or.inr (Int32.toBitVec_inj.mp (BitVec.eq_of_getLsbD_eq fun i hi => ?_))
    rw [Int32.toBitVec_and, BitVec.getLsbD_and]
    by_cases c : i = 0
    · rw [c, h, Bool.true_and]
    · rw [one_bits ⟨i, hi⟩ c, Bool.and_false]
/-- one factor, taken into the line -/
def mulR (x : Int64) (p : Int32) : Int64 := x * p.toInt64 - x * p.toInt64 / 1000003 * 1000003
def lnI (x : Int64) (p : Int32) : Nat → Int64
  | 0 => x
  | n + 1 => mulR (lnI x p n) p
def lnO (e : Int → Int) : Nat → Int64
  | 0 => 1
  | n + 1 => lnI (lnO e n) (ii (pr7 n)) (e n).toNat
theorem rmL_m (x : Int64) (p : Int32) : rmL (x * p.toInt64) (1000003 : Int64) = some (mulR x p) := by
  unfold rmL
  rw [if_neg (show ¬ (1000003 : Int64) = 0 by decide)]
  rfl
section
variable {σ : St} {δ d : Dy} {mo p3 k wp dr : Nat} {E : Ev} {bd kp : Bool} {R : Rl} {I : Iw} {jr : List Jn} {md n a b z x : Int} {S : Sto}
theorem LX_qv (h : Ctx σ δ mo p3 k E bd R I jr) {v : Int32} {mL : Option (Int32 × Dy)} {mX : Dy → Option (Int32 × Dy)} (e1 : mL = (wLo σ δ p3 (0 : Int32) v.toInt64).bind fun d4 => some ((0 : Int32), d4)) (e2 : ∀ d d1, pI σ d 12 mo 50 (0 : Int32) = some d1 → RM d1 mo E bd R I → mX d = some (v, d1)) : LXV mo p3 v mL mX (fun d => Core d mo k E bd R I jr) := LX_mkv (E' := E) (bd' := bd) (R' := R) (I' := I) (jr' := jr) (k' := k) (v := v) h h.2.1 h.2.2.2.2.2 h.2.2.2.2.1 ⟨δ, e1, h.2.2.1, Fr.rf⟩ (fun d d1 p1 hM => ⟨d1, e2 d d1 p1 hM, rfl, hM, Fr.rf⟩)
/-! the class's looks -/
theorem c_var (hT : KT σ) (hR : RId δ 68 md I) (hn : 0 ≤ s_nv (v_S (i_V I)) ∧ s_nv (v_S (i_V I)) ≤ 60) (hz : rng z) : ((0 ≤ z ∧ z < s_nv (v_S (i_V I))) → m_X11_needVariable σ 0 (ii z) δ = some (.inl ())) ∧ (¬ (0 ≤ z ∧ z < s_nv (v_S (i_V I))) → m_X11_needVariable σ 0 (ii z) δ = some (.inr 2)) := by
  have kW : KO σ 68 10 := hT.2.2.2.2.1.2.1
  have kS := hT.2.2.2.2.1.2.2.1
  have kst : KS σ (68 + 1) := hT.2.2.2.2.1.2.2.2.2.2.1
  have x1 : gI σ δ 8 (68 + 1) 2 = some (ii (s_nv (v_S (i_V I)))) := by rw [gI_ko kst.1]; exact congrArg some hR.1.1
  constructor
  · intro g
    have n0 : (ii z < (0 : Int32)) = False := i_nlt (b := 0) hz (by omega) (by omega)
    have n1 : (ii z < ii (s_nv (v_S (i_V I)))) = True := i_lt hz (by omega) (by omega)
    simp only [m_X11_needVariable, n0, ↓reduceIte, gR_ko hT.1 hT.2.1.2.2.1, gR_ko kW kS.2.1, ob_some, x1, n1]
  · intro g
    by_cases c : z < 0
    · have n0 : (ii z < (0 : Int32)) = True := i_lt (b := 0) hz (by omega) (by omega)
      simp only [m_X11_needVariable, n0, ↓reduceIte, m_X11_needVariable_b18]
    · have n0 : (ii z < (0 : Int32)) = False := i_nlt (b := 0) hz (by omega) (by omega)
      have n1 : (ii z < ii (s_nv (v_S (i_V I)))) = False := i_nlt hz (by omega) (by omega)
      simp only [m_X11_needVariable, n0, ↓reduceIte, gR_ko hT.1 hT.2.1.2.2.1, gR_ko kW kS.2.1, ob_some, x1, n1, m_X11_needVariable_b18]
theorem c_tok (hT : KT σ) (hR : RId δ 68 md I) (hn : 0 ≤ s_nt (v_S (i_V I)) ∧ s_nt (v_S (i_V I)) ≤ 100) (hz : rng z) : ((0 ≤ z ∧ z < s_nt (v_S (i_V I))) → m_X11_needToken σ 0 (ii z) δ = some (.inl ())) ∧ (¬ (0 ≤ z ∧ z < s_nt (v_S (i_V I))) → m_X11_needToken σ 0 (ii z) δ = some (.inr 2)) := by
  have kW : KO σ 68 10 := hT.2.2.2.2.1.2.1
  have kS := hT.2.2.2.2.1.2.2.1
  have kst : KS σ (68 + 1) := hT.2.2.2.2.1.2.2.2.2.2.1
  have x1 : gI σ δ 8 (68 + 1) 10 = some (ii (s_nt (v_S (i_V I)))) := by rw [gI_ko kst.1]; exact congrArg some hR.1.2.1
  constructor
  · intro g
    have n0 : (ii z < (0 : Int32)) = False := i_nlt (b := 0) hz (by omega) (by omega)
    have n1 : (ii z < ii (s_nt (v_S (i_V I)))) = True := i_lt hz (by omega) (by omega)
    simp only [m_X11_needToken, n0, ↓reduceIte, gR_ko hT.1 hT.2.1.2.2.1, gR_ko kW kS.2.1, ob_some, x1, n1]
  · intro g
    by_cases c : z < 0
    · have n0 : (ii z < (0 : Int32)) = True := i_lt (b := 0) hz (by omega) (by omega)
      simp only [m_X11_needToken, n0, ↓reduceIte, m_X11_needToken_b18]
    · have n0 : (ii z < (0 : Int32)) = False := i_nlt (b := 0) hz (by omega) (by omega)
      have n1 : (ii z < ii (s_nt (v_S (i_V I)))) = False := i_nlt hz (by omega) (by omega)
      simp only [m_X11_needToken, n0, ↓reduceIte, gR_ko hT.1 hT.2.1.2.2.1, gR_ko kW kS.2.1, ob_some, x1, n1, m_X11_needToken_b18]
theorem cm_var (hK : KM σ mo) (h0 : δ.1 (mo + 1) 0 = ii n) (hn : 0 ≤ n ∧ n ≤ 60) (hz : rng z) : ((0 ≤ z ∧ z < n) → m_X12_isVariable σ mo (ii z) δ = some 1) ∧ (¬ (0 ≤ z ∧ z < n) → m_X12_isVariable σ mo (ii z) δ = some 0) := by
  have x0 : rI σ δ (mo + 1) (0 : Int32) = some (ii n) := rst (z := 0) (k := 0) (md0 hK) (by omega) (by omega) rfl h0
  have e : m_X12_isVariable σ mo (ii z) δ = some (bi (decide (0 ≤ z ∧ z ≤ n - 1))) := by
    unfold m_X12_isVariable
    rw [mg0 hK, ob_some, x0, ob_some, show ((1 : Int32)) = ii 1 from rfl, ii_sub, show ((0 : Int32)) = ii 0 from rfl, c_in hz (by omega) (by omega), ob_some, zo_bi, ob_some]
  exact ⟨fun g => by rw [e, decide_eq_true (show 0 ≤ z ∧ z ≤ n - 1 by omega)]; rfl, fun g => by rw [e, decide_eq_false (show ¬ (0 ≤ z ∧ z ≤ n - 1) by omega)]; rfl⟩
theorem cm_tok (hK : KM σ mo) (h0 : δ.1 (mo + 1) 121 = ii n) (hn : 0 ≤ n ∧ n ≤ 100) (hz : rng z) : ((0 ≤ z ∧ z < n) → m_X12_isToken σ mo (ii z) δ = some 1) ∧ (¬ (0 ≤ z ∧ z < n) → m_X12_isToken σ mo (ii z) δ = some 0) := by
  have x0 : rI σ δ (mo + 1) (121 : Int32) = some (ii n) := rst (z := 121) (md0 hK) (by omega) (by omega) rfl h0
  have e : m_X12_isToken σ mo (ii z) δ = some (bi (decide (0 ≤ z ∧ z ≤ n - 1))) := by
    unfold m_X12_isToken
    rw [mg0 hK, ob_some, x0, ob_some, show ((1 : Int32)) = ii 1 from rfl, ii_sub, show ((0 : Int32)) = ii 0 from rfl, c_in hz (by omega) (by omega), ob_some, zo_bi, ob_some]
  exact ⟨fun g => by rw [e, decide_eq_true (show 0 ≤ z ∧ z ≤ n - 1 by omega)]; rfl, fun g => by rw [e, decide_eq_false (show ¬ (0 ≤ z ∧ z ≤ n - 1) by omega)]; rfl⟩
/-- a term as it is told -/
theorem m_asTold (hK : KM σ mo) (hR : RSm δ mo S) (hG : GS S) (ht : tm (s_nv S) z) : m_X12_asTold σ mo (ii z) δ = some (ii (form S z)) := by
  have gn := hG.1
  have hr := tm_rng ht gn.2.1
  unfold m_X12_asTold
  rw [chk_ko hK.1, ob_some, m_valueOf hK hR hG ht, ob_some]
  rcases vaM_form hG ht with ⟨h1, h2, h3, h4⟩ | ⟨h1, h2, h3⟩
  · have hv : 0 ≤ z - 400 ∧ z - 400 < s_nv S := by unfold tm at ht; omega
    have e1 := m_cl (σ := σ) (δ := δ) hK hR hG hv.1 hv.2 (z := 1 + z - 400) (by omega)
    rw [if_pos (show ii (vaM S z) = 100 by rw [h1]; rfl), mg0 hK, ob_some, show ((1 : Int32)) = ii 1 from rfl, show ((400 : Int32)) = ii 400 from rfl, ii_add, ii_sub, e1, ob_some, ii_add, h3]
  · rw [if_neg (show ¬ ii (vaM S z) = 100 by rw [show ((100 : Int32)) = ii 100 from rfl, ii_eq (by omega) (by omega) (by omega) (by omega)]; omega), h1]
/-! value -/
theorem o_value_y (h : Ctx σ δ mo p3 k E bd R I jr) (hz : rng z) (g : 0 ≤ z ∧ z < s_nv (v_S (i_V I))) : LX mo p3 (m_L_value σ 0 (ii z) p3 δ) (fun d => m_X12_value σ mo (ii z) d) (fun d => Core d mo k E bd R I jr) := by
  obtain ⟨⟨hT, hK, h3, hmo⟩, hC⟩ := id h
  have kW : KO σ 68 10 := hT.2.2.2.2.1.2.1
  have kS := hT.2.2.2.2.1.2.2.1
  have kst : KS σ (68 + 1) := hT.2.2.2.2.1.2.2.2.2.2.1
  have gS := hC.1.2.1.1
  have g0 : 0 ≤ s_nv (v_S (i_V I)) ∧ s_nv (v_S (i_V I)) ≤ 60 := ⟨gS.1.1, gS.1.2.1⟩
  have ht : tm (s_nv (v_S (i_V I))) (400 + z) := Or.inr ⟨by omega, by omega⟩
  refine LX_q (v := ii (vaM (v_S (i_V I)) (400 + z))) h ?_ (fun d d1 p1 hM => ?_)
  · have e1 := t_form kst hC.2.1.2.1.1 gS (t := 400 + z) (by omega) (by omega)
    have e1' : m_X8_form σ (68 + 1) ((400 : Int32) + ii z) δ = some (ii (form (v_S (i_V I)) (400 + z))) := by rw [show ((400 : Int32)) = ii 400 from rfl, ii_add]; exact e1
    rcases vaM_form gS ht with ⟨h1, h2, h3', h4⟩ | ⟨h1, h2, h3'⟩
    · have n4 : ((400 : Int32) ≤ ii (form (v_S (i_V I)) (400 + z))) = True := i_le (a := 400) (by omega) (by omega) (by omega)
      rw [h1]
      simp only [m_L_value, m_X11_value, chk_ko hT.1, ob_some, (c_var hT hC.2.1.2.1 g0 hz).1 g, xel_l, gR_ko hT.1 hT.2.1.2.2.1, gR_ko kW kS.2.1, chk_ko kst.1, e1', n4, ↓reduceIte]
      rfl
    · have n4 : ((400 : Int32) ≤ ii (form (v_S (i_V I)) (400 + z))) = False := i_nle (a := 400) (by omega) (by omega) (by omega)
      rw [← h1]
      simp only [m_L_value, m_X11_value, chk_ko hT.1, ob_some, (c_var hT hC.2.1.2.1 g0 hz).1 g, xel_l, gR_ko hT.1 hT.2.1.2.2.1, gR_ko kW kS.2.1, chk_ko kst.1, e1', n4, ↓reduceIte]
      rfl
  · have e2 := m_valueOf (σ := σ) (δ := d1) hK hM.2.1.1 gS ht
    have e2' : m_X12_valueOf σ mo ((400 : Int32) + ii z) d1 = some (ii (vaM (v_S (i_V I)) (400 + z))) := by rw [show ((400 : Int32)) = ii 400 from rfl, ii_add]; exact e2
    simp only [m_X12_value, p1, ob_some, chk_ko hK.1, (cm_var hK hM.2.1.1.1 g0 hz).1 g, i10, ↓reduceIte, e2']
theorem o_value_n (h : Ctx σ δ mo p3 k E bd R I jr) (hz : rng z) (g : ¬ (0 ≤ z ∧ z < s_nv (v_S (i_V I)))) : LX mo p3 (m_L_value σ 0 (ii z) p3 δ) (fun d => m_X12_value σ mo (ii z) d) (fun d => Core d mo k E bd R I jr) := by
  obtain ⟨⟨hT, hK, h3, hmo⟩, hC⟩ := id h
  have gS := hC.1.2.1.1
  have g0 : 0 ≤ s_nv (v_S (i_V I)) ∧ s_nv (v_S (i_V I)) ≤ 60 := ⟨gS.1.1, gS.1.2.1⟩
  refine LX_ref (c := 1) h (by decide) ?_ (fun d1 d2 p1 hM p2 => ?_)
  · simp only [m_L_value, m_X11_value, chk_ko hT.1, ob_some, (c_var hT hC.2.1.2.1 g0 hz).2 g, xel_r]
    rfl
  · simp only [m_X12_value, p1, ob_some, chk_ko hK.1, (cm_var hK hM.2.1.1.1 g0 hz).2 g, ↓reduceIte, stop_of p2]
/-! areOne -/
theorem o_areOne_y (h : Ctx σ δ mo p3 k E bd R I jr) (ha : rng a) (hb : rng b) (g1 : 0 ≤ a ∧ a < s_nv (v_S (i_V I))) (g2 : 0 ≤ b ∧ b < s_nv (v_S (i_V I))) : LXV mo p3 (bi (decide (s_cl (v_S (i_V I)) a = s_cl (v_S (i_V I)) b))) (m_L_areOne σ 0 (ii a) (ii b) p3 δ) (fun d => m_X12_areOne σ mo (ii a) (ii b) d) (fun d => Core d mo k E bd R I jr) := by
  obtain ⟨⟨hT, hK, h3, hmo⟩, hC⟩ := id h
  have kW : KO σ 68 10 := hT.2.2.2.2.1.2.1
  have kS := hT.2.2.2.2.1.2.2.1
  obtain ⟨s0, ⟨s1, -⟩, sd1, -⟩ : KS σ (68 + 1) := hT.2.2.2.2.1.2.2.2.2.2.1
  have gS := hC.1.2.1.1
  have g0 : 0 ≤ s_nv (v_S (i_V I)) ∧ s_nv (v_S (i_V I)) ≤ 60 := ⟨gS.1.1, gS.1.2.1⟩
  have q1 := gS.2.1 a g1.1 g1.2
  have q2 := gS.2.1 b g2.1 g2.2
  refine LX_qv h ?_ (fun d d1 p1 hM => ?_)
  · have e1 : rI σ δ (68 + 1 + 1) (ii a) = some (ii (s_cl (v_S (i_V I)) a)) := by rw [rI_kd sd1 g1.1 (by omega), hC.2.1.2.1.1.2.2.1 a g1.1 g1.2]
    have e2 : rI σ δ (68 + 1 + 1) (ii b) = some (ii (s_cl (v_S (i_V I)) b)) := by rw [rI_kd sd1 g2.1 (by omega), hC.2.1.2.1.1.2.2.1 b g2.1 g2.2]
    by_cases c : s_cl (v_S (i_V I)) a = s_cl (v_S (i_V I)) b
    · rw [decide_eq_true c]
      rw [c] at e1
      simp only [m_L_areOne, m_X11_areOne, chk_ko hT.1, ob_some, (c_var hT hC.2.1.2.1 g0 ha).1 g1, (c_var hT hC.2.1.2.1 g0 hb).1 g2, xel_l, gR_ko hT.1 hT.2.1.2.2.1, gR_ko kW kS.2.1, gR_ko s0 s1, e1, e2, ↓reduceIte]
      rfl
    · rw [decide_eq_false c]
      have ne : (ii (s_cl (v_S (i_V I)) a) = ii (s_cl (v_S (i_V I)) b)) = False := eq_false (by rw [ii_eq (by omega) (by omega) (by omega) (by omega)]; exact c)
      simp only [m_L_areOne, m_X11_areOne, chk_ko hT.1, ob_some, (c_var hT hC.2.1.2.1 g0 ha).1 g1, (c_var hT hC.2.1.2.1 g0 hb).1 g2, xel_l, gR_ko hT.1 hT.2.1.2.2.1, gR_ko kW kS.2.1, gR_ko s0 s1, e1, e2, ne, ↓reduceIte]
      rfl
  · have e1 : rI σ d1 (mo + 1) ((1 : Int32) + ii a) = some (ii (s_cl (v_S (i_V I)) a)) := by rw [show ((1 : Int32)) = ii 1 from rfl, ii_add]; exact m_cl hK hM.2.1.1 gS g1.1 g1.2 rfl
    have e2 : rI σ d1 (mo + 1) ((1 : Int32) + ii b) = some (ii (s_cl (v_S (i_V I)) b)) := by rw [show ((1 : Int32)) = ii 1 from rfl, ii_add]; exact m_cl hK hM.2.1.1 gS g2.1 g2.2 rfl
    by_cases c : s_cl (v_S (i_V I)) a = s_cl (v_S (i_V I)) b
    · rw [decide_eq_true c]
      rw [c] at e1
      simp only [m_X12_areOne, p1, ob_some, chk_ko hK.1, (cm_var hK hM.2.1.1.1 g0 ha).1 g1, (cm_var hK hM.2.1.1.1 g0 hb).1 g2, i10, ↓reduceIte, mg0 hK, e1, e2]
      rfl
    · rw [decide_eq_false c]
      have ne : (ii (s_cl (v_S (i_V I)) a) = ii (s_cl (v_S (i_V I)) b)) = False := eq_false (by rw [ii_eq (by omega) (by omega) (by omega) (by omega)]; exact c)
      simp only [m_X12_areOne, p1, ob_some, chk_ko hK.1, (cm_var hK hM.2.1.1.1 g0 ha).1 g1, (cm_var hK hM.2.1.1.1 g0 hb).1 g2, i10, ↓reduceIte, mg0 hK, e1, e2, ne]
      rfl
theorem o_areOne_n (h : Ctx σ δ mo p3 k E bd R I jr) (ha : rng a) (hb : rng b) (g : ¬ ((0 ≤ a ∧ a < s_nv (v_S (i_V I))) ∧ 0 ≤ b ∧ b < s_nv (v_S (i_V I)))) : LXV mo p3 0 (m_L_areOne σ 0 (ii a) (ii b) p3 δ) (fun d => m_X12_areOne σ mo (ii a) (ii b) d) (fun d => Core d mo k E bd R I jr) := by
  obtain ⟨⟨hT, hK, h3, hmo⟩, hC⟩ := id h
  have gS := hC.1.2.1.1
  have g0 : 0 ≤ s_nv (v_S (i_V I)) ∧ s_nv (v_S (i_V I)) ≤ 60 := ⟨gS.1.1, gS.1.2.1⟩
  refine LX_refv (c := 1) h (by decide) ?_ (fun d1 d2 p1 hM p2 => ?_)
  · by_cases g1 : 0 ≤ a ∧ a < s_nv (v_S (i_V I))
    · simp only [m_L_areOne, m_X11_areOne, chk_ko hT.1, ob_some, (c_var hT hC.2.1.2.1 g0 ha).1 g1, (c_var hT hC.2.1.2.1 g0 hb).2 (fun q => g ⟨g1, q⟩), xel_l, xel_r]
      rfl
    · simp only [m_L_areOne, m_X11_areOne, chk_ko hT.1, ob_some, (c_var hT hC.2.1.2.1 g0 ha).2 g1, xel_r]
      rfl
  · by_cases g1 : 0 ≤ a ∧ a < s_nv (v_S (i_V I))
    · simp only [m_X12_areOne, p1, ob_some, chk_ko hK.1, (cm_var hK hM.2.1.1.1 g0 ha).1 g1, (cm_var hK hM.2.1.1.1 g0 hb).2 (fun q => g ⟨g1, q⟩), i10, ↓reduceIte, m_X12_areOne_b21, p2]
    · simp only [m_X12_areOne, p1, ob_some, chk_ko hK.1, (cm_var hK hM.2.1.1.1 g0 ha).2 g1, ↓reduceIte, m_X12_areOne_b21, p2]
/-! fired -/
theorem o_fired (h : Ctx σ δ mo p3 k E bd R I jr) (hz : rng z) : LX mo p3 (m_L_fired σ 0 (ii z) p3 δ) (fun d => m_X12_fired σ mo (ii z) d) (fun d => Core d mo k E bd R I jr) := by
  obtain ⟨⟨hT, hK, h3, hmo⟩, hC⟩ := id h
  have hm := hC.1.1.2.1
  have kW : KO σ 68 10 := hT.2.2.2.2.1.2.1
  have kS := hT.2.2.2.2.1.2.2.1
  obtain ⟨kR0, ⟨-, -, -, -, -, -, kR8⟩, -, -, -, -, kD8, -⟩ : KW σ (68 + 18) (68 + 1) 8 := hT.2.2.2.2.1.2.2.2.2.2.2.1
  have q9 : gI σ δ 6 (68 + 18) 9 = some (ii (e_md E)) := by rw [gI_ko kR0]; exact congrArg some hC.2.1.2.1.2.2.2.1
  by_cases g : 0 ≤ z ∧ z < e_md E
  · refine LX_q (v := ii (v_fi (i_V I) z)) h ?_ (fun d d1 p1 hM => ?_)
    · have n0 : (ii z < (0 : Int32)) = False := i_nlt (b := 0) hz (by omega) (by omega)
      have n1 : (ii z < ii (e_md E)) = True := i_lt hz (by omega) (by omega)
      have e1 : rI σ δ (68 + 18 + 5) (ii z) = some (ii (v_fi (i_V I) z)) := by rw [rI_kd kD8 g.1 (by omega)]; exact congrArg some (hC.2.1.2.1.2.2.1 z g.1 (by omega))
      simp only [m_L_fired, m_X11_fired, chk_ko hT.1, ob_some, n0, ↓reduceIte, gR_ko hT.1 hT.2.1.2.2.1, gR_ko kW kS.2.2.1, q9, n1, gR_ko kR0 kR8, e1]
      rfl
    · have g14 : gI σ d1 12 mo 14 = some (ii (e_md E)) := by rw [gI_ko hK.1, hM.1.1.1]
      have w : m_X12_in σ (ii z) (0 : Int32) (ii (e_md E) - (1 : Int32)) d1 = some 1 := by rw [show ((1 : Int32)) = ii 1 from rfl, ii_sub, show ((0 : Int32)) = ii 0 from rfl]; exact c_in_y hz (by omega) (by omega) (by omega)
      have e1 : rI σ d1 (mo + 1) ((7023 : Int32) + ii z) = some (ii (v_fi (i_V I) z)) := by
        rw [show ((7023 : Int32)) = ii 7023 from rfl, ii_add]
        have := hM.2.1.2.2.1 z.toNat (by omega)
        rw [show ((z.toNat : Nat) : Int) = z by omega] at this
        exact rst (md0 hK) (by omega) (by omega) (by omega) this
      simp only [m_X12_fired, p1, ob_some, g14, w, i10, ↓reduceIte, mg0 hK, e1]
  · refine LX_ref (c := 1) h (by decide) ?_ (fun d1 d2 p1 hM p2 => ?_)
    · by_cases c : z < 0
      · have n0 : (ii z < (0 : Int32)) = True := i_lt (b := 0) hz (by omega) (by omega)
        simp only [m_L_fired, m_X11_fired, chk_ko hT.1, ob_some, n0, ↓reduceIte, m_X11_fired_b18]
        rfl
      · have n0 : (ii z < (0 : Int32)) = False := i_nlt (b := 0) hz (by omega) (by omega)
        have n1 : (ii z < ii (e_md E)) = False := i_nlt hz (by omega) (by omega)
        simp only [m_L_fired, m_X11_fired, chk_ko hT.1, ob_some, n0, ↓reduceIte, gR_ko hT.1 hT.2.1.2.2.1, gR_ko kW kS.2.2.1, q9, n1, m_X11_fired_b18]
        rfl
    · have g14 : gI σ d1 12 mo 14 = some (ii (e_md E)) := by rw [gI_ko hK.1, hM.1.1.1]
      have w : m_X12_in σ (ii z) (0 : Int32) (ii (e_md E) - (1 : Int32)) d1 = some 0 := by rw [show ((1 : Int32)) = ii 1 from rfl, ii_sub, show ((0 : Int32)) = ii 0 from rfl]; exact c_in_n hz (by omega) (by omega) (by omega)
      simp only [m_X12_fired, p1, ob_some, g14, w, ↓reduceIte, chk_ko hK.1, stop_of p2]
end
