/-! THE LAW: what both sides look at first -/
abbrev rng (z : Int) : Prop := -2147483648 ≤ z ∧ z < 2147483648
theorem ar (x : Int32) : ∃ z, x = ii z ∧ rng z := ⟨x.toInt, (Int32.ofInt_toInt x).symm, Int32.le_toInt x, Int32.toInt_lt x⟩
section
variable {σ : St} {δ : Dy} {E : Ev} {mo : Nat} {z a b c : Int}
theorem c_isValue (h : rng z) : m_X11_isValue σ (ii z) δ = some (bi (decide (-99 ≤ z ∧ z ≤ 99))) := by
  unfold m_X11_isValue
  rw [show ((-99 : Int32)) = ii (-99) from rfl, show ((99 : Int32)) = ii 99 from rfl]
  by_cases h1 : z < -99
  · rw [if_pos (show ii z < ii (-99) by rw [ii_lt h.1 h.2 (by omega) (by omega)]; exact h1), decide_eq_false (show ¬ (-99 ≤ z ∧ z ≤ 99) by omega)]; rfl
  · rw [if_neg (show ¬ ii z < ii (-99) by rw [ii_lt h.1 h.2 (by omega) (by omega)]; exact h1)]
    by_cases h2 : 99 < z
    · rw [if_pos (show ii 99 < ii z by rw [ii_lt (by omega) (by omega) h.1 h.2]; exact h2), decide_eq_false (show ¬ (-99 ≤ z ∧ z ≤ 99) by omega)]; rfl
    · rw [if_neg (show ¬ ii 99 < ii z by rw [ii_lt (by omega) (by omega) h.1 h.2]; exact h2), decide_eq_true (show -99 ≤ z ∧ z ≤ 99 by omega)]; rfl
theorem c_isSlot (h : rng z) : m_X11_isSlot σ (ii z) δ = some (bi (decide (200 ≤ z ∧ z < 204))) := by
  unfold m_X11_isSlot
  rw [show ((200 : Int32)) = ii 200 from rfl, show ((204 : Int32)) = ii 204 from rfl]
  by_cases h1 : z < 200
  · rw [if_pos (show ii z < ii 200 by rw [ii_lt h.1 h.2 (by omega) (by omega)]; exact h1), decide_eq_false (show ¬ (200 ≤ z ∧ z < 204) by omega)]; rfl
  · rw [if_neg (show ¬ ii z < ii 200 by rw [ii_lt h.1 h.2 (by omega) (by omega)]; exact h1)]
    by_cases h2 : 204 ≤ z
    · rw [if_pos (show ii 204 ≤ ii z by rw [ii_le (by omega) (by omega) h.1 h.2]; exact h2), decide_eq_false (show ¬ (200 ≤ z ∧ z < 204) by omega)]; rfl
    · rw [if_neg (show ¬ ii 204 ≤ ii z by rw [ii_le (by omega) (by omega) h.1 h.2]; exact h2), decide_eq_true (show 200 ≤ z ∧ z < 204 by omega)]; rfl
theorem c_term_y (h : rng z) (hg : gTm z) : m_X11_isTerm σ (ii z) δ = some 1 := by
  unfold m_X11_isTerm
  rw [c_isValue h, ob_some]
  rcases hg with hv | hv
  · have hv' : -99 ≤ z ∧ z ≤ 99 := hv
    rw [decide_eq_true hv', if_neg (show ¬ bi true = 0 by decide)]
  · have hv' : 200 ≤ z ∧ z < 204 := hv
    rw [decide_eq_false (show ¬ (-99 ≤ z ∧ z ≤ 99) by omega), if_pos (show bi false = 0 from rfl), c_isSlot h, ob_some, decide_eq_true hv', if_neg (show ¬ bi true = 0 by decide)]
theorem c_term_n (h : rng z) (hg : ¬ gTm z) : m_X11_isTerm σ (ii z) δ = some 0 := by
  unfold m_X11_isTerm
  have h1 : ¬ (-99 ≤ z ∧ z ≤ 99) := fun k => hg (Or.inl k)
  have h2 : ¬ (200 ≤ z ∧ z < 204) := fun k => hg (Or.inr k)
  rw [c_isValue h, ob_some, decide_eq_false h1, if_pos (show bi false = 0 from rfl), c_isSlot h, ob_some, decide_eq_false h2, if_pos (show bi false = 0 from rfl)]
theorem c_terms_y (ha : rng a) (hb : rng b) (h : gTm a ∧ gTm b) : m_X11_needTerms σ (ii a) (ii b) δ = some (.inl ()) := by
  unfold m_X11_needTerms
  rw [c_term_y ha h.1, ob_some, if_neg (show ¬ (1 : Int32) = 0 by decide), c_term_y hb h.2, ob_some, if_neg (show ¬ (1 : Int32) = 0 by decide)]
theorem c_terms_n (ha : rng a) (hb : rng b) (h : ¬ (gTm a ∧ gTm b)) : m_X11_needTerms σ (ii a) (ii b) δ = some (.inr 1) := by
  unfold m_X11_needTerms
  by_cases h1 : gTm a
  · rw [c_term_y ha h1, ob_some, if_neg (show ¬ (1 : Int32) = 0 by decide), c_term_n hb (fun k => h ⟨h1, k⟩), ob_some, if_pos (show (0 : Int32) = 0 from rfl)]; rfl
  · rw [c_term_n ha h1, ob_some, if_pos (show (0 : Int32) = 0 from rfl)]; rfl
theorem c_within_y (hz : rng z) (ha : rng a) (hb : rng b) (h : a ≤ z ∧ z ≤ b) : m_X11_needWithin σ (ii z) (ii a) (ii b) δ = some (.inl ()) := by
  unfold m_X11_needWithin
  rw [if_neg (show ¬ ii z < ii a by rw [ii_lt hz.1 hz.2 ha.1 ha.2]; omega), if_pos (show ii z ≤ ii b by rw [ii_le hz.1 hz.2 hb.1 hb.2]; omega)]
theorem c_within_n (hz : rng z) (ha : rng a) (hb : rng b) (h : ¬ (a ≤ z ∧ z ≤ b)) : m_X11_needWithin σ (ii z) (ii a) (ii b) δ = some (.inr 1) := by
  unfold m_X11_needWithin
  by_cases h1 : z < a
  · rw [if_pos (show ii z < ii a by rw [ii_lt hz.1 hz.2 ha.1 ha.2]; exact h1)]; rfl
  · rw [if_neg (show ¬ ii z < ii a by rw [ii_lt hz.1 hz.2 ha.1 ha.2]; exact h1), if_neg (show ¬ ii z ≤ ii b by rw [ii_le hz.1 hz.2 hb.1 hb.2]; omega)]; rfl
theorem c_sort_y (hz : rng z) (h : 0 ≤ z ∧ z ≤ 5) : m_X11_needSort σ (ii z) δ = some (.inl ()) := by
  unfold m_X11_needSort
  rw [show ((0 : Int32)) = ii 0 from rfl, show ((5 : Int32)) = ii 5 from rfl, c_within_y hz (by omega) (by omega) h, ob_some]
  rfl
theorem c_sort_n (hz : rng z) (h : ¬ (0 ≤ z ∧ z ≤ 5)) : m_X11_needSort σ (ii z) δ = some (.inr 1) := by
  unfold m_X11_needSort
  rw [show ((0 : Int32)) = ii 0 from rfl, show ((5 : Int32)) = ii 5 from rfl, c_within_n hz (by omega) (by omega) h, ob_some]
  rfl
theorem c_cond_y (hz : rng z) (h : gCond z) : m_X11_needCondition σ (ii z) δ = some (.inl ()) := by
  have h' : (0 ≤ z ∧ z ≤ 3) ∨ (10 ≤ z ∧ z ≤ 15) := h
  unfold m_X11_needCondition
  rw [show ((10 : Int32)) = ii 10 from rfl, show ((16 : Int32)) = ii 16 from rfl]
  by_cases h1 : z < 10
  · rw [if_pos (show ii z < ii 10 by rw [ii_lt hz.1 hz.2 (by omega) (by omega)]; exact h1)]
    unfold m_X11_needCondition_b12
    rw [show ((0 : Int32)) = ii 0 from rfl, show ((3 : Int32)) = ii 3 from rfl, c_within_y hz (by omega) (by omega) (by omega), ob_some]
    rfl
  · rw [if_neg (show ¬ ii z < ii 10 by rw [ii_lt hz.1 hz.2 (by omega) (by omega)]; exact h1), if_pos (show ii z < ii 16 by rw [ii_lt hz.1 hz.2 (by omega) (by omega)]; omega)]
theorem c_cond_n (hz : rng z) (h : ¬ gCond z) : m_X11_needCondition σ (ii z) δ = some (.inr 1) := by
  have h' : ¬ ((0 ≤ z ∧ z ≤ 3) ∨ (10 ≤ z ∧ z ≤ 15)) := h
  unfold m_X11_needCondition
  rw [show ((10 : Int32)) = ii 10 from rfl, show ((16 : Int32)) = ii 16 from rfl]
  have key : m_X11_needCondition_b12 σ (ii z) δ = some (.inr 1) := by
    unfold m_X11_needCondition_b12
    rw [show ((0 : Int32)) = ii 0 from rfl, show ((3 : Int32)) = ii 3 from rfl, c_within_n hz (by omega) (by omega) (by omega), ob_some]
    rfl
  by_cases h1 : z < 10
  · rw [if_pos (show ii z < ii 10 by rw [ii_lt hz.1 hz.2 (by omega) (by omega)]; exact h1)]
    exact key
  · rw [if_neg (show ¬ ii z < ii 10 by rw [ii_lt hz.1 hz.2 (by omega) (by omega)]; exact h1), if_neg (show ¬ ii z < ii 16 by rw [ii_lt hz.1 hz.2 (by omega) (by omega)]; omega)]
    exact key
theorem c_def_y (hz : rng z) (h : 0 ≤ z ∧ z ≤ 5) : m_X11_needDefinition σ 0 (ii z) δ = some (.inl ()) := by
  unfold m_X11_needDefinition
  rw [show ((0 : Int32)) = ii 0 from rfl, show ((6 : Int32)) = ii 6 from rfl, if_neg (show ¬ ii z < ii 0 by rw [ii_lt hz.1 hz.2 (by omega) (by omega)]; omega), if_pos (show ii z < ii 6 by rw [ii_lt hz.1 hz.2 (by omega) (by omega)]; omega)]
theorem c_def_n (hz : rng z) (h : ¬ (0 ≤ z ∧ z ≤ 5)) : m_X11_needDefinition σ 0 (ii z) δ = some (.inr 2) := by
  unfold m_X11_needDefinition
  rw [show ((0 : Int32)) = ii 0 from rfl, show ((6 : Int32)) = ii 6 from rfl]
  by_cases h1 : z < 0
  · rw [if_pos (show ii z < ii 0 by rw [ii_lt hz.1 hz.2 (by omega) (by omega)]; exact h1)]; rfl
  · rw [if_neg (show ¬ ii z < ii 0 by rw [ii_lt hz.1 hz.2 (by omega) (by omega)]; exact h1), if_neg (show ¬ ii z < ii 6 by rw [ii_lt hz.1 hz.2 (by omega) (by omega)]; omega)]; rfl
theorem c_asked (hz : rng z) : m_X11_asked σ (ii z) (ii b) δ = some (ii (if z = 3 then 0 else b)) := by
  unfold m_X11_asked
  rw [show ((3 : Int32)) = ii 3 from rfl]
  by_cases h : z = 3
  · rw [if_pos (congrArg ii h), if_pos h]; rfl
  · rw [if_neg (show ¬ ii z = ii 3 by rw [ii_eq hz.1 hz.2 (by omega) (by omega)]; exact h), if_neg h]
/-! the reference's looks -/
theorem c_in (hz : rng z) (ha : rng a) (hb : rng b) : m_X12_in σ (ii z) (ii a) (ii b) δ = some (bi (decide (a ≤ z ∧ z ≤ b))) := by
  unfold m_X12_in
  by_cases h1 : z < a
  · rw [if_pos (show ii z < ii a by rw [ii_lt hz.1 hz.2 ha.1 ha.2]; exact h1), decide_eq_false (show ¬ (a ≤ z ∧ z ≤ b) by omega)]; rfl
  · rw [if_neg (show ¬ ii z < ii a by rw [ii_lt hz.1 hz.2 ha.1 ha.2]; exact h1)]
    by_cases h2 : b < z
    · rw [if_pos (show ii b < ii z by rw [ii_lt hb.1 hb.2 hz.1 hz.2]; exact h2), decide_eq_false (show ¬ (a ≤ z ∧ z ≤ b) by omega)]; rfl
    · rw [if_neg (show ¬ ii b < ii z by rw [ii_lt hb.1 hb.2 hz.1 hz.2]; exact h2), decide_eq_true (show a ≤ z ∧ z ≤ b by omega)]; rfl
theorem cm_value (hz : rng z) : m_X12_isValue σ (ii z) δ = some (bi (decide (-99 ≤ z ∧ z ≤ 99))) := by
  unfold m_X12_isValue
  rw [show ((-99 : Int32)) = ii (-99) from rfl, show ((99 : Int32)) = ii 99 from rfl, c_in hz (by omega) (by omega), ob_some, zo_bi, ob_some]
theorem cm_term_y (hz : rng z) (hg : gTm z) : m_X12_isTerm σ (ii z) δ = some 1 := by
  unfold m_X12_isTerm
  rw [cm_value hz, ob_some]
  rcases hg with hv | hv
  · have hv' : -99 ≤ z ∧ z ≤ 99 := hv
    rw [decide_eq_true hv', if_neg (show ¬ bi true = 0 by decide)]
  · have hv' : 200 ≤ z ∧ z < 204 := hv
    rw [decide_eq_false (show ¬ (-99 ≤ z ∧ z ≤ 99) by omega), if_pos (show bi false = 0 from rfl), show ((200 : Int32)) = ii 200 from rfl, show ((203 : Int32)) = ii 203 from rfl, c_in hz (by omega) (by omega), ob_some, decide_eq_true (show 200 ≤ z ∧ z ≤ 203 by omega), if_neg (show ¬ bi true = 0 by decide)]
theorem cm_term_n (hz : rng z) (hg : ¬ gTm z) : m_X12_isTerm σ (ii z) δ = some 0 := by
  have h1 : ¬ (-99 ≤ z ∧ z ≤ 99) := fun k => hg (Or.inl k)
  have h2 : ¬ (200 ≤ z ∧ z < 204) := fun k => hg (Or.inr k)
  unfold m_X12_isTerm
  rw [cm_value hz, ob_some, decide_eq_false h1, if_pos (show bi false = 0 from rfl), show ((200 : Int32)) = ii 200 from rfl, show ((203 : Int32)) = ii 203 from rfl, c_in hz (by omega) (by omega), ob_some, decide_eq_false (show ¬ (200 ≤ z ∧ z ≤ 203) by omega), if_pos (show bi false = 0 from rfl)]
theorem cm_cond_y (hz : rng z) (h : gCond z) : m_X12_isCondition σ (ii z) δ = some 1 := by
  have h' : (0 ≤ z ∧ z ≤ 3) ∨ (10 ≤ z ∧ z ≤ 15) := h
  unfold m_X12_isCondition
  rw [show ((0 : Int32)) = ii 0 from rfl, show ((3 : Int32)) = ii 3 from rfl, show ((10 : Int32)) = ii 10 from rfl, show ((15 : Int32)) = ii 15 from rfl, c_in hz (by omega) (by omega), ob_some]
  by_cases c : 0 ≤ z ∧ z ≤ 3
  · rw [decide_eq_true c, if_neg (show ¬ bi true = ii 0 by decide)]
  · rw [decide_eq_false c, if_pos (show bi false = ii 0 from rfl), c_in hz (by omega) (by omega), ob_some, decide_eq_true (show 10 ≤ z ∧ z ≤ 15 by omega), if_neg (show ¬ bi true = ii 0 by decide)]
theorem cm_cond_n (hz : rng z) (h : ¬ gCond z) : m_X12_isCondition σ (ii z) δ = some 0 := by
  have h' : ¬ ((0 ≤ z ∧ z ≤ 3) ∨ (10 ≤ z ∧ z ≤ 15)) := h
  unfold m_X12_isCondition
  rw [show ((0 : Int32)) = ii 0 from rfl, show ((3 : Int32)) = ii 3 from rfl, show ((10 : Int32)) = ii 10 from rfl, show ((15 : Int32)) = ii 15 from rfl, c_in hz (by omega) (by omega), ob_some, decide_eq_false (show ¬ (0 ≤ z ∧ z ≤ 3) by omega), if_pos (show bi false = ii 0 from rfl), c_in hz (by omega) (by omega), ob_some, decide_eq_false (show ¬ (10 ≤ z ∧ z ≤ 15) by omega), if_pos (show bi false = ii 0 from rfl)]
/-- a condition and its terms -/
def gAsk (c a b : Int) : Prop := gCond c ∧ gTm a ∧ gTm (if c = 3 then 0 else b)
theorem cm_told_y (hz : rng z) (ha : rng a) (hb : rng b) (h : gAsk z a b) : m_X12_areTold σ (ii z) (ii a) (ii b) δ = some 1 := by
  obtain ⟨h1, h2, h3⟩ := h
  unfold m_X12_areTold
  rw [cm_cond_y hz h1, ob_some, if_neg (show ¬ (1 : Int32) = 0 by decide), cm_term_y ha h2, ob_some, if_neg (show ¬ (1 : Int32) = 0 by decide)]
  by_cases c3 : z = 3
  · rw [if_pos (show ii z = 3 by rw [c3]; rfl)]
  · rw [if_neg c3] at h3
    rw [if_neg (show ¬ ii z = 3 by rw [show ((3 : Int32)) = ii 3 from rfl, ii_eq hz.1 hz.2 (by omega) (by omega)]; exact c3), cm_term_y hb h3, ob_some, if_neg (show ¬ (1 : Int32) = 0 by decide)]
theorem cm_told_n (hz : rng z) (ha : rng a) (hb : rng b) (h : ¬ gAsk z a b) : m_X12_areTold σ (ii z) (ii a) (ii b) δ = some 0 := by
  unfold m_X12_areTold
  by_cases h1 : gCond z
  · rw [cm_cond_y hz h1, ob_some, if_neg (show ¬ (1 : Int32) = 0 by decide)]
    by_cases h2 : gTm a
    · rw [cm_term_y ha h2, ob_some, if_neg (show ¬ (1 : Int32) = 0 by decide)]
      have c3 : ¬ z = 3 := fun k => h ⟨h1, h2, by rw [if_pos k]; exact Or.inl ⟨by decide, by decide⟩⟩
      rw [if_neg (show ¬ ii z = 3 by rw [show ((3 : Int32)) = ii 3 from rfl, ii_eq hz.1 hz.2 (by omega) (by omega)]; exact c3), cm_term_n hb (fun k => h ⟨h1, h2, by rw [if_neg c3]; exact k⟩), ob_some, if_pos (show (0 : Int32) = 0 from rfl)]
    · rw [cm_term_n ha h2, ob_some, if_pos (show (0 : Int32) = 0 from rfl)]
  · rw [cm_cond_n hz h1, ob_some, if_pos (show (0 : Int32) = 0 from rfl)]
theorem cm_node (hK : KM σ mo) (h7 : δ.1 mo 7 = ii (e_ct E)) (hc : 0 ≤ e_ct E ∧ e_ct E ≤ 60) (hz : rng z) : m_X12_isNode σ mo (ii z) δ = some (bi (decide (0 ≤ z ∧ z ≤ e_ct E - 1))) := by
  unfold m_X12_isNode
  rw [gI_ko hK.1, ob_some, h7, show ((0 : Int32)) = ii 0 from rfl, show ((1 : Int32)) = ii 1 from rfl, ii_sub, c_in hz (by omega) (by omega), ob_some, zo_bi, ob_some]
end
