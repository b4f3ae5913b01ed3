abbrev rng (z : Int) : Prop := -2147483648 ≤ z ∧ z < 2147483648
theorem ar (x : Int32) : ∃ z, x = ii z ∧ rng z := ⟨x.toInt, (Int32.ofInt_toInt x).symm, Int32.le_toInt x, Int32.toInt_lt x⟩
section
variable {σ : St} {δ : Dy} {E : Ev} {mo : Nat} {z a b c : Int}
theorem c_isValue (h : rng z) : m_X11_isValue σ (ii z) δ = some (bi (decide (-99 ≤ z ∧ z ≤ 99))) := by
  unfold m_X11_isValue
  rw [show ((-99 : Int32)) = ii (-99) from rfl, show ((99 : Int32)) = ii 99 from rfl]
  by_cases h1 : z < -99
  · rw [if_pos (show ii z < ii (-99) by rw [ii_lt h.1 h.2 (by omega) (by omega)]; exact h1), decide_eq_false (show ¬ (-99 ≤ z ∧ z ≤ 99) by omega)]; rfl
  · rw [if_neg (show ¬ ii z < ii (-99) by rw [ii_lt h.1 h.2 (by omega) (by omega)]; exact h1)]
    by_cases h2 : 99 < z
    · rw [if_pos (show ii 99 < ii z by rw [ii_lt (by omega) (by omega) h.1 h.2]; exact h2), decide_eq_false (show ¬ (-99 ≤ z ∧ z ≤ 99) by omega)]; rfl
    · rw [if_neg (show ¬ ii 99 < ii z by rw [ii_lt (by omega) (by omega) h.1 h.2]; exact h2), decide_eq_true (show -99 ≤ z ∧ z ≤ 99 by omega)]; rfl
theorem c_isSlot (h : rng z) : m_X11_isSlot σ (ii z) δ = some (bi (decide (200 ≤ z ∧ z < 204))) := by
  unfold m_X11_isSlot
  rw [show ((200 : Int32)) = ii 200 from rfl, show ((204 : Int32)) = ii 204 from rfl]
  by_cases h1 : z < 200
  · rw [if_pos (show ii z < ii 200 by rw [ii_lt h.1 h.2 (by omega) (by omega)]; exact h1), decide_eq_false (show ¬ (200 ≤ z ∧ z < 204) by omega)]; rfl
  · rw [if_neg (show ¬ ii z < ii 200 by rw [ii_lt h.1 h.2 (by omega) (by omega)]; exact h1)]
    by_cases h2 : 204 ≤ z
    · rw [if_pos (show ii 204 ≤ ii z by rw [ii_le (by omega) (by omega) h.1 h.2]; exact h2), decide_eq_false (show ¬ (200 ≤ z ∧ z < 204) by omega)]; rfl
    · rw [if_neg (show ¬ ii 204 ≤ ii z by rw [ii_le (by omega) (by omega) h.1 h.2]; exact h2), decide_eq_true (show 200 ≤ z ∧ z < 204 by omega)]; rfl
theorem c_term_y (h : rng z) (hg : gTm z) : m_X11_isTerm σ (ii z) δ = some 1 := by
  unfold m_X11_isTerm
  rw [c_isValue h, ob_some]
  rcases hg with hv | hv
  · have hv' : -99 ≤ z ∧ z ≤ 99 := hv
    rw [decide_eq_true hv', if_neg (show ¬ bi true = 0 by decide)]
  · have hv' : 200 ≤ z ∧ z < 204 := hv
    rw [decide_eq_false (show ¬ (-99 ≤ z ∧ z ≤ 99) by omega), if_pos (show bi false = 0 from rfl), c_isSlot h, ob_some, decide_eq_true hv', if_neg (show ¬ bi true = 0 by decide)]
theorem c_terms_y (ha : rng a) (hb : rng b) (h : gTm a ∧ gTm b) : m_X11_needTerms σ (ii a) (ii b) δ = some (.inl ()) := by
  unfold m_X11_needTerms
  rw [c_term_y ha h.1, ob_some, if_neg (show ¬ (1 : Int32) = 0 by decide), c_term_y hb h.2, ob_some, if_neg (show ¬ (1 : Int32) = 0 by decide)]
theorem c_within_y (hz : rng z) (ha : rng a) (hb : rng b) (h : a ≤ z ∧ z ≤ b) : m_X11_needWithin σ (ii z) (ii a) (ii b) δ = some (.inl ()) := by
  unfold m_X11_needWithin
  rw [if_neg (show ¬ ii z < ii a by rw [ii_lt hz.1 hz.2 ha.1 ha.2]; omega), if_pos (show ii z ≤ ii b by rw [ii_le hz.1 hz.2 hb.1 hb.2]; omega)]
theorem c_sort_y (hz : rng z) (h : 0 ≤ z ∧ z ≤ 5) : m_X11_needSort σ (ii z) δ = some (.inl ()) := by
  unfold m_X11_needSort
  rw [show ((0 : Int32)) = ii 0 from rfl, show ((5 : Int32)) = ii 5 from rfl, c_within_y hz (by omega) (by omega) h, ob_some]
  rfl
theorem c_cond_y (hz : rng z) (h : gCond z) : m_X11_needCondition σ (ii z) δ = some (.inl ()) := by
  have h' : (0 ≤ z ∧ z ≤ 3) ∨ (10 ≤ z ∧ z ≤ 15) := h
  unfold m_X11_needCondition
  rw [show ((10 : Int32)) = ii 10 from rfl, show ((16 : Int32)) = ii 16 from rfl]
  by_cases h1 : z < 10
  · rw [if_pos (show ii z < ii 10 by rw [ii_lt hz.1 hz.2 (by omega) (by omega)]; exact h1)]
    unfold m_X11_needCondition_b12
    rw [show ((0 : Int32)) = ii 0 from rfl, show ((3 : Int32)) = ii 3 from rfl, c_within_y hz (by omega) (by omega) (by omega), ob_some]
    rfl
  · rw [if_neg (show ¬ ii z < ii 10 by rw [ii_lt hz.1 hz.2 (by omega) (by omega)]; exact h1), if_pos (show ii z < ii 16 by rw [ii_lt hz.1 hz.2 (by omega) (by omega)]; omega)]
theorem c_asked (hz : rng z) : m_X11_asked σ (ii z) (ii b) δ = some (ii (if z = 3 then 0 else b)) := by
  unfold m_X11_asked
  rw [show ((3 : Int32)) = ii 3 from rfl]
  by_cases h : z = 3
  · rw [if_pos (congrArg ii h), if_pos h]; rfl
  · rw [if_neg (show ¬ ii z = ii 3 by rw [ii_eq hz.1 hz.2 (by omega) (by omega)]; exact h), if_neg h]
/-- a condition and its terms -/
def gAsk (c a b : Int) : Prop := gCond c ∧ gTm a ∧ gTm (if c = 3 then 0 else b)
end
