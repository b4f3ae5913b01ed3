theorem i_lt {a b : Int} (ha : rng a) (hb : rng b) (h : a < b) : (ii a < ii b) = True := eq_true (by rw [ii_lt ha.1 ha.2 hb.1 hb.2]; exact h)
theorem i_nlt {a b : Int} (ha : rng a) (hb : rng b) (h : ¬ a < b) : (ii a < ii b) = False := eq_false (by rw [ii_lt ha.1 ha.2 hb.1 hb.2]; exact h)
theorem i_le {a b : Int} (ha : rng a) (hb : rng b) (h : a ≤ b) : (ii a ≤ ii b) = True := eq_true (by rw [ii_le ha.1 ha.2 hb.1 hb.2]; exact h)
theorem i_nle {a b : Int} (ha : rng a) (hb : rng b) (h : ¬ a ≤ b) : (ii a ≤ ii b) = False := eq_false (by rw [ii_le ha.1 ha.2 hb.1 hb.2]; exact h)
section
variable {σ : St} {δ d : Dy} {mo p3 k : Nat} {E : Ev} {bd : Bool} {R : Rl} {I : Iw} {jr : List Jn} {a b n nv : Int}
/-- the class's looks at the two terms, when both are no variables that there are not -/
theorem tb_terms {F : Option ((Int32 ⊕ Nat) × Dy)} (hT : KT σ) (ha : rng a) (hb : rng b) (h0 : 0 ≤ nv ∧ nv ≤ 60) (va : ¬ badV nv a) (vb : ¬ badV nv b) {x : Int32} : (tm nv a → tm nv b → ((m_X11_isValue σ (ii a) δ).bind fun v5 => if v5 = 0 then if ii a < (400 : Int32) then m_X11_begin_b59 σ δ else m_X11_begin_b45 σ 0 x (ii a) (ii b) δ else m_X11_begin_b45 σ 0 x (ii a) (ii b) δ) = m_X11_begin_b69 σ 0 x (ii a) (ii b) δ) ∧ (¬ (tm nv a ∧ tm nv b) → ((m_X11_isValue σ (ii a) δ).bind fun v5 => if v5 = 0 then if ii a < (400 : Int32) then m_X11_begin_b59 σ δ else m_X11_begin_b45 σ 0 x (ii a) (ii b) δ else m_X11_begin_b45 σ 0 x (ii a) (ii b) δ) = some (Sum.inr 1, δ)) := by
  have va' : ¬ (400 ≤ a ∧ ¬ a < 400 + nv) := va
  have vb' : ¬ (400 ≤ b ∧ ¬ b < 400 + nv) := vb
  have hb45 : (tm nv b → m_X11_begin_b45 σ 0 x (ii a) (ii b) δ = m_X11_begin_b69 σ 0 x (ii a) (ii b) δ) ∧ (¬ tm nv b → m_X11_begin_b45 σ 0 x (ii a) (ii b) δ = some (Sum.inr 1, δ)) := by
    constructor
    · intro ht
      have ht' : (-99 ≤ b ∧ b ≤ 99) ∨ (400 ≤ b ∧ b < 400 + nv) := ht
      unfold m_X11_begin_b45
      rw [c_isValue hb, ob_some, show ((400 : Int32)) = ii 400 from rfl]
      by_cases c : -99 ≤ b ∧ b ≤ 99
      · rw [decide_eq_true c, if_neg (show ¬ bi true = 0 by decide)]
      · rw [decide_eq_false c, if_pos (show bi false = 0 from rfl), if_pos (show ii 400 ≤ ii b by rw [ii_le (by omega) (by omega) hb.1 hb.2]; omega)]
    · intro ht
      have ht' : ¬ ((-99 ≤ b ∧ b ≤ 99) ∨ (400 ≤ b ∧ b < 400 + nv)) := ht
      unfold m_X11_begin_b45
      rw [c_isValue hb, ob_some, show ((400 : Int32)) = ii 400 from rfl, decide_eq_false (show ¬ (-99 ≤ b ∧ b ≤ 99) by omega), if_pos (show bi false = 0 from rfl), if_neg (show ¬ ii 400 ≤ ii b by rw [ii_le (by omega) (by omega) hb.1 hb.2]; omega)]
      rfl
  rw [c_isValue ha, ob_some, show ((400 : Int32)) = ii 400 from rfl]
  constructor
  · intro h1 h2
    have h1' : (-99 ≤ a ∧ a ≤ 99) ∨ (400 ≤ a ∧ a < 400 + nv) := h1
    by_cases c : -99 ≤ a ∧ a ≤ 99
    · rw [decide_eq_true c, if_neg (show ¬ bi true = 0 by decide)]
      exact hb45.1 h2
    · rw [decide_eq_false c, if_pos (show bi false = 0 from rfl), if_neg (show ¬ ii a < ii 400 by rw [ii_lt ha.1 ha.2 (by omega) (by omega)]; omega)]
      exact hb45.1 h2
  · intro hno
    by_cases h1 : tm nv a
    · have h1' : (-99 ≤ a ∧ a ≤ 99) ∨ (400 ≤ a ∧ a < 400 + nv) := h1
      by_cases c : -99 ≤ a ∧ a ≤ 99
      · rw [decide_eq_true c, if_neg (show ¬ bi true = 0 by decide)]
        exact hb45.2 (fun q => hno ⟨h1, q⟩)
      · rw [decide_eq_false c, if_pos (show bi false = 0 from rfl), if_neg (show ¬ ii a < ii 400 by rw [ii_lt ha.1 ha.2 (by omega) (by omega)]; omega)]
        exact hb45.2 (fun q => hno ⟨h1, q⟩)
    · have h1' : ¬ ((-99 ≤ a ∧ a ≤ 99) ∨ (400 ≤ a ∧ a < 400 + nv)) := h1
      rw [decide_eq_false (show ¬ (-99 ≤ a ∧ a ≤ 99) by omega), if_pos (show bi false = 0 from rfl), if_pos (show ii a < ii 400 by rw [ii_lt ha.1 ha.2 (by omega) (by omega)]; omega)]
      rfl
def begOk (E : Ev) (I : Iw) (n a b : Int) : Prop := gNode E n ∧ tm (s_nv (v_S (i_V I))) a ∧ tm (s_nv (v_S (i_V I))) b ∧ v_fl (i_V I) = false ∧ (i_nx I).length < 30
theorem tm_noV (h : tm nv a) (h0 : 0 ≤ nv ∧ nv ≤ 60) : ¬ badV nv a := fun q => by
  have h' : (-99 ≤ a ∧ a ≤ 99) ∨ (400 ≤ a ∧ a < 400 + nv) := h
  have q' : 400 ≤ a ∧ ¬ a < 400 + nv := q
  omega
end
