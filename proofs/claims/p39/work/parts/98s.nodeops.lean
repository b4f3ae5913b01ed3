def GNv (E : Ev) (kk w a b on ot : Int) : Prop := (0 ≤ kk ∧ kk ≤ 13) ∧ (gTm a ∧ gTm b) ∧ (0 ≤ w ∧ w ≤ 15) ∧ (kk = 1 ∨ kk = 2 → w ≤ 5) ∧ (kk = 4 ∨ kk = 10 ∨ kk = 11 → gCond w) ∧ (kk = 5 → (e_kd E on = 4 ∧ e_kd E ot = 4) ∧ valu a ∧ valu b) ∧ (kk = 6 → w ≤ 3) ∧ (kk = 7 → w ≤ 5) ∧ (kk = 12 → (1 ≤ a ∧ a ≤ 9) ∧ 1 ≤ b ∧ b ≤ 9) ∧ (kk = 3 ∨ kk = 4 ∨ kk = 5 ∨ kk = 6 ∨ (8 ≤ kk ∧ kk ≤ 13) → gNode E on) ∧ (kk = 3 ∨ kk = 5 ∨ kk = 12 ∨ kk = 13 → gNode E ot)
theorem bt0 : (bi true = (0 : Int32)) = False := eq_false (by decide)
theorem bf0 : (bi false = (0 : Int32)) = True := eq_true rfl
theorem i10 : ((1 : Int32) = 0) = False := eq_false (by decide)
theorem gT0 : gTm 0 := Or.inl ⟨by decide, by decide⟩
section
variable {σ : St} {δ d : Dy} {mo p3 k : Nat} {E : Ev} {bd : Bool} {R : Rl} {I : Iw} {jr : List Jn} {z kk w a b on ot p q s c : Int}
theorem GN_of (hx : HasN E kk w a b on ot) (h : GNv E kk w a b on ot) : GN (bumpN E) (e_ct E) := by
  obtain ⟨x1, x2, x3, x4, x5, x6⟩ := hx
  obtain ⟨q1, q2, q3, q4, q5, q6, q7, q8, q9, q10, q11⟩ := h
  have gn : ∀ n, gNode E n → gNode (bumpN E) n := fun n h => ⟨h.1, by show n < e_ct E + 1; have := h.2; omega⟩
  unfold GN
  rw [show e_kd (bumpN E) (e_ct E) = kk from x1, show e_wh (bumpN E) (e_ct E) = w from x2, show e_a (bumpN E) (e_ct E) = a from x3, show e_b (bumpN E) (e_ct E) = b from x4, show e_on (bumpN E) (e_ct E) = on from x5, show e_ot (bumpN E) (e_ct E) = ot from x6]
  exact ⟨q1, q2, q3, q4, q5, q6, q7, q8, q9, fun h => gn _ (q10 h), fun h => gn _ (q11 h)⟩
theorem c_node_y (hT : KT σ) (hR : RN δ 1 E) (hc : 0 ≤ e_ct E ∧ e_ct E ≤ 60) (hz : rng z) (g : gNode E z) : m_X11_needNode σ 0 (ii z) δ = some (.inl ()) := by
  have g' : 0 ≤ z ∧ z < e_ct E := g
  unfold m_X11_needNode
  rw [show ((0 : Int32)) = ii 0 from rfl, if_neg (show ¬ ii z < ii 0 by rw [ii_lt hz.1 hz.2 (by omega) (by omega)]; omega), gR_ko hT.1 hT.2.1.1, ob_some, gI_ko hT.2.2.2.2.1.2.2.2.1.1, ob_some, hR.1, if_pos (show ii z < ii (e_ct E) by rw [ii_lt hz.1 hz.2 (by omega) (by omega)]; omega)]
theorem c_room_y (hT : KT σ) (hR : RN δ 1 E) (hc : 0 ≤ e_ct E ∧ e_ct E < 60) : m_X11_needRoom σ 0 δ = some (.inl ()) := by
  unfold m_X11_needRoom
  rw [gR_ko hT.1 hT.2.1.1, ob_some, gI_ko hT.2.2.2.2.1.2.2.2.1.1, ob_some, hR.1, show ((60 : Int32)) = ii 60 from rfl, if_pos (show ii (e_ct E) < ii 60 by rw [ii_lt (by omega) (by omega) (by omega) (by omega)]; omega)]
end
