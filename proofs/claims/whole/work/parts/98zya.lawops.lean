/-! THE LAW: the other calls, whatever comes -/
section
variable {σ : St} {δ : Dy} {mo p3 k : Nat} {E F : Ev} {a b c n s x z i : Int} {kp : Bool}
theorem b_define (hI : InvL σ mo p3 k δ) (hk : k < 512) (hz : rng z) (hn : rng n) : LXP mo p3 (m_L_define σ 0 (ii z) (ii n) p3 δ) (fun d => m_X12_define σ mo (ii z) (ii n) d) (fun _ => True) (fun d => InvL σ mo p3 (k + 1) d) := by
  obtain ⟨hK, E, bd, R, hI⟩ := hI
  by_cases g : (0 ≤ z ∧ z ≤ 5) ∧ gNode E n
  · refine InvL_mk (E := dfE E z n) (bd := bd) (R := R) hK (fun F hF => ?_)
    obtain ⟨a1, a2⟩ := dfE_back hF
    obtain ⟨I, jr, hC⟩ := hI _ a1
    have := o_define_y ⟨hK, hC⟩ hk hz hn g.1 ((gNode_ag a1).mpr g.2)
    rw [a2] at this
    exact this.p (fun d hd => ⟨I, _, hd⟩)
  · refine InvL_mk (E := E) (bd := bd) (R := R) hK (fun F hF => ?_)
    obtain ⟨I, jr, hC⟩ := hI F hF
    exact (o_define_n ⟨hK, hC⟩ hz hn (fun q => g ⟨q.1, (gNode_ag hF).mp q.2⟩)).p (fun d hd => ⟨I, jr, Core_k hd (Nat.le_succ k)⟩)
theorem b_variable (hI : InvL σ mo p3 k δ) (hk : k < 512) : LXP mo p3 (m_L_variable σ 0 p3 δ) (fun d => m_X12_variable σ mo d) (fun _ => True) (fun d => InvL σ mo p3 (k + 1) d) := by
  obtain ⟨hK, E, bd, R, hI⟩ := hI
  refine InvL_mk (E := E) (bd := bd) (R := R) hK (fun F hF => ?_)
  obtain ⟨I, jr, hC⟩ := hI F hF
  by_cases g : s_nv (v_S (i_V I)) < 60 ∧ v_fl (i_V I) = false
  · exact (o_variable_y ⟨hK, hC⟩ hk g.1 g.2).p (fun d hd => ⟨_, _, hd⟩)
  · exact (o_variable_n ⟨hK, hC⟩ g).p (fun d hd => ⟨I, jr, Core_k hd (Nat.le_succ k)⟩)
theorem b_seed (hI : InvL σ mo p3 k δ) (hk : k < 512) (hx : rng x) : LXP mo p3 (m_L_seed σ 0 (ii x) p3 δ) (fun d => m_X12_seed σ mo (ii x) d) (fun _ => True) (fun d => InvL σ mo p3 (k + 1) d) := by
  obtain ⟨hK, E, bd, R, hI⟩ := hI
  refine InvL_mk (E := E) (bd := bd) (R := R) hK (fun F hF => ?_)
  obtain ⟨I, jr, hC⟩ := hI F hF
  by_cases g : 0 ≤ x ∧ x ≤ 65536
  · exact (o_seed_y ⟨hK, hC⟩ hk hx g).p (fun d hd => ⟨_, _, hd⟩)
  · exact (o_seed_n ⟨hK, hC⟩ hx g).p (fun d hd => ⟨I, jr, Core_k hd (Nat.le_succ k)⟩)
theorem b_begin (hI : InvL σ mo p3 k δ) (hk : k < 512) (hn : rng n) (ha : rng a) (hb : rng b) : LXP mo p3 (m_L_begin σ 0 (ii n) (ii a) (ii b) p3 δ) (fun d => m_X12_begin σ mo (ii n) (ii a) (ii b) d) (fun _ => True) (fun d => InvL σ mo p3 (k + 1) d) := by
  obtain ⟨hK, E, bd, R, hI⟩ := hI
  refine InvL_mk (E := E) (bd := bd) (R := R) hK (fun F hF => ?_)
  obtain ⟨I, jr, hC⟩ := hI F hF
  by_cases g : begOk F I n a b
  · exact (o_begin_y ⟨hK, hC⟩ hk hn ha hb g).p (fun d hd => ⟨_, _, hd⟩)
  · exact (o_begin_n ⟨hK, hC⟩ hn ha hb g).p (fun d hd => ⟨I, jr, Core_k hd (Nat.le_succ k)⟩)
theorem b_step (hI : InvL σ mo p3 k δ) (hk : k < 512) : LXP mo p3 (m_L_step σ 0 p3 δ) (fun d => m_X12_step σ mo d) (fun _ => True) (fun d => InvL σ mo p3 (k + 1) d) := by
  obtain ⟨hK, E, bd, R, hI⟩ := hI
  refine InvL_mk (E := E) (bd := bd) (R := R) hK (fun F hF => ?_)
  obtain ⟨I, jr, hC⟩ := hI F hF
  by_cases g : v_fl (i_V I) = false ∧ i_st I < 30
  · refine (o_step_y ⟨hK, hC⟩ hk g.1 g.2).p ?_
    rintro d ⟨Wf, -, hd⟩
    exact ⟨_, _, hd⟩
  · exact (o_step_n ⟨hK, hC⟩ g).p (fun d hd => ⟨I, jr, Core_k hd (Nat.le_succ k)⟩)
theorem b_ends (hI : InvL σ mo p3 k δ) : LXP mo p3 (m_L_ends σ 0 p3 δ) (fun d => m_X12_ends σ mo d) (fun _ => True) (fun d => InvL σ mo p3 (k + 1) d) := by
  obtain ⟨hK, E, bd, R, hI⟩ := hI
  refine InvL_mk (E := E) (bd := bd) (R := R) hK (fun F hF => ?_)
  obtain ⟨I, jr, hC⟩ := hI F hF
  cases g : v_fl (i_V I) with
  | false => exact (o_ends_y ⟨hK, hC⟩ g).p (fun d hd => ⟨I, jr, Core_k hd (Nat.le_succ k)⟩)
  | true => exact (o_ends_n ⟨hK, hC⟩ g).p (fun d hd => ⟨I, jr, Core_k hd (Nat.le_succ k)⟩)
theorem b_head (hI : InvL σ mo p3 k δ) (hs : rng s) (ha : rng a) (hb : rng b) : LXP mo p3 (m_L_head σ 0 (ii s) (ii a) (ii b) (bi kp) p3 δ) (fun d => m_X12_head σ mo (ii s) (ii a) (ii b) (bi kp) d) (fun v => v = 0 ∨ v = 1) (fun d => InvL σ mo p3 (k + 1) d) := by
  obtain ⟨hK, E, bd, R, hI⟩ := hI
  by_cases g : (0 ≤ s ∧ s ≤ 5) ∧ gPat a ∧ gPat b
  · refine InvL_mk (E := E) (bd := true) (R := hdR s a b kp) hK (fun F hF => ?_)
    obtain ⟨I, jr, hC⟩ := hI F hF
    exact (o_head_y ⟨hK, hC⟩ hs ha hb g.1 g.2).p (bi01 _) (fun d hd => ⟨I, jr, Core_k hd (Nat.le_succ k)⟩)
  · refine InvL_mk (E := E) (bd := bd) (R := R) hK (fun F hF => ?_)
    obtain ⟨I, jr, hC⟩ := hI F hF
    exact (o_head_n ⟨hK, hC⟩ hs ha hb g).p (bi01 _) (fun d hd => ⟨I, jr, Core_k hd (Nat.le_succ k)⟩)
theorem b_other (hI : InvL σ mo p3 k δ) (hs : rng s) (ha : rng a) (hb : rng b) : LXP mo p3 (m_L_other σ 0 (ii s) (ii a) (ii b) (bi kp) p3 δ) (fun d => m_X12_other σ mo (ii s) (ii a) (ii b) (bi kp) d) (fun _ => True) (fun d => InvL σ mo p3 (k + 1) d) := by
  obtain ⟨hK, E, bd, R, hI⟩ := hI
  by_cases g : (0 ≤ s ∧ s ≤ 5) ∧ (gPat a ∧ gPat b) ∧ bd = true ∧ l_hd R = 1 ∧ l_gd R = false ∧ l_nb R = 0
  · refine InvL_mk (E := E) (bd := true) (R := otR R s a b kp) hK (fun F hF => ?_)
    obtain ⟨I, jr, hC⟩ := hI F hF
    exact (o_other_y ⟨hK, hC⟩ hs ha hb g.1 g.2.1 g.2.2).p (fun d hd => ⟨I, jr, Core_k hd (Nat.le_succ k)⟩)
  · refine InvL_mk (E := E) (bd := bd) (R := R) hK (fun F hF => ?_)
    obtain ⟨I, jr, hC⟩ := hI F hF
    exact (o_other_n ⟨hK, hC⟩ hs ha hb g).p (fun d hd => ⟨I, jr, Core_k hd (Nat.le_succ k)⟩)
theorem b_guard (hI : InvL σ mo p3 k δ) (hc : rng c) (ha : rng a) (hb : rng b) : LXP mo p3 (m_L_guard σ 0 (ii c) (ii a) (ii b) p3 δ) (fun d => m_X12_guard σ mo (ii c) (ii a) (ii b) d) (fun v => v = 0 ∨ v = 1) (fun d => InvL σ mo p3 (k + 1) d) := by
  obtain ⟨hK, E, bd, R, hI⟩ := hI
  by_cases g : gCond c ∧ (gRt bd R a ∧ gRt bd R (if c = 3 then 0 else b)) ∧ bd = true ∧ l_gd R = false ∧ l_nb R = 0
  · refine InvL_mk (E := E) (bd := true) (R := gdR R c a (if c = 3 then 0 else b)) hK (fun F hF => ?_)
    obtain ⟨I, jr, hC⟩ := hI F hF
    exact (o_guard_y ⟨hK, hC⟩ hc ha hb g.1 g.2.1 g.2.2).p (Or.inr rfl) (fun d hd => ⟨I, jr, Core_k hd (Nat.le_succ k)⟩)
  · refine InvL_mk (E := E) (bd := bd) (R := R) hK (fun F hF => ?_)
    obtain ⟨I, jr, hC⟩ := hI F hF
    exact (o_guard_n ⟨hK, hC⟩ hc ha hb g).p (Or.inr rfl) (fun d hd => ⟨I, jr, Core_k hd (Nat.le_succ k)⟩)
theorem b_body (hI : InvL σ mo p3 k δ) (hs : rng s) (ha : rng a) (hb : rng b) : LXP mo p3 (m_L_body σ 0 (ii s) (ii a) (ii b) p3 δ) (fun d => m_X12_body σ mo (ii s) (ii a) (ii b) d) (fun _ => True) (fun d => InvL σ mo p3 (k + 1) d) := by
  obtain ⟨hK, E, bd, R, hI⟩ := hI
  by_cases g : (-1 ≤ s ∧ s ≤ 5) ∧ (gRt bd R a ∧ gRt bd R b) ∧ bd = true ∧ l_nb R < 2
  · refine InvL_mk (E := E) (bd := true) (R := bdR R s a b) hK (fun F hF => ?_)
    obtain ⟨I, jr, hC⟩ := hI F hF
    exact (o_body_y ⟨hK, hC⟩ hs ha hb g.1 g.2.1 g.2.2.1 g.2.2.2).p (fun d hd => ⟨I, jr, Core_k hd (Nat.le_succ k)⟩)
  · refine InvL_mk (E := E) (bd := bd) (R := R) hK (fun F hF => ?_)
    obtain ⟨I, jr, hC⟩ := hI F hF
    exact (o_body_n ⟨hK, hC⟩ hs ha hb g).p (fun d hd => ⟨I, jr, Core_k hd (Nat.le_succ k)⟩)
theorem b_rule (hI : InvL σ mo p3 k δ) (hk : k < 512) : LXP mo p3 (m_L_rule σ 0 p3 δ) (fun d => m_X12_rule σ mo d) (fun _ => True) (fun d => InvL σ mo p3 (k + 1) d) := by
  obtain ⟨hK, E, bd, R, hI⟩ := hI
  obtain ⟨I0', jr0, hC0⟩ := hI E AgE_rf
  have m0 : 0 ≤ e_md E := hC0.1.1.2.1.1
  by_cases g : bd = true ∧ ¬ l_nb R = 0 ∧ e_md E < 8
  · refine InvL_mk (E := rulE E R) (bd := false) (R := R) hK (fun F hF => ?_)
    obtain ⟨a1, a2, a3⟩ := rulE_back m0 hF
    obtain ⟨I, jr, hC⟩ := hI _ a1
    have := o_rule_y ⟨hK, hC⟩ hk g.1 g.2.1 g.2.2 a2
    rw [a3] at this
    exact this.p (fun d hd => ⟨I, _, hd⟩)
  · refine InvL_mk (E := E) (bd := bd) (R := R) hK (fun F hF => ?_)
    obtain ⟨I, jr, hC⟩ := hI F hF
    exact (o_rule_n ⟨hK, hC⟩ (fun q => g ⟨q.1, q.2.1, by rw [← hF.2.1]; exact q.2.2⟩)).p (fun d hd => ⟨I, jr, Core_k hd (Nat.le_succ k)⟩)
theorem b_value (hI : InvL σ mo p3 k δ) (hz : rng z) : LXP mo p3 (m_L_value σ 0 (ii z) p3 δ) (fun d => m_X12_value σ mo (ii z) d) (fun _ => True) (fun d => InvL σ mo p3 (k + 1) d) := by
  obtain ⟨hK, E, bd, R, hI⟩ := hI
  refine InvL_mk (E := E) (bd := bd) (R := R) hK (fun F hF => ?_)
  obtain ⟨I, jr, hC⟩ := hI F hF
  by_cases g : 0 ≤ z ∧ z < s_nv (v_S (i_V I))
  · exact (o_value_y ⟨hK, hC⟩ hz g).p (fun d hd => ⟨I, jr, Core_k hd (Nat.le_succ k)⟩)
  · exact (o_value_n ⟨hK, hC⟩ hz g).p (fun d hd => ⟨I, jr, Core_k hd (Nat.le_succ k)⟩)
theorem b_areOne (hI : InvL σ mo p3 k δ) (ha : rng a) (hb : rng b) : LXP mo p3 (m_L_areOne σ 0 (ii a) (ii b) p3 δ) (fun d => m_X12_areOne σ mo (ii a) (ii b) d) (fun v => v = 0 ∨ v = 1) (fun d => InvL σ mo p3 (k + 1) d) := by
  obtain ⟨hK, E, bd, R, hI⟩ := hI
  refine InvL_mk (E := E) (bd := bd) (R := R) hK (fun F hF => ?_)
  obtain ⟨I, jr, hC⟩ := hI F hF
  by_cases g : (0 ≤ a ∧ a < s_nv (v_S (i_V I))) ∧ 0 ≤ b ∧ b < s_nv (v_S (i_V I))
  · exact (o_areOne_y ⟨hK, hC⟩ ha hb g.1 g.2).p (bi01 _) (fun d hd => ⟨I, jr, Core_k hd (Nat.le_succ k)⟩)
  · exact (o_areOne_n ⟨hK, hC⟩ ha hb g).p (Or.inl rfl) (fun d hd => ⟨I, jr, Core_k hd (Nat.le_succ k)⟩)
theorem b_fired (hI : InvL σ mo p3 k δ) (hz : rng z) : LXP mo p3 (m_L_fired σ 0 (ii z) p3 δ) (fun d => m_X12_fired σ mo (ii z) d) (fun _ => True) (fun d => InvL σ mo p3 (k + 1) d) := by
  obtain ⟨hK, E, bd, R, hI⟩ := hI
  refine InvL_mk (E := E) (bd := bd) (R := R) hK (fun F hF => ?_)
  obtain ⟨I, jr, hC⟩ := hI F hF
  exact (o_fired ⟨hK, hC⟩ hz).p (fun d hd => ⟨I, jr, Core_k hd (Nat.le_succ k)⟩)
theorem b_part (hI : InvL σ mo p3 k δ) (hz : rng z) (hi : rng i) : LXP mo p3 (m_L_part σ 0 (ii z) (ii i) p3 δ) (fun d => m_X12_part σ mo (ii z) (ii i) d) (fun _ => True) (fun d => InvL σ mo p3 (k + 1) d) := by
  obtain ⟨hK, E, bd, R, hI⟩ := hI
  refine InvL_mk (E := E) (bd := bd) (R := R) hK (fun F hF => ?_)
  obtain ⟨I, jr, hC⟩ := hI F hF
  by_cases g : (0 ≤ z ∧ z < s_nt (v_S (i_V I))) ∧ 0 ≤ i ∧ i ≤ 4
  · exact (o_part_y ⟨hK, hC⟩ hz hi g.1 g.2).p (fun d hd => ⟨I, jr, Core_k hd (Nat.le_succ k)⟩)
  · exact (o_part_n ⟨hK, hC⟩ hz hi g).p (fun d hd => ⟨I, jr, Core_k hd (Nat.le_succ k)⟩)
theorem b_isMadeBy (hI : InvL σ mo p3 k δ) (ha : rng a) (hb : rng b) : LXP mo p3 (m_L_isMadeBy σ 0 (ii a) (ii b) p3 δ) (fun d => m_X12_isMadeBy σ mo (ii a) (ii b) d) (fun v => v = 0 ∨ v = 1) (fun d => InvL σ mo p3 (k + 1) d) := by
  obtain ⟨hK, E, bd, R, hI⟩ := hI
  refine InvL_mk (E := E) (bd := bd) (R := R) hK (fun F hF => ?_)
  obtain ⟨I, jr, hC⟩ := hI F hF
  by_cases g : (0 ≤ a ∧ a < s_nt (v_S (i_V I))) ∧ 0 ≤ b ∧ b < s_nt (v_S (i_V I))
  · exact (o_isMadeBy_y ⟨hK, hC⟩ ha hb g.1 g.2).p (bi01 _) (fun d hd => ⟨I, jr, Core_k hd (Nat.le_succ k)⟩)
  · exact (o_isMadeBy_n ⟨hK, hC⟩ ha hb g).p (Or.inl rfl) (fun d hd => ⟨I, jr, Core_k hd (Nat.le_succ k)⟩)
end
