/-! THE LAW: schedules -/
section
variable {E : Ev} {ch ch' : Nat → Nat} {W Wf : Wo} {l : Lv} {ls : List Lv} {a : Ag}
theorem nv_actK : s_nv (v_S (w_V W)) ≤ s_nv (v_S (w_V (actK E W l ls a))) ∧ w_lg (actK E W l ls a) = w_lg W := by
  unfold actK
  by_cases c0 : e_kd E a.1 = 0
  · rw [if_pos c0]; exact ⟨Gr_tellEq.1, rfl⟩
  rw [if_neg c0]
  by_cases c1 : e_kd E a.1 = 1 ∨ e_kd E a.1 = 2
  · rw [if_pos c1]; exact ⟨Gr_tellTok.1, rfl⟩
  rw [if_neg c1]
  by_cases c3 : e_kd E a.1 = 3
  · rw [if_pos c3]; exact ⟨Int.le_refl _, rfl⟩
  rw [if_neg c3]
  by_cases c4 : e_kd E a.1 = 4 ∨ e_kd E a.1 = 5
  · rw [if_pos c4]
    unfold askW
    by_cases q : sideA E (v_S (w_V W)) (w_tk W) a a.1 = -1
    · rw [if_pos q]; exact ⟨Int.le_refl _, rfl⟩
    · rw [if_neg q]; exact ⟨Int.le_refl _, rfl⟩
  rw [if_neg c4]
  by_cases c6 : e_kd E a.1 = 6
  · rw [if_pos c6]
    by_cases q : s_nv (v_S (w_V W)) = 60
    · rw [if_pos q]; exact ⟨Int.le_refl _, rfl⟩
    · rw [if_neg q]
      refine ⟨?_, rfl⟩
      show s_nv (v_S (w_V W)) ≤ s_nv (v_S (w_V W)) + 1
      omega
  rw [if_neg c6]
  by_cases c7 : e_kd E a.1 = 7
  · rw [if_pos c7]
    by_cases q : e_df E (e_wh E a.1) = -1
    · rw [if_pos q]; exact ⟨Int.le_refl _, rfl⟩
    · rw [if_neg q]; exact ⟨Int.le_refl _, rfl⟩
  rw [if_neg c7]
  by_cases c8 : e_kd E a.1 = 8
  · rw [if_pos c8]; exact ⟨Int.le_refl _, rfl⟩
  rw [if_neg c8]
  by_cases c9 : e_kd E a.1 = 9
  · rw [if_pos c9]; exact ⟨Int.le_refl _, rfl⟩
  rw [if_neg c9]
  by_cases c12 : e_kd E a.1 = 12
  · rw [if_pos c12]; exact ⟨Int.le_refl _, rfl⟩
  rw [if_neg c12]
  by_cases c13 : e_kd E a.1 = 13
  · rw [if_pos c13]
    by_cases q : 3 ≤ ls.length
    · rw [if_pos q]; exact ⟨Int.le_refl _, rfl⟩
    · rw [if_neg q]; exact ⟨Int.le_refl _, rfl⟩
  rw [if_neg c13]
  exact ⟨Int.le_refl _, rfl⟩
theorem nv_actAt {i : Nat} : s_nv (v_S (w_V W)) ≤ s_nv (v_S (w_V (actAt E W l ls i))) ∧ w_lg (actAt E W l ls i) = w_lg W := by
  unfold actAt
  split
  · exact ⟨Int.le_refl _, rfl⟩
  · split
    · obtain ⟨h1, h2⟩ := nv_actK (E := E) (W := w_setV W (v_setac (w_V W) (v_ac (w_V W) + 1))) (l := dropQ l i) (ls := ls) (a := ‹Ag›)
      exact ⟨h1, h2⟩
    · exact ⟨Int.le_refl _, rfl⟩
theorem nv_quiet : s_nv (v_S (w_V W)) ≤ s_nv (v_S (w_V (quietW E W l ls))) ∧ w_lg (quietW E W l ls) = w_lg W := by
  unfold quietW
  split
  · split
    · exact ⟨Int.le_refl _, rfl⟩
    · unfold finishW
      split
      · exact ⟨Int.le_refl _, rfl⟩
      · split
        · exact ⟨Int.le_refl _, rfl⟩
        · exact ⟨Int.le_refl _, rfl⟩
  · exact ⟨Int.le_refl _, rfl⟩
theorem nv_turn : s_nv (v_S (w_V W)) ≤ s_nv (v_S (w_V (turnW E ch W))) := by
  unfold turnW
  split
  · exact Int.le_refl _
  · split
    · unfold giveUp
      split
      · exact Int.le_refl _
      · exact Int.le_refl _
    · split
      · unfold turnL
        split
        · exact Int.le_refl _
        · split
          · exact nv_quiet.1
          · unfold actW
            split
            · exact (nv_actAt (W := w_log W _)).1
            · exact nv_actAt.1
      · exact Gr_adv.1
theorem nv_turns : ∀ n, s_nv (v_S (w_V W)) ≤ s_nv (v_S (w_V (turns E ch W n))) := by
  intro n
  induction n with
  | zero => exact Int.le_refl _
  | succ n ih => exact Int.le_trans ih nv_turn
/-- a turn that chooses at level 0 -/
def logsW (W : Wo) (n : Int) : Prop := w_ov W = false ∧ v_fl (w_V W) = false ∧ (v_fr (w_V W)).length = 0 ∧ ∃ l, w_lv W = [l] ∧ ¬ (l_q l).length = 0 ∧ n = (l_q l).length
theorem turn_logs {n : Int} (h : logsW W n) : w_lg (turnW E ch W) = w_lg W ++ [n] ∧ (ch (w_lg W).length = ch' (w_lg W).length → turnW E ch W = turnW E ch' W) := by
  obtain ⟨h1, h2, h3, l, h4, h5, h6⟩ := h
  have e : ∀ c : Nat → Nat, turnW E c W = actAt E (w_log W (l_q l).length) l [] (c (w_lg W).length) := by
    intro c
    unfold turnW
    rw [if_neg (by rw [h1]; decide), if_neg (by rw [h2]; decide), if_pos h3, h4]
    show (if (l_q l).length = 0 then quietW E W l [] else actW E c W l []) = _
    rw [if_neg h5]
    rfl
  refine ⟨?_, fun hc => by rw [e, e, hc]⟩
  rw [e, nv_actAt.2, h6]
  rfl
theorem turn_lg : ((∀ ch ch' : Nat → Nat, turnW E ch W = turnW E ch' W) ∧ ∀ ch, w_lg (turnW E ch W) = w_lg W) ∨ ∃ n, logsW W n := by
  by_cases h1 : w_ov W = true
  · refine Or.inl ⟨fun c c' => ?_, fun c => ?_⟩
    · unfold turnW; rw [if_pos h1, if_pos h1]
    · unfold turnW; rw [if_pos h1]
  · by_cases h2 : v_fl (w_V W) = true
    · refine Or.inl ⟨fun c c' => ?_, fun c => ?_⟩
      · unfold turnW; rw [if_neg h1, if_neg h1, if_pos h2, if_pos h2]
      · unfold turnW
        rw [if_neg h1, if_pos h2]
        unfold giveUp
        split
        · rfl
        · rfl
    · by_cases h3 : (v_fr (w_V W)).length = 0
      · have e : ∀ c : Nat → Nat, turnW E c W = turnL E c W (w_lv W) := by
          intro c
          unfold turnW
          rw [if_neg h1, if_neg h2, if_pos h3]
        match hl : w_lv W with
        | [] => 
          refine Or.inl ⟨fun c c' => ?_, fun c => ?_⟩
          · rw [e, e, hl]; rfl
          · rw [e, hl]; rfl
        | l :: ls =>
          by_cases h5 : (l_q l).length = 0
          · have e2 : ∀ c : Nat → Nat, turnW E c W = quietW E W l ls := by
              intro c
              rw [e, hl]
              show (if (l_q l).length = 0 then quietW E W l ls else actW E c W l ls) = _
              rw [if_pos h5]
            exact Or.inl ⟨fun c c' => by rw [e2, e2], fun c => by rw [e2]; exact nv_quiet.2⟩
          · have e2 : ∀ c : Nat → Nat, turnW E c W = actW E c W l ls := by
              intro c
              rw [e, hl]
              show (if (l_q l).length = 0 then quietW E W l ls else actW E c W l ls) = _
              rw [if_neg h5]
            by_cases h6 : ls.length = 0
            · refine Or.inr ⟨_, ?_, ?_, h3, l, ?_, h5, rfl⟩
              · cases hc : w_ov W with
                | true => exact absurd hc h1
                | false => rfl
              · cases hc : v_fl (w_V W) with
                | true => exact absurd hc h2
                | false => rfl
              · rw [hl, List.length_eq_zero_iff.mp h6]
            · have e3 : ∀ c : Nat → Nat, turnW E c W = actAt E W l ls 0 := by
                intro c
                rw [e2]
                unfold actW
                rw [if_neg h6]
              exact Or.inl ⟨fun c c' => by rw [e3, e3], fun c => by rw [e3]; exact nv_actAt.2⟩
      · have e : ∀ c : Nat → Nat, turnW E c W = w_setV W (adv (w_V W) (e_Rs E) (e_md E)) := by
          intro c
          unfold turnW
          rw [if_neg h1, if_neg h2, if_neg h3]
        exact Or.inl ⟨fun c c' => by rw [e, e], fun c => by rw [e]; rfl⟩
theorem lg_next : ∃ t, w_lg (turnW E ch W) = w_lg W ++ t := by
  rcases turn_lg (E := E) (W := W) with h | ⟨n, h⟩
  · exact ⟨[], by rw [h.2, List.append_nil]⟩
  · exact ⟨[n], (turn_logs (ch' := ch) h).1⟩
theorem lg_pre (n : Nat) : ∀ k, ∃ t, w_lg (turns E ch W (n + k)) = w_lg (turns E ch W n) ++ t := by
  intro k
  induction k with
  | zero => exact ⟨[], by rw [List.append_nil]; rfl⟩
  | succ k ih =>
    obtain ⟨t, ht⟩ := ih
    obtain ⟨u, hu⟩ := lg_next (E := E) (ch := ch) (W := turns E ch W (n + k))
    refine ⟨t ++ u, ?_⟩
    show w_lg (turnW E ch (turns E ch W (n + k))) = _
    rw [hu, ht, List.append_assoc]
theorem lg_fin (h : RunEnd E ch W Wf) (n : Nat) : ∃ t, w_lg Wf = w_lg (turns E ch W n) ++ t := by
  obtain ⟨m, hm, ho⟩ := h
  rcases Nat.le_total n m with hl | hl
  · obtain ⟨k, rfl⟩ : ∃ k, m = n + k := ⟨m - n, by omega⟩
    rw [← hm]
    exact lg_pre n k
  · obtain ⟨k, rfl⟩ : ∃ k, n = m + k := ⟨n - m, by omega⟩
    rw [turns_over (by rw [hm]; exact ho), hm]
    exact ⟨[], by rw [List.append_nil]⟩
/-- what happens before the place i is chosen with what lies before i -/
theorem turns_pre {i : Nat} (h : ∀ j, j < i → ch j = ch' j) : ∀ n, (w_lg (turns E ch W n)).length ≤ i → turns E ch' W n = turns E ch W n := by
  intro n
  induction n with
  | zero => intro _; rfl
  | succ n ih =>
    intro hi
    have hi' : (w_lg (turnW E ch (turns E ch W n))).length ≤ i := hi
    obtain ⟨t, ht⟩ := lg_next (E := E) (ch := ch) (W := turns E ch W n)
    have hn : (w_lg (turns E ch W n)).length ≤ i := by
      rw [ht, List.length_append] at hi'
      omega
    show turnW E ch' (turns E ch' W n) = turnW E ch (turns E ch W n)
    rw [ih hn]
    rcases turn_lg (E := E) (W := turns E ch W n) with q | ⟨x, q⟩
    · exact q.1 ch' ch
    · have q1 := (turn_logs (E := E) (ch := ch) (ch' := ch) q).1
      rw [q1, List.length_append, List.length_singleton] at hi'
      exact (turn_logs (E := E) (ch := ch') (ch' := ch) q).2 (h _ (by omega)).symm
end
