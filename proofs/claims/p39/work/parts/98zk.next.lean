/-! THE LAW: the next schedule -/
def bumpC (ch : Nat → Nat) (i : Nat) : Nat → Nat := fun k => if k < i then ch k else if k = i then ch i + 1 else 0
/-- the last place at which another choice is left -/
def Nx (lg : List Int) (ch : Nat → Nat) (i : Nat) : Prop := (∃ s : Int, lg[i]? = some s ∧ (ch i : Int) + 1 < s) ∧ ∀ (j : Nat) (s : Int), i < j → lg[j]? = some s → ¬ (ch j : Int) + 1 < s
def NoNx (lg : List Int) (ch : Nat → Nat) : Prop := ∀ (j : Nat) (s : Int), lg[j]? = some s → ¬ (ch j : Int) + 1 < s
theorem Nx_uni {lg : List Int} {ch : Nat → Nat} {i j : Nat} (h : Nx lg ch i) (k : Nx lg ch j) : i = j := by
  obtain ⟨⟨s, h1, h2⟩, h3⟩ := h
  obtain ⟨⟨t, k1, k2⟩, k3⟩ := k
  rcases Nat.lt_trichotomy i j with c | c | c
  · exact absurd k2 (h3 j t c k1)
  · exact c
  · exact absurd h2 (k3 i s c h1)
theorem Nx_No {lg : List Int} {ch : Nat → Nat} {i : Nat} (h : Nx lg ch i) (k : NoNx lg ch) : False := by
  obtain ⟨⟨s, h1, h2⟩, -⟩ := h
  exact k i s h1 h2
theorem bz_pre (a : List Int) : ∀ t : List Int, ∃ u, bz (a ++ t) = bz a ++ u := by
  intro t
  induction t generalizing a with
  | nil => exact ⟨[], by rw [List.append_nil, List.append_nil]⟩
  | cons x t ih =>
    obtain ⟨u, hu⟩ := ih (a ++ [x])
    refine ⟨(if 2 ≤ x then [(x, a.length)] else []) ++ u, ?_⟩
    rw [show a ++ x :: t = (a ++ [x]) ++ t by rw [List.append_assoc]; rfl, hu, bz_app, List.append_assoc]
theorem bz_at {a t : List Int} {s : Int} (hs : 2 ≤ s) : (bz (a ++ s :: t))[(bz a).length]? = some (s, a.length) := by
  obtain ⟨u, hu⟩ := bz_pre (a ++ [s]) t
  rw [show a ++ s :: t = (a ++ [s]) ++ t by rw [List.append_assoc]; rfl, hu, bz_app, if_pos hs, List.append_assoc, List.getElem?_append_right (Nat.le_refl _), Nat.sub_self]
  rfl
theorem cut_at {lg : List Int} {i : Nat} {s : Int} (h : lg[i]? = some s) : lg = lg.take i ++ s :: lg.drop (i + 1) ∧ (lg.take i).length = i := by
  obtain ⟨hi, he⟩ := List.getElem?_eq_some_iff.mp h
  refine ⟨?_, by rw [List.length_take]; omega⟩
  rw [← he, ← List.drop_eq_getElem_cons hi, List.take_append_drop]
theorem pre_take {a lg t : List Int} {i : Nat} (h : lg = a ++ t) (hi : a.length ≤ i) : ∃ u, lg.take i = a ++ u := by
  refine ⟨t.take (i - a.length), ?_⟩
  rw [h, List.take_append, List.take_of_length_le hi]
section
variable {E : Ev} {ch ch' : Nat → Nat} {W Wf : Wo} {i : Nat}
theorem bump_pre : ∀ j, j < i → ch j = bumpC ch i j := fun j hj => by unfold bumpC; rw [if_pos hj]
/-- the log of the next schedule goes as far, and on -/
theorem bump_lg {s : Int} (hr : RunEnd E ch W Wf) (hi : (w_lg Wf)[i]? = some s) : ∀ n, (w_lg (turns E (bumpC ch i) W n)).length ≤ i ∧ turns E (bumpC ch i) W n = turns E ch W n ∨ ∃ t, w_lg (turns E (bumpC ch i) W n) = (w_lg Wf).take i ++ s :: t := by
  intro n
  induction n with
  | zero =>
    by_cases c : (w_lg W).length ≤ i
    · exact Or.inl ⟨c, rfl⟩
    · obtain ⟨t, ht⟩ := lg_fin hr 0
      refine Or.inr ⟨(w_lg W).drop (i + 1), ?_⟩
      have hl : i < (w_lg W).length := by omega
      have ht' : w_lg Wf = w_lg W ++ t := ht
      have hs : (w_lg W)[i]? = some s := by
        rw [ht', List.getElem?_append_left hl] at hi
        exact hi
      have h2 := (cut_at hs).1
      rw [ht', List.take_append, show i - (w_lg W).length = 0 by omega, List.take_zero, List.append_nil]
      exact h2
  | succ n ih =>
    have step : turns E (bumpC ch i) W (n + 1) = turnW E (bumpC ch i) (turns E (bumpC ch i) W n) := rfl
    rcases ih with ⟨h1, h2⟩ | ⟨t, h⟩
    · rw [step, h2]
      rw [h2] at h1
      rcases turn_lg (E := E) (W := turns E ch W n) with q | ⟨x, q⟩
      · refine Or.inl ⟨by rw [q.2]; exact h1, ?_⟩
        exact q.1 _ _
      · have q1 := turn_logs (E := E) (ch := bumpC ch i) (ch' := ch) q
        have q2 := (turn_logs (E := E) (ch := ch) (ch' := ch) q).1
        by_cases c : (w_lg (turns E ch W n)).length < i
        · refine Or.inl ⟨by rw [q1.1, List.length_append, List.length_singleton]; omega, ?_⟩
          exact q1.2 (bump_pre _ c).symm
        · have c' : (w_lg (turns E ch W n)).length = i := by omega
          obtain ⟨t, ht⟩ := lg_fin hr (n + 1)
          have ht' : w_lg Wf = (w_lg (turns E ch W n) ++ [x]) ++ t := by rw [← q2]; exact ht
          have hx : x = s := by
            rw [ht', List.append_assoc, List.getElem?_append_right (by omega), c', Nat.sub_self] at hi
            exact Option.some.inj hi
          refine Or.inr ⟨[], ?_⟩
          rw [q1.1, hx]
          rw [ht', List.append_assoc, List.take_append, ← c', List.take_length, Nat.sub_self, List.take_zero, List.append_nil]
    · obtain ⟨u, hu⟩ := lg_next (E := E) (ch := bumpC ch i) (W := turns E (bumpC ch i) W n)
      refine Or.inr ⟨t ++ u, ?_⟩
      rw [step, hu, h, List.append_assoc, List.cons_append]
theorem bump_ok (hr : RunEnd E ch W Wf) (hc : ∀ n, okCh ch (turns E ch W n)) (hn : Nx (w_lg Wf) ch i) : ∀ n, okCh (bumpC ch i) (turns E (bumpC ch i) W n) := by
  obtain ⟨⟨s, h1, h2⟩, -⟩ := hn
  intro n l a1 a2 a3 a4 a5
  rcases bump_lg hr h1 n with ⟨b1, b2⟩ | ⟨t, b⟩
  · rw [b2] at b1 a1 a2 a3 a4 ⊢
    by_cases c : (w_lg (turns E ch W n)).length < i
    · rw [← bump_pre _ c]
      exact hc n l a1 a2 a3 a4 a5
    · have c' : (w_lg (turns E ch W n)).length = i := by omega
      have hq : logsW (turns E ch W n) ((l_q l).length : Int) := ⟨a1, a2, a3, l, a4, a5, rfl⟩
      have q2 := (turn_logs (E := E) (ch := ch) (ch' := ch) hq).1
      obtain ⟨t, ht⟩ := lg_fin hr (n + 1)
      have ht' : w_lg Wf = (w_lg (turns E ch W n) ++ [((l_q l).length : Int)]) ++ t := by rw [← q2]; exact ht
      have hx : ((l_q l).length : Int) = s := by
        rw [ht', List.append_assoc, List.getElem?_append_right (by omega), c', Nat.sub_self] at h1
        exact Option.some.inj h1
      rw [c']
      unfold bumpC
      rw [if_neg (Nat.lt_irrefl _), if_pos rfl]
      omega
  · rw [b, List.length_append, List.length_cons, (cut_at h1).2]
    unfold bumpC
    rw [if_neg (by omega), if_neg (by omega)]
    exact Nat.pos_of_ne_zero a5
/-- the class's plan for it -/
def planC (lg : List Int) (ch : Nat → Nat) : Nat → Nat := fun j => match (bz lg)[j]? with
  | some p => ch p.2
  | none => 0
theorem bump_pl (hr : RunEnd E ch W Wf) (hn : Nx (w_lg Wf) ch i) : ∀ n, okPl ((bz ((w_lg Wf).take i)).length + 1) (planC (w_lg Wf) (bumpC ch i)) (bumpC ch i) (turns E (bumpC ch i) W n) := by
  obtain ⟨⟨s, h1, h2⟩, -⟩ := hn
  have hs : 2 ≤ s := by omega
  intro n l a1 a2 a3 a4 a5
  rcases bump_lg hr h1 n with ⟨b1, b2⟩ | ⟨t, b⟩
  · rw [b2] at b1 a1 a2 a3 a4 ⊢
    have hq : logsW (turns E ch W n) ((l_q l).length : Int) := ⟨a1, a2, a3, l, a4, by omega, rfl⟩
    have q2 := (turn_logs (E := E) (ch := ch) (ch' := ch) hq).1
    obtain ⟨t, ht⟩ := lg_fin hr (n + 1)
    have ht' : w_lg Wf = w_lg (turns E ch W n) ++ ((l_q l).length : Int) :: t := by
      have : w_lg Wf = (w_lg (turns E ch W n) ++ [((l_q l).length : Int)]) ++ t := by rw [← q2]; exact ht
      rw [this, List.append_assoc]; rfl
    obtain ⟨u, hu⟩ := pre_take ht' b1
    obtain ⟨v, hv⟩ := bz_pre (w_lg (turns E ch W n)) u
    rw [if_pos (by rw [hu, hv, List.length_append]; omega)]
    unfold planC
    rw [show (bz (w_lg Wf))[(bz (w_lg (turns E ch W n))).length]? = some (((l_q l).length : Int), (w_lg (turns E ch W n)).length) by rw [ht']; exact bz_at (by omega)]
  · obtain ⟨v, hv⟩ := bz_pre ((w_lg Wf).take i ++ [s]) t
    have hb : bz (w_lg (turns E (bumpC ch i) W n)) = (bz ((w_lg Wf).take i) ++ [(s, i)]) ++ v := by
      rw [b, show (w_lg Wf).take i ++ s :: t = ((w_lg Wf).take i ++ [s]) ++ t by rw [List.append_assoc]; rfl, hv, bz_app, if_pos hs, (cut_at h1).2]
    rw [if_neg (by rw [hb, List.length_append, List.length_append, List.length_singleton]; omega), b, List.length_append, List.length_cons, (cut_at h1).2]
    unfold bumpC
    rw [if_neg (by omega), if_neg (by omega)]
/-- beyond the log nothing is chosen -/
theorem bump_tail {Wg : Wo} (hr : RunEnd E ch W Wf) (hn : Nx (w_lg Wf) ch i) (hg : RunEnd E (bumpC ch i) W Wg) : ∀ k, (w_lg Wg).length ≤ k → bumpC ch i k = 0 := by
  obtain ⟨⟨s, h1, h2⟩, -⟩ := hn
  have hi := (List.getElem?_eq_some_iff.mp h1).1
  obtain ⟨n, e, ho⟩ := hg
  have key : i < (w_lg Wg).length := by
    rcases bump_lg hr h1 n with ⟨b1, b2⟩ | ⟨t, b⟩
    · rw [e] at b1 b2
      have : RunEnd E ch W Wg := ⟨n, b2.symm, ho⟩
      rw [RunEnd_uni this hr] at b1
      omega
    · rw [e] at b
      rw [b, List.length_append, List.length_cons, (cut_at h1).2]
      omega
  intro k hk
  unfold bumpC
  rw [if_neg (by omega), if_neg (by omega)]
end
