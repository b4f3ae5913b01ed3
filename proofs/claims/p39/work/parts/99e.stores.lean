/-! THE STORE AFTER EACH STEP -/
section
variable {S S' : Sto} {kk told stand so b w t : Int} {sl sl2 : Nat → Bool}
theorem cnt_congr {P Q : Int → Bool} : ∀ n : Nat, (∀ i : Nat, i < n → P i = Q i) → cnt P n = cnt Q n
  | 0, _ => rfl
  | n + 1, h => by
    show cnt P n + (if P n = true then 1 else 0) = cnt Q n + (if Q n = true then 1 else 0)
    rw [cnt_congr n (fun i hi => h i (by omega)), h n (Nat.lt_succ_self n)]
/-- told tokens, so many stand, all last, their first parts are at most kk -/
def Q0 (S : Sto) (kk told stand : Int) : Prop := s_nv S = 1 ∧ (s_cl S 0 = 0 ∧ s_va S 0 = 100) ∧ s_nt S = told ∧ 0 ≤ told ∧ cnt (s_sd S) told.toNat = stand ∧ ∀ t, 0 ≤ t → t < told → s_la S t = true ∧ 0 ≤ s_fi S t ∧ s_fi S t ≤ kk
theorem Q0_mono {k' : Int} (h : Q0 S kk told stand) (hk : kk ≤ k') : Q0 S k' told stand := ⟨h.1, h.2.1, h.2.2.1, h.2.2.2.1, h.2.2.2.2.1, fun t t0 t1 => by
  obtain ⟨a, b, c⟩ := h.2.2.2.2.2 t t0 t1
  exact ⟨a, b, by omega⟩⟩
theorem Q0_add (h : Q0 S kk told stand) (h0 : 0 ≤ kk) : Q0 (addtok S so kk b true sl) kk (told + 1) (stand + 1) := by
  obtain ⟨h1, h2, h3, h4, h5, h6⟩ := h
  have hn : (told + 1).toNat = told.toNat + 1 := by omega
  have ht : ((told.toNat : Nat) : Int) = s_nt S := by omega
  refine ⟨h1, h2, by show s_nt S + 1 = _; omega, by omega, ?_, fun t t0 t1 => ?_⟩
  · rw [hn]
    show cnt (upf (s_sd S) (s_nt S) true) told.toNat + (if upf (s_sd S) (s_nt S) true (told.toNat : Nat) = true then 1 else 0) = _
    rw [cnt_congr (Q := s_sd S) told.toNat (fun i hi => if_neg (by omega)), h5, ht, if_pos (show upf (s_sd S) (s_nt S) true (s_nt S) = true from if_pos rfl)]
  · by_cases e : t = s_nt S
    · subst e
      exact ⟨if_pos rfl, by rw [show s_fi (addtok S so kk b true sl) (s_nt S) = kk from if_pos rfl]; omega⟩
    · obtain ⟨a, b', c⟩ := h6 t t0 (by omega)
      refine ⟨(if_neg e : upf (s_la S) (s_nt S) true t = s_la S t).trans a, ?_⟩
      rw [show s_fi (addtok S so kk b true sl) t = s_fi S t from if_neg e]
      exact ⟨b', c⟩
theorem Q0_drop (h : Q0 S kk told stand) : Q0 (dropS S) kk told stand := by
  obtain ⟨h1, h2, h3, h4, h5, h6⟩ := h
  refine ⟨h1, h2, h3, h4, ?_, h6⟩
  rw [← h5]
  refine cnt_congr told.toNat (fun i hi => ?_)
  show (s_sd S i && s_la S i) = s_sd S i
  rw [(h6 i (by omega) (by omega)).1, Bool.and_true]
theorem sd_drop (h : Q0 S kk told stand) (t0 : 0 ≤ t) (t1 : t < told) : s_sd (dropS S) t = s_sd S t := by
  show (s_sd S t && s_la S t) = s_sd S t
  rw [(h.2.2.2.2.2 t t0 t1).1, Bool.and_true]
/-- a token told in a try that is given up -/
theorem Q0_rest (h : Q0 S kk told stand) (h0 : 0 ≤ kk) : Q0 (restS (addtok S so kk b true sl) (savS S)) kk (told + 1) stand ∧ s_sd (restS (addtok S so kk b true sl) (savS S)) told = false := by
  have h' := Q0_add (so := so) (b := b) (sl := sl) h h0
  obtain ⟨h1, h2, h3, h4, h5, h6⟩ := h
  obtain ⟨g1, g2, g3, g4, g5, g6⟩ := h'
  have hn : (told + 1).toNat = told.toNat + 1 := by omega
  have hf : s_sd (restS (addtok S so kk b true sl) (savS S)) told = false := by
    show (decide (told < s_nt S) && s_sd S told) = false
    rw [decide_eq_false (by omega)]
    rfl
  refine ⟨⟨g1, ⟨?_, ?_⟩, g3, g4, ?_, g6⟩, hf⟩
  · show (if (0 : Int) < s_nv S then s_cl S 0 else _) = 0
    rw [if_pos (by omega)]
    exact h2.1
  · show (if (0 : Int) < s_nv S then s_va S 0 else 100) = 100
    rw [if_pos (by omega)]
    exact h2.2
  · rw [hn]
    show cnt (s_sd (restS (addtok S so kk b true sl) (savS S))) told.toNat + (if s_sd (restS (addtok S so kk b true sl) (savS S)) (told.toNat : Nat) = true then 1 else 0) = _
    rw [show ((told.toNat : Nat) : Int) = told by omega, hf, if_neg Bool.false_ne_true, ← h5, Int.add_zero]
    refine cnt_congr told.toNat (fun i hi => ?_)
    show (decide ((i : Int) < s_nt S) && s_sd S i) = s_sd S i
    rw [decide_eq_true (by omega)]
    rfl
theorem form_v (h : t < 400) : form S t = t := if_pos (by omega)
/-- none of the told has the new first part -/
theorem low_no (h : Q0 S (kk - 1) told stand) (h0 : 0 ≤ kk) (h1 : kk < 100) {c : Int} : lowest S w kk c = -1 := by
  obtain ⟨a1, a2, a3, a4, a5, a6⟩ := h
  unfold lowest
  rw [a3]
  refine fnd_no _ _ (fun z z0 z1 => ?_)
  obtain ⟨b1, b2, b3⟩ := a6 z z0 (by omega)
  unfold isTok
  rw [form_v (t := s_fi S z) (by omega), form_v (t := kk) (by omega), decide_eq_false (show ¬ s_fi S z = kk by omega), Bool.false_and, Bool.and_false, Bool.and_false]
theorem tok_at : s_so (addtok S so kk b true sl) (s_nt S) = so ∧ s_fi (addtok S so kk b true sl) (s_nt S) = kk ∧ s_se (addtok S so kk b true sl) (s_nt S) = b ∧ s_sd (addtok S so kk b true sl) (s_nt S) = true ∧ s_sl (addtok S so kk b true sl) (s_nt S) = sl := ⟨if_pos rfl, if_pos rfl, if_pos rfl, if_pos rfl, if_pos rfl⟩
theorem tok_ne (h : ¬ t = s_nt S) : s_so (addtok S so kk b true sl) t = s_so S t ∧ s_fi (addtok S so kk b true sl) t = s_fi S t ∧ s_se (addtok S so kk b true sl) t = s_se S t ∧ s_sd (addtok S so kk b true sl) t = s_sd S t ∧ s_sl (addtok S so kk b true sl) t = s_sl S t := ⟨if_neg h, if_neg h, if_neg h, if_neg h, if_neg h⟩
theorem low_add_ne (h : Q0 S (kk - 1) told stand) (h0 : 0 ≤ kk) (h1 : kk < 100) (hw : ¬ so = w) {c : Int} : lowest (addtok S so kk b true sl) w kk c = -1 := by
  obtain ⟨a1, a2, a3, a4, a5, a6⟩ := h
  unfold lowest
  rw [show s_nt (addtok S so kk b true sl) = told + 1 by show s_nt S + 1 = _; omega]
  refine fnd_no _ _ (fun z z0 z1 => ?_)
  unfold isTok
  by_cases e : z = s_nt S
  · subst e
    rw [(tok_at (S := S) (so := so) (kk := kk) (b := b) (sl := sl)).1, decide_eq_false hw, Bool.false_and, Bool.and_false]
  · obtain ⟨b1, b2, b3⟩ := a6 z z0 (by omega)
    rw [(tok_ne (so := so) (kk := kk) (b := b) (sl := sl) e).2.1, form_v (t := s_fi S z) (by omega), form_v (t := kk) (by omega), decide_eq_false (show ¬ s_fi S z = kk by omega), Bool.false_and, Bool.and_false, Bool.and_false]
theorem low_add_eq (h : Q0 S (kk - 1) told stand) (h0 : 0 ≤ kk) (h1 : kk < 100) (hb : b < 400) : lowest (addtok S w kk b true sl) w kk b = s_nt S := by
  obtain ⟨a1, a2, a3, a4, a5, a6⟩ := h
  unfold lowest
  rw [show s_nt (addtok S w kk b true sl) = told + 1 by show s_nt S + 1 = _; omega]
  obtain ⟨c1, c2, c3, c4, c5⟩ := tok_at (S := S) (so := w) (kk := kk) (b := b) (sl := sl)
  refine fnd_hit _ _ _ (by omega) (by omega) ?_ (fun z z0 z1 => ?_)
  · unfold isTok
    rw [c1, c2, c3, c4, decide_eq_true rfl, decide_eq_true rfl, decide_eq_true rfl]
    rfl
  · obtain ⟨b1, b2, b3⟩ := a6 z z0 (by omega)
    unfold isTok
    rw [(tok_ne (so := w) (kk := kk) (b := b) (sl := sl) (t := z) (by omega)).2.1, form_v (t := s_fi S z) (by omega), form_v (t := kk) (by omega), decide_eq_false (show ¬ s_fi S z = kk by omega), Bool.false_and, Bool.and_false, Bool.and_false]
end
