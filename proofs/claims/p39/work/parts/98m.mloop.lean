section
variable {Rs : Int → Rl} {made : Int} {V Vf : Vw} {E : Ev} {W : Wo} {a : Ag} {l : Lv} {ls : List Lv} {ch : Nat → Nat}
theorem actK_sp : w_sp (actK E W l ls a) = w_sp W := by
  unfold actK
  by_cases h : e_kd E a.1 = 0
  · (rw [if_pos h]; try rfl)
  rw [if_neg h]; clear h
  by_cases h : e_kd E a.1 = 1 ∨ e_kd E a.1 = 2
  · (rw [if_pos h]; try rfl)
  rw [if_neg h]; clear h
  by_cases h : e_kd E a.1 = 3
  · (rw [if_pos h]; try rfl)
  rw [if_neg h]; clear h
  by_cases h : e_kd E a.1 = 4 ∨ e_kd E a.1 = 5
  · rw [if_pos h]
    unfold askW
    by_cases h2 : sideA E (v_S (w_V W)) (w_tk W) a a.1 = -1
    · (rw [if_pos h2]; try rfl)
    · (rw [if_neg h2]; try rfl)
  rw [if_neg h]; clear h
  by_cases h : e_kd E a.1 = 6
  · rw [if_pos h]
    by_cases h2 : s_nv (v_S (w_V W)) = 60
    · (rw [if_pos h2]; try rfl)
    · (rw [if_neg h2]; try rfl)
  rw [if_neg h]; clear h
  by_cases h : e_kd E a.1 = 7
  · rw [if_pos h]
    by_cases h2 : e_df E (e_wh E a.1) = -1
    · (rw [if_pos h2]; try rfl)
    · (rw [if_neg h2]; try rfl)
  rw [if_neg h]; clear h
  by_cases h : e_kd E a.1 = 8
  · (rw [if_pos h]; try rfl)
  rw [if_neg h]; clear h
  by_cases h : e_kd E a.1 = 9
  · (rw [if_pos h]; try rfl)
  rw [if_neg h]; clear h
  by_cases h : e_kd E a.1 = 12
  · (rw [if_pos h]; try rfl)
  rw [if_neg h]; clear h
  by_cases h : e_kd E a.1 = 13
  · rw [if_pos h]
    by_cases h2 : 3 ≤ ls.length
    · (rw [if_pos h2]; try rfl)
    · (rw [if_neg h2]; try rfl)
  (rw [if_neg h]; try rfl)
theorem turn_sp : w_sp (turnW E ch W) = w_sp W := by
  unfold turnW
  by_cases ho : w_ov W = true
  · (rw [if_pos ho]; try rfl)
  rw [if_neg ho]
  by_cases hf : v_fl (w_V W) = true
  · rw [if_pos hf]
    unfold giveUp
    split <;> rfl
  rw [if_neg hf]
  by_cases hn : (v_fr (w_V W)).length = 0
  · rw [if_pos hn]
    cases hl : w_lv W with
    | nil => rfl
    | cons l ls =>
      show w_sp (if (l_q l).length = 0 then quietW E W l ls else actW E ch W l ls) = w_sp W
      by_cases hq : (l_q l).length = 0
      · rw [if_pos hq]
        unfold quietW
        by_cases h1 : (goOnL E (v_S (w_V W)) (w_tk W) l).1.length = 0
        · rw [if_pos h1]
          cases h2 : (l_w l)[fstI (canAs E (v_S (w_V W))) (l_w l)]? with
          | some a => rfl
          | none =>
            dsimp only
            unfold finishW
            by_cases h3 : (l_as l).any (fun a => entA E (v_S (w_V W)) a a.1) = true
            · (rw [if_pos h3]; try rfl)
            · rw [if_neg h3]
              cases ls with
              | cons l' ls' => rfl
              | nil => rfl
        · (rw [if_neg h1]; try rfl)
      · rw [if_neg hq]
        have hat : ∀ (W' : Wo) (i : Nat), w_sp (actAt E W' l ls i) = w_sp W' := by
          intro W' i
          unfold actAt
          cases hi : (l_q l)[i]? with
          | none => rfl
          | some a =>
            dsimp only
            by_cases h60 : v_ac (w_V W') < 60
            · (rw [if_pos h60, actK_sp]; try rfl)
            · (rw [if_neg h60]; try rfl)
        unfold actW
        by_cases h0 : ls.length = 0
        · (rw [if_pos h0, hat]; try rfl)
        · (rw [if_neg h0, hat]; try rfl)
  · (rw [if_neg hn]; try rfl)
theorem turns_sp : ∀ n, w_sp (turns E ch W n) = w_sp W := by
  intro n
  induction n with
  | zero => rfl
  | succ n ih =>
    show w_sp (turnW E ch (turns E ch W n)) = _
    rw [turn_sp, ih]
end
