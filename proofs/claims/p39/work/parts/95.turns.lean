/-! TURNS: what settling is of them; what more stays good -/
section
variable {E : Ev} {ch : Nat → Nat} {W : Wo} {base : Nat} {st B : Int} {Rs : Int → Rl} {made : Int} {V V' Vf : Vw}
theorem turns_add (n : Nat) : ∀ m, turns E ch W (n + m) = turns E ch (turns E ch W n) m := by
  intro m
  induction m with
  | zero => rfl
  | succ m ih =>
    show turnW E ch (turns E ch W (n + m)) = turnW E ch (turns E ch (turns E ch W n) m)
    rw [ih]
theorem turns_one (n : Nat) : turns E ch W (1 + n) = turns E ch (turnW E ch W) n := turns_add 1 n
theorem Ends_turns (h : Ends (e_Rs E) (e_md E) (w_V W) Vf) (ho : w_ov W = false) : ∃ m, turns E ch W m = w_setV W Vf := by
  obtain ⟨n, h1, h2⟩ := h
  have key : ∀ (n : Nat) (W : Wo), w_ov W = false → advs (e_Rs E) (e_md E) n (w_V W) = Vf → ∃ m, turns E ch W m = w_setV W Vf := by
    intro n
    induction n with
    | zero =>
      intro W _ h1
      exact ⟨0, by rw [← h1]; rfl⟩
    | succ n ih =>
      intro W ho h1
      by_cases hd : doneV (w_V W)
      · rw [advs_done hd] at h1
        exact ⟨0, by rw [← h1]; rfl⟩
      · have h1' : advs (e_Rs E) (e_md E) n (if doneV (w_V W) then w_V W else adv (w_V W) (e_Rs E) (e_md E)) = Vf := h1
        rw [if_neg hd] at h1'
        have ht : turnW E ch W = w_setV W (adv (w_V W) (e_Rs E) (e_md E)) := by
          unfold turnW
          rw [if_neg (by rw [ho]; decide), if_neg (fun h => hd (Or.inr h)), if_neg (fun h => hd (Or.inl h))]
        obtain ⟨m, hm⟩ := ih (w_setV W (adv (w_V W) (e_Rs E) (e_md E))) ho h1'
        refine ⟨1 + m, ?_⟩
        rw [turns_one, ht, hm]
        rfl
  exact key n W ho h1
theorem XV_cg (hX : XV Rs made B V) (hG : GV Rs made V') (h1 : ∀ e ∈ v_hi V', e ∈ v_hi V) (h2 : (v_hi V').length ≤ (v_hi V).length) (h3 : v_ac V ≤ v_ac V') (h4 : v_fr V' = [] ∨ (v_fr V' = v_fr V ∧ s_nt (v_S V) ≤ s_nt (v_S V'))) : XV Rs made B V' := by
  obtain ⟨x1, x2, x3, x4, x5⟩ := hX
  refine ⟨hG, fun e he => x2 e (h1 e he), by omega, fun t p hm => ?_, fun a m hm k hk => ?_⟩
  · rcases h4 with h | h
    · rw [h] at hm; cases hm
    · rw [h.1] at hm; exact x4 t p hm
  · rcases h4 with h | h
    · rw [h] at hm; cases hm
    · rw [h.1] at hm
      have := x5 a m hm k hk
      omega
/-- the view that an act leaves -/
theorem actK_V {l : Lv} {ls : List Lv} {a : Ag} : w_V (actK E W l ls a) = w_V W ∨ w_V (actK E W l ls a) = tellEq (w_V W) (lookA a (e_a E a.1)) (lookA a (e_b E a.1)) ∨ w_V (actK E W l ls a) = tellTok (w_V W) (e_wh E a.1) (lookA a (e_a E a.1)) (lookA a (e_b E a.1)) (decide (e_kd E a.1 = 2)) a.2.2 ∨ w_V (actK E W l ls a) = v_setfl (w_V W) true ∨ w_V (actK E W l ls a) = v_setS (w_V W) (mkvar (v_S (w_V W))) := by
  unfold actK
  by_cases h : e_kd E a.1 = 0
  · rw [if_pos h]; exact Or.inr (Or.inl rfl)
  rw [if_neg h]; clear h
  by_cases h : e_kd E a.1 = 1 ∨ e_kd E a.1 = 2
  · rw [if_pos h]; exact Or.inr (Or.inr (Or.inl rfl))
  rw [if_neg h]; clear h
  by_cases h : e_kd E a.1 = 3
  · rw [if_pos h]; exact Or.inl rfl
  rw [if_neg h]; clear h
  by_cases h : e_kd E a.1 = 4 ∨ e_kd E a.1 = 5
  · rw [if_pos h]
    unfold askW
    by_cases h2 : sideA E (v_S (w_V W)) (w_tk W) a a.1 = -1
    · rw [if_pos h2]; exact Or.inl rfl
    · rw [if_neg h2]; exact Or.inl rfl
  rw [if_neg h]; clear h
  by_cases h : e_kd E a.1 = 6
  · rw [if_pos h]
    by_cases h2 : s_nv (v_S (w_V W)) = 60
    · rw [if_pos h2]; exact Or.inr (Or.inr (Or.inr (Or.inl rfl)))
    · rw [if_neg h2]; exact Or.inr (Or.inr (Or.inr (Or.inr rfl)))
  rw [if_neg h]; clear h
  by_cases h : e_kd E a.1 = 7
  · rw [if_pos h]
    by_cases h2 : e_df E (e_wh E a.1) = -1
    · rw [if_pos h2]; exact Or.inl rfl
    · rw [if_neg h2]; exact Or.inl rfl
  rw [if_neg h]; clear h
  by_cases h : e_kd E a.1 = 8
  · rw [if_pos h]; exact Or.inl rfl
  rw [if_neg h]; clear h
  by_cases h : e_kd E a.1 = 9
  · rw [if_pos h]; exact Or.inl rfl
  rw [if_neg h]; clear h
  by_cases h : e_kd E a.1 = 12
  · rw [if_pos h]; exact Or.inl rfl
  rw [if_neg h]; clear h
  by_cases h : e_kd E a.1 = 13
  · rw [if_pos h]
    by_cases h2 : 3 ≤ ls.length
    · rw [if_pos h2]; exact Or.inl rfl
    · rw [if_neg h2]; exact Or.inl rfl
  rw [if_neg h]; exact Or.inl rfl
theorem actK_X {l : Lv} {ls : List Lv} {a : Ag} (hX : XV (e_Rs E) (e_md E) B (w_V W)) (hG : GV (e_Rs E) (e_md E) (w_V (actK E W l ls a))) : XV (e_Rs E) (e_md E) B (w_V (actK E W l ls a)) := by
  have hn := hX.1.1.1.2.2.2
  rcases actK_V (E := E) (W := W) (l := l) (ls := ls) (a := a) with h | h | h | h | h <;> rw [h] at hG ⊢
  · exact hX
  · exact XV_tellEq hX hG
  · exact XV_tellTok hX hn hG
  · exact XV_cg hX hG (fun e h => h) (Nat.le_refl _) (Int.le_refl _) (Or.inr ⟨rfl, Int.le_refl _⟩)
  · exact XV_cg hX hG (fun e h => h) (Nat.le_refl _) (Int.le_refl _) (Or.inr ⟨rfl, Int.le_refl _⟩)
theorem turn_X (hE : GE E) (hG : GW E base st W) (hc : okCh ch W) (hX : XV (e_Rs E) (e_md E) B (w_V W)) : XV (e_Rs E) (e_md E) B (w_V (turnW E ch W)) := by
  have hG' := (turn_good hE hG hc).1.1
  cases ho : w_ov W with
  | true =>
    unfold turnW
    rw [if_pos ho]
    exact hX
  | false =>
    unfold turnW at hG' ⊢
    rw [if_neg (by rw [ho]; decide)] at hG' ⊢
    by_cases hf : v_fl (w_V W) = true
    · rw [if_pos hf] at hG' ⊢
      revert hG'
      unfold giveUp
      cases w_lv W with
      | nil =>
        intro hG'
        exact XV_cg hX hG' (fun e h => h) (Nat.le_refl _) (Int.le_refl _) (Or.inl rfl)
      | cons l ls =>
        cases ls with
        | nil =>
          intro hG'
          exact XV_cg hX hG' (fun e h => h) (Nat.le_refl _) (Int.le_refl _) (Or.inl rfl)
        | cons l' ls' =>
          intro hG'
          exact XV_cg hX hG' (fun e h => List.mem_of_mem_take h) (by show ((v_hi (w_V W)).take _).length ≤ _; rw [List.length_take]; exact Nat.min_le_right _ _) (Int.le_refl _) (Or.inl rfl)
    · rw [if_neg hf] at hG' ⊢
      by_cases hn : (v_fr (w_V W)).length = 0
      · rw [if_pos hn] at hG' ⊢
        cases hl : w_lv W with
        | nil => exact hX
        | cons l ls =>
          rw [hl] at hG'
          have hG2 : GV (e_Rs E) (e_md E) (w_V (if (l_q l).length = 0 then quietW E W l ls else actW E ch W l ls)) := hG'
          show XV (e_Rs E) (e_md E) B (w_V (if (l_q l).length = 0 then quietW E W l ls else actW E ch W l ls))
          by_cases hq : (l_q l).length = 0
          · rw [if_pos hq] at hG2 ⊢
            revert hG2
            unfold quietW
            by_cases h1 : (goOnL E (v_S (w_V W)) (w_tk W) l).1.length = 0
            · rw [if_pos h1]
              cases h2 : (l_w l)[fstI (canAs E (v_S (w_V W))) (l_w l)]? with
              | some a => intro _; exact hX
              | none =>
                dsimp only
                unfold finishW
                by_cases h3 : (l_as l).any (fun a => entA E (v_S (w_V W)) a a.1) = true
                · rw [if_pos h3]
                  intro hG2
                  exact XV_cg hX hG2 (fun e h => h) (Nat.le_refl _) (Int.le_refl _) (Or.inr ⟨rfl, Int.le_refl _⟩)
                · rw [if_neg h3]
                  cases ls with
                  | cons l' ls' => intro _; exact hX
                  | nil => intro hG2; exact XV_cg hX hG2 (fun e h => h) (Nat.le_refl _) (Int.le_refl _) (Or.inr ⟨rfl, Int.le_refl _⟩)
            · rw [if_neg h1]
              intro _; exact hX
          · rw [if_neg hq] at hG2 ⊢
            revert hG2
            unfold actW
            have hac : ∀ W' : Wo, w_V W' = w_V W → v_ac (w_V W) < 60 → XV (e_Rs E) (e_md E) B (w_V (w_setV W' (v_setac (w_V W') (v_ac (w_V W') + 1)))) := by
              intro W' h h60
              have hac0 := hG.1.2.1
              have hgv : GV (e_Rs E) (e_md E) (v_setac (w_V W) (v_ac (w_V W) + 1)) := by
                obtain ⟨g1, g2, g3, g4, g5, g6, g7, g8⟩ := hG.1
                have g7' : nBo (v_fr (w_V W)) ≤ v_ac (w_V W) + 1 := by omega
                exact ⟨g1, ⟨by show 0 ≤ v_ac (w_V W) + 1; omega, by show v_ac (w_V W) + 1 ≤ 60; omega⟩, g3, g4, g5, g6, g7', g8⟩
              have e : w_V (w_setV W' (v_setac (w_V W') (v_ac (w_V W') + 1))) = v_setac (w_V W) (v_ac (w_V W) + 1) := by
                show v_setac (w_V W') (v_ac (w_V W') + 1) = _
                rw [h]
              rw [e]
              exact XV_cg hX hgv (fun e h => h) (Nat.le_refl _) (by show v_ac (w_V W) ≤ v_ac (w_V W) + 1; omega) (Or.inr ⟨rfl, Int.le_refl _⟩)
            have hfl : GV (e_Rs E) (e_md E) (v_setfl (w_V W) true) → XV (e_Rs E) (e_md E) B (v_setfl (w_V W) true) := fun hG2 => XV_cg hX hG2 (fun e h => h) (Nat.le_refl _) (Int.le_refl _) (Or.inr ⟨rfl, Int.le_refl _⟩)
            have hat : ∀ (W' : Wo) (i : Nat), w_V W' = w_V W → GV (e_Rs E) (e_md E) (w_V (actAt E W' l ls i)) → XV (e_Rs E) (e_md E) B (w_V (actAt E W' l ls i)) := by
              intro W' i h
              unfold actAt
              cases hi : (l_q l)[i]? with
              | none => dsimp only; intro _; rw [h]; exact hX
              | some a =>
                dsimp only
                by_cases h60 : v_ac (w_V W') < 60
                · rw [if_pos h60]
                  intro hG2
                  exact actK_X (hac W' h (by rw [h] at h60; exact h60)) hG2
                · rw [if_neg h60]
                  show GV _ _ (v_setfl (w_V W') true) → XV _ _ B (v_setfl (w_V W') true)
                  rw [h]
                  exact hfl
            by_cases h0 : ls.length = 0
            · rw [if_pos h0]; exact hat _ _ rfl
            · rw [if_neg h0]; exact hat _ _ rfl
      · rw [if_neg hn]
        exact adv_X hX (by cases h : v_fl (w_V W) with | true => exact absurd h hf | false => rfl) (fun h => hn (by rw [h]; rfl))
theorem turns_X (hE : GE E) (hG : GW E base st W) (hc : ∀ n, okCh ch (turns E ch W n)) (hX : XV (e_Rs E) (e_md E) B (w_V W)) : ∀ n, XV (e_Rs E) (e_md E) B (w_V (turns E ch W n)) := by
  intro n
  induction n with
  | zero => exact hX
  | succ n ih => exact turn_X hE (turns_good hE hG hc n).1 (hc n) ih
end
