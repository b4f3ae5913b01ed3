/-! THE REFERENCE: the run's loop, what turns keep -/
section
variable {Rs : Int → Rl} {made : Int} {V Vf : Vw} {E : Ev} {W : Wo} {a : Ag} {l : Lv} {ls : List Lv} {ch : Nat → Nat}
theorem tellEq_ac {x y : Int} : v_ac (tellEq V x y) = v_ac V := by
  unfold tellEq
  by_cases h : (uni (v_S V) x y).1 = -1
  · rw [if_pos h]
  · rw [if_neg h]
theorem tellTok_ac {so x y : Int} {la : Bool} {sl : Nat → Bool} : v_ac (tellTok V so x y la sl) = v_ac V := by
  unfold tellTok
  by_cases h : s_nt (v_S V) = 100
  · rw [if_pos h]
  · rw [if_neg h]
theorem fireV_ac {w one two : Int} {bd : Int → Int} : v_ac V ≤ v_ac (fireV V Rs w one two bd) := by
  unfold fireV
  by_cases h : v_ac V < 60
  · rw [if_pos h]
    show v_ac V ≤ v_ac V + 1
    omega
  · rw [if_neg h]
    exact Int.le_refl _
theorem adv_ac : v_ac V ≤ v_ac (adv V Rs made) := by
  unfold adv
  split
  · exact Int.le_refl _
  · unfold advA
    split
    · exact Int.le_refl _
    · split
      · exact Int.le_refl _
      · exact Int.le_trans (Int.le_refl _) fireV_ac
  · unfold advW
    split
    · exact Int.le_refl _
    · exact Int.le_refl _
  · unfold advB
    split
    · exact Int.le_refl _
    · split
      · rw [tellEq_ac]; exact Int.le_refl _
      · rw [tellTok_ac]; exact Int.le_refl _
theorem Ends_ac (h : Ends Rs made V Vf) : v_ac V ≤ v_ac Vf := by
  obtain ⟨n, h1, -⟩ := h
  have key : ∀ (n : Nat) (V : Vw), v_ac V ≤ v_ac (advs Rs made n V) := by
    intro n
    induction n with
    | zero => intro V; exact Int.le_refl _
    | succ n ih =>
      intro V
      show v_ac V ≤ v_ac (advs Rs made n (if doneV V then V else adv V Rs made))
      refine Int.le_trans ?_ (ih _)
      by_cases hd : doneV V
      · rw [if_pos hd]; exact Int.le_refl _
      · rw [if_neg hd]; exact adv_ac
  rw [← h1]
  exact key n V
theorem actK_ac : v_ac (w_V (actK E W l ls a)) = v_ac (w_V W) := by
  rcases actK_V (E := E) (W := W) (l := l) (ls := ls) (a := a) with h | h | h | h | h <;> rw [h]
  · exact tellEq_ac
  · exact tellTok_ac
  · rfl
  · rfl
theorem actK_sp : w_sp (actK E W l ls a) = w_sp W := by
  unfold actK
  by_cases h : e_kd E a.1 = 0
  · (rw [if_pos h]; try rfl)
  rw [if_neg h]; clear h
  by_cases h : e_kd E a.1 = 1 ∨ e_kd E a.1 = 2
  · (rw [if_pos h]; try rfl)
  rw [if_neg h]; clear h
  by_cases h : e_kd E a.1 = 3
  · (rw [if_pos h]; try rfl)
  rw [if_neg h]; clear h
  by_cases h : e_kd E a.1 = 4 ∨ e_kd E a.1 = 5
  · rw [if_pos h]
    unfold askW
    by_cases h2 : sideA E (v_S (w_V W)) (w_tk W) a a.1 = -1
    · (rw [if_pos h2]; try rfl)
    · (rw [if_neg h2]; try rfl)
  rw [if_neg h]; clear h
  by_cases h : e_kd E a.1 = 6
  · rw [if_pos h]
    by_cases h2 : s_nv (v_S (w_V W)) = 60
    · (rw [if_pos h2]; try rfl)
    · (rw [if_neg h2]; try rfl)
  rw [if_neg h]; clear h
  by_cases h : e_kd E a.1 = 7
  · rw [if_pos h]
    by_cases h2 : e_df E (e_wh E a.1) = -1
    · (rw [if_pos h2]; try rfl)
    · (rw [if_neg h2]; try rfl)
  rw [if_neg h]; clear h
  by_cases h : e_kd E a.1 = 8
  · (rw [if_pos h]; try rfl)
  rw [if_neg h]; clear h
  by_cases h : e_kd E a.1 = 9
  · (rw [if_pos h]; try rfl)
  rw [if_neg h]; clear h
  by_cases h : e_kd E a.1 = 12
  · (rw [if_pos h]; try rfl)
  rw [if_neg h]; clear h
  by_cases h : e_kd E a.1 = 13
  · rw [if_pos h]
    by_cases h2 : 3 ≤ ls.length
    · (rw [if_pos h2]; try rfl)
    · (rw [if_neg h2]; try rfl)
  (rw [if_neg h]; try rfl)
theorem turn_sp : w_sp (turnW E ch W) = w_sp W := by
  unfold turnW
  by_cases ho : w_ov W = true
  · (rw [if_pos ho]; try rfl)
  rw [if_neg ho]
  by_cases hf : v_fl (w_V W) = true
  · rw [if_pos hf]
    unfold giveUp
    split <;> rfl
  rw [if_neg hf]
  by_cases hn : (v_fr (w_V W)).length = 0
  · rw [if_pos hn]
    cases hl : w_lv W with
    | nil => rfl
    | cons l ls =>
      show w_sp (if (l_q l).length = 0 then quietW E W l ls else actW E ch W l ls) = w_sp W
      by_cases hq : (l_q l).length = 0
      · rw [if_pos hq]
        unfold quietW
        by_cases h1 : (goOnL E (v_S (w_V W)) (w_tk W) l).1.length = 0
        · rw [if_pos h1]
          cases h2 : (l_w l)[fstI (canAs E (v_S (w_V W))) (l_w l)]? with
          | some a => rfl
          | none =>
            dsimp only
            unfold finishW
            by_cases h3 : (l_as l).any (fun a => entA E (v_S (w_V W)) a a.1) = true
            · (rw [if_pos h3]; try rfl)
            · rw [if_neg h3]
              cases ls with
              | cons l' ls' => rfl
              | nil => rfl
        · (rw [if_neg h1]; try rfl)
      · rw [if_neg hq]
        have hat : ∀ (W' : Wo) (i : Nat), w_sp (actAt E W' l ls i) = w_sp W' := by
          intro W' i
          unfold actAt
          cases hi : (l_q l)[i]? with
          | none => rfl
          | some a =>
            dsimp only
            by_cases h60 : v_ac (w_V W') < 60
            · (rw [if_pos h60, actK_sp]; try rfl)
            · (rw [if_neg h60]; try rfl)
        unfold actW
        by_cases h0 : ls.length = 0
        · (rw [if_pos h0, hat]; try rfl)
        · (rw [if_neg h0, hat]; try rfl)
  · (rw [if_neg hn]; try rfl)
theorem turns_sp : ∀ n, w_sp (turns E ch W n) = w_sp W := by
  intro n
  induction n with
  | zero => rfl
  | succ n ih =>
    show w_sp (turnW E ch (turns E ch W n)) = _
    rw [turn_sp, ih]
theorem w_self {ls : List Lv} (h : w_lv W = ls) : w_setlv W ls = W := by
  obtain ⟨V, x, pw, tk, lv, ov, cs, lg⟩ := W
  have h' : lv = ls := h
  subst h'
  rfl
end
/-- the run stands before a turn: the view is settled -/
def RSt (d : Dy) (mo n : Nat) (E : Ev) (ch : Nat → Nat) (W : Wo) : Prop := w_ov W = false ∧ doneV (w_V W) ∧ RWm d mo n E ch (w_setV W (v_setfr (w_V W) [])) ∧ (n : Int) + wL (w_lv W) + (w_lv W).length ≤ 61 + 2 * v_ac (w_V W)
/-- the run goes on from W -/
def Nxt (δ d : Dy) (mo : Nat) (E : Ev) (ch : Nat → Nat) (W : Wo) : Prop := ∃ k n, RSt d mo n E ch (turns E ch W (1 + k)) ∧ RF mo δ d
/-- the run ends with the next turn of W -/
def Zxt (δ d : Dy) (mo : Nat) (E : Ev) (ch : Nat → Nat) (W : Wo) : Prop := ∃ (W1 : Wo) (n : Nat) (l : Lv), RWm d mo n E ch W1 ∧ w_lv W1 = [l] ∧ GS (v_S (w_V W1)) ∧ (v_hi (w_V W1)).length ≤ 1990 ∧ n ≤ 1900 ∧ (l_nx l).length ≤ 60 ∧ w_sp W1 = w_sp W ∧ turnW E ch W = finW W1 ∧ RF mo δ d
section
variable {σ : St} {δ d : Dy} {mo g n i : Nat} {E : Ev} {W : Wo} {S : Sto} {a : Ag} {l l' : Lv} {ls : List Lv} {ch : Nat → Nat} {st B : Int} {base : Nat}
/-- a try that fails -/
theorem m_caseTry (hK : KM σ mo) (gE : GE E) (hE : REm δ mo E) (hG : GW E base st W) (hX : XV (e_Rs E) (e_md E) B (w_V W)) (hB : B ≤ 1830) (hR : RSt δ mo n E ch W) (hfl : v_fl (w_V W) = true) (hl : w_lv W = l :: l' :: ls) : Ok (m_X12_forget σ mo δ) (fun d => Nxt δ d mo E ch W) := by
  obtain ⟨ho, hd, hRW, hcnt⟩ := hR
  have hac := hG.1.2.1
  have hlen := hG.2.2.2.2.2.2.1
  have hm1 := hG.2.2.2.2.2.2.2.1
  have hLs := hG.2.2.2.2.2.1
  have hh := hX.2.2.1
  rw [hl] at hlen hm1 hLs hcnt
  obtain ⟨⟨hsv, ⟨hb1, hb2⟩, -⟩, -⟩ := hLs
  have hlen' : ls.length + 2 ≤ 4 := hlen
  have hm1' : m1L ls + (l_q l').length + (l_w l').length + (l_q l).length + (l_w l).length + ((ls.length : Int) + 2) ≤ 61 + v_ac (w_V W) := hm1
  have q1 := m1_nn ls
  have hcnt' : (n : Int) + ((wL ls + (l_w l').length + (l_w l).length : Nat) : Int) + ((ls.length : Int) + 2) ≤ 61 + 2 * v_ac (w_V W) := hcnt
  have hgu : giveUp (w_setV W (v_setfr (w_V W) [])) = giveUp W := rfl
  have hge : giveUp W = w_setlv (w_setV W (restS (v_S (w_V W)) (l_sv l), [], (v_hi (w_V W)).take (l_hn l), v_fi (w_V W), v_ac (w_V W), false)) (qAdd l' (l_ow l) :: ls) := by
    unfold giveUp
    rw [hl]
  have ht : turns E ch W (1 + 0) = giveUp W := by
    show turnW E ch W = giveUp W
    unfold turnW
    rw [if_neg (by rw [ho]; decide), if_pos hfl]
  obtain ⟨D, eD, k1, k2⟩ := m_forget (W := w_setV W (v_setfr (w_V W) [])) (l := l) (l' := l') (ls := ls) hK hE.2 gE hRW hG.1.1 (by show (v_hi (w_V W)).length ≤ 2000; omega) rfl hl (by omega) (by omega) hsv hb2 (by omega)
  refine ⟨D, eD, 0, n + 1, ?_, k2⟩
  rw [ht]
  rw [hgu] at k1
  refine ⟨?_, Or.inl ?_, ?_, ?_⟩
  · rw [hge]; exact ho
  · rw [hge]; rfl
  · rw [hge] at k1 ⊢
    exact k1
  · rw [hge]
    show ((n + 1 : Nat) : Int) + ((wL ls + (l_w l').length : Nat) : Int) + ((ls.length : Int) + 1) ≤ 61 + 2 * v_ac (w_V W)
    omega
/-- the failing of the whole step -/
theorem m_caseFail (hG : GW E base st W) (hX : XV (e_Rs E) (e_md E) B (w_V W)) (hB : B ≤ 1830) (hR : RSt δ mo n E ch W) (hfl : v_fl (w_V W) = true) (hl : w_lv W = [l]) : Zxt δ δ mo E ch W := by
  obtain ⟨ho, hd, hRW, hcnt⟩ := hR
  have hac := hG.1.2.1
  have hm2 := hG.2.2.2.2.2.2.2.2.1
  have hh := hX.2.2.1
  rw [ho, if_neg (by decide), hl] at hm2
  rw [hl] at hcnt
  have hm2' : (0 : Int) + (l_w l).length + (l_as l).length + (l_nx l).length ≤ v_ac (w_V W) := hm2
  have hcnt' : (n : Int) + ((0 + (l_w l).length : Nat) : Int) + 1 ≤ 61 + 2 * v_ac (w_V W) := hcnt
  refine ⟨w_setV W (v_setfr (w_V W) []), n, l, hRW, hl, hG.1.1, by show (v_hi (w_V W)).length ≤ 1990; omega, by omega, by omega, rfl, ?_, RF.rf⟩
  unfold turnW finW
  rw [if_neg (by rw [ho]; decide), if_pos hfl, if_pos (show v_fl (w_V (w_setV W (v_setfr (w_V W) []))) = true from hfl)]
  unfold giveUp
  rw [hl]
  show (v_setfr (w_V W) [], w_x W, w_pw W, w_tk W, [l], true, w_cs W, w_lg W) = (v_setfr (w_V W) [], w_x W, w_pw W, w_tk W, w_lv W, true, w_cs W, w_lg W)
  rw [hl]
/-- an agent acts -/
theorem m_caseAct (hK : KM σ mo) (gE : GE E) (hE : REm δ mo E) (hG : GW E base st W) (hst : st ≤ 90000) (hc : okCh ch W) (hX : XV (e_Rs E) (e_md E) B (w_V W)) (hB : B ≤ 1830) (hR : RSt δ mo n E ch W) (hfl : v_fl (w_V W) = false) (hl : w_lv W = l :: ls) (hq : ¬ (l_q l).length = 0) : Ok ((m_X12_dequeue σ mo δ).bind fun v40 => m_X12_act σ mo v40.1 v40.2) (fun d => Nxt δ d mo E ch W) := by
  obtain ⟨ho, hd, hRW, hcnt⟩ := hR
  have hn0 : (v_fr (w_V W)).length = 0 := hd.resolve_right (by rw [hfl]; decide)
  have hfr : v_fr (w_V W) = [] := List.length_eq_zero_iff.mp hn0
  have hac := hG.1.2.1
  have hlen := hG.2.2.2.2.2.2.1
  have hlg := hG.2.2.2.2.2.2.2.2.2.1
  rw [hfl, if_neg (by rintro ⟨h, -⟩; cases h)] at hlg
  have hh := hX.2.2.1
  rw [hl] at hlen hcnt
  have h4 : ls.length < 4 := hlen
  have hcnt' : (n : Int) + ((wL ls + (l_w l).length : Nat) : Int) + ((ls.length : Int) + 1) ≤ 61 + 2 * v_ac (w_V W) := hcnt
  rw [v_nofr hfr] at hRW
  have hRW2 : RWm δ mo n E ch (w_setlv W (l :: ls)) := by rw [w_self hl]; exact hRW
  obtain ⟨i, hi⟩ : ∃ i, i = if ls.length = 0 then ch (w_lg W).length else 0 := ⟨_, rfl⟩
  have hil : i < (l_q l).length := by
    rw [hi]
    by_cases c : ls.length = 0
    · rw [if_pos c]
      have hls : ls = [] := List.length_eq_zero_iff.mp c
      exact hc l ho hfl hn0 (by rw [hl, hls]) hq
    · rw [if_neg c]; omega
  obtain ⟨a, ha⟩ : ∃ a, (l_q l)[i]? = some a := ⟨_, List.getElem?_eq_getElem hil⟩
  obtain ⟨⟨v, d1⟩, e1, g, g1, g2, g3, g4, g5⟩ := m_dequeue hK hRW2 hG.1.1 (by omega) h4 hi hil (by omega) ha
  dsimp only at g2 g3 g4 g5
  subst g2
  have hE1 : REm d1 mo E := REm_RF hE g5
  -- the world with its log
  obtain ⟨W', hW'⟩ : ∃ W', W' = if ls.length = 0 then w_log W (l_q l).length else W := ⟨_, rfl⟩
  obtain ⟨lg, hlgW, hlg1, hlg2⟩ : ∃ lg : List Int, W' = (w_V W, w_x W, w_pw W, w_tk W, w_lv W, w_ov W, w_cs W, lg) ∧ (lg.length : Int) ≤ v_ac (w_V W) + 1 ∧ (¬ ls.length = 0 → (lg.length : Int) ≤ v_ac (w_V W)) := by
    by_cases c : ls.length = 0
    · rw [if_pos c] at hW'
      refine ⟨w_lg W ++ [((l_q l).length : Int)], hW', ?_, fun h => absurd c h⟩
      rw [List.length_append, List.length_singleton]
      omega
    · rw [if_neg c] at hW'
      exact ⟨w_lg W, hW', by omega, fun _ => by omega⟩
  rw [← hW'] at g3
  have ht1 : turns E ch W (1 + 0) = actAt E W' l ls i := by
    show turnW E ch W = _
    unfold turnW
    rw [if_neg (by rw [ho]; decide), if_neg (by rw [hfl]; decide), if_pos hn0, hl]
    show (if (l_q l).length = 0 then quietW E W l ls else actW E ch W l ls) = _
    rw [if_neg hq]
    unfold actW
    by_cases c : ls.length = 0
    · rw [if_pos c, hi, if_pos c, hW', if_pos c]
    · rw [if_neg c, hi, if_neg c, hW', if_neg c]
  have hVW : w_V W' = w_V W := by rw [hlgW]
  have hact : actAt E W' l ls i = if v_ac (w_V W) < 60 then actK E (w_setV W' (v_setac (w_V W) (v_ac (w_V W) + 1))) (dropQ l i) ls a else w_setlv (w_setV W' (v_setfl (w_V W) true)) (dropQ l i :: ls) := by
    unfold actAt
    rw [ha]
    dsimp only
    rw [hVW]
  by_cases c60 : v_ac (w_V W) < 60
  · rw [if_pos c60] at hact
    have hHA0 := HA_of gE hG hfl hn0 ho hl hlg1 ha c60
    have hHA : HA E base st (w_setV W' (v_setac (w_V W) (v_ac (w_V W) + 1))) (dropQ l i) ls a := by
      rw [hlgW]
      exact hHA0
    have hgv : GV (e_Rs E) (e_md E) (v_setac (w_V W) (v_ac (w_V W) + 1)) := by
      obtain ⟨x1, x2, x3, x4, x5, x6, x7, x8⟩ := hG.1
      have x7' : nBo (v_fr (w_V W)) ≤ v_ac (w_V W) + 1 := by omega
      exact ⟨x1, ⟨by show 0 ≤ v_ac (w_V W) + 1; omega, by show v_ac (w_V W) + 1 ≤ 60; omega⟩, x3, x4, x5, x6, x7', x8⟩
    have hX1 : XV (e_Rs E) (e_md E) B (v_setac (w_V W) (v_ac (w_V W) + 1)) := XV_cg hX hgv (fun e h => h) (Nat.le_refl _) (by show v_ac (w_V W) ≤ v_ac (w_V W) + 1; omega) (Or.inr ⟨rfl, Int.le_refl _⟩)
    obtain ⟨D, eD, n', Vf, k1, k2, k3, k4, k5⟩ := m_act (W := W') (l := dropQ l i) (ls := ls) (base := base) (st := st) (B := B) hK hE1 g3 (by rw [hVW]; exact c60) (by rw [hVW]; exact hHA) hst (by rw [hVW]; exact hX1) hB (by rw [hVW]; omega) g1 (by omega) g4
    rw [hVW, ← hact] at k1 k3 k4
    obtain ⟨A, hA⟩ : ∃ A, A = actAt E W' l ls i := ⟨_, rfl⟩
    rw [← hA] at k1 k3 k4 ht1 hact
    have hoA : w_ov A = false := by
      rw [hact, (act_good hHA).2.2]
      show w_ov W' = false
      rw [hlgW]
      exact ho
    have hacA : v_ac (w_V A) = v_ac (w_V W) + 1 := by rw [hact, actK_ac]; rfl
    obtain ⟨m, hm⟩ := Ends_turns (ch := ch) k1 hoA
    have hEA := Ends_ac k1
    have hdn : doneV Vf := by obtain ⟨_, -, h⟩ := k1; exact h
    have htm : turns E ch W (1 + m) = w_setV A Vf := by
      rw [turns_one, ← hm]
      congr 1
    refine ⟨D, by rw [e1, ob_some]; exact eD, m, n', ?_, g5.tr k5⟩
    rw [htm]
    refine ⟨hoA, hdn, k3, ?_⟩
    have k4' : n' + wL (w_lv A) + (w_lv A).length ≤ n + (wL ls + (l_w l).length) + (ls.length + 1) + 2 := k4
    show (n' : Int) + wL (w_lv A) + (w_lv A).length ≤ 61 + 2 * v_ac Vf
    omega
  · rw [if_neg c60] at hact
    have hac60 : v_ac (w_V W) = 60 := by omega
    have a34 : d1.1 mo 34 = ii 60 := by
      have := g3.1.2.1.1
      rw [this]
      show ii (v_ac (w_V W')) = _
      rw [hVW, hac60]
    obtain ⟨D, eD, vD, oD, FD⟩ := pZ_ex (δ := d1) (k := 35) (x := 1) hK.1 (Or.inr rfl)
    have eact : m_X12_act σ mo (ii g) d1 = some D := by
      rw [act_start, gI_ko hK.1, ob_some, a34, if_pos (show ii 60 = 60 from rfl), eD, ob_some]
    have un : ∀ r, ¬ r = mo → D.1 r = d1.1 r := fun r hr => (FD r hr).1
    have hRFD : RF mo d1 D := ⟨FD.wk (fun r p => Or.inl p), fun k hk => oD k (by omega), fun k _ _ => by rw [un _ (by omega)]⟩
    refine ⟨D, by rw [e1, ob_some]; exact eact, 0, n, ?_, g5.tr hRFD⟩
    rw [ht1, hact]
    obtain ⟨⟨s1, ⟨s2, s3, s4⟩, s5, s6, s7⟩, hRG, hRX, hRC⟩ := g3
    have eVf : v_setfr (v_setfl (w_V W) true) [] = v_setfl (w_V W) true := v_nofr hfr
    have hSW : v_S (w_V W') = v_S (w_V W) := by rw [hVW]
    refine ⟨?_, Or.inr rfl, ?_, ?_⟩
    · show w_ov W' = false
      rw [hlgW]; exact ho
    · show RWm D mo n E ch (w_setlv (w_setV W' (v_setfr (v_setfl (w_V W) true) [])) (dropQ l i :: ls))
      rw [eVf]
      refine ⟨⟨RSm_eq (S := v_S (w_V W)) (by rw [← hSW]; exact s1) hG.1.1 (fun k _ => by rw [un _ (by omega)]), ⟨?_, vD, ?_⟩, ?_, ?_, fun w hw => ?_⟩, RGm_eq hRG (oD _ (by decide)) (oD _ (by decide)) (fun r _ _ => un r (by omega)), RXm_eq hRX (fun k _ => by rw [un _ (by omega)]), RCm_eq hRC (oD _ (by decide)) (oD _ (by decide)) (un _ (by omega)) (un _ (by omega))⟩
      · rw [oD _ (by decide), a34, ← hac60]; rfl
      · rw [oD _ (by decide), s4]
        show ii (v_fr (w_V W')).length = ii (v_fr (w_V W)).length
        rw [hVW]
      · have s5' : RMfr (e_Rs E) d1 mo (v_fr (w_V W')) := s5
        rw [hVW] at s5'
        exact RMfr_eq (fs := v_fr (w_V W)) s5' (fun k _ => by rw [un _ (by omega)])
      · have s6' : RMh d1 mo (e_Rs E) (v_hi (w_V W')) := s6
        rw [hVW] at s6'
        exact RMh_eq (hi := v_hi (w_V W)) s6' (fun k _ _ => by rw [un _ (by omega)]) (by omega)
      · have s7' : d1.1 (mo + 1) (7023 + w) = ii (v_fi (w_V W') w) := s7 w hw
        rw [hVW] at s7'
        rw [un _ (by omega)]
        exact s7'
    · show (n : Int) + ((wL ls + (l_w l).length : Nat) : Int) + ((ls.length : Int) + 1) ≤ 61 + 2 * v_ac (w_V W)
      exact hcnt'
end
