/-! THE WORLD, as it is meant: a turn keeps it good, and its measure falls -/
theorem filt_len {α : Type} (P : α → Bool) : ∀ l : List α, (l.filter P).length + (l.filter (fun a => !P a)).length = l.length := by
  intro l
  induction l with
  | nil => rfl
  | cons a l ih =>
    rw [List.filter_cons, List.filter_cons]
    cases h : P a with
    | true => rw [if_pos rfl, if_neg (by simp), List.length_cons, List.length_cons]; omega
    | false => rw [if_neg (by decide), if_pos (by simp), List.length_cons, List.length_cons]; omega
theorem fstI_spec {α : Type} {P : α → Bool} : ∀ {l : List α} {a : α}, l[fstI P l]? = some a → P a = true ∧ ∀ j, j < fstI P l → ∀ b, l[j]? = some b → P b = false := by
  intro l
  induction l with
  | nil => intro a h; cases h
  | cons b l ih =>
    intro a h
    unfold fstI at h ⊢
    by_cases hb : P b = true
    · rw [if_pos hb] at h ⊢
      cases h
      exact ⟨hb, fun j hj => by omega⟩
    · rw [if_neg hb] at h ⊢
      rw [List.getElem?_cons_succ] at h
      obtain ⟨h1, h2⟩ := ih h
      refine ⟨h1, fun j hj c hc => ?_⟩
      cases j with
      | zero => cases hc; simpa using hb
      | succ j => rw [List.getElem?_cons_succ] at hc; exact h2 j (by omega) c hc
theorem fstI_none {α : Type} {P : α → Bool} : ∀ {l : List α}, l[fstI P l]? = none → ∀ a ∈ l, P a = false := by
  intro l
  induction l with
  | nil => intro _ a h; cases h
  | cons b l ih =>
    intro h a ha
    unfold fstI at h
    by_cases hb : P b = true
    · rw [if_pos hb] at h
      cases h
    · rw [if_neg hb, List.getElem?_cons_succ] at h
      rcases List.mem_cons.mp ha with rfl | ha
      · simpa using hb
      · exact ih h a ha
section
variable {E : Ev} {base : Nat} {st : Int} {W : Wo} {l : Lv} {ls : List Lv}
theorem gAs_sub {S : Sto} {q q' : List Ag} (h : gAs E S q) (k : ∀ a ∈ q', a ∈ q) : gAs E S q' := fun a ha => h a (k a ha)
theorem unl_good {S : Sto} {w : List Ag} (hE : GE E) (h : gAs E S w) : gAs E S (unlL E S w) ∧ (unlL E S w).length ≤ w.length := by
  refine ⟨fun a ha => ?_, ?_⟩
  · unfold unlL at ha
    obtain ⟨b, hb, rfl⟩ := List.mem_map.mp ha
    obtain ⟨hb1, hb2⟩ := List.mem_filter.mp hb
    have hk : e_kd E b.1 = 10 := by
      rw [Bool.and_eq_true] at hb2
      exact of_decide_eq_true hb2.1
    have hg := h b hb1
    exact ⟨(hE.2.2.2.2 b.1 hg.1).2.2.2.2.2.2.2.2.2.1 (by omega), hg.2⟩
  · unfold unlL
    rw [List.length_map]
    exact List.length_filter_le _ _
theorem quiet_good (hE : GE E) (hG : GW E base st W) (hf : v_fl (w_V W) = false) (hn : (v_fr (w_V W)).length = 0) (ho : w_ov W = false) (hl : w_lv W = l :: ls) (hq : (l_q l).length = 0) : GW E base st (quietW E W l ls) ∧ muW (quietW E W l ls) < muW W := by
  have hpos := muW_pos hG ho
  obtain ⟨V, x, pw, tk, lv, ov, ck, lg⟩ := W
  obtain ⟨g1, g2, g3, g4, g5, g6, g7, g8, g9, g10, g11⟩ := hG
  dsimp only [w_V, w_x, w_pw, w_tk, w_lv, w_ov, w_cs, w_ck, w_sp, w_lg] at *
  subst hl
  subst ho
  rw [if_neg (by decide)] at g9
  rw [if_neg (by rintro ⟨h, -⟩; rw [hf] at h; cases h)] at g10
  obtain ⟨q, w, as, nx, sv, ow⟩ := l
  have hq' : q = [] := List.length_eq_zero_iff.mp hq
  subst hq'
  have hgl := g5 _ List.mem_cons_self
  have hmu : muW (V, x, pw, tk, ([], w, as, nx, sv, ow) :: ls, false, ck, lg) = muV V + (muL ls + 2 * (w.length : Int) + 0 + 3) := rfl
  have hm1 : m1L (([], w, as, nx, sv, ow) :: ls) = m1L ls + 0 + w.length := rfl
  have hm2 : m2L (([], w, as, nx, sv, ow) :: ls) = m2L ls + w.length + as.length + nx.length := rfl
  rw [hm1] at g8
  rw [hm2] at g9
  have g8' : m1L ls + 0 + (w.length : Int) + ((ls.length : Int) + 1) ≤ 61 + v_ac V := g8
  have hfl := filt_len (canGo E (v_S V) tk) w
  unfold quietW
  by_cases c : (goOnL E (v_S V) tk ([], w, as, nx, sv, ow)).1.length = 0
  · rw [if_pos c]
    dsimp only [l_w]
    cases hs : w[fstI (canAs E (v_S V)) w]? with
    | some a =>
      dsimp only
      have ha := List.mem_of_getElem? hs
      have hi := (List.getElem?_eq_some_iff.mp hs).1
      have hP := (fstI_spec hs).1
      unfold canAs at hP
      rw [Bool.and_eq_true] at hP
      have hk : e_kd E a.1 = 11 := of_decide_eq_true hP.1
      have hga := hgl.2.1 a ha
      have hlen : ((w.eraseIdx (fstI (canAs E (v_S V)) w)).length : Int) = w.length - 1 := by rw [List.length_eraseIdx_of_lt hi]; omega
      have hsub : ∀ b ∈ w.eraseIdx (fstI (canAs E (v_S V)) w), b ∈ w := fun b hb => (List.eraseIdx_sublist w _).subset hb
      refine ⟨⟨g1, g2, g3, g4, fun m hm => ?_, gLs_head g6 rfl, g7, ?_, ?_, ?_, g11⟩, ?_⟩
      · rcases List.mem_cons.mp hm with rfl | hm
        · refine ⟨fun b hb => ?_, gAs_sub hgl.2.1 hsub, gAs_add hgl.2.2.1 hga, hgl.2.2.2.1, fun b hb => ?_⟩
          · rw [List.mem_singleton.mp (show b ∈ [(e_on E a.1, a.2)] from hb)]
            exact ⟨(hE.2.2.2.2 a.1 hga.1).2.2.2.2.2.2.2.2.2.1 (by omega), hga.2⟩
          · rcases List.mem_append.mp hb with hb | hb
            · exact hgl.2.2.2.2 b hb
            · rw [List.mem_singleton.mp hb]; exact hk
        · exact g5 m (List.mem_cons_of_mem _ hm)
      · show m1L ls + 1 + ((w.eraseIdx (fstI (canAs E (v_S V)) w)).length : Int) + ((ls.length : Int) + 1) ≤ 61 + v_ac V
        omega
      · show m2L ls + ((w.eraseIdx (fstI (canAs E (v_S V)) w)).length : Int) + ((as ++ [a]).length : Int) + nx.length ≤ v_ac V
        rw [List.length_append, List.length_singleton]
        omega
      · show (lg.length : Int) ≤ v_ac V + _
        split <;> omega
      · rw [hmu]
        show muV V + (muL ls + 2 * ((w.eraseIdx (fstI (canAs E (v_S V)) w)).length : Int) + 1 + 3) < _
        omega
    | none =>
      dsimp only
      unfold finishW
      by_cases c2 : (l_as ([], w, as, nx, sv, ow)).any (fun a => entA E (v_S V) a a.1) = true
      · rw [if_pos c2]
        refine ⟨⟨g1, g2, g3, g4, g5, g6, g7, g8', g9, ?_, g11⟩, ?_⟩
        · show (lg.length : Int) ≤ v_ac V + _
          split <;> omega
        · rw [hmu]
          show 1000 * (60 - v_ac V) + wFrs (v_fr V) + (if true = true then (0 : Int) else 1) + (muL ls + 2 * (w.length : Int) + 0 + 3) < 1000 * (60 - v_ac V) + wFrs (v_fr V) + (if v_fl V = true then 0 else 1) + _
          rw [hf, if_pos rfl, if_neg (by decide)]
          omega
      · rw [if_neg c2]
        have hun := unl_good (S := v_S V) hE hgl.2.1
        cases ls with
        | nil =>
          have hnx : gAs E (v_S V) (nx ++ unlL E (v_S V) w) := fun b hb => by
            rcases List.mem_append.mp hb with hb | hb
            · exact hgl.2.2.2.1 b hb
            · exact hun.1 b hb
          have hlx : ((nx ++ unlL E (v_S V) w).length : Int) ≤ v_ac V := by
            rw [List.length_append]
            have := m2_nn []
            have := hun.2
            have e : m2L ([] : List Lv) = 0 := rfl
            show ((nx.length + (unlL E (v_S V) w).length : Nat) : Int) ≤ v_ac V
            have h9 : (unlL E (v_S V) w).length ≤ w.length := this
            omega
          refine ⟨⟨?_, g2, g3, g4, fun m hm => ?_, trivial, g7, g8', ⟨rfl, fun m hm => ?_⟩, ?_, g11⟩, ?_⟩
          · obtain ⟨p1, p2, p3, p4, p5, p6, p7, p8⟩ := g1
            exact ⟨GS_setsd p1 _, p2, p3, p4, fun f hf => gFrm_mono (p5 f hf) (Int.le_refl _) (Int.le_refl _), p6, p7, p8⟩
          · rw [List.mem_singleton.mp hm]
            exact ⟨hgl.1, hgl.2.1, hgl.2.2.1, hnx, hgl.2.2.2.2⟩
          · rw [List.mem_singleton.mp hm]
            exact hlx
          · show (lg.length : Int) ≤ v_ac V + _
            split <;> omega
          · show (0 : Int) < _
            exact hpos
        | cons l' ls =>
          obtain ⟨q', w', as', nx', sv'⟩ := l'
          have hl' := g5 (q', w', as', nx', sv') (List.mem_cons_of_mem _ List.mem_cons_self)
          have hnx : gAs E (v_S V) (nx' ++ (nx ++ unlL E (v_S V) w)) := fun b hb => by
            rcases List.mem_append.mp hb with hb | hb
            · exact hl'.2.2.2.1 b hb
            · rcases List.mem_append.mp hb with hb | hb
              · exact hgl.2.2.2.1 b hb
              · exact hun.1 b hb
          have e1 : m1L ((q', w', as', nx', sv') :: ls) = m1L ls + q'.length + w'.length := rfl
          have e2 : m2L ((q', w', as', nx', sv') :: ls) = m2L ls + w'.length + as'.length + nx'.length := rfl
          rw [e1] at g8'
          rw [e2] at g9
          have g8'' : m1L ls + (q'.length : Int) + w'.length + 0 + w.length + (((ls.length : Int) + 1) + 1) ≤ 61 + v_ac V := g8'
          have h9 : (unlL E (v_S V) w).length ≤ w.length := hun.2
          refine ⟨⟨g1, g2, g3, g4, fun m hm => ?_, ?_, ?_, ?_, ?_, ?_, g11⟩, ?_⟩
          · rcases List.mem_cons.mp hm with rfl | hm
            · exact ⟨hl'.1, hl'.2.1, hl'.2.2.1, hnx, hl'.2.2.2.2⟩
            · exact g5 m (List.mem_cons_of_mem _ (List.mem_cons_of_mem _ hm))
          · obtain ⟨⟨p1, p2, p3⟩, p4⟩ := g6
            exact gLs_head (gLs_mono (Int.le_refl _) (Int.le_refl _) p4 p2.2) rfl
          · have : ls.length + 1 + 1 ≤ 4 := g7
            show ls.length + 1 ≤ 4
            omega
          · show m1L ls + (q'.length : Int) + w'.length + ((ls.length : Int) + 1) ≤ 61 + v_ac V
            omega
          · show m2L ls + (w'.length : Int) + as'.length + ((nx' ++ (nx ++ unlL E (v_S V) w)).length : Int) ≤ v_ac V
            rw [List.length_append, List.length_append]
            omega
          · show (lg.length : Int) ≤ v_ac V + _
            split <;> omega
          · rw [hmu]
            show muV V + (muL ls + 2 * (w'.length : Int) + q'.length + 3) < muV V + (muL ls + 2 * (w'.length : Int) + q'.length + 3 + 2 * (w.length : Int) + 0 + 3)
            omega
  · rw [if_neg c]
    have c' : ¬ (w.filter (canGo E (v_S V) tk)).length = 0 := by
      intro h
      apply c
      show ([] ++ w.filter (canGo E (v_S V) tk)).length = 0
      rw [List.nil_append, h]
    have s1 : ∀ b ∈ w.filter (canGo E (v_S V) tk), b ∈ w := fun b hb => (List.mem_filter.mp hb).1
    have s2 : ∀ b ∈ w.filter (fun a => !canGo E (v_S V) tk a), b ∈ w := fun b hb => (List.mem_filter.mp hb).1
    refine ⟨⟨g1, g2, g3, g4, fun m hm => ?_, gLs_head g6 rfl, g7, ?_, ?_, ?_, g11⟩, ?_⟩
    · rcases List.mem_cons.mp hm with rfl | hm
      · exact ⟨gAs_sub hgl.2.1 s1, gAs_sub hgl.2.1 s2, hgl.2.2⟩
      · exact g5 m (List.mem_cons_of_mem _ hm)
    · show m1L ls + ((w.filter (canGo E (v_S V) tk)).length : Int) + ((w.filter (fun a => !canGo E (v_S V) tk a)).length : Int) + ((ls.length : Int) + 1) ≤ 61 + v_ac V
      omega
    · show m2L ls + ((w.filter (fun a => !canGo E (v_S V) tk a)).length : Int) + as.length + nx.length ≤ v_ac V
      omega
    · show (lg.length : Int) ≤ v_ac V + _
      split <;> omega
    · rw [hmu]
      show muV V + (muL ls + 2 * ((w.filter (fun a => !canGo E (v_S V) tk a)).length : Int) + ((w.filter (canGo E (v_S V) tk)).length : Int) + 3) < _
      omega
theorem actAt_good (hE : GE E) (hG : GW E base st W) (hf : v_fl (w_V W) = false) (hn : (v_fr (w_V W)).length = 0) (ho : w_ov W = false) (hl : w_lv W = l :: ls) {lg : List Int} (h1 : (lg.length : Int) ≤ v_ac (w_V W) + 1) (h2 : ¬ ls.length = 0 → (lg.length : Int) ≤ v_ac (w_V W)) {i : Nat} (hi : i < (l_q l).length) : GW E base st (actAt E (w_V W, w_x W, w_pw W, w_tk W, w_lv W, w_ov W, w_cs W, lg) l ls i) ∧ muW (actAt E (w_V W, w_x W, w_pw W, w_tk W, w_lv W, w_ov W, w_cs W, lg) l ls i) < muW W := by
  obtain ⟨V, x, pw, tk, lv, ov, ck, lg0⟩ := W
  obtain ⟨g1, g2, g3, g4, g5, g6, g7, g8, g9, g10, g11⟩ := hG
  dsimp only [w_V, w_x, w_pw, w_tk, w_lv, w_ov, w_cs, w_ck, w_sp, w_lg] at *
  subst hl
  subst ho
  rw [if_neg (by decide)] at g9
  have hfr : v_fr V = [] := List.length_eq_zero_iff.mp hn
  obtain ⟨a, ha⟩ : ∃ a, (l_q l)[i]? = some a := ⟨_, List.getElem?_eq_getElem hi⟩
  have hgl := g5 _ List.mem_cons_self
  have hga := hgl.1 a (List.mem_of_getElem? ha)
  have hlen : ((l_q (dropQ l i)).length : Int) = (l_q l).length - 1 := by
    show (((l_q l).eraseIdx i).length : Int) = _
    rw [List.length_eraseIdx_of_lt hi]; omega
  have hsub : ∀ b ∈ l_q (dropQ l i), b ∈ l_q l := fun b hb => (List.eraseIdx_sublist (l_q l) i).subset hb
  have hgd : gLv E (v_S V) (dropQ l i) := ⟨gAs_sub hgl.1 hsub, hgl.2⟩
  have hgall : ∀ m ∈ dropQ l i :: ls, gLv E (v_S V) m := fun m hm => by
    rcases List.mem_cons.mp hm with rfl | hm
    · exact hgd
    · exact g5 m (List.mem_cons_of_mem _ hm)
  have e1 : m1L (dropQ l i :: ls) = m1L (l :: ls) - 1 := by
    show m1L ls + ((l_q (dropQ l i)).length : Int) + (l_w l).length = m1L ls + (l_q l).length + (l_w l).length - 1
    omega
  have e3 : muL (dropQ l i :: ls) = muL (l :: ls) - 1 := by
    show muL ls + 2 * ((l_w l).length : Int) + ((l_q (dropQ l i)).length : Int) + 3 = muL ls + 2 * (l_w l).length + (l_q l).length + 3 - 1
    omega
  have e2 : m2L (dropQ l i :: ls) = m2L (l :: ls) := rfl
  have g8' : m1L (l :: ls) + ((ls.length : Int) + 1) ≤ 61 + v_ac V := g8
  have hmu : muW (V, x, pw, tk, l :: ls, false, ck, lg0) = 1000 * (60 - v_ac V) + wFrs (v_fr V) + (if v_fl V = true then 0 else 1) + muL (l :: ls) := rfl
  rw [hmu, hf, if_neg (by decide), hfr]
  have hw0 : wFrs ([] : List Frm) = 0 := rfl
  rw [hw0]
  unfold actAt
  rw [ha]
  dsimp only
  by_cases c : v_ac V < 60
  · rw [if_pos c]
    have hH : HA E base st (w_setV (V, x, pw, tk, l :: ls, false, ck, lg) (v_setac V (v_ac V + 1))) (dropQ l i) ls a := by
      refine ⟨⟨hE, rfl⟩, ?_, hfr, hf, g2, g3, fun z => ?_, fun j => ?_, hga, hgall, gLs_head g6 rfl, g7, ?_, ?_, ?_⟩
      · obtain ⟨p1, p2, p3, p4, p5, p6, p7, p8⟩ := g1
        exact ⟨p1, ⟨by show 0 ≤ v_ac V + 1; omega, by show v_ac V + 1 ≤ 60; omega⟩, p3, p4, p5, p6, by show nBo (v_fr V) ≤ v_ac V + 1; omega, p8⟩
      · have := g4 z
        show 0 ≤ tk z ∧ tk z + 1 ≤ st + (v_ac V + 1)
        omega
      · have := g11 j
        show -(4 * (st + (v_ac V + 1) - 1)) ≤ pw j ∧ pw j ≤ 4 * (st + (v_ac V + 1) - 1)
        omega
      · show m1L (dropQ l i :: ls) + ((ls.length : Int) + 1) ≤ 59 + (v_ac V + 1)
        omega
      · show m2L (dropQ l i :: ls) + 1 ≤ v_ac V + 1
        omega
      · show (lg.length : Int) ≤ v_ac V + 1
        exact h1
    obtain ⟨t1, t2, t3⟩ := act_good hH
    refine ⟨t1, ?_⟩
    unfold muW
    rw [t3]
    show muV _ + muL _ < _
    have t2' : muV (w_V (actK E (w_setV (V, x, pw, tk, l :: ls, false, ck, lg) (v_setac V (v_ac V + 1))) (dropQ l i) ls a)) + muL (w_lv (actK E (w_setV (V, x, pw, tk, l :: ls, false, ck, lg) (v_setac V (v_ac V + 1))) (dropQ l i) ls a)) ≤ 1000 * (60 - (v_ac V + 1)) + 202 + muL (dropQ l i :: ls) + 10 := t2
    refine Int.lt_of_le_of_lt t2' ?_
    omega
  · rw [if_neg c]
    have hac : v_ac V = 60 := by have := g1.2.1; omega
    refine ⟨⟨g1, g2, g3, g4, hgall, gLs_head g6 rfl, g7, ?_, ?_, ?_, g11⟩, ?_⟩
    · show m1L (dropQ l i :: ls) + ((ls.length : Int) + 1) ≤ 61 + v_ac V
      omega
    · exact g9
    · show (lg.length : Int) ≤ v_ac V + (if true = true ∧ ls.length + 1 = 1 then 1 else 0)
      by_cases hz : ls.length = 0
      · rw [if_pos ⟨rfl, by omega⟩]
        exact h1
      · have := h2 hz
        split <;> omega
    · show 1000 * (60 - v_ac V) + wFrs (v_fr V) + (if true = true then (0 : Int) else 1) + muL (dropQ l i :: ls) < _
      rw [if_pos rfl, hfr, hw0]
      omega
/-- the choice is one of the queue -/
def okCh (ch : Nat → Nat) (W : Wo) : Prop := ∀ l, w_ov W = false → v_fl (w_V W) = false → (v_fr (w_V W)).length = 0 → w_lv W = [l] → ¬ (l_q l).length = 0 → ch (w_lg W).length < (l_q l).length
theorem turn_good {ch : Nat → Nat} (hE : GE E) (hG : GW E base st W) (hc : okCh ch W) : GW E base st (turnW E ch W) ∧ (w_ov W = false → muW (turnW E ch W) < muW W) := by
  unfold turnW
  by_cases ho : w_ov W = true
  · rw [if_pos ho]
    exact ⟨hG, fun h => by rw [ho] at h; cases h⟩
  · have ho' : w_ov W = false := by simpa using ho
    rw [if_neg ho]
    by_cases hf : v_fl (w_V W) = true
    · rw [if_pos hf]
      obtain ⟨t1, t2⟩ := GW_giveUp hG hf ho'
      exact ⟨t1, fun _ => t2⟩
    · have hf' : v_fl (w_V W) = false := by simpa using hf
      rw [if_neg hf]
      by_cases hn : (v_fr (w_V W)).length = 0
      · rw [if_pos hn]
        cases hl : w_lv W with
        | nil => exact absurd hG.2.2.2.2.2.1 (by rw [hl]; exact fun h => h)
        | cons l ls =>
          show GW E base st (if (l_q l).length = 0 then quietW E W l ls else actW E ch W l ls) ∧ (_ → muW (if (l_q l).length = 0 then quietW E W l ls else actW E ch W l ls) < _)
          have hlg := hG.2.2.2.2.2.2.2.2.2.1
          rw [hf', if_neg (by rintro ⟨h, -⟩; cases h)] at hlg
          by_cases hq : (l_q l).length = 0
          · rw [if_pos hq]
            obtain ⟨t1, t2⟩ := quiet_good hE hG hf' hn ho' hl hq
            exact ⟨t1, fun _ => t2⟩
          · rw [if_neg hq]
            unfold actW
            by_cases hz : ls.length = 0
            · rw [if_pos hz]
              have hls : ls = [] := List.length_eq_zero_iff.mp hz
              obtain ⟨t1, t2⟩ := actAt_good (lg := w_lg W ++ [((l_q l).length : Int)]) hE hG hf' hn ho' hl (by rw [List.length_append, List.length_singleton]; omega) (fun h => absurd hz h) (hc l ho' hf' hn (by rw [hl, hls]) hq)
              exact ⟨t1, fun _ => t2⟩
            · rw [if_neg hz]
              obtain ⟨t1, t2⟩ := actAt_good (lg := w_lg W) hE hG hf' hn ho' hl (by omega) (fun _ => by omega) (i := 0) (by omega)
              exact ⟨t1, fun _ => t2⟩
      · rw [if_neg hn]
        obtain ⟨t1, t2⟩ := GW_adv hG hf' hn ho'
        exact ⟨t1, fun _ => t2⟩
end
