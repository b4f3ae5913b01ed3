/-! THE WORLD, as it is meant: an act keeps it good, kind by kind -/
section
variable {E : Ev} {base : Nat} {st : Int} {W : Wo} {l : Lv} {ls : List Lv} {a : Ag}
theorem gSv_sav {S : Sto} (hG : GS S) : gSv (savS S) S := by
  obtain ⟨⟨g1, g2, g3, g4⟩, g5, g6, g7, g8, g9⟩ := hG
  exact ⟨⟨g1, Int.le_refl _⟩, ⟨g3, Int.le_refl _⟩, g5, g6⟩
theorem ask_good (h : HA E base st W l ls a) (hk : e_kd E a.1 = 4 ∨ e_kd E a.1 = 5) : GW E base st (askW E W l ls a) ∧ muV (w_V (askW E W l ls a)) + muL (w_lv (askW E W l ls a)) ≤ 1000 * (60 - v_ac (w_V W)) + 202 + muL (l :: ls) + 10 ∧ w_ov (askW E W l ls a) = w_ov W ∧ v_ac (w_V (askW E W l ls a)) = v_ac (w_V W) := by
  have q := h
  obtain ⟨⟨q1, qo⟩, q2, q3, q4, q5, q6, q7, q8, q9, q10, q11, q12, q13, q14, q15⟩ := q
  have hl := q10 l List.mem_cons_self
  unfold askW
  split
  · obtain ⟨t1, t2⟩ := HA_l1 h (gLv_wAdd hl q9) rfl (by rw [m1_w]; omega) (by rw [m2_w]; omega) (by rw [mu_w]; omega)
    exact ⟨t1, t2, rfl, rfl⟩
  · rename_i hs
    have hn := q1.2.2.2.2 a.1 q9.1
    generalize hsd : sideA E (v_S (w_V W)) (w_tk W) a a.1 = sd at hs ⊢
    have hwn : gNode E (whenA E a.1 sd) ∧ e_kd E (whenA E a.1 sd) = 4 := by
      unfold whenA
      rcases hk with hk | hk
      · rw [if_neg (by omega)]
        exact ⟨q9.1, hk⟩
      · rw [if_pos hk]
        have h5 := hn.2.2.2.2.2.1 hk
        split
        · exact ⟨hn.2.2.2.2.2.2.2.2.2.1 (by omega), h5.1.1⟩
        · exact ⟨hn.2.2.2.2.2.2.2.2.2.2 (by omega), h5.1.2⟩
    have hon := (q1.2.2.2.2 _ hwn.1).2.2.2.2.2.2.2.2.2.1 (by omega)
    have hg := goA_good (S := v_S (w_V W)) (a := a) (m := whenA E a.1 sd) q9 hon
    have e : muV (w_V W) = 1000 * (60 - v_ac (w_V W)) + wFrs (v_fr (w_V W)) + (if v_fl (w_V W) = true then 0 else 1) := rfl
    have e0 : wFrs (v_fr (w_V W)) = 0 := by rw [q3]; rfl
    have hz : ∀ z, 0 ≤ (if e_kd E a.1 = 5 then upf (w_tk W) (2 * a.1 + sd) (w_tk W (2 * a.1 + sd) + 1) else w_tk W) z ∧ (if e_kd E a.1 = 5 then upf (w_tk W) (2 * a.1 + sd) (w_tk W (2 * a.1 + sd) + 1) else w_tk W) z ≤ st + v_ac (w_V W) := by
      intro z
      have a1 := q7 z
      have a2 := q7 (2 * a.1 + sd)
      split
      · unfold upf
        split <;> omega
      · omega
    have hms : ∀ m ∈ qAdd l (goA E (v_S (w_V W)) a (whenA E a.1 sd)) :: ls, gLv E (v_S (w_V W)) m := by
      intro m hm
      rcases List.mem_cons.mp hm with rfl | hm
      · exact gLv_qAdd hl hg
      · exact q10 m (List.mem_cons_of_mem _ hm)
    obtain ⟨t1, t2⟩ := HA_mk (V' := w_V W) (x' := w_x W) (pw' := w_pw W) (tk' := if e_kd E a.1 = 5 then upf (w_tk W) (2 * a.1 + sd) (w_tk W (2 * a.1 + sd) + 1) else w_tk W) (ls' := qAdd l (goA E (v_S (w_V W)) a (whenA E a.1 sd)) :: ls) h q2 Gr.rf rfl q6 hz (fun i => by have := q8 i; omega) hms (gLs_head q11 rfl) q12 (by rw [m1_q]; show m1L (l :: ls) + 1 + ((ls.length : Int) + 1) ≤ _; omega) (by rw [m2_q]; omega) (by rw [mu_q, e, e0, q4, if_neg (by decide)]; omega)
    exact ⟨t1, t2, rfl, rfl⟩
/-- what an act leaves -/
def AG (E : Ev) (base : Nat) (st : Int) (W : Wo) (l : Lv) (ls : List Lv) (X : Wo) : Prop := GW E base st X ∧ muV (w_V X) + muL (w_lv X) ≤ 1000 * (60 - v_ac (w_V W)) + 202 + muL (l :: ls) + 10 ∧ w_ov X = w_ov W
theorem act_good (h : HA E base st W l ls a) : AG E base st W l ls (actK E W l ls a) := by
  have q := h
  obtain ⟨⟨q1, qo⟩, q2, q3, q4, q5, q6, q7, q8, q9, q10, q11, q12, q13, q14, q15⟩ := q
  have hl := q10 l List.mem_cons_self
  have hn := q1.2.2.2.2 a.1 q9.1
  obtain ⟨n1, ⟨n2, n3⟩, n4, n5, n6, n7, n8, n9, n10, n11, n12⟩ := hn
  have ta := look_tm (S := v_S (w_V W)) q9.2 n2
  have tb := look_tm (S := v_S (w_V W)) q9.2 n3
  have tp2 : top2 (v_fr (w_V W)) := by rw [q3]; trivial
  have tp3 : top3 (v_fr (w_V W)) := by rw [q3]; trivial
  have m1b : m1L (l :: ls) + ((ls.length : Int) + 1) ≤ 59 + v_ac (w_V W) := q13
  have e : muV (w_V W) = 1000 * (60 - v_ac (w_V W)) + wFrs (v_fr (w_V W)) + (if v_fl (w_V W) = true then 0 else 1) := rfl
  have e0 : wFrs (v_fr (w_V W)) = 0 := by rw [q3]; rfl
  rw [e0, q4, if_neg (by decide)] at e
  unfold actK
  by_cases c0 : e_kd E a.1 = 0
  · rw [if_pos c0]
    obtain ⟨t1, t2⟩ := HA_lv (V' := tellEq (w_V W) (lookA a (e_a E a.1)) (lookA a (e_b E a.1))) (ls' := l :: ls) h (GV_tellEq q2 tp3 ta tb) Gr_tellEq ac_tellEq q10 q11 q12 (by show m1L (l :: ls) + ((ls.length : Int) + 1) ≤ _; omega) (by omega) (by have := muV_tellEq (V := w_V W) (a := lookA a (e_a E a.1)) (b := lookA a (e_b E a.1)) q3; omega)
    exact ⟨t1, t2, rfl⟩
  rw [if_neg c0]
  by_cases c1 : e_kd E a.1 = 1 ∨ e_kd E a.1 = 2
  · rw [if_pos c1]
    have c := c1
    have hs := n5 c
    obtain ⟨t1, t2⟩ := HA_lv (V' := tellTok (w_V W) (e_wh E a.1) (lookA a (e_a E a.1)) (lookA a (e_b E a.1)) (decide (e_kd E a.1 = 2)) a.2.2) (ls' := l :: ls) h (GV_tellTok q2 tp2 ⟨n4.1, hs⟩ ta tb) Gr_tellTok ac_tellTok q10 q11 q12 (by show m1L (l :: ls) + ((ls.length : Int) + 1) ≤ _; omega) (by omega) (by have := muV_tellTok (V := w_V W) (so := e_wh E a.1) (a := lookA a (e_a E a.1)) (b := lookA a (e_b E a.1)) (la := decide (e_kd E a.1 = 2)) (sl := a.2.2) q3; omega)
    exact ⟨t1, t2, rfl⟩
  rw [if_neg c1]
  by_cases c2 : e_kd E a.1 = 3
  · rw [if_pos c2]
    have c := c2
    obtain ⟨t1, t2⟩ := HA_l1 (l' := qAdd (qAdd l (e_on E a.1, a.2)) (e_ot E a.1, a.2)) h (gLv_qAdd (gLv_qAdd hl ⟨n11 (by omega), q9.2⟩) ⟨n12 (by omega), q9.2⟩) rfl (by rw [m1_q, m1_q]; omega) (by rw [m2_q, m2_q]; omega) (by rw [mu_q, mu_q]; omega)
    exact ⟨t1, t2, rfl⟩
  rw [if_neg c2]
  by_cases c3 : e_kd E a.1 = 4 ∨ e_kd E a.1 = 5
  · rw [if_pos c3]
    have c := c3
    obtain ⟨t1, t2, t3, -⟩ := ask_good h c
    exact ⟨t1, t2, t3⟩
  rw [if_neg c3]
  by_cases c4 : e_kd E a.1 = 6
  · rw [if_pos c4]
    have c := c4
    split
    · obtain ⟨t1, t2⟩ := HA_lv (V' := v_setfl (w_V W) true) (ls' := l :: ls) h q2 Gr.rf rfl q10 q11 q12 (by show m1L (l :: ls) + ((ls.length : Int) + 1) ≤ _; omega) (by omega) (by
        show 1000 * (60 - v_ac (w_V W)) + wFrs (v_fr (w_V W)) + (if true = true then (0 : Int) else 1) + muL (l :: ls) ≤ _
        rw [e0, if_pos rfl]; omega)
      exact ⟨t1, t2, rfl⟩
    · rename_i c2
      have g12 := q2.1.1
      have hnv : s_nv (v_S (w_V W)) < 60 := by omega
      have hV' : GV (e_Rs E) (e_md E) (v_setS (w_V W) (mkvar (v_S (w_V W)))) := by
        obtain ⟨p1, p2, p3, p4, p5, p6, p7, p8⟩ := q2
        refine ⟨GS_mkvar p1 hnv, p2, p3, p4, fun f hf => ?_, p6, p7, p8⟩
        exact gFrm_mono (p5 f hf) (Int.le_refl _) (by show s_nv (v_S (w_V W)) ≤ s_nv (v_S (w_V W)) + 1; omega)
      have hgr : Gr (w_V W) (v_setS (w_V W) (mkvar (v_S (w_V W)))) := ⟨by show s_nv (v_S (w_V W)) ≤ s_nv (v_S (w_V W)) + 1; omega, Int.le_refl _, Nat.le_refl _, Int.le_refl _⟩
      -- the levels are good in the larger store
      have hag : gAg E (mkvar (v_S (w_V W))) (e_on E a.1, upf a.2.1 (e_wh E a.1) (400 + s_nv (v_S (w_V W))), a.2.2) := by
        refine ⟨n11 (by omega), fun z z0 z1 => ?_⟩
        show tm (s_nv (v_S (w_V W)) + 1) (upf a.2.1 (e_wh E a.1) (400 + s_nv (v_S (w_V W))) z)
        unfold upf
        split
        · exact Or.inr ⟨by omega, by omega⟩
        · exact tm_mono (q9.2 z z0 z1) (by omega)
      have hnvm : s_nv (v_S (w_V W)) ≤ s_nv (mkvar (v_S (w_V W))) := by show s_nv (v_S (w_V W)) ≤ s_nv (v_S (w_V W)) + 1; omega
      refine ⟨⟨hV', q5, q6, fun z => ⟨(q7 z).1, by have := (q7 z).2; show w_tk W z ≤ st + v_ac (w_V W); omega⟩, fun m hm => ?_, gLs_mono (S := v_S (w_V W)) hnvm (Int.le_refl _) (gLs_head q11 rfl) (Nat.le_refl _), q12, ?_, ?_, ?_, fun i => by have := q8 i; show -(4 * (st + v_ac (w_V W))) ≤ w_pw W i ∧ w_pw W i ≤ 4 * (st + v_ac (w_V W)); omega⟩, ?_, rfl⟩
      · rcases List.mem_cons.mp hm with rfl | hm
        · exact gLv_qAdd (gLv_mono hl hnvm) hag
        · exact gLv_mono (q10 m (List.mem_cons_of_mem _ hm)) hnvm
      · show m1L (qAdd l _ :: ls) + ((ls.length : Int) + 1) ≤ 61 + v_ac (w_V W)
        rw [m1_q]; omega
      · show (if w_ov W = true then _ else m2L (qAdd l _ :: ls) ≤ v_ac (w_V W))
        rw [qo, if_neg (by decide), m2_q]; omega
      · show ((w_lg W).length : Int) ≤ v_ac (w_V W) + _
        split <;> omega
      · show 1000 * (60 - v_ac (w_V W)) + wFrs (v_fr (w_V W)) + (if v_fl (w_V W) = true then (0 : Int) else 1) + muL (qAdd l _ :: ls) ≤ _
        rw [e0, q4, mu_q, if_neg (by decide)]; omega
  rw [if_neg c4]
  by_cases c5 : e_kd E a.1 = 7
  · rw [if_pos c5]
    have c := c5
    split
    · obtain ⟨t1, t2⟩ := HA_l1 (l' := l) h hl rfl (by omega) (by omega) (by omega)
      exact ⟨t1, t2, rfl⟩
    · rename_i c2
      have hd := q1.2.2.2.1 (e_wh E a.1) n4.1 (by have := n9 c; omega)
      have hag : gAg E (v_S (w_V W)) (e_df E (e_wh E a.1), (fun z => if z = 0 then lookA a (e_a E a.1) else if z = 1 then lookA a (e_b E a.1) else 0), a.2.2) := by
        refine ⟨hd.resolve_left c2, fun z z0 z1 => ?_⟩
        show tm _ (if z = 0 then lookA a (e_a E a.1) else if z = 1 then lookA a (e_b E a.1) else 0)
        split
        · exact ta
        · split
          · exact tb
          · exact Or.inl ⟨by omega, by omega⟩
      obtain ⟨t1, t2⟩ := HA_l1 (l' := qAdd l (e_df E (e_wh E a.1), (fun z => if z = 0 then lookA a (e_a E a.1) else if z = 1 then lookA a (e_b E a.1) else 0), a.2.2)) h (gLv_qAdd hl hag) rfl (by rw [m1_q]; omega) (by rw [m2_q]; omega) (by rw [mu_q]; omega)
      exact ⟨t1, t2, rfl⟩
  rw [if_neg c5]
  by_cases c6 : e_kd E a.1 = 8
  · rw [if_pos c6]
    have c := c6
    obtain ⟨t1, t2⟩ := HA_l1 (l' := nAdd l (e_on E a.1, a.2)) h (gLv_nAdd hl ⟨n11 (by omega), q9.2⟩) rfl (by rw [m1_n]; omega) (by rw [m2_n]; omega) (by rw [mu_n]; omega)
    exact ⟨t1, t2, rfl⟩
  rw [if_neg c6]
  by_cases c7 : e_kd E a.1 = 9
  · rw [if_pos c7]
    have c := c7
    obtain ⟨t1, t2⟩ := HA_l1 (l' := nAdd (qAdd l (e_on E a.1, a.2)) a) h (gLv_nAdd (gLv_qAdd hl ⟨n11 (by omega), q9.2⟩) q9) rfl (by rw [m1_n, m1_q]; omega) (by rw [m2_n, m2_q]; omega) (by rw [mu_n, mu_q]; omega)
    exact ⟨t1, t2, rfl⟩
  rw [if_neg c7]
  by_cases c8 : e_kd E a.1 = 12
  · rw [if_pos c8]
    have c := c8
    obtain ⟨⟨w0, w1⟩, w2, w3⟩ := n10 c
    have hx : 0 ≤ nextX (w_x W) ∧ nextX (w_x W) < 65537 := by unfold nextX; omega
    have hag : gAg E (v_S (w_V W)) ((if isFi (w_x W) (e_a E a.1) (e_b E a.1) = true then e_on E a.1 else e_ot E a.1), a.2) := by
      refine ⟨?_, q9.2⟩
      show gNode E (if isFi (w_x W) (e_a E a.1) (e_b E a.1) = true then e_on E a.1 else e_ot E a.1)
      split
      · exact n11 (by omega)
      · exact n12 (by omega)
    have hms : ∀ m ∈ qAdd l ((if isFi (w_x W) (e_a E a.1) (e_b E a.1) = true then e_on E a.1 else e_ot E a.1), a.2) :: ls, gLv E (v_S (w_V W)) m := by
      intro m hm
      rcases List.mem_cons.mp hm with rfl | hm
      · exact gLv_qAdd hl hag
      · exact q10 m (List.mem_cons_of_mem _ hm)
    obtain ⟨t1, t2⟩ := HA_mk (V' := w_V W) (x' := nextX (w_x W)) (pw' := lotP (w_x W) (e_a E a.1) (e_b E a.1) (w_pw W)) (tk' := w_tk W) (ls' := qAdd l ((if isFi (w_x W) (e_a E a.1) (e_b E a.1) = true then e_on E a.1 else e_ot E a.1), a.2) :: ls) h q2 Gr.rf rfl hx (fun z => by have := q7 z; omega) (fun i => by have := lotP_rng (x := w_x W) w0 w1 w2 w3 q8 i; omega) hms (gLs_head q11 rfl) q12 (by rw [m1_q]; show m1L (l :: ls) + 1 + ((ls.length : Int) + 1) ≤ _; omega) (by rw [m2_q]; omega) (by rw [mu_q, e]; omega)
    exact ⟨t1, t2, rfl⟩
  rw [if_neg c8]
  by_cases c9 : e_kd E a.1 = 13
  · rw [if_pos c9]
    have c := c9
    have hon : gAg E (v_S (w_V W)) (e_on E a.1, a.2) := ⟨n11 (by omega), q9.2⟩
    have hot : gAg E (v_S (w_V W)) (e_ot E a.1, a.2) := ⟨n12 (by omega), q9.2⟩
    split
    · obtain ⟨t1, t2⟩ := HA_l1 (l' := qAdd l (e_ot E a.1, a.2)) h (gLv_qAdd hl hot) rfl (by rw [m1_q]; omega) (by rw [m2_q]; omega) (by rw [mu_q]; omega)
      exact ⟨t1, t2, rfl⟩
    · rename_i c2
      have hms : ∀ m ∈ daredL (w_V W) (e_on E a.1) (e_ot E a.1) a :: l :: ls, gLv E (v_S (w_V W)) m := by
        intro m hm
        rcases List.mem_cons.mp hm with rfl | hm
        · refine ⟨fun x hx => ?_, fun x hx => (by cases hx), fun x hx => (by cases hx), fun x hx => (by cases hx), fun x hx => (by cases hx)⟩
          rw [List.mem_singleton.mp hx]
          exact hon
        · exact q10 m hm
      obtain ⟨t1, t2⟩ := HA_lv (V' := w_V W) (ls' := daredL (w_V W) (e_on E a.1) (e_ot E a.1) a :: l :: ls) h q2 Gr.rf rfl hms ⟨⟨gSv_sav q2.1, ⟨q5, Nat.le_refl _⟩, hot⟩, q11⟩ (by show ls.length + 1 + 1 ≤ 4; omega) (by
          show m1L (l :: ls) + 1 + 0 + ((ls.length : Int) + 1 + 1) ≤ _
          omega) (by
          show m2L (l :: ls) + 0 + 0 + 0 ≤ _
          omega) (by
          show muV (w_V W) + (muL (l :: ls) + 2 * 0 + 1 + 3) ≤ _
          rw [e]; omega)
      exact ⟨t1, t2, rfl⟩
  rw [if_neg c9]
  · obtain ⟨t1, t2⟩ := HA_l1 (l' := wAdd l a) h (gLv_wAdd hl q9) rfl (by rw [m1_w]; omega) (by rw [m2_w]; omega) (by rw [mu_w]; omega)
    exact ⟨t1, t2, rfl⟩
end
