/-! THE SURVEY keeps its count (field 5) while a step is done: t_turn, t_run, t_doStep again (made by gensurvey.py) -/
def RSv (δ : Dy) (sp pl : Nat) (cs : Nat → Nat) (ch : Nat → Nat) (lg : List Int) : Prop := RSu δ sp pl cs ch lg ∧ δ.1 sp 5 = ii (cs 61)
theorem RSv_of_Fr {δ δ' : Dy} {sp pl : Nat} {cs ch : Nat → Nat} {lg : List Int} {P : Nat → Prop} (h : RSv δ sp pl cs ch lg) (hF : Fr P δ δ') (hd : ∀ r, sp ≤ r → r < sp + 3 → ¬ P r) : RSv δ' sp pl cs ch lg := ⟨RSu_of_Fr h.1 hF hd, by rw [(hF sp (hd sp (Nat.le_refl _) (by omega))).1]; exact h.2⟩
section
variable {σ : St} {δ : Dy} {wp nd ro sp base pl : Nat} {E : Ev} {W : Wo} {st : Int} {l : Lv} {ls : List Lv} {cs ch : Nat → Nat} {lg : List Int} {I : Iw}
theorem choose_keep (hK : KSu σ sp ro) (hQ : RSu δ sp pl cs ch lg) (hl : lg.length ≤ 60) {n : Int} (n0 : 1 ≤ n) (n1 : n ≤ 1000) : ∃ r, m_X9_choose σ sp (ii n) δ = some r ∧ r.2.1 sp 5 = δ.1 sp 5 := by
  obtain ⟨-, k0, ⟨k1, k2, k3⟩, D1, D2, D3⟩ := hK
  obtain ⟨⟨q1, q2⟩, q3, q4, q5⟩ := hQ
  have hbl := bz_len (lg := lg)
  unfold m_X9_choose
  by_cases c : n < 2
  · exact ⟨(0, δ), by rw [if_pos (show ii n < 2 by rw [show ((2 : Int32)) = ii 2 from rfl, ii_lt (by omega) (by omega) (by omega) (by omega)]; omega)], rfl⟩
  · rw [if_neg (show ¬ ii n < 2 by rw [show ((2 : Int32)) = ii 2 from rfl, ii_lt (by omega) (by omega) (by omega) (by omega)]; omega)]
    have x3 : gI σ δ 9 sp 3 = some (ii ((bz lg).length : Int)) := by rw [gI_ko k0, q3]
    have e1 : gR σ 9 sp 0 = some (sp + 1) := gR_ko k0 k1
    have e2 : gR σ 9 sp 1 = some (sp + 2) := gR_ko k0 k2
    have al : aln σ 100 (sp + 1) = some (ii (61 : Nat)) := aln_kd D1
    have a1 : ii ((bz lg).length : Int) + (1 : Int32) = ii (((bz lg).length : Int) + 1) := by rw [show ((1 : Int32)) = ii 1 from rfl, ii_add]
    have c1 : (ii ((bz lg).length : Int) < ii (61 : Nat)) = True := by
      rw [ii_lt (by omega) (by omega) (by omega) (by omega)]
      exact eq_true (by omega)
    obtain ⟨d1, w1, v1, o1, F1⟩ := pI_ex (δ := δ) (r := sp) (k := 3) (x := ii (((bz lg).length : Int) + 1)) k0
    have x2 : gI σ d1 9 sp 2 = some (ii (pl : Int)) := by rw [gI_ko k0, o1 2 (by decide), q1]
    have tail : ∀ d : Dy, d.1 sp 5 = δ.1 sp 5 → ∃ r, m_X9_choose_b49 σ sp (ii n) (ii ((bz lg).length : Int)) d = some r ∧ r.2.1 sp 5 = δ.1 sp 5 := by
      intro d hd
      obtain ⟨d2, w2, v2, o2, F2⟩ := wI_ex (δ := d) (r := sp + 2) (z := (bz lg).length) (k := (bz lg).length) (x := ii n) D2 (by omega) (by omega) (by omega)
      have y : rI σ d2 (sp + 1) (ii ((bz lg).length : Int)) = some (d2.1 (sp + 1) (bz lg).length) := rst (z := (bz lg).length) (k := (bz lg).length) D1 (by omega) (by omega) (by omega) rfl
      refine ⟨(d2.1 (sp + 1) (bz lg).length, d2), ?_, ?_⟩
      · unfold m_X9_choose_b49
        rw [e2, ob_some, w2, ob_some, e1, ob_some, y, ob_some]
      · rw [(F2 sp (by omega)).1]; exact hd
    by_cases cp : (bz lg).length < pl
    · have c2 : (ii ((bz lg).length : Int) < ii (pl : Int)) = True := by
        rw [ii_lt (by omega) (by omega) (by omega) (by omega)]
        exact eq_true (by omega)
      obtain ⟨r, hr, h5⟩ := tail d1 (o1 5 (by decide))
      refine ⟨r, ?_, h5⟩
      simp only [x3, ob_some, e1, al, c1, ↓reduceIte, a1, w1, x2, c2, hr]
    · have c2 : (ii ((bz lg).length : Int) < ii (pl : Int)) = False := by
        rw [ii_lt (by omega) (by omega) (by omega) (by omega)]
        exact eq_false (by omega)
      obtain ⟨d2, w2, v2, o2, F2⟩ := wI_ex (δ := d1) (r := sp + 1) (z := (bz lg).length) (k := (bz lg).length) (x := 0) D1 (by omega) (by omega) (by omega)
      obtain ⟨r, hr, h5⟩ := tail d2 (by rw [(F2 sp (by omega)).1]; exact o1 5 (by decide))
      refine ⟨r, ?_, h5⟩
      simp only [x3, ob_some, e1, al, c1, ↓reduceIte, a1, w1, x2, c2, w2, hr]
theorem t_choose5 (hK : KSu σ sp ro) (hQ : RSv δ sp pl cs ch lg) (hl : lg.length ≤ 60) {n : Int} (n0 : 1 ≤ n) (n1 : n ≤ 1000) (h1 : n < 2 → ch lg.length = 0) (h2 : 2 ≤ n → ch lg.length = if (bz lg).length < pl then cs (bz lg).length else 0) : Ok (m_X9_choose σ sp (ii n) δ) (fun r => r.1 = ii (ch lg.length) ∧ RSv r.2 sp pl cs ch (lg ++ [n]) ∧ Fr (fun r => sp ≤ r ∧ r < sp + 3) δ r.2) := by
  obtain ⟨r, e, t1, t2, t3⟩ := t_choose hK hQ.1 hl n0 n1 h1 h2
  obtain ⟨r', e', h5⟩ := choose_keep hK hQ.1 hl n0 n1
  have hr : r = r' := Option.some.inj (e.symm.trans e')
  subst hr
  exact ⟨r, e, t1, ⟨t2, by rw [h5]; exact hQ.2⟩, t3⟩
theorem t_turn5 (hK : KWo σ wp nd ro) (hKs : KSu σ sp ro) (hE : REn δ nd ro wp E) (gE : GE E) (hG : GW E base st W) (htk : st ≤ 90000) (ho : w_ov W = false) (hR : RWo δ wp base (e_md E) W) (hQ : RSv δ sp pl cs ch (w_lg W)) (hc : okCh ch W) (hp : okPl pl cs ch W) {k : Int32} : Ok (turnT σ wp sp k δ) (PL (fun s => s.1 = k + 1 ∧ RWo s.2 wp base (e_md E) (turnW E ch W) ∧ RSv s.2 sp pl cs ch (w_lg (turnW E ch W)) ∧ Fr (PT wp sp) δ s.2) (fun _ => False)) := by
  have hK' := hK
  have hrl := fun {j : Nat} (hj : j < 4) => rA_lv hK hj
  obtain ⟨⟨l1, l2⟩, k0, ⟨k1, k2, k3, k4, k5, k6, k7, k8⟩, -, kR, kS, kW, kD, kdf, ktk, klv, kA, kL⟩ := hK
  have hv := GW_frl hG
  have hlen4 := hG.2.2.2.2.2.2.1
  have hsp := hKs.1
  cases hl : w_lv W with
  | nil => exact absurd hG.2.2.2.2.2.1 (by rw [hl]; exact fun h => h)
  | cons l ls =>
    have hlen4' := hlen4
    rw [hl] at hlen4
    have h4 : ls.length < 4 := hlen4
    obtain ⟨⟨p0, ⟨p1, p2, p3, p4, p5, -⟩, -⟩, pq1, pq2, pq3, pq4, -⟩ := (kL ls.length h4).2
    have h8 := hR.2.2.2.2.2.1
    rw [hl] at h8
    have h8' : δ.1 wp 8 = ii (ls.length : Int) := by rw [h8]; exact congrArg ii (by show ((ls.length : Int) + 1) - 1 = _; omega)
    have hRl := hR.2.2.2.1
    rw [hl] at hRl
    have hqs : δ.1 (wp + 390 + 24 * ls.length + 1) 4 = ii (l_q l).length := hRl.1.1.2.1
    have hql : (l_q l).length ≤ 120 := hRl.1.1.2.2.1
    have hfl : δ.1 (wp + 1) 12 = bi (v_fl (w_V W)) := hR.1.1.2.2.2.2.2.2.2.2.2.2.2.1
    have hfr : δ.1 (wp + 18) 3 = ii (v_fr (w_V W)).length := hR.1.2.1
    have hac := hG.1.2.1
    have hm1 := hG.2.2.2.2.2.2.2.1
    have hm2 := hG.2.2.2.2.2.2.2.2.1
    have hlg := hG.2.2.2.2.2.2.2.2.2.1
    rw [ho, if_neg (by decide)] at hm2
    have hb1 : m1L (w_lv W) = m1L ls + (l_q l).length + (l_w l).length := by rw [hl]; rfl
    have hb2 : m2L (w_lv W) = m2L ls + (l_w l).length + (l_as l).length + (l_nx l).length := by rw [hl]; rfl
    have hb3 : ((w_lv W).length : Int) = (ls.length : Int) + 1 := by rw [hl]; rfl
    have n1 := m1_nn ls
    have n2 := m2_nn ls
    have lift : ∀ {m : Option Dy} {W' : Wo}, Ok m (fun d => RWo d wp base (e_md E) W' ∧ Fr (PWo wp) δ d) → w_lg W' = w_lg W → Ok (m.bind fun v => m_X10_doStep_b216 σ wp sp k v) (PL (fun s => s.1 = k + 1 ∧ RWo s.2 wp base (e_md E) W' ∧ RSv s.2 sp pl cs ch (w_lg W') ∧ Fr (PT wp sp) δ s.2) (fun _ => False)) := by
      rintro m W' ⟨d, e, h1, h2⟩ hlg
      refine ⟨.inl (k + 1, d), by rw [e]; rfl, rfl, h1, ?_, h2.wk (fun r p => Or.inl p)⟩
      show RSv d sp pl cs ch (w_lg W')
      rw [hlg]
      exact RSv_of_Fr hQ h2 (fun r a b p => by unfold PWo at p; omega)
    unfold turnT
    refine Ok_bind (gR_ko k0 k7) (Ok_bind (gI_ko k0) ?_)
    rw [h8']
    refine Ok_bind (hrl h4) (Ok_bind (gR_ko p0 p1) (Ok_bind (gI_ko pq1.1) ?_))
    rw [hqs]
    refine Ok_bind (gR_ko k0 k2) (Ok_bind (gI_ko kS.1) ?_)
    rw [hfl]
    cases hf : v_fl (w_V W) with
    | true =>
      have hT : turnW E ch W = giveUp W := by
        unfold turnW
        rw [if_neg (by rw [ho]; decide), if_pos hf]
      rw [hT, if_neg (show ¬ bi true = 0 by decide)]
      refine Ok_bind (chk_ko k0) ?_
      exact lift (t_giveUp hK' hG gE.2.1.2 hR hl) lg_giveUp
    | false =>
      rw [hf, if_neg (by rintro ⟨h, -⟩; cases h)] at hlg
      rw [if_pos (show bi false = 0 from rfl)]
      refine Ok_bind (gR_ko k0 k3) (Ok_bind (chk_ko kW.1) ?_)
      have ebusy : m_X6_isBusy σ (wp + 18) δ = some (bi (!decide ((v_fr (w_V W)).length = 0))) := by
        unfold m_X6_isBusy
        rw [gI_ko kW.1, ob_some, hfr]
        by_cases hz : (v_fr (w_V W)).length = 0
        · rw [decide_eq_true hz, hz]; rfl
        · rw [decide_eq_false hz, if_neg (by rw [show ((0 : Int32)) = ii 0 from rfl, ii_le (by omega) (by omega) (by omega) (by omega)]; omega)]; rfl
      refine Ok_bind ebusy ?_
      by_cases hn : (v_fr (w_V W)).length = 0
      · rw [decide_eq_true hn, if_pos (show bi (!true) = 0 from rfl)]
        have hT : turnW E ch W = (if (l_q l).length = 0 then quietW E W l ls else actW E ch W l ls) := by
          unfold turnW
          rw [if_neg (by rw [ho]; decide), if_neg (by rw [hf]; decide), if_pos hn, hl]
          rfl
        rw [hT]
        by_cases hq : (l_q l).length = 0
        · rw [if_pos hq, hq, if_pos (show ii ((0 : Nat) : Int) ≤ 0 by decide)]
          obtain ⟨⟨v, d1⟩, e1, a1, a2, a3, -⟩ := t_goOn hK' hE gE hG htk hl hR
          dsimp only at a1 a2 a3
          subst a1
          refine Ok_bind (chk_ko k0) (Ok_bind e1 ?_)
          dsimp only
          have hE1 : REn d1 nd ro wp E := REn_PW hK' hE gE.2.1.2 a3 (fun r p => by unfold PWo at p; omega)
          by_cases hz : (goOnL E (v_S (w_V W)) (w_tk W) l).1.length = 0
          · rw [decide_eq_true hz, if_pos (show bi (!true) = 0 from rfl)]
            rw [goOn_nil hz, w_setlv_self hl] at a2
            obtain ⟨⟨v, d2⟩, e2, b1, b2, -⟩ := t_assume hK' hE1 gE hG hl (by omega) (by omega) a2
            dsimp only at b1 b2
            refine Ok_bind (chk_ko k0) (Ok_bind e2 ?_)
            dsimp only
            unfold assumeP at b1
            dsimp only at b1
            have hE2 : REn d2 nd ro wp E := REn_PW hK' hE1 gE.2.1.2 b2 (fun r p => by unfold PWo at p; omega)
            unfold quietW
            rw [if_pos hz]
            cases hs : (l_w l)[fstI (canAs E (v_S (w_V W))) (l_w l)]? with
            | some a =>
              rw [hs] at b1
              dsimp only at b1 ⊢
              rw [b1.1, if_neg (by decide)]
              exact lift (m := some d2) ⟨d2, rfl, b1.2, a3.tr b2⟩ rfl
            | none =>
              rw [hs] at b1
              dsimp only at b1 ⊢
              rw [b1.1, if_pos (show ii 0 = 0 from rfl)]
              refine Ok_bind (chk_ko k0) ?_
              have hun := (unl_good (S := v_S (w_V W)) gE (hG.2.2.2.2.1 l (by rw [hl]; exact List.mem_cons_self)).2.1).2
              refine lift ?_ (by
                unfold finishW
                split
                · rfl
                · split <;> rfl)
              refine Ok_mono (t_finish hK' hE2 gE hG hl b1.2 (by omega) (fun l' ls' hls => ?_)) (fun d h => ⟨h.1, (a3.tr b2).tr h.2⟩)
              have hb4 : m2L ls = m2L ls' + (l_w l').length + (l_as l').length + (l_nx l').length := by rw [hls]; rfl
              have n3 := m2_nn ls'
              omega
          · rw [decide_eq_false hz, if_neg (by decide)]
            have : quietW E W l ls = w_setlv W (goOnL E (v_S (w_V W)) (w_tk W) l :: ls) := by
              unfold quietW
              rw [if_neg hz]
            rw [this]
            exact lift (m := some d1) ⟨d1, rfl, a2, a3⟩ rfl
        · rw [if_neg hq, if_neg (by rw [show ((0 : Int32)) = ii 0 from rfl, ii_le (by omega) (by omega) (by omega) (by omega)]; omega)]
          refine Ok_bind (gI_ko k0) ?_
          rw [h8']
          unfold actW
          by_cases hz : ls.length = 0
          · have hls : ls = [] := List.length_eq_zero_iff.mp hz
            rw [if_pos hz, hz, if_pos (show ii ((0 : Nat) : Int) = 0 from rfl)]
            have hcc := hc l ho hf hn (by rw [hl, hls]) hq
            obtain ⟨⟨v, d1⟩, e1, a1, a2, a3⟩ := t_choose5 hKs hQ (by omega) (n := (l_q l).length) (by omega) (by omega) (fun h => by omega) (fun h => hp l ho hf hn (by rw [hl, hls]) (by omega))
            dsimp only at a1 a2 a3
            subst a1
            refine Ok_bind (chk_ko hKs.2.1) (Ok_bind e1 ?_)
            have hR1 : RWo d1 wp base (e_md E) W := RWo_of_Fr hR hlen4' hv a3 (fun r p1 p2 p3 p4 p5 p6 p => by omega)
            have hE1 : REn d1 nd ro wp E := REn_of_Fr hE gE.2.1.2 a3 (fun r _ _ p => by omega) (fun r _ _ p => by omega) (fun p => by omega)
            obtain ⟨d2, e2, b1, b2⟩ := t_actAt (lg := w_lg W ++ [((l_q l).length : Int)]) hK' hE1 gE hG htk hf hn ho hl hR1 (by rw [List.length_append, List.length_singleton]; omega) hcc
            refine ⟨.inl (k + 1, d2), ?_, rfl, b1, ?_, (a3.wk (fun r p => Or.inr p)).tr (b2.wk (fun r p => Or.inl p))⟩
            · unfold m_X10_doStep_b186
              have e2' := e2
              rw [hz] at e2'
              dsimp only
              rw [chk_ko k0, ob_some, e2', ob_some]
              rfl
            · rw [lg_actAt]
              exact RSv_of_Fr a2 b2 (fun r a b p => by unfold PWo at p; omega)
          · rw [if_neg hz, if_neg (by rw [show ((0 : Int32)) = ii 0 from rfl, ii_eq (by omega) (by omega) (by omega) (by omega)]; omega)]
            unfold m_X10_doStep_b186
            refine Ok_bind (chk_ko k0) ?_
            exact lift (t_actAt (lg := w_lg W) (i := 0) hK' hE gE hG htk hf hn ho hl hR (by omega) (by omega)) lg_actAt
      · have hT : turnW E ch W = w_setV W (adv (w_V W) (e_Rs E) (e_md E)) := by
          unfold turnW
          rw [if_neg (by rw [ho]; decide), if_neg (by rw [hf]; decide), if_neg hn]
        rw [hT, decide_eq_false hn, if_neg (by decide)]
        refine Ok_bind (gR_ko k0 k3) (Ok_bind (chk_ko kW.1) ?_)
        refine lift ?_ rfl
        obtain ⟨d, e, a1, a2⟩ := t_adv kW kS kR (by omega) (by omega) hR.1 hE.2.1 hG.1
        exact ⟨d, e, RWo_V hR hlen4' a2 (fun r p => by unfold PVr at p; omega) a1, PVr_PWo a2⟩
theorem t_run5 (hK : KWo σ wp nd ro) (hKs : KSu σ sp ro) (gE : GE E) (hE : REn δ nd ro wp E) (hG : GW E base st W) (hmu : muW W ≤ 60064) (htk : st ≤ 90000) (hR : RWo δ wp base (e_md E) W) (hQ : RSv δ sp pl cs ch (w_lg W)) (hc : ∀ n, okCh ch (turns E ch W n)) (hp : ∀ n, okPl pl cs ch (turns E ch W n)) : Ok (m_X10_doStep_b87 σ wp sp (ii 0) δ) (fun d => ∃ Wf, RunEnd E ch W Wf ∧ GW E base st Wf ∧ RWo d wp base (e_md E) Wf ∧ RSv d sp pl cs ch (w_lg Wf) ∧ Fr (PT wp sp) δ d) := by
  have hg := turns_good gE hG hc
  have k0 := hK.2.1
  have hsp := hKs.1
  have hl := hK.1
  rw [doStep_T]
  refine Ok_lp (fun s => ∃ n : Nat, s.1 = ii n ∧ muW (turns E ch W n) + n ≤ muW W ∧ RWo s.2 wp base (e_md E) (turns E ch W n) ∧ RSv s.2 sp pl cs ch (w_lg (turns E ch W n)) ∧ Fr (PT wp sp) δ s.2) (fun s => (1000000 - s.1.toInt).toNat) ?_ ⟨0, rfl, by show muW W + 0 ≤ muW W; omega, hR, hQ, Fr.rf⟩ ?_
  · rintro ⟨s1, d⟩ ⟨n, hs, hm, hRd, hQd, hFd⟩
    dsimp only at hs hRd hQd hFd ⊢
    subst hs
    have hnn := muW_nn (hg n).1
    have hov := hRd.2.2.2.2.2.2.1
    rw [if_neg (show ¬ ((1000000 : Int32) ≤ ii n) by rw [ii_lit, ii_le (by omega) (by omega) (by omega) (by omega)]; omega), gI_ko k0, ob_some, hov]
    cases ho : w_ov (turns E ch W n) with
    | true =>
      rw [if_neg (by decide)]
      exact Ok_inr (r := d) rfl ⟨_, ⟨n, rfl, ho⟩, (hg n).1, hRd, hQd, hFd⟩
    | false =>
      rw [if_pos (show bi false = 0 from rfl)]
      have hEd : REn d nd ro wp E := REn_of_Fr hE gE.2.1.2 hFd (fun r a b p => by unfold PT PWo at p; omega) (fun r a b p => by unfold PT PWo at p; omega) (fun p => by unfold PT PWo at p; omega)
      refine Ok_mono (t_turn5 hK hKs hEd gE (hg n).1 htk ho hRd hQd (hc n) (hp n) (k := ii n)) ?_
      rintro (s | r) hs
      · obtain ⟨x1, x2, x3, x4⟩ := hs
        have hlt := (hg n).2 ho
        refine ⟨⟨n + 1, ?_, ?_, x2, x3, hFd.tr x4⟩, ?_⟩
        · rw [x1, show ((1 : Int32)) = ii 1 from rfl, ii_add]; rfl
        · show muW (turns E ch W (n + 1)) + ((n : Int) + 1) ≤ muW W
          omega
        · rw [x1, show ((1 : Int32)) = ii 1 from rfl, ii_add, ii_toInt (by omega) (by omega)]
          show (1000000 - ((n : Int) + 1)).toNat < (1000000 - (ii (n : Int)).toInt).toNat
          rw [ii_toInt (by omega) (by omega)]
          omega
      · exact hs.elim
  · show (1000000 - (ii 0).toInt).toNat < _
    rw [ii_toInt (by omega) (by omega)]
    omega
theorem t_doStep5 (hK : KWo σ wp nd ro) (hKs : KSu σ sp ro) (gE : GE E) (hE : REn δ nd ro wp E) (hG : GI E st I) (htk : st ≤ 90000) (hR : RId δ wp (e_md E) I) (hQ : RSv δ sp pl cs ch []) (hc : ∀ n, okCh ch (turns E ch (startW I) n)) (hp : ∀ n, okPl pl cs ch (turns E ch (startW I) n)) : Ok (m_X10_doStep σ wp sp δ) (fun d => ∃ Wf, RunEnd E ch (startW I) Wf ∧ GW E (v_hi (i_V I)).length st Wf ∧ RId d wp (e_md E) (endI Wf) ∧ RSv d sp pl cs ch (w_lg Wf) ∧ Fr (PT wp sp) δ d) := by
  have hK' := hK
  have hrl := rA_lv hK (j := 0) (by omega)
  have hsp := hKs.1
  obtain ⟨⟨l1, l2⟩, k0, ⟨k1, k2, k3, k4, k5, k6, k7, k8⟩, -, kR, kS, kW, kD, kdf, ktk, klv, kA, kL⟩ := hK
  obtain ⟨⟨p0, ⟨p1, p2, p3, p4, p5, -⟩, -⟩, pq1, pq2, pq3, pq4, -⟩ := (kL 0 (by omega)).2
  obtain ⟨r1, r2, r3, r4, ⟨r5, r5'⟩, r6, r7, r8, r9, r10⟩ := hR
  obtain ⟨⟨y1, s1⟩, ⟨y2, s2⟩, ⟨y3, s3⟩, -, -⟩ := r8 0 (by omega)
  have f1 : ∀ {x : Dy} {q k : Nat} {v : Int32}, Fr (fun r => r = q) x (u2 x.1 q k v, x.2) := fun {x q k v} => Fr_u2 rfl
  have g6 := hG.2.2.2.2.2.1
  rw [show wp + 390 + 24 * 0 = wp + 390 by omega] at *
  -- the queue is emptied, and filled
  have h1 := f1 (x := δ) (q := wp + 390 + 1) (k := 4) (v := ii 0)
  obtain ⟨e1, t1, -⟩ := t_qclr pq1 s1
  generalize (u2 δ.1 (wp + 390 + 1) 4 (ii 0), δ.2) = d1 at e1 t1 h1
  obtain ⟨d2, e2, t2, h2⟩ := t_qaddAll pq1 pq4 (by omega) t1 (RQ_of_Fr r7 h1 (fun r _ _ => by omega)) (by show 0 + (i_nx I).length ≤ 120; omega)
  have hb2 : ∀ r, blk (wp + 390 + 1) 4 r → wp + 391 ≤ r ∧ r < wp + 395 := fun r p => by unfold blk at p; omega
  have H2 : Fr (fun r => wp + 391 ≤ r ∧ r < wp + 395) δ d2 := (h1.wk (fun r p => by omega)).tr (h2.wk hb2)
  -- the others are emptied
  have h3 := f1 (x := d2) (q := wp + 390 + 13) (k := 4) (v := ii 0)
  obtain ⟨e3, t3, -⟩ := t_qclr pq4 (RQ_of_Fr r7 H2 (fun r _ _ => by omega))
  generalize (u2 d2.1 (wp + 390 + 13) 4 (ii 0), d2.2) = d3 at e3 t3 h3
  have H3 : Fr (fun r => (wp + 391 ≤ r ∧ r < wp + 395) ∨ r = wp + 403) δ d3 := (H2.wk (fun r p => by omega)).tr (h3.wk (fun r p => by omega))
  have h4 := f1 (x := d3) (q := wp + 390 + 5) (k := 4) (v := ii 0)
  obtain ⟨e4, t4, -⟩ := t_qclr pq2 (RQ_of_Fr s2 H3 (fun r _ _ => by omega))
  generalize (u2 d3.1 (wp + 390 + 5) 4 (ii 0), d3.2) = d4 at e4 t4 h4
  have H4 : Fr (fun r => (wp + 391 ≤ r ∧ r < wp + 396) ∨ r = wp + 403) δ d4 := (H3.wk (fun r p => by omega)).tr (h4.wk (fun r p => by omega))
  have h5 := f1 (x := d4) (q := wp + 390 + 9) (k := 4) (v := ii 0)
  obtain ⟨e5, t5, -⟩ := t_qclr pq3 (RQ_of_Fr s3 H4 (fun r _ _ => by omega))
  generalize (u2 d4.1 (wp + 390 + 9) 4 (ii 0), d4.2) = d5 at e5 t5 h5
  have H5 : Fr (fun r => (wp + 391 ≤ r ∧ r < wp + 396) ∨ r = wp + 399 ∨ r = wp + 403) δ d5 := (H4.wk (fun r p => by omega)).tr (h5.wk (fun r p => by omega))
  -- the rewriter starts
  have e6 : m_X6_startStep σ (wp + 18) d5 = some (u2 (u2 d5.1 (wp + 18) 3 (ii 0)) (wp + 18) 7 (ii 0), d5.2) := by
    unfold m_X6_startStep
    rw [show ((0 : Int32)) = ii 0 from rfl, pI_ko kW.1, ob_some, pI_ko kW.1, ob_some]
  have h6 : Fr (fun r => r = wp + 18) d5 (u2 (u2 d5.1 (wp + 18) 3 (ii 0)) (wp + 18) 7 (ii 0), d5.2) := (f1 (x := d5)).tr f1
  have v63 : (u2 (u2 d5.1 (wp + 18) 3 (ii 0)) (wp + 18) 7 (ii 0), d5.2).1 (wp + 18) 3 = ii 0 := by simp (disch := omega) only [u2, if_neg, and_self, ↓reduceIte]
  have v67 : (u2 (u2 d5.1 (wp + 18) 3 (ii 0)) (wp + 18) 7 (ii 0), d5.2).1 (wp + 18) 7 = ii 0 := by simp (disch := omega) only [u2, if_neg, and_self, ↓reduceIte]
  have v69 : (u2 (u2 d5.1 (wp + 18) 3 (ii 0)) (wp + 18) 7 (ii 0), d5.2).1 (wp + 18) 9 = d5.1 (wp + 18) 9 := by simp (disch := omega) only [u2, if_neg]
  generalize (u2 (u2 d5.1 (wp + 18) 3 (ii 0)) (wp + 18) 7 (ii 0), d5.2) = d6 at e6 h6 v63 v67 v69
  have H6 : Fr (fun r => (wp + 391 ≤ r ∧ r < wp + 396) ∨ r = wp + 399 ∨ r = wp + 403 ∨ r = wp + 18) δ d6 := (H5.wk (fun r p => by omega)).tr (h6.wk (fun r p => by omega))
  -- the acts
  have h7 := f1 (x := d6) (q := wp + 1) (k := 11) (v := ii 0)
  have e7 : pI σ d6 8 (wp + 1) 11 (ii 0) = some (u2 d6.1 (wp + 1) 11 (ii 0), d6.2) := pI_ko kS.1
  have t7 : RS (u2 d6.1 (wp + 1) 11 (ii 0), d6.2) (wp + 1) (v_S (i_V I)) 0 (v_fl (i_V I)) := RS_wac (RS_of_Fr r1 H6 (fun r _ _ => by omega))
  generalize (u2 d6.1 (wp + 1) 11 (ii 0), d6.2) = d7 at e7 h7 t7
  -- the world's own
  have e8 : pI σ d7 10 wp 8 (ii 0) = some (u2 d7.1 wp 8 (ii 0), d7.2) := pI_ko k0
  have e9 : pZ σ (u2 d7.1 wp 8 (ii 0), d7.2) 10 wp 9 (ii 0) = some (u2 (u2 d7.1 wp 8 (ii 0)) wp 9 (ii 0), d7.2) := pZ_ko k0 (Or.inl rfl)
  have g10 : u2 (u2 d7.1 wp 8 (ii 0)) wp 9 (ii 0) wp 10 = ii (i_st I) := by
    simp (disch := omega) only [u2, if_neg]
    rw [(h7 wp (by omega)).1, (H6 wp (by omega)).1]
    exact r10
  have e10 : pI σ (u2 (u2 d7.1 wp 8 (ii 0)) wp 9 (ii 0), d7.2) 10 wp 10 (ii (i_st I + 1)) = some (u2 (u2 (u2 d7.1 wp 8 (ii 0)) wp 9 (ii 0)) wp 10 (ii (i_st I + 1)), d7.2) := pI_ko k0
  have h8 : Fr (fun r => r = wp) d7 (u2 (u2 (u2 d7.1 wp 8 (ii 0)) wp 9 (ii 0)) wp 10 (ii (i_st I + 1)), d7.2) := (f1 (x := d7)).tr ((f1 (x := (u2 d7.1 wp 8 (ii 0), d7.2))).tr f1)
  have w8 : (u2 (u2 (u2 d7.1 wp 8 (ii 0)) wp 9 (ii 0)) wp 10 (ii (i_st I + 1)), d7.2).1 wp 8 = ii 0 := by simp (disch := omega) only [u2, if_neg, and_self, ↓reduceIte]
  have w9 : (u2 (u2 (u2 d7.1 wp 8 (ii 0)) wp 9 (ii 0)) wp 10 (ii (i_st I + 1)), d7.2).1 wp 9 = ii 0 := by simp (disch := omega) only [u2, if_neg, and_self, ↓reduceIte]
  have w10 : (u2 (u2 (u2 d7.1 wp 8 (ii 0)) wp 9 (ii 0)) wp 10 (ii (i_st I + 1)), d7.2).1 wp 10 = ii (i_st I + 1) := by simp (disch := omega) only [u2, if_neg, and_self, ↓reduceIte]
  have w11 : (u2 (u2 (u2 d7.1 wp 8 (ii 0)) wp 9 (ii 0)) wp 10 (ii (i_st I + 1)), d7.2).1 wp 11 = d7.1 wp 11 := by simp (disch := omega) only [u2, if_neg]
  have eall : m_X10_doStep σ wp sp δ = m_X10_doStep_b87 σ wp sp (ii 0) (u2 (u2 (u2 d7.1 wp 8 (ii 0)) wp 9 (ii 0)) wp 10 (ii (i_st I + 1)), d7.2) := by
    unfold m_X10_doStep
    have hrl' : rA σ 103 (wp + 15) (ii 0) = some (wp + 390) := hrl
    rw [show ((0 : Int32)) = ii 0 from rfl, show ((1 : Int32)) = ii 1 from rfl]
    simp only [gR_ko k0 k7, hrl', gR_ko p0 p1, gR_ko p0 p2, gR_ko p0 p3, gR_ko p0 p4, e1, e2, e3, e4, e5, e6, e7, e8, e9, chk_ko pq1.1, chk_ko kW.1, gR_ko k0 k3, gR_ko k0 k2, gI_ko k0, g10, ii_add, e10, ob_some]
  rw [eall]
  generalize (u2 (u2 (u2 d7.1 wp 8 (ii 0)) wp 9 (ii 0)) wp 10 (ii (i_st I + 1)), d7.2) = d8 at h8 w8 w9 w10 w11
  have H8 : Fr (fun r => r = wp ∨ r = wp + 1 ∨ (wp + 391 ≤ r ∧ r < wp + 396) ∨ r = wp + 399 ∨ r = wp + 403 ∨ r = wp + 18) δ d8 := (H6.wk (fun r p => by omega)).tr ((h7.wk (fun r p => by omega)).tr (h8.wk (fun r p => by omega)))
  have h78 : Fr (fun r => r = wp ∨ r = wp + 1) d6 d8 := (h7.wk (fun r p => by omega)).tr (h8.wk (fun r p => by omega))
  have h38 : Fr (fun r => r = wp ∨ r = wp + 1 ∨ r = wp + 395 ∨ r = wp + 399 ∨ r = wp + 18) d3 d8 := (h4.wk (fun r p => by omega)).tr ((h5.wk (fun r p => by omega)).tr ((h6.wk (fun r p => by omega)).tr (h78.wk (fun r p => by omega))))
  have h28 : Fr (fun r => r = wp ∨ r = wp + 1 ∨ r = wp + 395 ∨ r = wp + 399 ∨ r = wp + 18 ∨ r = wp + 403) d2 d8 := (h3.wk (fun r p => by omega)).tr (h38.wk (fun r p => by omega))
  have h48 : Fr (fun r => r = wp ∨ r = wp + 1 ∨ r = wp + 399 ∨ r = wp + 18) d4 d8 := (h5.wk (fun r p => by omega)).tr ((h6.wk (fun r p => by omega)).tr (h78.wk (fun r p => by omega)))
  have h58 : Fr (fun r => r = wp ∨ r = wp + 1 ∨ r = wp + 18) d5 d8 := (h6.wk (fun r p => by omega)).tr (h78.wk (fun r p => by omega))
  have hlv : RLv1 d8 (wp + 390) (lv0 (i_nx I)) := ⟨RQ_of_Fr t2 h28 (fun r _ _ => by omega), RQ_of_Fr t4 h48 (fun r _ _ => by omega), RQ_of_Fr t5 h58 (fun r _ _ => by omega), RQ_of_Fr t3 h38 (fun r _ _ => by omega)⟩
  have hV : RVv d8 (wp + 18) (wp + 1) (v_hi (i_V I)).length (e_md E) (w_V (startW I)) := by
    refine ⟨RS_of_Fr t7 h8 (fun r _ _ => by omega), ?_, trivial, ?_, ⟨Nat.le_refl _, by show ((v_hi (i_V I)).length : Int) ≤ ((v_hi (i_V I)).length : Int) + 0; omega, ?_⟩, fun j e he => ?_, ?_, ?_⟩
    · rw [(h78 (wp + 18) (by omega)).1]; exact v63
    · unfold HiR
      rw [(H8 (wp + 18 + 3) (by omega)).2]; exact r2
    · rw [(h78 (wp + 18) (by omega)).1, v67]
      exact congrArg ii (by show (0 : Int) = ((v_hi (i_V I)).length : Int) - ((v_hi (i_V I)).length : Int); omega)
    · have he' : (v_hi (i_V I))[(v_hi (i_V I)).length + j]? = some e := he
      rw [List.getElem?_eq_none (by omega)] at he'
      cases he'
    · rw [(H8 (wp + 18 + 5) (by omega)).1]; exact r3
    · rw [(h78 (wp + 18) (by omega)).1, v69, (H5 (wp + 18) (by omega)).1]; exact r4
  have hR0 : RWo d8 wp (v_hi (i_V I)).length (e_md E) (startW I) := by
    refine ⟨hV, ⟨?_, ?_⟩, ?_, ⟨hlv, Or.inl rfl, trivial⟩, fun j hj => ?_, w8, w9, ?_⟩
    · rw [(H8 _ (by omega)).1]; exact r5
    · unfold RPw; rw [(H8 (wp + 12) (by omega)).1]; exact r5'
    · unfold RTk; rw [(H8 (wp + 14) (by omega)).1]; exact r6
    · by_cases hj0 : j = 0
      · subst hj0
        exact RLany_q (r8 0 (by omega)) hlv H8 (fun r _ _ => by omega)
      · exact RLany_of_Fr (r8 j hj) H8 (fun r _ _ => by omega)
    · exact ⟨by rw [w11, (h7 wp (by omega)).1, (H6 wp (by omega)).1]; exact r9, w10⟩
  have hE8 : REn d8 nd ro wp E := REn_of_Fr hE gE.2.1.2 H8 (fun r _ _ => by omega) (fun r _ _ => by omega) (by omega)
  have hQ8 : RSv d8 sp pl cs ch (w_lg (startW I)) := RSv_of_Fr hQ H8 (fun r _ _ => by omega)
  obtain ⟨D, eD, Wf, hF, gW, hRf, hQf, hFf⟩ := t_run5 hK' hKs gE hE8 (GW_start gE hG) (muW_start hG) htk hR0 hQ8 hc hp
  refine ⟨D, eD, Wf, hF, gW, ?_, hQf, (H8.wk (fun r p => Or.inl (by unfold PWo; omega))).tr hFf⟩
  obtain ⟨n, -, hov⟩ := hF
  have g9 := gW.2.2.2.2.2.2.2.2.1
  rw [hov, if_pos rfl] at g9
  obtain ⟨q1, ⟨q2, q2'⟩, q3, q4, q5, q6, q7, q8, q9⟩ := hRf
  refine ⟨q1.1, q1.2.2.2.1, q1.2.2.2.2.2.2.1, q1.2.2.2.2.2.2.2, ⟨q2, q2'⟩, q3, ?_, q5, q8, q9⟩
  show RQ D (wp + 403) 60 (topNx (w_lv Wf))
  revert q4 g9
  match w_lv Wf with
  | [] => intro h _; exact absurd h.1 (by decide)
  | [l] => intro _ h; exact h.1.2.2.2
  | _ :: _ :: _ => intro h _; have h1 := h.1; rw [List.length_cons, List.length_cons] at h1; omega
end
