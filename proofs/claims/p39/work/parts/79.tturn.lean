/-! THE WORLD in the class: a turn -/
def KSu (σ : St) (sp ro : Nat) : Prop := (ro + 1 ≤ sp ∧ sp + 4 ≤ ro + 6) ∧ KO σ sp 9 ∧ (srv σ sp 0 = some (sp + 1) ∧ srv σ sp 1 = some (sp + 2) ∧ srv σ sp 4 = some (sp + 3)) ∧ KD σ (sp + 1) 100 61 ∧ KD σ (sp + 2) 100 61 ∧ KD σ (sp + 3) 100 1296
/-- the choices among two and more: size and place in the log -/
def bz (lg : List Int) : List (Int × Nat) := lg.zipIdx.filter (fun p => decide (2 ≤ p.1))
theorem bz_app {lg : List Int} {n : Int} : bz (lg ++ [n]) = bz lg ++ (if 2 ≤ n then [(n, lg.length)] else []) := by
  unfold bz
  rw [List.zipIdx_append, List.filter_append]
  congr 1
  show [(n, 0 + lg.length)].filter _ = _
  rw [Nat.zero_add, List.filter_cons]
  by_cases h : 2 ≤ n
  · rw [if_pos (by exact decide_eq_true h), if_pos h]
    rfl
  · rw [if_neg (by simpa using h), if_neg h]
    rfl
theorem bz_len {lg : List Int} : (bz lg).length ≤ lg.length := by
  unfold bz
  refine Nat.le_trans (List.length_filter_le _ _) ?_
  rw [List.length_zipIdx]
  exact Nat.le_refl _
def RSu (δ : Dy) (sp pl : Nat) (cs : Nat → Nat) (ch : Nat → Nat) (lg : List Int) : Prop := (δ.1 sp 2 = ii pl ∧ pl ≤ 61) ∧ δ.1 sp 3 = ii (bz lg).length ∧ (∀ (j : Nat) (p : Int × Nat), (bz lg)[j]? = some p → δ.1 (sp + 2) j = ii p.1 ∧ δ.1 (sp + 1) j = ii (ch p.2)) ∧ ∀ j : Nat, (bz lg).length ≤ j → j < pl → δ.1 (sp + 1) j = ii (cs j)
/-- what is planned is what is chosen -/
def okPl (pl : Nat) (cs ch : Nat → Nat) (W : Wo) : Prop := ∀ l, w_ov W = false → v_fl (w_V W) = false → (v_fr (w_V W)).length = 0 → w_lv W = [l] → 2 ≤ (l_q l).length → ch (w_lg W).length = if (bz (w_lg W)).length < pl then cs (bz (w_lg W)).length else 0
theorem RSu_of_Fr {δ δ' : Dy} {sp pl : Nat} {cs ch : Nat → Nat} {lg : List Int} {P : Nat → Prop} (h : RSu δ sp pl cs ch lg) (hF : Fr P δ δ') (hd : ∀ r, sp ≤ r → r < sp + 3 → ¬ P r) : RSu δ' sp pl cs ch lg := by
  unfold RSu
  rw [(hF sp (hd _ (by omega) (by omega))).1, (hF (sp + 1) (hd _ (by omega) (by omega))).1, (hF (sp + 2) (hd _ (by omega) (by omega))).1]
  exact h
section
variable {σ : St} {δ : Dy} {wp nd ro sp base pl : Nat} {E : Ev} {W : Wo} {st : Int} {l : Lv} {ls : List Lv} {cs ch : Nat → Nat} {lg : List Int}
theorem t_choose (hK : KSu σ sp ro) (hQ : RSu δ sp pl cs ch lg) (hl : lg.length ≤ 60) {n : Int} (n0 : 1 ≤ n) (n1 : n ≤ 1000) (h1 : n < 2 → ch lg.length = 0) (h2 : 2 ≤ n → ch lg.length = if (bz lg).length < pl then cs (bz lg).length else 0) : Ok (m_X9_choose σ sp (ii n) δ) (fun r => r.1 = ii (ch lg.length) ∧ RSu r.2 sp pl cs ch (lg ++ [n]) ∧ Fr (fun r => sp ≤ r ∧ r < sp + 3) δ r.2) := by
  obtain ⟨-, k0, ⟨k1, k2, k3⟩, d1, d2, d3⟩ := hK
  obtain ⟨⟨q1, q2⟩, q3, q4, q5⟩ := hQ
  have hbl := bz_len (lg := lg)
  unfold m_X9_choose
  by_cases c : n < 2
  · refine Ok_of (v := (ii 0, δ)) (by simp (disch := omega) only [ii_lit, ii_lt, if_pos]) ⟨by rw [h1 c]; rfl, ?_, Fr.rf⟩
    unfold RSu
    rw [bz_app, if_neg (by omega), List.append_nil]
    exact ⟨⟨q1, q2⟩, q3, q4, q5⟩
  · have hch := h2 (by omega)
    have hln : ((bz lg ++ [(n, lg.length)]).length) = (bz lg).length + 1 := by rw [List.length_append, List.length_singleton]
    -- the written memory
    have main : ∀ (d : Dy) (w : Nat), d.1 sp 2 = ii pl → d.1 sp 3 = ii ((bz lg).length + 1) → (∀ j, ¬ j = (bz lg).length → d.1 (sp + 1) j = δ.1 (sp + 1) j) → d.1 (sp + 1) (bz lg).length = ii w → d.1 (sp + 2) = δ.1 (sp + 2) → ch lg.length = w → RSu (u2 d.1 (sp + 2) (bz lg).length (ii n), d.2) sp pl cs ch (lg ++ [n]) := by
      intro d w a1 a2 a3 a4 a5 a6
      unfold RSu
      rw [bz_app, if_pos (show 2 ≤ n by omega), hln]
      refine ⟨⟨?_, q2⟩, ?_, fun j p hp => ?_, fun j hj hj2 => ?_⟩
      · simp (disch := omega) only [u2, if_neg]
        exact a1
      · simp (disch := omega) only [u2, if_neg]
        exact a2
      · by_cases hj : j < (bz lg).length
        · rw [List.getElem?_append_left hj] at hp
          obtain ⟨b1, b2⟩ := q4 j p hp
          refine ⟨?_, ?_⟩
          · simp (disch := omega) only [u2, if_neg]
            rw [a5]; exact b1
          · simp (disch := omega) only [u2, if_neg]
            rw [a3 j (by omega)]; exact b2
        · rw [List.getElem?_append_right (by omega)] at hp
          have hj2 : j = (bz lg).length := by
            by_cases hz : j - (bz lg).length = 0
            · omega
            · rw [List.getElem?_eq_none (by simp only [List.length_cons, List.length_nil]; omega)] at hp
              cases hp
          subst hj2
          rw [Nat.sub_self] at hp
          cases hp
          refine ⟨?_, ?_⟩
          · simp only [u2, and_self, ↓reduceIte]
          · simp (disch := omega) only [u2, if_neg]
            rw [a4, a6]
      · simp (disch := omega) only [u2, if_neg]
        rw [a3 j (by omega)]
        exact q5 j (by omega) hj2
    have e6 : pI σ δ 9 sp 3 (ii (((bz lg).length : Int) + 1)) = some (u2 δ.1 sp 3 (ii (((bz lg).length : Int) + 1)), δ.2) := pI_ko k0
    have g2 : (u2 δ.1 sp 3 (ii (((bz lg).length : Int) + 1)), δ.2).1 sp 2 = ii pl := by simp (disch := omega) only [u2, if_neg]; exact q1
    have g3 : (u2 δ.1 sp 3 (ii (((bz lg).length : Int) + 1)), δ.2).1 sp 3 = ii (((bz lg).length : Int) + 1) := by simp only [u2, and_self, ↓reduceIte]
    have F6 : Fr (fun r => r = sp) δ (u2 δ.1 sp 3 (ii (((bz lg).length : Int) + 1)), δ.2) := Fr_u2 rfl
    generalize (u2 δ.1 sp 3 (ii (((bz lg).length : Int) + 1)), δ.2) = d6 at e6 g2 g3 F6
    by_cases c2 : (bz lg).length < pl
    · rw [if_pos c2] at hch
      have hv : d6.1 (sp + 1) (bz lg).length = ii (cs (bz lg).length) := by rw [(F6 _ (by omega)).1]; exact q5 _ (Nat.le_refl _) c2
      refine Ok_of (v := (ii (cs (bz lg).length), (u2 d6.1 (sp + 2) (bz lg).length (ii n), d6.2))) ?_ ⟨by rw [hch], main d6 (cs (bz lg).length) g2 g3 (fun j _ => by rw [(F6 _ (by omega)).1]) hv (F6 _ (by omega)).1 hch, (F6.wk (fun r p => by omega)).tr (Fr_u2 (by omega))⟩
      have hv2 : u2 d6.1 (sp + 2) (bz lg).length (ii n) (sp + 1) (bz lg).length = ii (cs (bz lg).length) := by simp (disch := omega) only [u2, if_neg]; exact hv
      simp (disch := omega) only [ii_lit, ii_lt, if_neg, if_pos, gI_ko k0, q3, ob_some, gR_ko k0 k1, aln_kd d1, ii_add, e6, g2, m_X9_choose_b49, gR_ko k0 k2, wI_kd d2, rI_kd d1, Int.toNat_natCast, hv2]
    · rw [if_neg c2] at hch
      have F7 : Fr (fun r => r = sp + 1) d6 (u2 d6.1 (sp + 1) (bz lg).length (ii 0), d6.2) := Fr_u2 rfl
      refine Ok_of (v := (ii 0, (u2 (u2 d6.1 (sp + 1) (bz lg).length (ii 0)) (sp + 2) (bz lg).length (ii n), d6.2))) ?_ ⟨by rw [hch]; rfl, main (u2 d6.1 (sp + 1) (bz lg).length (ii 0), d6.2) 0 (by rw [(F7 sp (by omega)).1]; exact g2) (by rw [(F7 sp (by omega)).1]; exact g3) (fun j hj => ?_) (by simp only [u2, and_self, ↓reduceIte]; rfl) (by rw [(F7 _ (by omega)).1]; exact (F6 _ (by omega)).1) hch, (F6.wk (fun r p => by omega)).tr ((F7.wk (fun r p => by omega)).tr (Fr_u2 (δ := (u2 d6.1 (sp + 1) (bz lg).length (ii 0), d6.2)) (by omega)))⟩
      · have hv2 : u2 (u2 d6.1 (sp + 1) (bz lg).length (ii 0)) (sp + 2) (bz lg).length (ii n) (sp + 1) (bz lg).length = ii 0 := by simp (disch := omega) only [u2, if_neg, and_self, ↓reduceIte]
        simp (disch := omega) only [ii_lit, ii_lt, if_neg, if_pos, gI_ko k0, q3, ob_some, gR_ko k0 k1, aln_kd d1, ii_add, e6, g2, m_X9_choose_b49, gR_ko k0 k2, wI_kd d1, wI_kd d2, rI_kd d1, Int.toNat_natCast, hv2]
      · simp (disch := omega) only [u2, if_neg]
        rw [(F6 _ (by omega)).1]
end
def turnT (σ : St) (p0 p1 : Nat) (k : Int32) (δ : Dy) : Option ((Int32 × Dy) ⊕ Dy) :=
      (gR σ 10 p0 6).bind fun v22 =>
      (gI σ δ 10 p0 8).bind fun v23 =>
      (rA σ 103 v22 v23).bind fun v24 =>
      (gR σ 4 v24 0).bind fun v25 =>
      (gI σ δ 1 v25 4).bind fun v26 =>
      (gR σ 10 p0 1).bind fun v27 =>
      (gI σ δ 8 v27 12).bind fun v28 =>
      if v28 = 0 then
        (gR σ 10 p0 2).bind fun v29 =>
        (chk σ 6 v29).bind fun _ => (m_X6_isBusy σ v29 δ).bind fun v30 =>
        if v30 = 0 then
          if v26 ≤ 0 then
            (chk σ 10 p0).bind fun _ => (m_X10_goOn σ p0 v24 δ).bind fun v31 =>
            if v31.1 = 0 then
              (chk σ 10 p0).bind fun _ => (m_X10_assume σ p0 v24 v31.2).bind fun v32 =>
              if v32.1 = 0 then
                (chk σ 10 p0).bind fun _ => (m_X10_finish σ p0 v24 v32.2).bind fun v33 =>
                m_X10_doStep_b216 σ p0 p1 k v33
              else
                m_X10_doStep_b216 σ p0 p1 k v32.2
            else
              m_X10_doStep_b216 σ p0 p1 k v31.2
          else
            (gI σ δ 10 p0 8).bind fun v34 =>
            if v34 = 0 then
              (chk σ 9 p1).bind fun _ => (m_X9_choose σ p1 v26 δ).bind fun v35 =>
              m_X10_doStep_b186 σ p0 p1 k p0 v24 v35.1 v35.2
            else
              m_X10_doStep_b186 σ p0 p1 k p0 v24 (0 : Int32) δ
        else
          (gR σ 10 p0 2).bind fun v37 =>
          (chk σ 6 v37).bind fun _ => (m_X6_advance σ v37 δ).bind fun v38 =>
          m_X10_doStep_b216 σ p0 p1 k v38
      else
        (chk σ 10 p0).bind fun _ => (m_X10_giveUp σ p0 v24 δ).bind fun v39 =>
        m_X10_doStep_b216 σ p0 p1 k v39
theorem doStep_T {σ : St} {p0 p1 : Nat} {p4 : Int32} {δ : Dy} : m_X10_doStep_b87 σ p0 p1 p4 δ = lp (fun (s : (Int32 × Dy)) => if (1000000 : Int32) ≤ s.1 then some (Sum.inr s.2) else (gI σ s.2 10 p0 9).bind fun v21 => if v21 = 0 then turnT σ p0 p1 s.1 s.2 else some (Sum.inr s.2)) (p4, δ) := rfl
section
variable {σ : St} {δ : Dy} {wp nd ro sp base pl : Nat} {E : Ev} {W : Wo} {st : Int} {l : Lv} {ls : List Lv} {cs ch : Nat → Nat} {lg : List Int}
/-- what a turn writes -/
def PT (wp sp : Nat) : Nat → Prop := fun r => PWo wp r ∨ (sp ≤ r ∧ r < sp + 3)
theorem lg_ask {a : Ag} : w_lg (askW E W l ls a) = w_lg W := by
  unfold askW
  split <;> rfl
theorem lg_actK {a : Ag} : w_lg (actK E W l ls a) = w_lg W := by
  unfold actK
  by_cases c0 : e_kd E a.1 = 0
  · rw [if_pos c0]; rfl
  rw [if_neg c0]
  by_cases c1 : e_kd E a.1 = 1 ∨ e_kd E a.1 = 2
  · rw [if_pos c1]; rfl
  rw [if_neg c1]
  by_cases c2 : e_kd E a.1 = 3
  · rw [if_pos c2]; rfl
  rw [if_neg c2]
  by_cases c3 : e_kd E a.1 = 4 ∨ e_kd E a.1 = 5
  · rw [if_pos c3]; exact lg_ask
  rw [if_neg c3]
  by_cases c4 : e_kd E a.1 = 6
  · rw [if_pos c4]; split <;> rfl
  rw [if_neg c4]
  by_cases c5 : e_kd E a.1 = 7
  · rw [if_pos c5]; split <;> rfl
  rw [if_neg c5]
  by_cases c6 : e_kd E a.1 = 8
  · rw [if_pos c6]; rfl
  rw [if_neg c6]
  by_cases c7 : e_kd E a.1 = 9
  · rw [if_pos c7]; rfl
  rw [if_neg c7]
  by_cases c8 : e_kd E a.1 = 12
  · rw [if_pos c8]
  rw [if_neg c8]
  by_cases c9 : e_kd E a.1 = 13
  · rw [if_pos c9]; split <;> rfl
  rw [if_neg c9]
  rfl
theorem lg_actAt {i : Nat} : w_lg (actAt E W l ls i) = w_lg W := by
  unfold actAt
  split
  · rfl
  · split
    · exact lg_actK
    · rfl
theorem lg_giveUp : w_lg (giveUp W) = w_lg W := by
  unfold giveUp
  split <;> rfl
theorem lg_quiet : w_lg (quietW E W l ls) = w_lg W := by
  unfold quietW
  split
  · split
    · rfl
    · unfold finishW
      split
      · rfl
      · split <;> rfl
  · rfl
theorem goOn_nil {S : Sto} {tk : Int → Int} (h : (goOnL E S tk l).1.length = 0) : goOnL E S tk l = l := by
  have h1 : (l_q l ++ (l_w l).filter (canGo E S tk)).length = 0 := h
  rw [List.length_append] at h1
  have h2 : (l_w l).filter (canGo E S tk) = [] := List.length_eq_zero_iff.mp (by omega)
  have h3 : (l_w l).filter (fun a => !canGo E S tk a) = l_w l := by
    rw [List.filter_eq_self]
    intro a ha
    have := List.filter_eq_nil_iff.mp h2 a ha
    simpa using this
  unfold goOnL
  rw [h2, h3, List.append_nil]
theorem t_turn (hK : KWo σ wp nd ro) (hKs : KSu σ sp ro) (hE : REn δ nd ro wp E) (gE : GE E) (hG : GW E base st W) (htk : st ≤ 90000) (ho : w_ov W = false) (hR : RWo δ wp base (e_md E) W) (hQ : RSu δ sp pl cs ch (w_lg W)) (hc : okCh ch W) (hp : okPl pl cs ch W) {k : Int32} : Ok (turnT σ wp sp k δ) (PL (fun s => s.1 = k + 1 ∧ RWo s.2 wp base (e_md E) (turnW E ch W) ∧ RSu s.2 sp pl cs ch (w_lg (turnW E ch W)) ∧ Fr (PT wp sp) δ s.2) (fun _ => False)) := by
  have hK' := hK
  have hrl := fun {j : Nat} (hj : j < 4) => rA_lv hK hj
  obtain ⟨⟨l1, l2⟩, k0, ⟨k1, k2, k3, k4, k5, k6, k7, k8⟩, -, kR, kS, kW, kD, kdf, ktk, klv, kA, kL⟩ := hK
  have hv := GW_frl hG
  have hlen4 := hG.2.2.2.2.2.2.1
  have hsp := hKs.1
  cases hl : w_lv W with
  | nil => exact absurd hG.2.2.2.2.2.1 (by rw [hl]; exact fun h => h)
  | cons l ls =>
    have hlen4' := hlen4
    rw [hl] at hlen4
    have h4 : ls.length < 4 := hlen4
    obtain ⟨⟨p0, ⟨p1, p2, p3, p4, p5, -⟩, -⟩, pq1, pq2, pq3, pq4, -⟩ := (kL ls.length h4).2
    have h8 := hR.2.2.2.2.2.1
    rw [hl] at h8
    have h8' : δ.1 wp 8 = ii (ls.length : Int) := by rw [h8]; exact congrArg ii (by show ((ls.length : Int) + 1) - 1 = _; omega)
    have hRl := hR.2.2.2.1
    rw [hl] at hRl
    have hqs : δ.1 (wp + 390 + 24 * ls.length + 1) 4 = ii (l_q l).length := hRl.1.1.2.1
    have hql : (l_q l).length ≤ 120 := hRl.1.1.2.2.1
    have hfl : δ.1 (wp + 1) 12 = bi (v_fl (w_V W)) := hR.1.1.2.2.2.2.2.2.2.2.2.2.2.1
    have hfr : δ.1 (wp + 18) 3 = ii (v_fr (w_V W)).length := hR.1.2.1
    have hac := hG.1.2.1
    have hm1 := hG.2.2.2.2.2.2.2.1
    have hm2 := hG.2.2.2.2.2.2.2.2.1
    have hlg := hG.2.2.2.2.2.2.2.2.2.1
    rw [ho, if_neg (by decide)] at hm2
    have hb1 : m1L (w_lv W) = m1L ls + (l_q l).length + (l_w l).length := by rw [hl]; rfl
    have hb2 : m2L (w_lv W) = m2L ls + (l_w l).length + (l_as l).length + (l_nx l).length := by rw [hl]; rfl
    have hb3 : ((w_lv W).length : Int) = (ls.length : Int) + 1 := by rw [hl]; rfl
    have n1 := m1_nn ls
    have n2 := m2_nn ls
    have lift : ∀ {m : Option Dy} {W' : Wo}, Ok m (fun d => RWo d wp base (e_md E) W' ∧ Fr (PWo wp) δ d) → w_lg W' = w_lg W → Ok (m.bind fun v => m_X10_doStep_b216 σ wp sp k v) (PL (fun s => s.1 = k + 1 ∧ RWo s.2 wp base (e_md E) W' ∧ RSu s.2 sp pl cs ch (w_lg W') ∧ Fr (PT wp sp) δ s.2) (fun _ => False)) := by
      rintro m W' ⟨d, e, h1, h2⟩ hlg
      refine ⟨.inl (k + 1, d), by rw [e]; rfl, rfl, h1, ?_, h2.wk (fun r p => Or.inl p)⟩
      show RSu d sp pl cs ch (w_lg W')
      rw [hlg]
      exact RSu_of_Fr hQ h2 (fun r a b p => by unfold PWo at p; omega)
    unfold turnT
    refine Ok_bind (gR_ko k0 k7) (Ok_bind (gI_ko k0) ?_)
    rw [h8']
    refine Ok_bind (hrl h4) (Ok_bind (gR_ko p0 p1) (Ok_bind (gI_ko pq1.1) ?_))
    rw [hqs]
    refine Ok_bind (gR_ko k0 k2) (Ok_bind (gI_ko kS.1) ?_)
    rw [hfl]
    cases hf : v_fl (w_V W) with
    | true =>
      have hT : turnW E ch W = giveUp W := by
        unfold turnW
        rw [if_neg (by rw [ho]; decide), if_pos hf]
      rw [hT, if_neg (show ¬ bi true = 0 by decide)]
      refine Ok_bind (chk_ko k0) ?_
      exact lift (t_giveUp hK' hG gE.2.1.2 hR hl) lg_giveUp
    | false =>
      rw [hf, if_neg (by rintro ⟨h, -⟩; cases h)] at hlg
      rw [if_pos (show bi false = 0 from rfl)]
      refine Ok_bind (gR_ko k0 k3) (Ok_bind (chk_ko kW.1) ?_)
      have ebusy : m_X6_isBusy σ (wp + 18) δ = some (bi (!decide ((v_fr (w_V W)).length = 0))) := by
        unfold m_X6_isBusy
        rw [gI_ko kW.1, ob_some, hfr]
        by_cases hz : (v_fr (w_V W)).length = 0
        · rw [decide_eq_true hz, hz]; rfl
        · rw [decide_eq_false hz, if_neg (by rw [show ((0 : Int32)) = ii 0 from rfl, ii_le (by omega) (by omega) (by omega) (by omega)]; omega)]; rfl
      refine Ok_bind ebusy ?_
      by_cases hn : (v_fr (w_V W)).length = 0
      · rw [decide_eq_true hn, if_pos (show bi (!true) = 0 from rfl)]
        have hT : turnW E ch W = (if (l_q l).length = 0 then quietW E W l ls else actW E ch W l ls) := by
          unfold turnW
          rw [if_neg (by rw [ho]; decide), if_neg (by rw [hf]; decide), if_pos hn, hl]
          rfl
        rw [hT]
        by_cases hq : (l_q l).length = 0
        · rw [if_pos hq, hq, if_pos (show ii ((0 : Nat) : Int) ≤ 0 by decide)]
          obtain ⟨⟨v, d1⟩, e1, a1, a2, a3, -⟩ := t_goOn hK' hE gE hG htk hl hR
          dsimp only at a1 a2 a3
          subst a1
          refine Ok_bind (chk_ko k0) (Ok_bind e1 ?_)
          dsimp only
          have hE1 : REn d1 nd ro wp E := REn_PW hK' hE gE.2.1.2 a3 (fun r p => by unfold PWo at p; omega)
          by_cases hz : (goOnL E (v_S (w_V W)) (w_tk W) l).1.length = 0
          · rw [decide_eq_true hz, if_pos (show bi (!true) = 0 from rfl)]
            rw [goOn_nil hz, w_setlv_self hl] at a2
            obtain ⟨⟨v, d2⟩, e2, b1, b2, -⟩ := t_assume hK' hE1 gE hG hl (by omega) (by omega) a2
            dsimp only at b1 b2
            refine Ok_bind (chk_ko k0) (Ok_bind e2 ?_)
            dsimp only
            unfold assumeP at b1
            dsimp only at b1
            have hE2 : REn d2 nd ro wp E := REn_PW hK' hE1 gE.2.1.2 b2 (fun r p => by unfold PWo at p; omega)
            unfold quietW
            rw [if_pos hz]
            cases hs : (l_w l)[fstI (canAs E (v_S (w_V W))) (l_w l)]? with
            | some a =>
              rw [hs] at b1
              dsimp only at b1 ⊢
              rw [b1.1, if_neg (by decide)]
              exact lift (m := some d2) ⟨d2, rfl, b1.2, a3.tr b2⟩ rfl
            | none =>
              rw [hs] at b1
              dsimp only at b1 ⊢
              rw [b1.1, if_pos (show ii 0 = 0 from rfl)]
              refine Ok_bind (chk_ko k0) ?_
              have hun := (unl_good (S := v_S (w_V W)) gE (hG.2.2.2.2.1 l (by rw [hl]; exact List.mem_cons_self)).2.1).2
              refine lift ?_ (by
                unfold finishW
                split
                · rfl
                · split <;> rfl)
              refine Ok_mono (t_finish hK' hE2 gE hG hl b1.2 (by omega) (fun l' ls' hls => ?_)) (fun d h => ⟨h.1, (a3.tr b2).tr h.2⟩)
              have hb4 : m2L ls = m2L ls' + (l_w l').length + (l_as l').length + (l_nx l').length := by rw [hls]; rfl
              have n3 := m2_nn ls'
              omega
          · rw [decide_eq_false hz, if_neg (by decide)]
            have : quietW E W l ls = w_setlv W (goOnL E (v_S (w_V W)) (w_tk W) l :: ls) := by
              unfold quietW
              rw [if_neg hz]
            rw [this]
            exact lift (m := some d1) ⟨d1, rfl, a2, a3⟩ rfl
        · rw [if_neg hq, if_neg (by rw [show ((0 : Int32)) = ii 0 from rfl, ii_le (by omega) (by omega) (by omega) (by omega)]; omega)]
          refine Ok_bind (gI_ko k0) ?_
          rw [h8']
          unfold actW
          by_cases hz : ls.length = 0
          · have hls : ls = [] := List.length_eq_zero_iff.mp hz
            rw [if_pos hz, hz, if_pos (show ii ((0 : Nat) : Int) = 0 from rfl)]
            have hcc := hc l ho hf hn (by rw [hl, hls]) hq
            obtain ⟨⟨v, d1⟩, e1, a1, a2, a3⟩ := t_choose hKs hQ (by omega) (n := (l_q l).length) (by omega) (by omega) (fun h => by omega) (fun h => hp l ho hf hn (by rw [hl, hls]) (by omega))
            dsimp only at a1 a2 a3
            subst a1
            refine Ok_bind (chk_ko hKs.2.1) (Ok_bind e1 ?_)
            have hR1 : RWo d1 wp base (e_md E) W := RWo_of_Fr hR hlen4' hv a3 (fun r p1 p2 p3 p4 p5 p6 p => by omega)
            have hE1 : REn d1 nd ro wp E := REn_of_Fr hE gE.2.1.2 a3 (fun r _ _ p => by omega) (fun r _ _ p => by omega) (fun p => by omega)
            obtain ⟨d2, e2, b1, b2⟩ := t_actAt (lg := w_lg W ++ [((l_q l).length : Int)]) hK' hE1 gE hG htk hf hn ho hl hR1 (by rw [List.length_append, List.length_singleton]; omega) hcc
            refine ⟨.inl (k + 1, d2), ?_, rfl, b1, ?_, (a3.wk (fun r p => Or.inr p)).tr (b2.wk (fun r p => Or.inl p))⟩
            · unfold m_X10_doStep_b186
              have e2' := e2
              rw [hz] at e2'
              dsimp only
              rw [chk_ko k0, ob_some, e2', ob_some]
              rfl
            · rw [lg_actAt]
              exact RSu_of_Fr a2 b2 (fun r a b p => by unfold PWo at p; omega)
          · rw [if_neg hz, if_neg (by rw [show ((0 : Int32)) = ii 0 from rfl, ii_eq (by omega) (by omega) (by omega) (by omega)]; omega)]
            unfold m_X10_doStep_b186
            refine Ok_bind (chk_ko k0) ?_
            exact lift (t_actAt (lg := w_lg W) (i := 0) hK' hE gE hG htk hf hn ho hl hR (by omega) (by omega)) lg_actAt
      · have hT : turnW E ch W = w_setV W (adv (w_V W) (e_Rs E) (e_md E)) := by
          unfold turnW
          rw [if_neg (by rw [ho]; decide), if_neg (by rw [hf]; decide), if_neg hn]
        rw [hT, decide_eq_false hn, if_neg (by decide)]
        refine Ok_bind (gR_ko k0 k3) (Ok_bind (chk_ko kW.1) ?_)
        refine lift ?_ rfl
        obtain ⟨d, e, a1, a2⟩ := t_adv kW kS kR (by omega) (by omega) hR.1 hE.2.1 hG.1
        exact ⟨d, e, RWo_V hR hlen4' a2 (fun r p => by unfold PVr at p; omega) a1, PVr_PWo a2⟩
end
