/-! THE WORLD in the class: the end of a level -/
section
variable {σ : St} {δ : Dy} {wp nd ro base : Nat} {E : Ev} {W : Wo} {S : Sto} {ac : Int} {fl : Bool} {a : Ag} {l : Lv} {ls : List Lv} {st : Int} {made : Int}
theorem RWo_ck {d : Dy} (hR : RWo δ wp base made W) (h4 : (w_lv W).length ≤ 4) (hv : (v_fr (w_V W)).length ≤ 183) (c : Int) : RWo (u2 δ.1 wp 11 (ii c), δ.2) wp base made (w_V W, w_x W, w_pw W, w_tk W, w_lv W, w_ov W, (c, w_sp W), w_lg W) := by
  have hF : Fr (fun r => r = wp) δ (u2 δ.1 wp 11 (ii c), δ.2) := Fr_u2 rfl
  obtain ⟨r1, ⟨r2, r3⟩, r4, r5, r6, r7, r8, r9⟩ := hR
  refine ⟨RVv_cg r1 hv (fun r hr hr2 => hF r (by omega)) (by omega), ⟨?_, ?_⟩, ?_, RLs_of_Fr hF r5 (fun r a b p => by omega), fun j hj => RLany_of_Fr (r6 j hj) hF (fun r a b p => by omega), ?_, ?_, ?_⟩
  · rw [(hF _ (by omega)).1]; exact r2
  · unfold RPw; rw [(hF (wp + 12) (by omega)).1]; exact r3
  · unfold RTk; rw [(hF (wp + 14) (by omega)).1]; exact r4
  · simp (disch := omega) only [u2, if_neg]
    exact r7
  · simp (disch := omega) only [u2, if_neg]
    exact r8
  · refine ⟨?_, ?_⟩
    · simp only [u2, and_self, ↓reduceIte]
    · simp (disch := omega) only [u2, if_neg]
      exact r9.2
def finZ (E : Ev) (S : Sto) (l : Lv) (z : Nat) : Lv := (l_q l, l_w l, l_as l, l_nx l ++ unlL E S ((l_w l).take z), l.2.2.2.2)
theorem finZ_end {S : Sto} : finZ E S l (l_w l).length = (l_q l, l_w l, l_as l, l_nx l ++ unlL E S (l_w l), l.2.2.2.2) := by
  unfold finZ
  rw [List.take_length]
theorem t_finEnd (hK : KWo σ wp nd ro) (hG : GW E base st W) (hl : w_lv W = l :: ls) (hR : RWo δ wp base (e_md E) (w_setlv W (finZ E (v_S (w_V W)) l (l_w l).length :: ls))) (hnx : ∀ l' ls', ls = l' :: ls' → (l_nx l').length + (l_nx l).length + (unlL E (v_S (w_V W)) (l_w l)).length ≤ 60) (hac : (l_as l).any (fun a => entA E (v_S (w_V W)) a a.1) = false) {x : Int32} (hx : x = ii (l_w l).length) (hwl : (l_w l).length ≤ 60) {f : Int32 × Dy → Option ((Int32 × Dy) ⊕ Dy)} : ∃ D, RWo D wp base (e_md E) (finishW E W l ls) ∧ Fr (PWo wp) δ D ∧ (ls.length = 0 → ((m_X8_dropPassing σ (wp + 1) δ).bind fun v7 => (gI σ v7 10 wp 11).bind fun v8 => (pI σ v7 10 wp 11 (v8 + (1 : Int32))).bind fun d9 => (pZ σ d9 10 wp 9 (1 : Int32)).bind fun d10 => some (Sum.inr d10 : (Int32 × Dy) ⊕ Dy)) = some (Sum.inr D)) ∧ (¬ ls.length = 0 → ((pI σ δ 10 wp 8 (ii ((ls.length : Int) - 1))).bind fun d12 => (gI σ d12 10 wp 8).bind fun v14 => (rA σ 103 (wp + 15) v14).bind fun v15 => (gR σ 4 v15 3).bind fun v16 => (chk σ 1 v16).bind fun _ => (m_X1_addAll σ v16 (wp + 390 + 24 * ls.length + 13) d12).bind fun v18 => some (Sum.inr v18 : (Int32 × Dy) ⊕ Dy)) = some (Sum.inr D)) := by
  have hK' := hK
  have hrl := fun {j : Nat} (hj : j < 4) => rA_lv hK hj
  obtain ⟨⟨l1, l2⟩, k0, ⟨k1, k2, k3, k4, k5, k6, k7, k8⟩, -, -, kS, kW, kD, kdf, ktk, klv, kA, kL⟩ := hK
  have hv := GW_frl hG
  have hlen4 := hG.2.2.2.2.2.2.1
  rw [hl] at hlen4
  have h4 : ls.length < 4 := hlen4
  have hS := hG.1.1
  unfold finishW
  rw [hac, if_neg (by decide)]
  rw [finZ_end] at hR
  cases ls with
  | nil =>
    dsimp only
    have hS0 : RS δ (wp + 1) (v_S (w_V W)) (v_ac (w_V W)) (v_fl (w_V W)) := hR.1.1
    obtain ⟨d, e, x1, x2⟩ := t_drop kS hS0 hS
    have hb : ∀ r, blk (wp + 1) 10 r → wp + 1 ≤ r ∧ r < wp + 11 := fun r p => by unfold blk at p; omega
    have hV := RVv_st hR.1 (by omega) x2 x1 (by show v_ac (w_V W) ≤ v_ac (w_V W); omega)
    have hR1 := RWo_V hR h4 x2 (fun r p => by have := hb r p; omega) hV
    have h11 : d.1 wp 11 = ii (w_ck W) := hR1.2.2.2.2.2.2.2.1
    have hR2 := RWo_ck (d := d) hR1 h4 hv (w_ck W + 1)
    have hR3 := RWo_ov (d := d) hR2 h4 hv true
    refine ⟨_, hR3, ((PWo_blk (by omega) (by omega) (by omega) x2).tr ((Fr_u2 (P := PWo wp) (by unfold PWo; omega)).tr (Fr_u2 (P := PWo wp) (by unfold PWo; omega)))), fun _ => ?_, fun h => absurd rfl h⟩
    rw [e, ob_some, gI_ko k0, ob_some, h11, show ((1 : Int32)) = ii 1 from rfl, ii_add, pI_ko k0, ob_some, pZ_ko k0 (Or.inr (show ii 1 = 1 from rfl)), ob_some]
    rfl
  | cons l' ls' =>
    dsimp only
    have hnx' := hnx l' ls' rfl
    obtain ⟨hL1, hL2, hL3⟩ : RLv1 δ (wp + 390 + 24 * (l' :: ls').length) (l_q l, l_w l, l_as l, l_nx l ++ unlL E (v_S (w_V W)) (l_w l), l.2.2.2.2) ∧ _ ∧ RLs δ wp base (l' :: ls') := hR.2.2.2.1
    have hl1 : (l' :: ls').length = ls'.length + 1 := rfl
    have h4' : ls'.length < 4 := by rw [hl1] at h4; omega
    rw [hl1] at hL1 hL2 ⊢
    have e8 : ((ls'.length + 1 : Nat) : Int) - 1 = (ls'.length : Int) := by omega
    rw [e8]
    have F1 : Fr (fun r => r = wp) δ (u2 δ.1 wp 8 (ii (ls'.length : Int)), δ.2) := Fr_u2 rfl
    have e1 : pI σ δ 10 wp 8 (ii (ls'.length : Int)) = some (u2 δ.1 wp 8 (ii (ls'.length : Int)), δ.2) := pI_ko k0
    have t8 : (u2 δ.1 wp 8 (ii (ls'.length : Int)), δ.2).1 wp 8 = ii (ls'.length : Int) := by simp only [u2, and_self, ↓reduceIte]
    have t9 : (u2 δ.1 wp 8 (ii (ls'.length : Int)), δ.2).1 wp 9 = δ.1 wp 9 := by simp (disch := omega) only [u2, if_neg]
    have t11 : (u2 δ.1 wp 8 (ii (ls'.length : Int)), δ.2).1 wp 11 = δ.1 wp 11 ∧ (u2 δ.1 wp 8 (ii (ls'.length : Int)), δ.2).1 wp 10 = δ.1 wp 10 := ⟨by simp (disch := omega) only [u2, if_neg], by simp (disch := omega) only [u2, if_neg]⟩
    generalize (u2 δ.1 wp 8 (ii (ls'.length : Int)), δ.2) = d1 at F1 e1 t8 t9 t11
    have hb : ∀ r, blk (wp + 390 + 24 * ls'.length + 13) 4 r → wp + 390 + 24 * ls'.length + 13 ≤ r ∧ r < wp + 390 + 24 * ls'.length + 17 := fun r p => by unfold blk at p; omega
    obtain ⟨⟨p0, ⟨p1, p2, p3, p4, p5, -⟩, -⟩, pq1, pq2, pq3, pq4, -⟩ := (kL ls'.length h4').2
    obtain ⟨-, -, -, -, rq4, -⟩ := (kL (ls'.length + 1) h4).2
    obtain ⟨⟨q1, q2, q3, q4⟩, hin, hL3'⟩ := hL3
    obtain ⟨d2, e2, s2, F2⟩ := t_qaddAll pq4 rq4 (by omega) (RQ_of_Fr q4 F1 (fun r _ _ => by omega)) (RQ_of_Fr hL1.2.2.2 F1 (fun r _ _ => by omega)) (by show (l_nx l').length + (l_nx l ++ unlL E (v_S (w_V W)) (l_w l)).length ≤ 60; rw [List.length_append]; omega)
    have F12 : Fr (fun r => r = wp ∨ (wp + 390 + 24 * ls'.length + 13 ≤ r ∧ r < wp + 390 + 24 * ls'.length + 17)) δ d2 := (F1.wk (fun r p => by omega)).tr (F2.wk (fun r p => by have := hb r p; omega))
    have hlv : RLv1 d2 (wp + 390 + 24 * ls'.length) (l_q l', l_w l', l_as l', l_nx l' ++ (l_nx l ++ unlL E (v_S (w_V W)) (l_w l)), l'.2.2.2.2) := ⟨RQ_of_Fr q1 F12 (fun r _ _ p => by omega), RQ_of_Fr q2 F12 (fun r _ _ p => by omega), RQ_of_Fr q3 F12 (fun r _ _ p => by omega), s2⟩
    have hin' : ls'.length = 0 ∨ RLin d2 (wp + 390 + 24 * ls'.length) base (l_q l', l_w l', l_as l', l_nx l' ++ (l_nx l ++ unlL E (v_S (w_V W)) (l_w l)), l'.2.2.2.2) := hin.imp id (fun k => RLin_of_Fr (l := l') k F12 (fun p => by omega) (fun r _ _ p => by omega))
    have h9 : d2.1 wp 9 = δ.1 wp 9 := by rw [(F2 wp (fun p => by have := hb _ p; omega)).1]; exact t9
    have h11 : d2.1 wp 11 = δ.1 wp 11 ∧ d2.1 wp 10 = δ.1 wp 10 := by rw [(F2 wp (fun p => by have := hb _ p; omega)).1]; exact t11
    have h8 : d2.1 wp 8 = ii ((((l_q l', l_w l', l_as l', l_nx l' ++ (l_nx l ++ unlL E (v_S (w_V W)) (l_w l)), l'.2.2.2.2) :: ls').length : Int) - 1) := by
      rw [(F2 wp (fun p => by have := hb _ p; omega)).1, t8]
      exact congrArg ii (by show (ls'.length : Int) = ((ls'.length : Int) + 1) - 1; omega)
    refine ⟨d2, RWo_lvs (W := w_setlv W ((l_q l, l_w l, l_as l, l_nx l ++ unlL E (v_S (w_V W)) (l_w l), l.2.2.2.2) :: l' :: ls')) hR hv F12 (fun r p => by omega) h9 h11 h8 ⟨hlv, hin', RLs_of_Fr F12 hL3' (fun r p1 p2 p => by omega)⟩ (fun j hj => ?_), F12.wk (fun r p => by unfold PWo; omega), fun h => absurd h (by omega), fun _ => ?_⟩
    · by_cases hj2 : j = ls'.length
      · rw [hj2]
        exact RLany_q (hR.2.2.2.2.1 _ h4') hlv F12 (fun r _ _ p => by omega)
      · exact RLany_of_Fr (hR.2.2.2.2.1 j hj) F12 (fun r _ _ p => by omega)
    · rw [e1, ob_some, gI_ko k0, ob_some, t8, hrl h4', ob_some, gR_ko p0 p4, ob_some, chk_ko pq4.1, ob_some, e2, ob_some]
theorem unl_take {S : Sto} {w : List Ag} {z : Nat} {a : Ag} (h : w[z]? = some a) : unlL E S (w.take (z + 1)) = unlL E S (w.take z) ++ (if (decide (e_kd E a.1 = 10) && !entA E S a a.1) = true then [(e_on E a.1, a.2)] else []) := by
  unfold unlL
  rw [(take_filt (P := fun a => decide (e_kd E a.1 = 10) && !entA E S a a.1) h).1, List.map_append]
  congr 1
  split <;> rfl
theorem t_fin56 (hK : KWo σ wp nd ro) (hE : REn δ nd ro wp E) (gE : GE E) (hG : GW E base st W) (hl : w_lv W = l :: ls) (hR : RWo δ wp base (e_md E) W) (hnx0 : (l_nx l).length + (l_w l).length ≤ 60) (hnx : ∀ l' ls', ls = l' :: ls' → (l_nx l').length + (l_nx l).length + (unlL E (v_S (w_V W)) (l_w l)).length ≤ 60) (hac : (l_as l).any (fun a => entA E (v_S (w_V W)) a a.1) = false) : Ok (m_X10_finish_b56 σ wp (wp + 390 + 24 * ls.length) (ii 0) δ) (fun d => RWo d wp base (e_md E) (finishW E W l ls) ∧ Fr (PWo wp) δ d) := by
  have hK' := hK
  obtain ⟨⟨l1, l2⟩, k0, ⟨k1, k2, k3, k4, k5, k6, k7, k8⟩, ⟨c0, ⟨c1, c2, c3, c4, c5, c6⟩, d1, d2, d3, d4, d5, d6⟩, -, kS, kW, kD, kdf, ktk, klv, kA, kL⟩ := hK
  have hv := GW_frl hG
  have hlen4 := hG.2.2.2.2.2.2.1
  have hlen4' := hlen4
  rw [hl] at hlen4
  have h4 : ls.length < 4 := hlen4
  obtain ⟨⟨p0, ⟨p1, p2, p3, p4, p5, -⟩, -⟩, pq1, pq2, pq3, pq4, -⟩ := (kL ls.length h4).2
  have hgl := hG.2.2.2.2.1 l (by rw [hl]; exact List.mem_cons_self)
  unfold m_X10_finish_b56
  refine Ok_for (fun z s => s.1 = ii z ∧ RWo s.2 wp base (e_md E) (w_setlv W (finZ E (v_S (w_V W)) l z.toNat :: ls)) ∧ Fr (PWo wp) δ s.2 ∧ Fr (fun r => wp ≤ r ∧ ¬ r = wp + 13) δ s.2) 0 (l_w l).length (by omega) (by omega) ?_ ?_ ⟨rfl, ?_, Fr.rf, Fr.rf⟩
  · rintro z ⟨s1, d⟩ z0 z1 ⟨hs1, hRd, hFd, hFd2⟩
    dsimp only at hs1 hRd hFd hFd2 ⊢
    subst hs1
    obtain ⟨⟨q1, q2, q3, q4⟩, hin, -⟩ : RLv1 d (wp + 390 + 24 * ls.length) (finZ E (v_S (w_V W)) l z.toNat) ∧ _ ∧ RLs d wp base ls := hRd.2.2.2.1
    have hsz : d.1 (wp + 390 + 24 * ls.length + 5) 4 = ii (l_w l).length := q2.2.1
    obtain ⟨a, ha⟩ : ∃ a, (l_w l)[z.toNat]? = some a := ⟨_, List.getElem?_eq_getElem (by omega)⟩
    have hga := hgl.2.1 a (List.mem_of_getElem? ha)
    obtain ⟨dd, e1, hH1, F1⟩ := t_qread pq2 kA (by omega) q2 ha
    have e1' : m_X1_read σ (wp + 390 + 24 * ls.length + 5) (ii z) (wp + 16) d = some dd := by
      rw [← e1]
      exact congrArg (fun x => m_X1_read σ (wp + 390 + 24 * ls.length + 5) (ii x) (wp + 16) d) (by omega)
    have hb1 : ∀ r, blk (wp + 16) 2 r → wp + 16 ≤ r ∧ r < wp + 18 := fun r p => by unfold blk at p; omega
    have hR1 : RWo dd wp base (e_md E) (w_setlv W (finZ E (v_S (w_V W)) l z.toNat :: ls)) := RWo_of_Fr hRd h4 hv F1 (fun r p1 p2 p3 p4 p5 p6 p => by have := hb1 r p; omega)
    have F01 := hFd.tr (PWo_blk (wp := wp) (by omega) (by omega) (by omega) F1)
    have F02 := hFd2.tr (F1.wk (P' := fun r => wp ≤ r ∧ ¬ r = wp + 13) (fun r p => by have := hb1 r p; omega))
    have hE1 : REn dd nd ro wp E := REn_PW hK' hE gE.2.1.2 F02 (fun r p => p)
    obtain ⟨n1, n2, n3, n4, n5, n6⟩ := hE1.1.2 a.1 hga.1
    have hn1 := hH1.1
    have gct := gE.1
    have hnn : 0 ≤ a.1 ∧ a.1 < e_ct E := hga.1
    have hk := (gE.2.2.2.2 a.1 hga.1).1
    have hz1 : (z + 1).toNat = z.toNat + 1 := by omega
    have hut := unl_take (E := E) (S := v_S (w_V W)) ha
    by_cases h10 : e_kd E a.1 = 10
    · have es := t_entA hK' hE1.1 gE (S := v_S (w_V W)) hR1.1.1 hG.1.1 hH1 hga.2 hga.1 (Or.inr (Or.inl h10))
      cases hen : entA E (v_S (w_V W)) a a.1 with
      | true =>
        rw [hen] at es hut
        have hlv : finZ E (v_S (w_V W)) l (z + 1).toNat = finZ E (v_S (w_V W)) l z.toNat := by
          unfold finZ
          rw [hz1, hut, if_neg (by rw [Bool.not_true, Bool.and_false]; decide), List.append_nil]
        refine Ok_inl (s' := (ii (z + 1), dd)) ?_ ⟨rfl, by rw [hlv]; exact hR1, F01, F02⟩
        have hnz : ¬ (bi true = ii 0) := by decide
        simp (disch := omega) only [gR_ko p0 p2, gI_ko pq2.1, hsz, ob_some, ii_le, if_neg, gR_ko k0 k8, chk_ko pq2.1, e1', gR_ko k0 k1, gR_ko c0 c1, gI_ko kA.1, hn1, rI_kd d1, n1, h10, ii_lit, ↓reduceIte, chk_ko k0, es, hnz, m_X10_finish_b139, ii_add]
      | false =>
        rw [hen] at es hut
        have hlv : finZ E (v_S (w_V W)) l (z + 1).toNat = nAdd (finZ E (v_S (w_V W)) l z.toNat) (e_on E a.1, a.2) := by
          unfold finZ nAdd
          rw [hz1, hut, if_pos (by rw [decide_eq_true h10]; rfl), ← List.append_assoc]
        have hnl : (l_nx (finZ E (v_S (w_V W)) l z.toNat)).length < 60 := by
          show (l_nx l ++ unlL E (v_S (w_V W)) ((l_w l).take z.toNat)).length < 60
          have h9 : (unlL E (v_S (w_V W)) ((l_w l).take z.toNat)).length ≤ ((l_w l).take z.toNat).length := by
            unfold unlL
            rw [List.length_map]
            exact List.length_filter_le _ _
          rw [List.length_take] at h9
          rw [List.length_append]
          omega
        obtain ⟨dA, eA, hRA, hHA, FA⟩ := t_addN (l := finZ E (v_S (w_V W)) l z.toNat) (ls := ls) hK' hR1 rfl h4 hv hH1 hnl (n := e_on E a.1)
        have hbA : ∀ r, blk (wp + 390 + 24 * ls.length + 13) 4 r → wp + 390 + 24 * ls.length + 13 ≤ r ∧ r < wp + 390 + 24 * ls.length + 17 := fun r p => by unfold blk at p; omega
        refine Ok_inl (s' := (ii (z + 1), dA)) ?_ ⟨rfl, by rw [hlv]; exact hRA, F01.tr (PWo_blk (by omega) (by omega) (by omega) FA), F02.tr (FA.wk (fun r p => by have := hbA r p; omega))⟩
        simp (disch := omega) only [gR_ko p0 p2, gI_ko pq2.1, hsz, ob_some, ii_le, if_neg, gR_ko k0 k8, chk_ko pq2.1, e1', gR_ko k0 k1, gR_ko c0 c1, gI_ko kA.1, hn1, rI_kd d1, n1, h10, ii_lit, ↓reduceIte, chk_ko k0, es, bi_f, gR_ko p0 p4, gR_ko c0 c5, rI_kd d5, n5, chk_ko pq4.1, eA, m_X10_finish_b139, ii_add]
    · have hlv : finZ E (v_S (w_V W)) l (z + 1).toNat = finZ E (v_S (w_V W)) l z.toNat := by
        unfold finZ
        rw [hz1, hut, decide_eq_false h10, if_neg (by rw [Bool.false_and]; decide), List.append_nil]
      refine Ok_inl (s' := (ii (z + 1), dd)) ?_ ⟨rfl, by rw [hlv]; exact hR1, F01, F02⟩
      simp (disch := omega) only [gR_ko p0 p2, gI_ko pq2.1, hsz, ob_some, ii_le, if_neg, gR_ko k0 k8, chk_ko pq2.1, e1', gR_ko k0 k1, gR_ko c0 c1, gI_ko kA.1, hn1, rI_kd d1, n1, ii_eq, ii_lit, m_X10_finish_b139, ii_add]
  · rintro ⟨s1, d⟩ ⟨hs1, hRd, hFd, hFd2⟩
    dsimp only at hs1 hRd hFd hFd2 ⊢
    subst hs1
    rw [Int.toNat_natCast] at hRd
    have hsz : d.1 (wp + 390 + 24 * ls.length + 5) 4 = ii (l_w l).length := hRd.2.2.2.1.1.2.1.2.1
    have h8 : d.1 wp 8 = ii ((((l :: ls).length : Nat) : Int) - 1) := hRd.2.2.2.2.2.1
    have h8' : d.1 wp 8 = ii (ls.length : Int) := by rw [h8]; exact congrArg ii (by show ((ls.length : Int) + 1) - 1 = _; omega)
    obtain ⟨D, b1, b2, b3⟩ := t_finEnd hK' hG hl hRd hnx hac rfl (by omega) (f := fun _ => none)
    refine Ok_inr (r := D) ?_ ⟨b1, hFd.tr b2⟩
    by_cases hz : ls.length = 0
    · rw [← b3.1 hz]
      simp (disch := omega) only [gR_ko p0 p2, gI_ko pq2.1, hsz, ob_some, ii_le, if_pos, gI_ko k0, h8', ii_lit, gR_ko k0 k2, chk_ko kS.1]
    · rw [← b3.2 hz]
      simp (disch := omega) only [gR_ko p0 p2, gI_ko pq2.1, hsz, ob_some, ii_le, if_pos, if_neg, gI_ko k0, h8', ii_lit, ii_sub, gR_ko k0 k7, gR_ko p0 p4]
  · have e : finZ E (v_S (w_V W)) l (0 : Int).toNat = l := by
      show (l_q l, l_w l, l_as l, l_nx l ++ [], l.2.2.2.2) = l
      rw [List.append_nil]
    rw [e, w_setlv_self hl]
    exact hR
theorem t_finish (hK : KWo σ wp nd ro) (hE : REn δ nd ro wp E) (gE : GE E) (hG : GW E base st W) (hl : w_lv W = l :: ls) (hR : RWo δ wp base (e_md E) W) (hnx0 : (l_nx l).length + (l_w l).length ≤ 60) (hnx : ∀ l' ls', ls = l' :: ls' → (l_nx l').length + (l_nx l).length + (unlL E (v_S (w_V W)) (l_w l)).length ≤ 60) : Ok (m_X10_finish σ wp (wp + 390 + 24 * ls.length) δ) (fun d => RWo d wp base (e_md E) (finishW E W l ls) ∧ Fr (PWo wp) δ d) := by
  have hK' := hK
  obtain ⟨⟨l1, l2⟩, k0, ⟨k1, k2, k3, k4, k5, k6, k7, k8⟩, ⟨c0, ⟨c1, c2, c3, c4, c5, c6⟩, d1, d2, d3, d4, d5, d6⟩, -, kS, kW, kD, kdf, ktk, klv, kA, kL⟩ := hK
  have hv := GW_frl hG
  have hlen4 := hG.2.2.2.2.2.2.1
  have hlen4' := hlen4
  rw [hl] at hlen4
  have h4 : ls.length < 4 := hlen4
  obtain ⟨⟨p0, ⟨p1, p2, p3, p4, p5, -⟩, -⟩, pq1, pq2, pq3, pq4, -⟩ := (kL ls.length h4).2
  have hgl := hG.2.2.2.2.1 l (by rw [hl]; exact List.mem_cons_self)
  have hasl : (l_as l).length ≤ 60 := by
    have hRl := hR.2.2.2.1
    rw [hl] at hRl
    exact hRl.1.2.2.1.2.2.1
  unfold m_X10_finish m_X10_finish_b2
  refine Ok_for (fun z s => s.1 = ii z ∧ RWo s.2 wp base (e_md E) W ∧ (∀ j, j < z.toNat → ∀ b, (l_as l)[j]? = some b → entA E (v_S (w_V W)) b b.1 = false) ∧ Fr (PWo wp) δ s.2 ∧ Fr (fun r => wp ≤ r ∧ ¬ r = wp + 13) δ s.2) 0 (l_as l).length (by omega) (by omega) ?_ ?_ ⟨rfl, hR, fun j hj => by rw [Int.toNat_zero] at hj; omega, Fr.rf, Fr.rf⟩
  · rintro z ⟨s1, d⟩ z0 z1 ⟨hs1, hRd, hno, hFd, hFd2⟩
    dsimp only at hs1 hRd hno hFd hFd2 ⊢
    subst hs1
    have hRl := hRd.2.2.2.1
    rw [hl] at hRl
    obtain ⟨⟨q1, q2, q3, q4⟩, hin, -⟩ := hRl
    have hsz := q3.2.1
    obtain ⟨a, ha⟩ : ∃ a, (l_as l)[z.toNat]? = some a := ⟨_, List.getElem?_eq_getElem (by omega)⟩
    have ham := List.mem_of_getElem? ha
    have hga := hgl.2.2.1 a ham
    have h11 := hgl.2.2.2.2 a ham
    obtain ⟨dd, e1, hH1, F1⟩ := t_qread pq3 kA (by omega) q3 ha
    have e1' : m_X1_read σ (wp + 390 + 24 * ls.length + 9) (ii z) (wp + 16) d = some dd := by
      rw [← e1]
      exact congrArg (fun x => m_X1_read σ (wp + 390 + 24 * ls.length + 9) (ii x) (wp + 16) d) (by omega)
    have hb1 : ∀ r, blk (wp + 16) 2 r → wp + 16 ≤ r ∧ r < wp + 18 := fun r p => by unfold blk at p; omega
    have hR1 : RWo dd wp base (e_md E) W := RWo_of_Fr hRd hlen4' hv F1 (fun r p1 p2 p3 p4 p5 p6 p => by have := hb1 r p; omega)
    have F01 := hFd.tr (PWo_blk (wp := wp) (by omega) (by omega) (by omega) F1)
    have F02 := hFd2.tr (F1.wk (P' := fun r => wp ≤ r ∧ ¬ r = wp + 13) (fun r p => by have := hb1 r p; omega))
    have hE1 : REn dd nd ro wp E := REn_PW hK' hE gE.2.1.2 F02 (fun r p => p)
    have hn1 := hH1.1
    have es := t_entA hK' hE1.1 gE hR1.1.1 hG.1.1 hH1 hga.2 hga.1 (Or.inr (Or.inr h11))
    cases hen : entA E (v_S (w_V W)) a a.1 with
    | true =>
      rw [hen] at es
      have hany : (l_as l).any (fun a => entA E (v_S (w_V W)) a a.1) = true := List.any_eq_true.mpr ⟨a, ham, hen⟩
      have hF3 : Fr (blk (wp + 1) 10) dd (u2 dd.1 (wp + 1) 12 (bi true), dd.2) := Fr_u2 (by unfold blk; omega)
      have hb3 : ∀ r, blk (wp + 1) 10 r → wp + 1 ≤ r ∧ r < wp + 11 := fun r p => by unfold blk at p; omega
      have hV := RVv_st hR1.1 (by omega) hF3 (RS_wfl hR1.1.1 (v := true)) (by show v_ac (w_V W) ≤ v_ac (w_V W); omega)
      refine Ok_inr (r := (u2 dd.1 (wp + 1) 12 (bi true), dd.2)) ?_ ⟨?_, F01.tr (PWo_blk (by omega) (by omega) (by omega) hF3)⟩
      · have hnz : ¬ (bi true = ii 0) := by decide
        have epz : pZ σ dd 8 (wp + 1) 12 (ii 1) = some (u2 dd.1 (wp + 1) 12 (bi true), dd.2) := pZ_ko kS.1 (Or.inr rfl)
        simp (disch := omega) only [gR_ko p0 p3, gI_ko pq3.1, hsz, ob_some, ii_le, if_neg, gR_ko k0 k8, chk_ko pq3.1, e1', gI_ko kA.1, hn1, ii_lit, chk_ko k0, es, hnz, ↓reduceIte, gR_ko k0 k2, epz]
      · unfold finishW
        rw [if_pos hany]
        exact RWo_V hR1 hlen4' hF3 (fun r p => by have := hb3 r p; omega) hV
    | false =>
      rw [hen] at es
      refine Ok_inl (s' := (ii (z + 1), dd)) ?_ ⟨rfl, hR1, fun j hj b hb => ?_, F01, F02⟩
      · simp (disch := omega) only [gR_ko p0 p3, gI_ko pq3.1, hsz, ob_some, ii_le, if_neg, gR_ko k0 k8, chk_ko pq3.1, e1', gI_ko kA.1, hn1, ii_lit, chk_ko k0, es, bi_f, ↓reduceIte, ii_add]
      · by_cases hj2 : j = z.toNat
        · subst hj2
          rw [ha] at hb
          cases hb
          exact hen
        · exact hno j (by omega) b hb
  · rintro ⟨s1, d⟩ ⟨hs1, hRd, hno, hFd, hFd2⟩
    dsimp only at hs1 hRd hno hFd hFd2 ⊢
    subst hs1
    have hRl := hRd.2.2.2.1
    rw [hl] at hRl
    have hsz := hRl.1.2.2.1.2.1
    have hany : (l_as l).any (fun a => entA E (v_S (w_V W)) a a.1) = false := by
      rw [List.any_eq_false]
      intro a ham
      obtain ⟨j, hj⟩ := List.getElem?_of_mem ham
      rw [hno j (by have := (List.getElem?_eq_some_iff.mp hj).1; omega) a hj]
      decide
    obtain ⟨D, eD, b1, b2⟩ := t_fin56 hK' (REn_PW hK' hE gE.2.1.2 hFd2 (fun r p => p)) gE hG hl hRd hnx0 hnx hany
    refine Ok_inr (r := D) ?_ ⟨b1, hFd.tr b2⟩
    simp (disch := omega) only [gR_ko p0 p3, gI_ko pq3.1, hsz, ob_some, ii_le, if_pos, ii_lit, eD]
end
