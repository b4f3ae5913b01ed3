/-! THE WORLD in the class: taking an agent; what can go on -/
section
variable {σ : St} {δ : Dy} {wp nd ro base : Nat} {E : Ev} {W : Wo} {S : Sto} {ac : Int} {fl : Bool} {a : Ag} {l : Lv} {ls : List Lv} {st : Int} {made : Int}
theorem HA_of (hE : GE E) (hG : GW E base st W) (hf : v_fl (w_V W) = false) (hn : (v_fr (w_V W)).length = 0) (ho : w_ov W = false) (hl : w_lv W = l :: ls) {lg : List Int} (h1 : (lg.length : Int) ≤ v_ac (w_V W) + 1) {i : Nat} (ha : (l_q l)[i]? = some a) (c : v_ac (w_V W) < 60) : HA E base st (v_setac (w_V W) (v_ac (w_V W) + 1), w_x W, w_pw W, w_tk W, w_lv W, w_ov W, w_cs W, lg) (dropQ l i) ls a := by
  obtain ⟨V, x, pw, tk, lv, ov, ck, lg0⟩ := W
  obtain ⟨g1, g2, g3, g4, g5, g6, g7, g8, g9, g10, g11⟩ := hG
  dsimp only [w_V, w_x, w_pw, w_tk, w_lv, w_ov, w_cs, w_ck, w_sp, w_lg] at *
  subst hl
  subst ho
  rw [if_neg (by decide)] at g9
  have hfr : v_fr V = [] := List.length_eq_zero_iff.mp hn
  have hi := (List.getElem?_eq_some_iff.mp ha).1
  have hgl := g5 _ List.mem_cons_self
  have hga := hgl.1 a (List.mem_of_getElem? ha)
  have hlen : ((l_q (dropQ l i)).length : Int) = (l_q l).length - 1 := by
    show (((l_q l).eraseIdx i).length : Int) = _
    rw [List.length_eraseIdx_of_lt hi]; omega
  have hsub : ∀ b ∈ l_q (dropQ l i), b ∈ l_q l := fun b hb => (List.eraseIdx_sublist (l_q l) i).subset hb
  have hgd : gLv E (v_S V) (dropQ l i) := ⟨gAs_sub hgl.1 hsub, hgl.2⟩
  have hgall : ∀ m ∈ dropQ l i :: ls, gLv E (v_S V) m := fun m hm => by
    rcases List.mem_cons.mp hm with rfl | hm
    · exact hgd
    · exact g5 m (List.mem_cons_of_mem _ hm)
  have e1 : m1L (dropQ l i :: ls) = m1L (l :: ls) - 1 := by
    show m1L ls + ((l_q (dropQ l i)).length : Int) + (l_w l).length = m1L ls + (l_q l).length + (l_w l).length - 1
    omega
  have e2 : m2L (dropQ l i :: ls) = m2L (l :: ls) := rfl
  have g8' : m1L (l :: ls) + ((ls.length : Int) + 1) ≤ 61 + v_ac V := g8
  refine ⟨⟨hE, rfl⟩, ?_, hfr, hf, g2, g3, fun z => ?_, fun j => ?_, hga, hgall, gLs_head g6 rfl, g7, ?_, ?_, ?_⟩
  · obtain ⟨p1, p2, p3, p4, p5, p6, p7, p8⟩ := g1
    exact ⟨p1, ⟨by show 0 ≤ v_ac V + 1; omega, by show v_ac V + 1 ≤ 60; omega⟩, p3, p4, p5, p6, by show nBo (v_fr V) ≤ v_ac V + 1; omega, p8⟩
  · have := g4 z
    show 0 ≤ tk z ∧ tk z + 1 ≤ st + (v_ac V + 1)
    omega
  · have := g11 j
    show -(4 * (st + (v_ac V + 1) - 1)) ≤ pw j ∧ pw j ≤ 4 * (st + (v_ac V + 1) - 1)
    omega
  · show m1L (dropQ l i :: ls) + ((ls.length : Int) + 1) ≤ 59 + (v_ac V + 1)
    omega
  · show m2L (dropQ l i :: ls) + 1 ≤ v_ac V + 1
    omega
  · show (lg.length : Int) ≤ v_ac V + 1
    exact h1
theorem GW_frl (hG : GW E base st W) : (v_fr (w_V W)).length ≤ 183 := by
  have h1 := okF_len hG.1.2.2.2.2.2.1
  have h2 := hG.1.2.2.2.2.2.2.1
  have h3 := hG.1.2.1
  omega
theorem t_actAt (hK : KWo σ wp nd ro) (hE : REn δ nd ro wp E) (gE : GE E) (hG : GW E base st W) (htk : st ≤ 90000) (hf : v_fl (w_V W) = false) (hn : (v_fr (w_V W)).length = 0) (ho : w_ov W = false) (hl : w_lv W = l :: ls) (hR : RWo δ wp base (e_md E) W) {lg : List Int} (h1 : (lg.length : Int) ≤ v_ac (w_V W) + 1) {i : Nat} (hi : i < (l_q l).length) : Ok (m_X10_act σ wp (wp + 390 + 24 * ls.length) (ii i) δ) (fun d => RWo d wp base (e_md E) (actAt E (w_V W, w_x W, w_pw W, w_tk W, w_lv W, w_ov W, w_cs W, lg) l ls i) ∧ Fr (PWo wp) δ d) := by
  have hK' := hK
  obtain ⟨⟨l1, l2⟩, k0, ⟨k1, k2, k3, k4, k5, k6, k7, k8⟩, -, -, kS, kW, kD, kdf, ktk, klv, kA, kL⟩ := hK
  have hv := GW_frl hG
  have hlen4 := hG.2.2.2.2.2.2.1
  have hlen4' := hlen4
  rw [hl] at hlen4
  have h4 : ls.length < 4 := hlen4
  obtain ⟨⟨p0, ⟨p1, p2, p3, p4, p5, -⟩, -⟩, pq1, pq2, pq3, pq4, -⟩ := (kL ls.length h4).2
  obtain ⟨a, ha⟩ : ∃ a, (l_q l)[i]? = some a := ⟨_, List.getElem?_eq_getElem hi⟩
  have hRl := hR.2.2.2.1
  rw [hl] at hRl
  obtain ⟨⟨c1, c2, c3, c4⟩, hin, -⟩ := hRl
  obtain ⟨d1, e1, hH1, F1⟩ := t_qread pq1 kA (by omega) c1 ha
  have hb1 : ∀ r, blk (wp + 16) 2 r → wp + 16 ≤ r ∧ r < wp + 18 := fun r p => by unfold blk at p; omega
  obtain ⟨d2, e2, s1, F2⟩ := t_qdrop pq1 (RQ_of_Fr c1 F1 (fun r _ _ p => by have := hb1 r p; omega)) hi
  have hb2 : ∀ r, blk (wp + 390 + 24 * ls.length + 1) 4 r → wp + 390 + 24 * ls.length + 1 ≤ r ∧ r < wp + 390 + 24 * ls.length + 5 := fun r p => by unfold blk at p; omega
  have F12 : Fr (fun r => (wp + 16 ≤ r ∧ r < wp + 18) ∨ (wp + 390 + 24 * ls.length + 1 ≤ r ∧ r < wp + 390 + 24 * ls.length + 5)) δ d2 := (F1.wk (fun r p => by have := hb1 r p; omega)).tr (F2.wk (fun r p => by have := hb2 r p; omega))
  have hq1 : RLv1 d2 (wp + 390 + 24 * ls.length) (dropQ l i) := ⟨s1, RQ_of_Fr c2 F12 (fun r _ _ p => by omega), RQ_of_Fr c3 F12 (fun r _ _ p => by omega), RQ_of_Fr c4 F12 (fun r _ _ p => by omega)⟩
  have hR2 : RWo d2 wp base (e_md E) (w_setlv W (dropQ l i :: ls)) := RWo_top hR hl h4 hv F12 (fun r p => by omega) hq1 (hin.imp id (fun k => RLin_of_Fr (l := l) k F12 (fun p => by omega) (fun r _ _ p => by omega))) (RLany_q (hR.2.2.2.2.1 _ h4) hq1 F12 (fun r _ _ p => by omega))
  have hH2 : RA d2 (wp + 16) a := RA_of_Fr hH1 F2 (fun p => by have := hb2 _ p; omega) (fun p => by have := hb2 _ p; omega)
  obtain ⟨⟨v, d3⟩, e3, x1, x2, x3⟩ := t_mayAct kS (show RS d2 (wp + 1) (v_S (w_V W)) (v_ac (w_V W)) (v_fl (w_V W)) from hR2.1.1) hG.1.2.1.1 hG.1.2.1.2
  dsimp only at x1 x2 x3
  subst x1
  have hb3 : ∀ r, blk (wp + 1) 10 r → wp + 1 ≤ r ∧ r < wp + 11 := fun r p => by unfold blk at p; omega
  have F13 : Fr (PWo wp) δ d3 := (F12.wk (fun r p => by unfold PWo; omega)).tr (PWo_blk (by omega) (by omega) (by omega) x3)
  have hb : m_X10_act σ wp (wp + 390 + 24 * ls.length) (ii i) δ = (if bi (decide (v_ac (w_V W) < 60)) = 0 then some d3 else actD σ wp (wp + 390 + 24 * ls.length) (wp + 390 + 24 * ls.length + 1) d3) := by
    rw [act_D]
    simp (disch := omega) only [gR_ko p0 p1, gR_ko k0 k8, chk_ko pq1.1, e1, e2, gR_ko k0 k2, chk_ko kS.1, e3, ob_some]
  rw [hb]
  unfold actAt
  rw [ha]
  show Ok _ (fun d => RWo d wp base (e_md E) (if v_ac (w_V W) < 60 then _ else _) ∧ _)
  by_cases c : v_ac (w_V W) < 60
  · rw [if_pos c, if_pos c] at x2
    rw [if_pos c]
    rw [decide_eq_true c, if_neg (by decide)]
    have hH := HA_of gE hG hf hn ho hl h1 ha c
    have hV3 := RVv_st hR2.1 (by omega) x3 x2 (by show v_ac (w_V W) ≤ v_ac (w_V W) + 1; omega)
    have hR3 : RWo d3 wp base (e_md E) (w_setlv (v_setac (w_V W) (v_ac (w_V W) + 1), w_x W, w_pw W, w_tk W, w_lv W, w_ov W, w_cs W, lg) (dropQ l i :: ls)) := RWo_V hR2 h4 x3 (fun r p => by have := hb3 r p; omega) hV3
    have hH3 : RA d3 (wp + 16) a := RA_of_Fr hH2 x3 (fun p => by have := hb3 _ p; omega) (fun p => by have := hb3 _ p; omega)
    have hE3 : REn d3 nd ro wp E := REn_PW hK' hE gE.2.1.2 ((F12.wk (P' := fun r => wp ≤ r ∧ ¬ r = wp + 13) (fun r p => by omega)).tr (x3.wk (fun r p => by have := hb3 r p; omega))) (fun r p => p)
    obtain ⟨D, eD, b1, b2⟩ := t_actE hK' hE3 hH htk hR3 hH3
    refine ⟨D, ?_, b1, F13.tr b2⟩
    rw [actD_E hK' hE3.1 gE (S := v_S (w_V W)) hG.1.1 hH3 hH.2.2.2.2.2.2.2.2.1]
    exact eD
  · rw [if_neg c, if_neg c] at x2
    rw [if_neg c]
    rw [decide_eq_false c, if_pos (show bi false = 0 from rfl)]
    have hV3 := RVv_st hR2.1 (by omega) x3 x2 (by show v_ac (w_V W) ≤ v_ac (w_V W); omega)
    exact ⟨d3, rfl, RWo_V hR2 h4 x3 (fun r p => by have := hb3 r p; omega) hV3, F13⟩
theorem take_filt {α : Type} {P : α → Bool} {w : List α} {z : Nat} {a : α} (h : w[z]? = some a) : (w.take (z + 1)).filter P = (w.take z).filter P ++ (if P a = true then [a] else []) ∧ w.drop z = a :: w.drop (z + 1) := by
  have hl := (List.getElem?_eq_some_iff.mp h)
  obtain ⟨hz, hg⟩ := hl
  refine ⟨?_, ?_⟩
  · rw [List.take_succ, h, List.filter_append]
    congr 1
    show [a].filter P = _
    cases hp : P a with
    | true => rw [List.filter_cons, if_pos hp, if_pos rfl]; rfl
    | false => rw [List.filter_cons, if_neg (by rw [hp]; decide), if_neg (by decide)]; rfl
  · rw [List.drop_eq_getElem_cons hz, hg]
/-- the level while those that wait are gone through: z of them have been -/
def goOnZ (E : Ev) (S : Sto) (tk : Int → Int) (l : Lv) (z : Nat) : Lv := (l_q l ++ ((l_w l).take z).filter (canGo E S tk), ((l_w l).take z).filter (fun a => !canGo E S tk a) ++ (l_w l).drop z, l.2.2)
theorem t_goOn (hK : KWo σ wp nd ro) (hE : REn δ nd ro wp E) (gE : GE E) (hG : GW E base st W) (htk : st ≤ 90000) (hl : w_lv W = l :: ls) (hR : RWo δ wp base (e_md E) W) : Ok (m_X10_goOn σ wp (wp + 390 + 24 * ls.length) δ) (fun r => r.1 = bi (!decide ((goOnL E (v_S (w_V W)) (w_tk W) l).1.length = 0)) ∧ RWo r.2 wp base (e_md E) (w_setlv W (goOnL E (v_S (w_V W)) (w_tk W) l :: ls)) ∧ Fr (PWo wp) δ r.2 ∧ r.2.1 (wp + 13) = δ.1 (wp + 13)) := by
  have hK' := hK
  obtain ⟨⟨l1, l2⟩, k0, ⟨k1, k2, k3, k4, k5, k6, k7, k8⟩, -, -, kS, kW, kD, kdf, ktk, klv, kA, kL⟩ := hK
  have hv := GW_frl hG
  have hlen4 := hG.2.2.2.2.2.2.1
  have hlen4' := hlen4
  rw [hl] at hlen4
  have h4 : ls.length < 4 := hlen4
  obtain ⟨⟨p0, ⟨p1, p2, p3, p4, p5, -⟩, -⟩, pq1, pq2, pq3, pq4, -⟩ := (kL ls.length h4).2
  have hgl := hG.2.2.2.2.1 l (by rw [hl]; exact List.mem_cons_self)
  have hac := hG.1.2.1
  have hm1 := hG.2.2.2.2.2.2.2.1
  have htb := hG.2.2.2.1
  have hqw : (l_q l).length + (l_w l).length ≤ 120 := by
    have e1 : m1L (w_lv W) = m1L ls + (l_q l).length + (l_w l).length := by rw [hl]; rfl
    have e2 : ((w_lv W).length : Int) = (ls.length : Int) + 1 := by rw [hl]; rfl
    have := m1_nn ls
    omega
  have hwl : (l_w l).length ≤ 60 := by
    have hRl := hR.2.2.2.1
    rw [hl] at hRl
    exact hRl.1.2.1.2.2.1
  have hsz : δ.1 (wp + 390 + 24 * ls.length + 5) 4 = ii (l_w l).length := by
    have hRl := hR.2.2.2.1
    rw [hl] at hRl
    exact hRl.1.2.1.2.1
  unfold m_X10_goOn
  refine Ok_bind (gR_ko p0 p2) (Ok_bind (gI_ko pq2.1) ?_)
  rw [hsz]
  unfold m_X10_goOn_b13
  have hQ : ∀ d, RWo d wp base (e_md E) (w_setlv W (goOnZ E (v_S (w_V W)) (w_tk W) l (l_w l).length :: ls)) → RWo d wp base (e_md E) (w_setlv W (goOnL E (v_S (w_V W)) (w_tk W) l :: ls)) := by
    intro d h
    have e : goOnZ E (v_S (w_V W)) (w_tk W) l (l_w l).length = goOnL E (v_S (w_V W)) (w_tk W) l := by
      unfold goOnZ goOnL
      rw [List.take_length, List.drop_length, List.append_nil]
    rw [e] at h
    exact h
  refine Ok_for (fun z s => s.2.1 = ii ((l_w l).length - z) ∧ s.1 = ii (((l_w l).take z.toNat).filter (fun a => !canGo E (v_S (w_V W)) (w_tk W) a)).length ∧ RWo s.2.2 wp base (e_md E) (w_setlv W (goOnZ E (v_S (w_V W)) (w_tk W) l z.toNat :: ls)) ∧ Fr (PWo wp) δ s.2.2 ∧ Fr (fun r => wp ≤ r ∧ ¬ r = wp + 13) δ s.2.2) 0 (l_w l).length (by omega) (by omega) ?_ ?_ ⟨by rw [Int.sub_zero], rfl, ?_, Fr.rf, Fr.rf⟩
  · rintro z ⟨s1, s2, d⟩ z0 z1 ⟨hs2, hs1, hRd, hFd, hFd2⟩
    dsimp only at hs1 hs2 hRd hFd hFd2 ⊢
    subst hs1
    subst hs2
    obtain ⟨a, ha⟩ : ∃ a, (l_w l)[z.toNat]? = some a := ⟨_, List.getElem?_eq_getElem (by omega)⟩
    have hga := hgl.2.1 a (List.mem_of_getElem? ha)
    obtain ⟨t1, t2⟩ := take_filt (P := canGo E (v_S (w_V W)) (w_tk W)) ha
    obtain ⟨t3, -⟩ := take_filt (P := fun a => !canGo E (v_S (w_V W)) (w_tk W) a) ha
    have hz1 : (z + 1).toNat = z.toNat + 1 := by omega
    have hkl : (((l_w l).take z.toNat).filter (fun a => !canGo E (v_S (w_V W)) (w_tk W) a)).length ≤ z.toNat := by
      refine Nat.le_trans (List.length_filter_le _ _) ?_
      rw [List.length_take]; omega
    have hgl2 : (((l_w l).take z.toNat).filter (canGo E (v_S (w_V W)) (w_tk W))).length ≤ z.toNat := by
      refine Nat.le_trans (List.length_filter_le _ _) ?_
      rw [List.length_take]; omega
    have hRl := hRd.2.2.2.1
    obtain ⟨⟨c1, c2, c3, c4⟩, hin, -⟩ : RLv1 d (wp + 390 + 24 * ls.length) (goOnZ E (v_S (w_V W)) (w_tk W) l z.toNat) ∧ _ ∧ RLs d wp base ls := hRl
    have c2' : RQ d (wp + 390 + 24 * ls.length + 5) 60 (((l_w l).take z.toNat).filter (fun a => !canGo E (v_S (w_V W)) (w_tk W) a) ++ (l_w l).drop z.toNat) := c2
    have hget : (((l_w l).take z.toNat).filter (fun a => !canGo E (v_S (w_V W)) (w_tk W) a) ++ (l_w l).drop z.toNat)[(((l_w l).take z.toNat).filter (fun a => !canGo E (v_S (w_V W)) (w_tk W) a)).length]? = some a := by
      rw [List.getElem?_append_right (Nat.le_refl _), Nat.sub_self, t2]
      rfl
    obtain ⟨d1, e1, hH1, F1⟩ := t_qread pq2 kA (by omega) c2' hget
    have hb1 : ∀ r, blk (wp + 16) 2 r → wp + 16 ≤ r ∧ r < wp + 18 := fun r p => by unfold blk at p; omega
    have hR1 : RWo d1 wp base (e_md E) (w_setlv W (goOnZ E (v_S (w_V W)) (w_tk W) l z.toNat :: ls)) := RWo_of_Fr hRd h4 hv F1 (fun r p1 p2 p3 p4 p5 p6 p => by have := hb1 r p; omega)
    have hE1 : REn d1 nd ro wp E := REn_PW hK' hE gE.2.1.2 (hFd2.tr (F1.wk (fun r p => by have := hb1 r p; omega))) (fun r p => p)
    have hn1 := hH1.1
    have es := t_sideOf hK' hE1.1 gE hR1.1.1 hG.1.1 hH1 hga hR1.2.2.1 (fun z => by have := htb z; show 0 ≤ w_tk W z ∧ w_tk W z ≤ 100000; omega) hga.1
    have es' : m_X10_sideOf σ wp (ii a.1) d1 = some (ii (sideA E (v_S (w_V W)) (w_tk W) a a.1)) := es
    have hsr := sideA_rng (E := E) (S := v_S (w_V W)) (tk := w_tk W) (a := a) (n := a.1)
    have hr0 : ¬ ((l_w l).length : Int) - z ≤ 0 := by omega
    have F01 := hFd.tr (PWo_blk (wp := wp) (by omega) (by omega) (by omega) F1)
    have F02 := hFd2.tr (F1.wk (P' := fun r => wp ≤ r ∧ ¬ r = wp + 13) (fun r p => by have := hb1 r p; omega))
    by_cases hsd : sideA E (v_S (w_V W)) (w_tk W) a a.1 = -1
    · have hcan : canGo E (v_S (w_V W)) (w_tk W) a = false := by unfold canGo; rw [decide_eq_true hsd]; rfl
      rw [hsd] at es'
      have hlv : goOnZ E (v_S (w_V W)) (w_tk W) l (z + 1).toNat = goOnZ E (v_S (w_V W)) (w_tk W) l z.toNat := by
        unfold goOnZ
        rw [hz1, t1, t3, hcan, if_neg (by decide), if_pos (by rfl), List.append_nil, t2, List.append_assoc]
        rfl
      refine Ok_inl (s' := (ii ((((l_w l).take z.toNat).filter (fun a => !canGo E (v_S (w_V W)) (w_tk W) a)).length + 1), ii ((l_w l).length - (z + 1)), d1)) ?_ ⟨rfl, ?_, ?_, F01, F02⟩
      · simp (disch := omega) only [ii_lit, ii_neg, ii_le, if_neg, gR_ko k0 k8, chk_ko pq2.1, e1, ob_some, gI_ko kA.1, hn1, chk_ko k0, es', ↓reduceIte, m_X10_goOn_b71, ii_add]
        rw [show ((l_w l).length : Int) - z + -1 = (l_w l).length - (z + 1) by omega]
      · dsimp only
        rw [hz1, t3, hcan, if_pos (by rfl), List.length_append, List.length_singleton]
        rfl
      · rw [hlv]
        exact hR1
    · have hcan : canGo E (v_S (w_V W)) (w_tk W) a = true := by unfold canGo; rw [decide_eq_false hsd]; rfl
      have hl1 : ((goOnZ E (v_S (w_V W)) (w_tk W) l z.toNat).1).length < 120 := by
        show (l_q l ++ ((l_w l).take z.toNat).filter (canGo E (v_S (w_V W)) (w_tk W))).length < 120
        rw [List.length_append]
        omega
      obtain ⟨d2, e2, hR2, hH2, F2⟩ := t_addQ (l := goOnZ E (v_S (w_V W)) (w_tk W) l z.toNat) (ls := ls) hK' hR1 rfl h4 hv hH1 hl1 (n := a.1)
      have hb2 : ∀ r, blk (wp + 390 + 24 * ls.length + 1) 4 r → wp + 390 + 24 * ls.length + 1 ≤ r ∧ r < wp + 390 + 24 * ls.length + 5 := fun r p => by unfold blk at p; omega
      obtain ⟨⟨b1, b2, b3, b4⟩, hin2, -⟩ : RLv1 d2 (wp + 390 + 24 * ls.length) (qAdd (goOnZ E (v_S (w_V W)) (w_tk W) l z.toNat) (a.1, a.2)) ∧ _ ∧ RLs d2 wp base ls := hR2.2.2.2.1
      obtain ⟨d3, e3, hq3, F3⟩ := t_qdrop pq2 b2 (i := (((l_w l).take z.toNat).filter (fun a => !canGo E (v_S (w_V W)) (w_tk W) a)).length) (by
        show _ < (((l_w l).take z.toNat).filter (fun a => !canGo E (v_S (w_V W)) (w_tk W) a) ++ (l_w l).drop z.toNat).length
        rw [t2, List.length_append, List.length_cons]; omega)
      have hb3 : ∀ r, blk (wp + 390 + 24 * ls.length + 5) 4 r → wp + 390 + 24 * ls.length + 5 ≤ r ∧ r < wp + 390 + 24 * ls.length + 9 := fun r p => by unfold blk at p; omega
      have hlv : goOnZ E (v_S (w_V W)) (w_tk W) l (z + 1).toNat = (l_q l ++ ((l_w l).take z.toNat).filter (canGo E (v_S (w_V W)) (w_tk W)) ++ [(a.1, a.2)], (((l_w l).take z.toNat).filter (fun a => !canGo E (v_S (w_V W)) (w_tk W) a) ++ (l_w l).drop z.toNat).eraseIdx (((l_w l).take z.toNat).filter (fun a => !canGo E (v_S (w_V W)) (w_tk W) a)).length, l.2.2) := by
        unfold goOnZ
        rw [hz1, t1, t3, hcan, if_pos rfl, if_neg (by decide), List.append_nil, t2, List.eraseIdx_append_of_length_le (Nat.le_refl _), Nat.sub_self, List.append_assoc]
        rfl
      have hq3' : RLv1 d3 (wp + 390 + 24 * ls.length) (goOnZ E (v_S (w_V W)) (w_tk W) l (z + 1).toNat) := by
        rw [hlv]
        exact ⟨RQ_of_Fr b1 F3 (fun r _ _ p => by have := hb3 r p; omega), hq3, RQ_of_Fr b3 F3 (fun r _ _ p => by have := hb3 r p; omega), RQ_of_Fr b4 F3 (fun r _ _ p => by have := hb3 r p; omega)⟩
      have hR3 : RWo d3 wp base (e_md E) (w_setlv W (goOnZ E (v_S (w_V W)) (w_tk W) l (z + 1).toNat :: ls)) := by
        have hin3 : ls.length = 0 ∨ RLin d3 (wp + 390 + 24 * ls.length) base (goOnZ E (v_S (w_V W)) (w_tk W) l (z + 1).toNat) := by
          refine hin2.imp id (fun k => ?_)
          rw [hlv]
          exact RLin_of_Fr (l := qAdd (goOnZ E (v_S (w_V W)) (w_tk W) l z.toNat) (a.1, a.2)) k F3 (fun p => by have := hb3 _ p; omega) (fun r _ _ p => by have := hb3 r p; omega)
        exact RWo_top (W := w_setlv W (qAdd (goOnZ E (v_S (w_V W)) (w_tk W) l z.toNat) (a.1, a.2) :: ls)) hR2 rfl h4 hv F3 (fun r p => by have := hb3 r p; omega) hq3' hin3 (RLany_q (hR2.2.2.2.2.1 _ h4) hq3' F3 (fun r _ _ p => by have := hb3 r p; omega))
      have hn2 := hH1.1
      refine Ok_inl (s' := (ii (((l_w l).take z.toNat).filter (fun a => !canGo E (v_S (w_V W)) (w_tk W) a)).length, ii ((l_w l).length - (z + 1)), d3)) ?_ ⟨rfl, ?_, hR3, F01.tr ((PWo_blk (by omega) (by omega) (by omega) F2).tr (PWo_blk (by omega) (by omega) (by omega) F3)), F02.tr ((F2.wk (fun r p => by have := hb2 r p; omega)).tr (F3.wk (fun r p => by have := hb3 r p; omega)))⟩
      · have hne : ¬ ii (sideA E (v_S (w_V W)) (w_tk W) a a.1) = ii (-1) := by
          rw [ii_eq (by omega) (by omega) (by omega) (by omega)]; exact hsd
        simp (disch := omega) only [ii_lit, ii_neg, ii_le, if_neg, gR_ko k0 k8, chk_ko pq2.1, e1, ob_some, gI_ko kA.1, hn1, chk_ko k0, es', hne, ↓reduceIte, gR_ko p0 p1, chk_ko pq1.1, e2, e3, m_X10_goOn_b71, ii_add]
        rw [show ((l_w l).length : Int) - z + -1 = (l_w l).length - (z + 1) by omega]
      · dsimp only
        rw [hz1, t3, hcan, if_neg (by decide), List.append_nil]
  · rintro ⟨s1, s2, d⟩ ⟨hs2, hs1, hRd, hFd, hFd2⟩
    dsimp only at hs1 hs2 hRd hFd hFd2 ⊢
    subst hs1
    subst hs2
    have hRd' := hQ d (by rw [Int.toNat_natCast] at hRd; exact hRd)
    have hqs : d.1 (wp + 390 + 24 * ls.length + 1) 4 = ii (goOnL E (v_S (w_V W)) (w_tk W) l).1.length := hRd'.2.2.2.1.1.1.2.1
    have hql : (goOnL E (v_S (w_V W)) (w_tk W) l).1.length ≤ 120 := hRd'.2.2.2.1.1.1.2.2.1
    generalize (goOnL E (v_S (w_V W)) (w_tk W) l).1.length = n at hqs hql ⊢
    refine Ok_inr (r := (bi (!decide (n = 0)), d)) ?_ ⟨rfl, hRd', hFd, (hFd2 _ (by omega)).1⟩
    by_cases hn : n = 0
    · rw [decide_eq_true hn]
      simp (disch := omega) only [ii_lit, ii_le, if_pos, gR_ko p0 p1, gI_ko pq1.1, hqs, ob_some]
      rfl
    · rw [decide_eq_false hn]
      simp (disch := omega) only [ii_lit, ii_le, if_pos, if_neg, gR_ko p0 p1, gI_ko pq1.1, hqs, ob_some]
      rfl
  · rw [w_setlv_self (W := W)]
    · exact hR
    · rw [hl]
      show l :: ls = (l_q l ++ [], [] ++ l_w l, l.2.2) :: ls
      rw [List.append_nil]
      rfl
end
