/-! THE REFERENCE: when nothing acts; the whole run -/
theorem goOnL_idle {E : Ev} {S : Sto} {tk : Int → Int} {l : Lv} (h : (goOnL E S tk l).1.length = 0) : goOnL E S tk l = l := by
  obtain ⟨q, w, r⟩ := l
  have h' : (q ++ w.filter (canGo E S tk)).length = 0 := h
  rw [List.length_append] at h'
  have hq : q = [] := List.length_eq_zero_iff.mp (by omega)
  have hf : w.filter (canGo E S tk) = [] := List.length_eq_zero_iff.mp (by omega)
  have hw : w.filter (fun a => !canGo E S tk a) = w := by
    rw [List.filter_eq_self]
    intro a ha
    have := (List.filter_eq_nil_iff.mp hf) a ha
    show (!canGo E S tk a) = true
    cases hc : canGo E S tk a with
    | true => exact absurd hc this
    | false => rfl
  show (q ++ w.filter (canGo E S tk), w.filter (fun a => !canGo E S tk a), r) = (q, w, r)
  rw [hf, hw, List.append_nil]
section
variable {σ : St} {δ d : Dy} {mo g n i : Nat} {E : Ev} {W : Wo} {S : Sto} {a : Ag} {l l' : Lv} {ls : List Lv} {ch : Nat → Nat} {st B : Int} {base : Nat}
def NZ (δ : Dy) (mo : Nat) (E : Ev) (ch : Nat → Nat) (W : Wo) (s : Int32 × Dy) : Prop := (s.1 = 1 ∧ Nxt δ s.2 mo E ch W) ∨ (s.1 = 0 ∧ Zxt δ s.2 mo E ch W)
/-- the end of a level, and what follows -/
theorem m_caseEnd (hK : KM σ mo) (gE : GE E) (hE : REm d mo E) (hG : GW E base st W) (hX : XV (e_Rs E) (e_md E) B (w_V W)) (hB : B ≤ 1830) (ho : w_ov W = false) (hfl : v_fl (w_V W) = false) (hfr : v_fr (w_V W) = []) (hl : w_lv W = l :: ls) (hq : (l_q l).length = 0) (hRW : RWm d mo n E ch W) (hcnt : (n : Int) + wL (l :: ls) + (ls.length + 1) ≤ 61 + 2 * v_ac (w_V W)) (ht : turnW E ch W = finishW E W l ls) (hF : RF mo δ d) : Ok (m_X12_run_b208 σ mo (1 : Int32) d) (PL (NZ δ mo E ch W) (fun _ => False)) := by
  have hac := hG.1.2.1
  have hlen := hG.2.2.2.2.2.2.1
  have hm2 := hG.2.2.2.2.2.2.2.2.1
  have hh := hX.2.2.1
  rw [ho, if_neg (by decide), hl] at hm2
  rw [hl] at hlen
  have h4 : ls.length < 4 := hlen
  have hgl := hG.2.2.2.2.1 l (by rw [hl]; exact List.mem_cons_self)
  have q2 := m2_nn ls
  have hm2' : m2L ls + (l_w l).length + (l_as l).length + (l_nx l).length ≤ v_ac (w_V W) := hm2
  have hcnt' : (n : Int) + ((wL ls + (l_w l).length : Nat) : Int) + ((ls.length : Int) + 1) ≤ 61 + 2 * v_ac (w_V W) := hcnt
  have hRG : RGm d mo n E (l :: ls) := by have := hRW.2.1; rw [hl] at this; exact this
  have h33' : d.1 mo 33 = ii ls.length := by rw [hRG.1, List.length_cons]; exact congrArg ii (by omega)
  have f35 : d.1 mo 35 = 0 := by rw [hRW.1.2.1.2.1, hfl]; rfl
  have gi : gI σ d 12 mo 33 = some (ii ls.length) := by rw [gI_ko hK.1, h33']
  have x1 : rI σ d (mo + 19) (ii ls.length) = some 0 := rst (md24 hK) (by omega) (by omega) (show ((ls.length : Int)).toNat = ls.length by omega) (by rw [hRG.2.2.1.1.2.1, hq]; rfl)
  obtain ⟨D, eD, hD⟩ := m_endLevel hK hE.2 gE hRW.1.1 hG.1.1 hRG h4 (by omega) hgl.2.1 hgl.2.2.1 hgl.2.2.2.2 (by omega) f35
  have hov : w_setV W (v_setfr (w_V W) []) = W := by rw [v_nofr hfr]; rfl
  unfold m_X12_run_b208
  rw [mg24 hK, ob_some, gi, ob_some, x1, ob_some, if_pos (show (0 : Int32) = 0 from rfl), chk_ko hK.1, ob_some, eD, ob_some]
  unfold EndP at hD
  by_cases hany : (l_as l).any (fun a => entA E (v_S (w_V W)) a a.1) = true
  · -- it fails
    rw [if_pos hany] at hD
    obtain ⟨y1, y2, y3, y4⟩ := hD
    have un : ∀ r, ¬ r = mo → D.1 r = d.1 r := fun r hr => (y3 r hr).1
    have gD33 : gI σ D 12 mo 33 = some (ii ls.length) := by rw [gI_ko hK.1, y4 _ (by decide), h33']
    have gD35 : gI σ D 12 mo 35 = some 1 := by rw [gI_ko hK.1, y2]
    have hRFD : RF mo d D := ⟨y3.wk (fun r p => Or.inl p), fun k hk => y4 k (by omega), fun k _ _ => by rw [un _ (by omega)]⟩
    have hfin : finishW E W l ls = w_setV W (v_setfl (w_V W) true) := by
      unfold finishW
      rw [if_pos hany]
    have ht1 : turns E ch W (1 + 0) = w_setV W (v_setfl (w_V W) true) := by
      show turnW E ch W = _
      rw [ht, hfin]
    have hNx : Nxt δ D mo E ch W := by
      refine ⟨0, n, ?_, hF.tr hRFD⟩
      rw [ht1]
      have eVf : v_setfr (v_setfl (w_V W) true) [] = v_setfl (w_V W) true := v_nofr hfr
      obtain ⟨⟨s1, ⟨s2, s3, s4⟩, s5, s6, s7⟩, -, hRX, hRC⟩ := hRW
      refine ⟨ho, Or.inr rfl, ?_, ?_⟩
      · show RWm D mo n E ch (w_setV W (v_setfr (v_setfl (w_V W) true) []))
        rw [eVf]
        refine ⟨⟨RSm_eq (S := v_S (w_V W)) s1 hG.1.1 (fun k _ => by rw [un _ (by omega)]), ⟨?_, y2, ?_⟩, RMfr_eq (fs := v_fr (w_V W)) s5 (fun k _ => by rw [un _ (by omega)]), RMh_eq (hi := v_hi (w_V W)) s6 (fun k _ _ => by rw [un _ (by omega)]) (by omega), fun w hw => by rw [un _ (by omega)]; exact s7 w hw⟩, ?_, RXm_eq hRX (fun k _ => by rw [un _ (by omega)]), RCm_eq hRC (y4 _ (by decide)) (y4 _ (by decide)) (un _ (by omega)) (un _ (by omega))⟩
        · rw [y4 _ (by decide)]; exact s2
        · rw [y4 _ (by decide)]; exact s4
        · show RGm D mo n E (w_lv W)
          rw [hl]
          exact y1
      · show (n : Int) + wL (w_lv W) + (w_lv W).length ≤ 61 + 2 * v_ac (w_V W)
        rw [hl]
        exact hcnt
    have k243 : m_X12_run_b243 σ mo (1 : Int32) D = some (Sum.inl ((1 : Int32), D)) := by
      unfold m_X12_run_b243
      rw [gD33, ob_some]
      by_cases c : ii ls.length ≤ 0
      · rw [if_pos c]
      · rw [if_neg c, gD35, ob_some, if_neg (show ¬ (1 : Int32) = 0 by decide)]
    refine Ok_inl (s' := ((1 : Int32), D)) ?_ (Or.inl ⟨rfl, hNx⟩)
    unfold m_X12_run_b238
    rw [gD33, ob_some]
    by_cases c : 0 < ii ls.length
    · rw [if_pos c]; exact k243
    · rw [if_neg c, gD35, ob_some, if_neg (show ¬ (1 : Int32) = 0 by decide)]; exact k243
  · rw [if_neg hany] at hD
    obtain ⟨n', y1, y2, y3⟩ := hD
    have y33 : D.1 mo 33 = ii ls.length := by rw [y1.1, List.length_cons]; exact congrArg ii (by omega)
    have gD33 : gI σ D 12 mo 33 = some (ii ls.length) := by rw [gI_ko hK.1, y33]
    have gD35 : gI σ D 12 mo 35 = some 0 := by rw [gI_ko hK.1, y3.2 35 (by decide), f35]
    have hul : (unlL E (v_S (w_V W)) (l_w l)).length ≤ (l_w l).length := by
      unfold unlL
      rw [List.length_map]
      exact List.length_filter_le _ _
    cases ls with
    | nil =>
      have hfin : finishW E W l [] = finW (w_setlv W [(l_q l, l_w l, l_as l, l_nx l ++ unlL E (v_S (w_V W)) (l_w l), l.2.2.2.2)]) := by
        unfold finishW finW
        rw [if_neg hany, if_neg (show ¬ v_fl (w_V (w_setlv W [(l_q l, l_w l, l_as l, l_nx l ++ unlL E (v_S (w_V W)) (l_w l), l.2.2.2.2)])) = true by show ¬ v_fl (w_V W) = true; rw [hfl]; decide)]
        rfl
      refine Ok_inl (s' := ((0 : Int32), D)) ?_ (Or.inr ⟨rfl, w_setlv W [(l_q l, l_w l, l_as l, l_nx l ++ unlL E (v_S (w_V W)) (l_w l), l.2.2.2.2)], n', _, RWm_G hRW hG.1.1 (by omega) y3 y1, rfl, hG.1.1, by show (v_hi (w_V W)).length ≤ 1990; omega, ?_, ?_, rfl, by rw [ht, hfin], hF.tr (RF_G y3)⟩)
      · unfold m_X12_run_b243
        rw [gD33, ob_some, if_neg (show ¬ (0 : Int32) < ii ([] : List Lv).length by decide), gD35, ob_some, if_pos (show (0 : Int32) = 0 from rfl), ob_some, if_pos (show ii ([] : List Lv).length ≤ (0 : Int32) by decide)]
      · have hcn : (n : Int) + ((0 + (l_w l).length : Nat) : Int) + ((0 : Int) + 1) ≤ 61 + 2 * v_ac (w_V W) := hcnt
        omega
      · show (l_nx l ++ unlL E (v_S (w_V W)) (l_w l)).length ≤ 60
        rw [List.length_append]
        have : m2L [] = 0 := rfl
        omega
    | cons l' ls =>
      have h4' : ls.length + 1 < 4 := h4
      have hm2'' : m2L ls + (l_w l').length + (l_as l').length + (l_nx l').length + (l_w l).length + (l_as l).length + (l_nx l).length ≤ v_ac (w_V W) := hm2'
      have q2' := m2_nn ls
      have hfin : finishW E W l (l' :: ls) = w_setlv W ((l_q l', l_w l', l_as l', l_nx l' ++ (l_nx l ++ unlL E (v_S (w_V W)) (l_w l)), l'.2.2.2.2) :: ls) := by
        unfold finishW
        rw [if_neg hany]
      have ht1 : turns E ch W (1 + 0) = w_setlv W ((l_q l', l_w l', l_as l', l_nx l' ++ (l_nx l ++ unlL E (v_S (w_V W)) (l_w l)), l'.2.2.2.2) :: ls) := by
        show turnW E ch W = _
        rw [ht, hfin]
      obtain ⟨D2, eD2, z1, z2⟩ := m_commit hK y1 (by omega) (by show (l_nx l ++ unlL E (v_S (w_V W)) (l_w l)).length + (l_nx l').length < 390; rw [List.length_append]; omega)
      have hpos : (0 : Int32) < ii ((l' :: ls).length : Nat) := by
        rw [show ((0 : Int32)) = ii 0 from rfl, ii_lt (by omega) (by omega) (by omega) (by omega), List.length_cons]
        omega
      have hnp : ¬ ii ((l' :: ls).length : Nat) ≤ (0 : Int32) := by
        rw [show ((0 : Int32)) = ii 0 from rfl, ii_le (by omega) (by omega) (by omega) (by omega), List.length_cons]
        omega
      refine Ok_inl (s' := ((1 : Int32), D2)) ?_ (Or.inl ⟨rfl, 0, n', ?_, hF.tr (RF_G (y3.tr z2))⟩)
      · unfold m_X12_run_b238 m_X12_run_b243
        rw [gD33, ob_some, if_pos hpos, ob_some, if_neg hnp, gD35, ob_some, if_pos (show (0 : Int32) = 0 from rfl), chk_ko hK.1, ob_some, eD2, ob_some]
      · rw [ht1]
        refine ⟨ho, Or.inl (by show (v_fr (w_V W)).length = 0; rw [hfr]; rfl), ?_, ?_⟩
        · show RWm D2 mo n' E ch (w_setlv (w_setV W (v_setfr (w_V W) [])) _)
          rw [hov]
          exact RWm_G hRW hG.1.1 (by omega) (y3.tr z2) z1
        · show (n' : Int) + ((wL ls + (l_w l').length : Nat) : Int) + ((ls.length : Int) + 1) ≤ 61 + 2 * v_ac (w_V W)
          have hcn : (n : Int) + ((wL ls + (l_w l').length + (l_w l).length : Nat) : Int) + (((ls.length + 1 : Nat) : Int) + 1) ≤ 61 + 2 * v_ac (w_V W) := hcnt
          omega
/-- nothing in the queue -/
theorem m_caseQuiet (hK : KM σ mo) (gE : GE E) (hE : REm δ mo E) (hG : GW E base st W) (hst : st ≤ 90000) (hX : XV (e_Rs E) (e_md E) B (w_V W)) (hB : B ≤ 1830) (hR : RSt δ mo n E ch W) (hfl : v_fl (w_V W) = false) (hl : w_lv W = l :: ls) (hq : (l_q l).length = 0) : Ok ((m_X12_wakeAll σ mo δ).bind fun v26 =>
      (some (mo + 19)).bind fun v27 =>
      (gI σ v26 12 mo 33).bind fun v28 =>
      (rI σ v26 v27 v28).bind fun v29 =>
      if v29 = 0 then
        (some ()).bind fun _ => (m_X12_assume σ mo v26).bind fun v30 =>
        m_X12_run_b208 σ mo 1 v30
      else
        m_X12_run_b208 σ mo 1 v26) (PL (NZ δ mo E ch W) (fun _ => False)) := by
  obtain ⟨ho, hd, hRW, hcnt⟩ := hR
  have hn0 : (v_fr (w_V W)).length = 0 := hd.resolve_right (by rw [hfl]; decide)
  have hfr : v_fr (w_V W) = [] := List.length_eq_zero_iff.mp hn0
  have hac := hG.1.2.1
  have hlen := hG.2.2.2.2.2.2.1
  have hm1 := hG.2.2.2.2.2.2.2.1
  have hm2 := hG.2.2.2.2.2.2.2.2.1
  have htk := hG.2.2.2.1
  have hh := hX.2.2.1
  rw [ho, if_neg (by decide), hl] at hm2
  rw [hl] at hlen hcnt hm1
  have h4 : ls.length < 4 := hlen
  have hgl := hG.2.2.2.2.1 l (by rw [hl]; exact List.mem_cons_self)
  have q2 := m2_nn ls
  have q1 := m1_nn ls
  have hm2' : m2L ls + (l_w l).length + (l_as l).length + (l_nx l).length ≤ v_ac (w_V W) := hm2
  have hm1' : m1L ls + (l_q l).length + (l_w l).length + ((ls.length : Int) + 1) ≤ 61 + v_ac (w_V W) := hm1
  have hcnt' : (n : Int) + ((wL ls + (l_w l).length : Nat) : Int) + ((ls.length : Int) + 1) ≤ 61 + 2 * v_ac (w_V W) := hcnt
  have hov : w_setV W (v_setfr (w_V W) []) = W := by rw [v_nofr hfr]; rfl
  rw [hov] at hRW
  have hRG : RGm δ mo n E (l :: ls) := by have := hRW.2.1; rw [hl] at this; exact this
  have ht0 : turnW E ch W = quietW E W l ls := by
    unfold turnW
    rw [if_neg (by rw [ho]; decide), if_neg (by rw [hfl]; decide), if_pos hn0, hl]
    show (if (l_q l).length = 0 then quietW E W l ls else actW E ch W l ls) = _
    rw [if_pos hq]
  obtain ⟨d1, e1, k1, k2, k3⟩ := m_wakeAll (tk := w_tk W) hK hE.2 gE hRW.1.1 hG.1.1 hRG h4 (by omega) hgl.2.1 hRW.2.2.1.2.2.1 (fun z => by have := htk z; omega) (by omega)
  have hRW1 : RWm d1 mo n E ch (w_setlv W (goOnL E (v_S (w_V W)) (w_tk W) l :: ls)) := RWm_G hRW hG.1.1 (by omega) k2 k1
  have h33' : d1.1 mo 33 = ii ls.length := by rw [k1.1, List.length_cons]; exact congrArg ii (by omega)
  have gi : gI σ d1 12 mo 33 = some (ii ls.length) := by rw [gI_ko hK.1, h33']
  have hg2 : d1.1 (mo + 19) ls.length = ii (goOnL E (v_S (w_V W)) (w_tk W) l).1.length := k1.2.2.1.1.2.1
  have hg2l : (goOnL E (v_S (w_V W)) (w_tk W) l).1.length ≤ 400 := k1.2.2.1.1.1
  have x1 : rI σ d1 (mo + 19) (ii ls.length) = some (ii (goOnL E (v_S (w_V W)) (w_tk W) l).1.length) := rst (md24 hK) (by omega) (by omega) (by omega) hg2
  rw [e1, ob_some, ob_some, gi, ob_some, x1, ob_some]
  by_cases c0 : (goOnL E (v_S (w_V W)) (w_tk W) l).1.length = 0
  · have hidle := goOnL_idle c0
    rw [hidle, w_self hl] at hRW1
    rw [hidle] at k1
    rw [if_pos (show ii (goOnL E (v_S (w_V W)) (w_tk W) l).1.length = 0 by rw [c0]; rfl), ob_some]
    obtain ⟨d2, e2, n', j1, j2, j3, j4⟩ := m_assume hK (REm_RF hE (RF_G k2)).2 gE hRW1.1.1 hG.1.1 k1 h4 (by omega) hgl.2.1 (by omega)
    have j2' : n' + wL (assM E (v_S (w_V W)) l ls) ≤ n + (wL ls + (l_w l).length) := j2
    rw [e2, ob_some]
    cases hs : (l_w l)[fstI (canAs E (v_S (w_V W))) (l_w l)]? with
    | some a =>
      have hget : assM E (v_S (w_V W)) l ls = assumeL E l (fstI (canAs E (v_S (w_V W))) (l_w l)) a :: ls := by
        unfold assM
        rw [hs]
      have hqt : quietW E W l ls = w_setlv W (assumeL E l (fstI (canAs E (v_S (w_V W))) (l_w l)) a :: ls) := by
        unfold quietW
        rw [if_pos c0, hs]
      have ht1 : turns E ch W (1 + 0) = w_setlv W (assumeL E l (fstI (canAs E (v_S (w_V W))) (l_w l)) a :: ls) := by
        show turnW E ch W = _
        rw [ht0, hqt]
      rw [hget] at j1 j2'
      have h33b : d2.1 mo 33 = ii ls.length := by rw [j1.1, List.length_cons]; exact congrArg ii (by omega)
      have gi2 : gI σ d2 12 mo 33 = some (ii ls.length) := by rw [gI_ko hK.1, h33b]
      have hq2 : d2.1 (mo + 19) ls.length = ii (l_q l ++ [(e_on E a.1, a.2)]).length := j1.2.2.1.1.2.1
      have hq3 : (l_q l ++ [(e_on E a.1, a.2)]).length = 1 := by rw [List.length_append, List.length_singleton]; omega
      have x2 : rI σ d2 (mo + 19) (ii ls.length) = some (ii 1) := rst (md24 hK) (by omega) (by omega) (show ((ls.length : Int)).toNat = ls.length by omega) (by rw [hq2, hq3]; rfl)
      refine Ok_inl (s' := ((1 : Int32), d2)) ?_ (Or.inl ⟨rfl, 0, n', ?_, RF_G (k2.tr j4)⟩)
      · unfold m_X12_run_b208
        rw [mg24 hK, ob_some, gi2, ob_some, x2, ob_some, if_neg (show ¬ ii 1 = 0 by decide)]
      · rw [ht1]
        refine ⟨ho, Or.inl (by show (v_fr (w_V W)).length = 0; exact hn0), ?_, ?_⟩
        · show RWm d2 mo n' E ch (w_setlv (w_setV W (v_setfr (w_V W) [])) _)
          rw [hov]
          exact RWm_G hRW1 hG.1.1 (by omega) j4 j1
        · show (n' : Int) + (wL (assumeL E l (fstI (canAs E (v_S (w_V W))) (l_w l)) a :: ls) : Nat) + ((ls.length : Int) + 1) ≤ 61 + 2 * v_ac (w_V W)
          omega
    | none =>
      have hget : assM E (v_S (w_V W)) l ls = l :: ls := by
        unfold assM
        rw [hs]
      have hqt : quietW E W l ls = finishW E W l ls := by
        unfold quietW
        rw [if_pos c0, hs]
      rw [hget] at j1 j2'
      have j2'' : n' + (wL ls + (l_w l).length) ≤ n + (wL ls + (l_w l).length) := j2'
      have hRW2 : RWm d2 mo n' E ch (w_setlv W (l :: ls)) := RWm_G hRW1 hG.1.1 (by omega) j4 j1
      rw [w_self hl] at hRW2
      refine m_caseEnd hK gE (REm_RF hE (RF_G (k2.tr j4))) hG hX hB ho hfl hfr hl hq hRW2 ?_ (by rw [ht0, hqt]) (RF_G (k2.tr j4))
      show (n' : Int) + ((wL ls + (l_w l).length : Nat) : Int) + ((ls.length : Int) + 1) ≤ 61 + 2 * v_ac (w_V W)
      omega
  · have hqt : quietW E W l ls = w_setlv W (goOnL E (v_S (w_V W)) (w_tk W) l :: ls) := by
      unfold quietW
      rw [if_neg c0]
    have ht1 : turns E ch W (1 + 0) = w_setlv W (goOnL E (v_S (w_V W)) (w_tk W) l :: ls) := by
      show turnW E ch W = _
      rw [ht0, hqt]
    have hne : ¬ ii (goOnL E (v_S (w_V W)) (w_tk W) l).1.length = 0 := by
      rw [show ((0 : Int32)) = ii 0 from rfl, ii_eq (by omega) (by omega) (by omega) (by omega)]
      omega
    refine Ok_inl (s' := ((1 : Int32), d1)) ?_ (Or.inl ⟨rfl, 0, n, ?_, RF_G k2⟩)
    · unfold m_X12_run_b208
      rw [if_neg hne, mg24 hK, ob_some, gi, ob_some, x1, ob_some, if_neg hne]
    · rw [ht1]
      refine ⟨ho, Or.inl (by show (v_fr (w_V W)).length = 0; exact hn0), ?_, ?_⟩
      · show RWm d1 mo n E ch (w_setlv (w_setV W (v_setfr (w_V W) [])) _)
        rw [hov]
        exact hRW1
      · show (n : Int) + ((wL ls + ((l_w l).filter (fun a => !canGo E (v_S (w_V W)) (w_tk W) a)).length : Nat) : Int) + ((ls.length : Int) + 1) ≤ 61 + 2 * v_ac (w_V W)
        have := List.length_filter_le (fun a => !canGo E (v_S (w_V W)) (w_tk W) a) (l_w l)
        omega
/-- one round of the run -/
theorem m_round (hK : KM σ mo) (gE : GE E) (hE : REm δ mo E) (hG : GW E base st W) (hst : st ≤ 90000) (hc : okCh ch W) (hX : XV (e_Rs E) (e_md E) B (w_V W)) (hB : B ≤ 1830) (hR : RSt δ mo n E ch W) : Ok ((gI σ δ 12 mo 35).bind fun v21 =>
    if v21 = 0 then
      m_X12_run_b153 σ mo 1 δ
    else
      (gI σ δ 12 mo 33).bind fun v42 =>
      if v42 ≤ 0 then
        m_X12_run_b153 σ mo 1 δ
      else
        (chk σ 12 mo).bind fun _ => (m_X12_forget σ mo δ).bind fun v43 =>
        some (Sum.inl (1, v43) : (Int32 × Dy) ⊕ Dy)) (PL (NZ δ mo E ch W) (fun _ => False)) := by
  have hlen := hG.2.2.2.2.2.2.1
  have hLs := hG.2.2.2.2.2.1
  have gf : gI σ δ 12 mo 35 = some (bi (v_fl (w_V W))) := by rw [gI_ko hK.1]; exact congrArg some hR.2.2.1.1.2.1.2.1
  have g33 : gI σ δ 12 mo 33 = some (ii (((w_lv W).length : Int) - 1)) := by rw [gI_ko hK.1]; exact congrArg some hR.2.2.1.2.1.1
  rw [gf, ob_some]
  cases hl : w_lv W with
  | nil => rw [hl] at hLs; exact hLs.elim
  | cons l ls =>
    rw [hl] at g33 hlen
    have h4 : ls.length + 1 ≤ 4 := hlen
    have g33' : gI σ δ 12 mo 33 = some (ii ls.length) := by rw [g33, List.length_cons]; exact congrArg (fun x => some (ii x)) (by omega)
    cases hfl : v_fl (w_V W) with
    | true =>
      rw [if_neg (show ¬ bi true = 0 by decide), g33', ob_some]
      cases ls with
      | nil =>
        rw [if_pos (show ii ([] : List Lv).length ≤ (0 : Int32) by decide)]
        refine Ok_inl (s' := ((0 : Int32), δ)) ?_ (Or.inr ⟨rfl, m_caseFail hG hX hB hR hfl hl⟩)
        unfold m_X12_run_b153
        rw [gf, ob_some, hfl, if_neg (show ¬ bi true = 0 by decide)]
      | cons l' ls =>
        have hnp : ¬ ii ((l' :: ls).length : Nat) ≤ (0 : Int32) := by
          have : ls.length + 1 + 1 ≤ 4 := h4
          rw [show ((0 : Int32)) = ii 0 from rfl, List.length_cons, ii_le (by omega) (by omega) (by omega) (by omega)]
          omega
        obtain ⟨D, eD, hD⟩ := m_caseTry hK gE hE hG hX hB hR hfl hl
        rw [if_neg hnp, chk_ko hK.1, ob_some, eD, ob_some]
        exact Ok_inl rfl (Or.inl ⟨rfl, hD⟩)
    | false =>
      have hRG : RGm δ mo n E (l :: ls) := by have := hR.2.2.1.2.1; rw [show w_lv (w_setV W (v_setfr (w_V W) [])) = w_lv W from rfl, hl] at this; exact this
      have hql := hRG.2.2.1.1.1
      have x1 : rI σ δ (mo + 19) (ii ls.length) = some (ii (l_q l).length) := rst (md24 hK) (by omega) (by omega) (by omega) hRG.2.2.1.1.2.1
      rw [if_pos (show bi false = 0 from rfl)]
      unfold m_X12_run_b153
      rw [gf, ob_some, hfl, if_pos (show bi false = 0 from rfl), mg24 hK, ob_some, g33', ob_some, x1, ob_some]
      by_cases hq : (l_q l).length = 0
      · rw [if_pos (show ii (l_q l).length ≤ (0 : Int32) by rw [hq]; decide), chk_ko hK.1, ob_some]
        exact m_caseQuiet hK gE hE hG hst hX hB hR hfl hl hq
      · have hnp : ¬ ii (l_q l).length ≤ (0 : Int32) := by
          rw [show ((0 : Int32)) = ii 0 from rfl, ii_le (by omega) (by omega) (by omega) (by omega)]
          omega
        obtain ⟨D, eD, hD⟩ := m_caseAct hK gE hE hG hst hc hX hB hR hfl hl hq
        refine Ok_inl (s' := ((1 : Int32), D)) ?_ (Or.inl ⟨rfl, hD⟩)
        rw [if_neg hnp, chk_ko hK.1, ob_some]
        cases hdq : m_X12_dequeue σ mo δ with
        | none => rw [hdq] at eD; cases eD
        | some r =>
          rw [hdq, ob_some] at eD
          rw [ob_some, ob_some, eD, ob_some]
/-- the whole run -/
theorem m_loop (hK : KM σ mo) (gE : GE E) (hE : REm δ mo E) (hG : GW E base st W) (hst : st ≤ 90000) (hc : ∀ n, okCh ch (turns E ch W n)) (hX : XV (e_Rs E) (e_md E) B (w_V W)) (hB : B ≤ 1830) (hmu : muW W ≤ 100000) (h40 : δ.1 (mo + 1) 7040 = 0) (hR : RSt d mo n E ch W) (hF : RF mo δ d) : Ok (m_X12_run_b128 σ mo (1 : Int32) d) (fun D => ∃ Wf, RunEnd E ch W Wf ∧ RIm D mo E (endI Wf) ∧ D.1 mo 34 = ii (v_ac (w_V Wf)) ∧ RCm D mo ch (w_lg Wf) ∧ D.1 (mo + 1) 9742 = δ.1 (mo + 1) 9742 ∧ Fr (fun r => r = mo ∨ r = mo + 1 ∨ (mo + 17 ≤ r ∧ r ≤ mo + 30) ∨ r = mo + 33) δ D ∧ ∀ k, ¬ (k = 22 ∨ (33 ≤ k ∧ k ≤ 35) ∨ k = 37 ∨ k = 44) → D.1 mo k = δ.1 mo k) := by
  have hgood := turns_good gE hG hc
  have hXs := turns_X gE hG hc hX
  have hle : ∀ m k, muW (turns E ch W (m + k)) ≤ muW (turns E ch W m) := by
    intro m k
    induction k with
    | zero => exact Int.le_refl _
    | succ k ih =>
      cases ho : w_ov (turns E ch W (m + k)) with
      | true =>
        have e : turns E ch W (m + (k + 1)) = turns E ch W (m + k) := by
          show turnW E ch (turns E ch W (m + k)) = _
          unfold turnW
          rw [if_pos ho]
        rw [e]
        exact ih
      | false =>
        have := (hgood (m + k)).2 ho
        exact Int.le_trans (Int.le_of_lt this) ih
  unfold m_X12_run_b128
  refine Ok_lpi (fun (N : Nat) (s : Int32 × Dy) => (s.1 = 1 ∧ ∃ m n, RSt s.2 mo n E ch (turns E ch W m) ∧ RF mo δ s.2 ∧ N = (muW (turns E ch W m)).toNat + 1) ∨ (s.1 = 0 ∧ ∃ m, Zxt δ s.2 mo E ch (turns E ch W m) ∧ N = 0)) ?_ (n := (muW W).toNat + 1) (Or.inl ⟨rfl, 0, n, hR, hF, rfl⟩) (by omega)
  rintro N ⟨s1, x⟩ (⟨hs, m, n, hRx, hFx, hN⟩ | ⟨hs, m, hZ, hN⟩)
  · dsimp only at hs hRx hFx ⊢
    subst hs
    rw [if_neg (show ¬ (1 : Int32) = 0 by decide)]
    refine Ok_mono (m_round hK gE (REm_RF hE hFx) (hgood m).1 hst (hc m) (hXs m) hB hRx) ?_
    rintro (s | r) hr
    · have hr' : NZ x mo E ch (turns E ch W m) s := hr
      have hlt := (hgood m).2 hRx.1
      rcases hr' with ⟨a1, k, n2, a2, a3⟩ | ⟨a1, W1, n2, l, z1, z2, z3, z4, z5, z6, z7, z8, z9⟩
      · rw [← turns_add, ← Nat.add_assoc] at a2
        refine ⟨(muW (turns E ch W (m + 1 + k))).toNat + 1, ?_, Or.inl ⟨a1, m + 1 + k, n2, a2, hFx.tr a3, rfl⟩⟩
        have h1 := hle (m + 1) k
        have h2 := muW_nn (hgood (m + 1 + k)).1
        have h3 : muW (turns E ch W (m + 1)) < muW (turns E ch W m) := hlt
        omega
      · refine ⟨0, by omega, Or.inr ⟨a1, m, ⟨W1, n2, l, z1, z2, z3, z4, z5, z6, z7, z8, hFx.tr z9⟩, rfl⟩⟩
    · exact (show False from hr).elim
  · dsimp only at hs hZ ⊢
    subst hs
    obtain ⟨W1, n2, l, z1, z2, z3, z4, z5, z6, z7, z8, z9⟩ := hZ
    rw [if_pos (show (0 : Int32) = 0 from rfl), chk_ko hK.1, ob_some]
    obtain ⟨D, eD, y1, y42, y2⟩ := m_finish hK z1 z3 z4 z2 z5 z6 (by rw [z9.2.2 7040 (by decide) (by decide)]; exact h40)
    refine Ok_inr (r := D) (by rw [eD, ob_some]) ⟨finW W1, ⟨m + 1, z8, ?_⟩, y1, ?_, ?_, y42.trans (z9.2.2 9742 (by decide) (by decide)), z9.1.tr (y2.wk (fun r p => Or.inr (Or.inl p))), fun k hk => by rw [(y2 mo (by omega)).1]; exact z9.2.1 k hk⟩
    · unfold finW
      split <;> rfl
    · have e : v_ac (w_V (finW W1)) = v_ac (w_V W1) := by
        unfold finW
        split <;> rfl
      rw [e, (y2 mo (by omega)).1]
      exact z1.1.2.1.1
    · have e : w_lg (finW W1) = w_lg W1 := by
        unfold finW
        split <;> rfl
      rw [e]
      exact RCm_eq z1.2.2.2 (by rw [(y2 mo (by omega)).1]) (by rw [(y2 mo (by omega)).1]) (y2 _ (by omega)).1 (y2 _ (by omega)).1
end
