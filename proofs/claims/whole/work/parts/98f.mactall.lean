/-! THE REFERENCE: an act, whole -/
/-- what an act leaves: the view is settled -/
def ActE (δ d : Dy) (mo n : Nat) (E : Ev) (ch : Nat → Nat) (B : Int) (c0 : Nat) (A : Wo) : Prop := ∃ (n' : Nat) (Vf : Vw), Ends (e_Rs E) (e_md E) (w_V A) Vf ∧ XV (e_Rs E) (e_md E) B Vf ∧ RWm d mo n' E ch (w_setV A (v_setfr Vf [])) ∧ n' + wL (w_lv A) + (w_lv A).length ≤ c0 ∧ RF mo δ d
theorem v_nofr {V : Vw} (h : v_fr V = []) : v_setfr V [] = V := by
  obtain ⟨S, fr, x⟩ := V
  have h' : fr = [] := h
  subst h'
  rfl
def actKind (σ : St) (p0 : Nat) (p1 : Int32) (q6 q8 : Int32) (δ : Dy) : Option Dy :=
    if q8 = 0 then
      (gR σ 12 p0 3).bind fun v9 =>
      (rI σ δ v9 q6).bind fun v10 =>
      (chk σ 12 p0).bind fun _ => (m_X12_look σ p0 p1 v10 δ).bind fun v11 =>
      (gR σ 12 p0 4).bind fun v12 =>
      (rI σ δ v12 q6).bind fun v13 =>
      (chk σ 12 p0).bind fun _ => (m_X12_look σ p0 p1 v13 δ).bind fun v14 =>
      (chk σ 12 p0).bind fun _ => (m_X12_tellEqual σ p0 v11 v14 δ).bind fun v15 =>
      (chk σ 12 p0).bind fun _ => (m_X12_settle σ p0 v15).bind fun v16 =>
      some v16
    else
      if q8 = (1 : Int32) then
        m_X12_act_b87 σ p0 p1 q6 (0 : Int32) δ
      else
        if q8 = (2 : Int32) then
          (gR σ 12 p0 3).bind fun v33 =>
          (rI σ δ v33 q6).bind fun v34 =>
          (chk σ 12 p0).bind fun _ => (m_X12_another σ p0 p1 v34 δ).bind fun v35 =>
          (chk σ 12 p0).bind fun _ => (m_X12_enqueue σ p0 v35.1 v35.2).bind fun v36 =>
          (gR σ 12 p0 4).bind fun v37 =>
          (rI σ v36 v37 q6).bind fun v38 =>
          (chk σ 12 p0).bind fun _ => (m_X12_another σ p0 p1 v38 v36).bind fun v39 =>
          (chk σ 12 p0).bind fun _ => (m_X12_enqueue σ p0 v39.1 v39.2).bind fun v40 =>
          some v40
        else
          if q8 = (3 : Int32) then
            (chk σ 12 p0).bind fun _ => (m_X12_holds σ p0 p1 q6 δ).bind fun v41 =>
            if v41 = 0 then
              (chk σ 12 p0).bind fun _ => (m_X12_waitFor σ p0 p1 δ).bind fun v42 =>
              some v42
            else
              (chk σ 12 p0).bind fun _ => (m_X12_goOn σ p0 p1 q6 δ).bind fun v43 =>
              some v43
          else
            if q8 = (4 : Int32) then
              (chk σ 12 p0).bind fun _ => (m_X12_actEither σ p0 p1 q6 δ).bind fun v44 =>
              some v44
            else
              if q8 = (5 : Int32) then
                (chk σ 12 p0).bind fun _ => (m_X12_makeVariable σ p0 δ).bind fun v45 =>
                (gI σ v45.2 12 p0 35).bind fun v46 =>
                if v46 = 0 then
                  (gR σ 12 p0 4).bind fun v47 =>
                  (rI σ v45.2 v47 q6).bind fun v48 =>
                  (chk σ 12 p0).bind fun _ => (m_X12_another σ p0 p1 v48 v45.2).bind fun v49 =>
                  (gR σ 12 p0 21).bind fun v50 =>
                  (gR σ 12 p0 3).bind fun v51 =>
                  (rI σ v49.2 v51 q6).bind fun v52 =>
                  (wI σ v49.2 v50 ((((9 : Int32) * v49.1) + (1 : Int32)) + v52) ((400 : Int32) + v45.1)).bind fun d53 =>
                  (chk σ 12 p0).bind fun _ => (m_X12_enqueue σ p0 v49.1 d53).bind fun v54 =>
                  some v54
                else
                  some v45.2
              else
                if q8 = (6 : Int32) then
                  (gR σ 12 p0 8).bind fun v55 =>
                  (gR σ 12 p0 3).bind fun v56 =>
                  (rI σ δ v56 q6).bind fun v57 =>
                  (rI σ δ v55 v57).bind fun v58 =>
                  if v58 = (-1 : Int32) then
                    some δ
                  else
                    (gR σ 12 p0 8).bind fun v59 =>
                    (gR σ 12 p0 3).bind fun v60 =>
                    (rI σ δ v60 q6).bind fun v61 =>
                    (rI σ δ v59 v61).bind fun v62 =>
                    (chk σ 12 p0).bind fun _ => (m_X12_another σ p0 p1 v62 δ).bind fun v63 =>
                    (gR σ 12 p0 21).bind fun v64 =>
                    (gR σ 12 p0 4).bind fun v65 =>
                    (rI σ v63.2 v65 q6).bind fun v66 =>
                    (chk σ 12 p0).bind fun _ => (m_X12_look σ p0 p1 v66 v63.2).bind fun v67 =>
                    (wI σ v63.2 v64 (((9 : Int32) * v63.1) + (1 : Int32)) v67).bind fun d68 =>
                    (gR σ 12 p0 21).bind fun v69 =>
                    (gR σ 12 p0 5).bind fun v70 =>
                    (rI σ d68 v70 q6).bind fun v71 =>
                    (chk σ 12 p0).bind fun _ => (m_X12_look σ p0 p1 v71 d68).bind fun v72 =>
                    (wI σ d68 v69 (((9 : Int32) * v63.1) + (2 : Int32)) v72).bind fun d73 =>
                    (gR σ 12 p0 21).bind fun v74 =>
                    (wI σ d73 v74 (((9 : Int32) * v63.1) + (3 : Int32)) (0 : Int32)).bind fun d75 =>
                    (gR σ 12 p0 21).bind fun v76 =>
                    (wI σ d75 v76 (((9 : Int32) * v63.1) + (4 : Int32)) (0 : Int32)).bind fun d77 =>
                    (chk σ 12 p0).bind fun _ => (m_X12_enqueue σ p0 v63.1 d77).bind fun v78 =>
                    some v78
                else
                  if q8 = (7 : Int32) then
                    (gR σ 12 p0 3).bind fun v79 =>
                    (rI σ δ v79 q6).bind fun v80 =>
                    (chk σ 12 p0).bind fun _ => (m_X12_another σ p0 p1 v80 δ).bind fun v81 =>
                    (chk σ 12 p0).bind fun _ => (m_X12_forNext σ p0 v81.1 v81.2).bind fun v82 =>
                    some v82
                  else
                    if q8 = (8 : Int32) then
                      (gR σ 12 p0 3).bind fun v83 =>
                      (rI σ δ v83 q6).bind fun v84 =>
                      (chk σ 12 p0).bind fun _ => (m_X12_another σ p0 p1 v84 δ).bind fun v85 =>
                      (chk σ 12 p0).bind fun _ => (m_X12_enqueue σ p0 v85.1 v85.2).bind fun v86 =>
                      (chk σ 12 p0).bind fun _ => (m_X12_forNext σ p0 p1 v86).bind fun v87 =>
                      some v87
                    else
                      if (11 : Int32) ≤ q8 then
                        if q8 = (11 : Int32) then
                          (chk σ 12 p0).bind fun _ => (m_X12_actLot σ p0 p1 q6 δ).bind fun v88 =>
                          some v88
                        else
                          (chk σ 12 p0).bind fun _ => (m_X12_actTry σ p0 p1 q6 δ).bind fun v89 =>
                          some v89
                      else
                        (chk σ 12 p0).bind fun _ => (m_X12_waitFor σ p0 p1 δ).bind fun v90 =>
                        some v90
theorem act_start {σ : St} {p0 : Nat} {p1 : Int32} {δ : Dy} : m_X12_act σ p0 p1 δ =
  (gI σ δ 12 p0 34).bind fun v1 =>
  if v1 = (60 : Int32) then
    (pZ σ δ 12 p0 35 (1 : Int32)).bind fun d2 =>
    some d2
  else
    (gI σ δ 12 p0 34).bind fun v3 =>
    (pI σ δ 12 p0 34 (v3 + (1 : Int32))).bind fun d4 =>
    (gR σ 12 p0 21).bind fun v5 =>
    (rI σ d4 v5 ((9 : Int32) * p1)).bind fun v6 =>
    (gR σ 12 p0 2).bind fun v7 =>
    (rI σ d4 v7 v6).bind fun v8 =>
    actKind σ p0 p1 v6 v8 d4 := rfl
section
variable {σ : St} {δ d D : Dy} {mo g n : Nat} {E : Ev} {W A : Wo} {a : Ag} {l : Lv} {ls : List Lv} {ch : Nat → Nat} {base : Nat} {st B : Int}
theorem ActE_of (hAW : ActW d D mo n E ch (w_setlv W (l :: ls)) A) (hEq : actK E W l ls a = A) (hfr : v_fr (w_V A) = []) (hX : XV (e_Rs E) (e_md E) B (w_V W)) (hG : GV (e_Rs E) (e_md E) (w_V (actK E W l ls a))) (hF : RF mo δ d) : ActE δ D mo n E ch B (n + wL (l :: ls) + (ls.length + 1) + 2) (actK E W l ls a) := by
  obtain ⟨n', h1, h2, h3⟩ := hAW
  have hXA := actK_X hX hG
  refine ⟨n', w_V (actK E W l ls a), Ends_rf (Or.inl (by rw [hEq, hfr]; rfl)), hXA, ?_, ?_, hF.tr h3⟩
  · rw [hEq, v_nofr hfr]
    exact h1
  · rw [hEq]
    exact h2
/-- after a tell: it is settled -/
theorem ActE_tell (hK : KM σ mo) (hE : REm d mo E) (h : RWm d mo n E ch (w_setlv W (l :: ls))) {V' : Vw} (hV : RVm D mo (e_Rs E) V') (hFM : FM mo d D) (hX : XV (e_Rs E) (e_md E) B V') (hB : B ≤ 1830) (hmu : muV V' ≤ 100000) (hEq : actK E W l ls a = w_setlv (w_setV W V') (l :: ls)) (hF : RF mo δ d) : Ok (m_X12_settle σ mo D) (fun d' => ActE δ d' mo n E ch B (n + wL (l :: ls) + (ls.length + 1) + 2) (actK E W l ls a)) := by
  have hR : RRm D mo (e_md E) (e_Rs E) := RRm_eq hE.1 (hFM.2.1 14 (by decide)) (fun r a b => (hFM.1 r (by omega)).1)
  obtain ⟨d', e, Vf, k1, k2, k3, k4⟩ := m_settle hK hR hV hX hB hmu
  have k5 := hFM.tr k4
  refine ⟨d', e, n, Vf, by rw [hEq]; exact k1, k2, ?_, by rw [hEq]; show n + (wL (l :: ls)) + (ls.length + 1) ≤ _; omega, hF.tr (RF_M k5)⟩
  rw [hEq]
  exact ⟨k3, RGm_eq h.2.1 (k5.2.1 33 (by decide)) (k5.2.1 22 (by decide)) (fun r _ _ => (k5.1 r (by omega)).1), RXm_eq h.2.2.1 (fun k k0 => k5.2.2 k k0), RCm_eq h.2.2.2 (k5.2.1 41 (by decide)) (k5.2.1 44 (by decide)) (k5.1 _ (by omega)).1 (k5.1 _ (by omega)).1⟩
/-- the acts are counted -/
theorem m_actStart (hK : KM σ mo) (h : RWm δ mo n E ch W) (hG : GS (v_S (w_V W))) (hh : (v_hi (w_V W)).length ≤ 2000) (h0 : 0 ≤ v_ac (w_V W)) (h60 : v_ac (w_V W) < 60) (hA : RAm δ mo g a) (hg : g < n) (hn : n < 1900) (gE : GE E) (hE : REm δ mo E) (hm : gNode E a.1) : ∃ d, m_X12_act σ mo (ii g) δ = actKind σ mo (ii g) (ii a.1) (ii (kM (e_kd E a.1))) d ∧ RWm d mo n E ch (w_setV W (v_setac (w_V W) (v_ac (w_V W) + 1))) ∧ RAm d mo g a ∧ RF mo δ d := by
  have hc := gE.1.2
  obtain ⟨hV, hRG, hRX, hRC⟩ := h
  have hac : δ.1 mo 34 = ii (v_ac (w_V W)) := hV.2.1.1
  have p0 : pI σ δ 12 mo 34 (ii (v_ac (w_V W) + 1)) = some (u2 δ.1 mo 34 (ii (v_ac (w_V W) + 1)), δ.2) := pI_ko hK.1
  have hF0 : Fr (fun r => r = mo) δ (u2 δ.1 mo 34 (ii (v_ac (w_V W) + 1)), δ.2) := Fr_u2 rfl
  have e34 : (u2 δ.1 mo 34 (ii (v_ac (w_V W) + 1)), δ.2).1 mo 34 = ii (v_ac (w_V W) + 1) := by simp only [u2, and_self, ↓reduceIte]
  have eo : ∀ k, ¬ k = 34 → (u2 δ.1 mo 34 (ii (v_ac (w_V W) + 1)), δ.2).1 mo k = δ.1 mo k := fun k hk => by simp (disch := omega) only [u2, if_neg]
  rw [act_start, gI_ko hK.1, ob_some, hac, if_neg (show ¬ ii (v_ac (w_V W)) = 60 by rw [show ((60 : Int32)) = ii 60 from rfl, ii_eq (by omega) (by omega) (by omega) (by omega)]; omega), ob_some, show ii (v_ac (w_V W)) + 1 = ii (v_ac (w_V W) + 1) from ii_add _ 1, p0, ob_some]
  generalize (u2 δ.1 mo 34 (ii (v_ac (w_V W) + 1)), δ.2) = d at hF0 e34 eo ⊢
  have un : ∀ r, ¬ r = mo → d.1 r = δ.1 r := fun r hr => (hF0 r hr).1
  have hRF : RF mo δ d := ⟨hF0.wk (fun r p => Or.inl p), fun k hk => eo k (by omega), fun k _ _ => by rw [un _ (by omega)]⟩
  have hN := (REm_RF hE hRF).2
  have hAd : RAm d mo g a := RAm_eq hA (fun k _ _ => by rw [un _ (by omega)])
  have rA : rI σ d (mo + 17) (ii (9 * g)) = some (ii a.1) := rst (md21 hK) (by omega) (by omega) (show (9 * (g : Int)).toNat = 9 * g by omega) hAd.1
  have rK := m_nk (σ := σ) (δ := d) hK hN hc hm
  refine ⟨d, by rw [mg21 hK, ob_some, show ((9 : Int32)) = ii 9 from rfl, ii_mul, rA, ob_some, mg2 hK, ob_some, rK, ob_some], ⟨⟨RSm_eq hV.1 hG (fun k _ => by rw [un _ (by omega)]), ⟨e34, by rw [eo 35 (by decide)]; exact hV.2.1.2.1, by rw [eo 37 (by decide)]; exact hV.2.1.2.2⟩, RMfr_eq hV.2.2.1 (fun k _ => by rw [un _ (by omega)]), RMh_eq hV.2.2.2.1 (fun k _ _ => by rw [un _ (by omega)]) hh, fun w hw => by rw [un _ (by omega)]; exact hV.2.2.2.2 w hw⟩, RGm_eq hRG (eo 33 (by decide)) (eo 22 (by decide)) (fun r _ _ => un r (by omega)), RXm_eq hRX (fun k _ => by rw [un _ (by omega)]), RCm_eq hRC (eo 41 (by decide)) (eo 44 (by decide)) (un _ (by omega)) (un _ (by omega))⟩, hAd, hRF⟩
/-- all that an act goes out from -/
def AcH (σ : St) (δ d : Dy) (mo n g : Nat) (E : Ev) (ch : Nat → Nat) (base : Nat) (st B : Int) (W : Wo) (l : Lv) (ls : List Lv) (a : Ag) : Prop := KM σ mo ∧ REm d mo E ∧ RWm d mo n E ch (w_setlv W (l :: ls)) ∧ HA E base st W l ls a ∧ st ≤ 90000 ∧ XV (e_Rs E) (e_md E) B (w_V W) ∧ B ≤ 1830 ∧ g < n ∧ n < 1900 ∧ RAm d mo g a ∧ RF mo δ d
theorem AcH_more (H : AcH σ δ d mo n g E ch base st B W l ls a) : GE E ∧ GS (v_S (w_V W)) ∧ (v_hi (w_V W)).length ≤ 1900 ∧ v_fr (w_V W) = [] ∧ v_fl (w_V W) = false ∧ gAg E (v_S (w_V W)) a ∧ ls.length < 4 ∧ ((l_q l).length < 390 ∧ (l_w l).length < 390 ∧ (l_as l).length < 390 ∧ (l_nx l).length < 390) ∧ (0 ≤ w_x W ∧ w_x W < 65537) ∧ (∀ z, 0 ≤ w_tk W z ∧ w_tk W z ≤ 100000) ∧ GV (e_Rs E) (e_md E) (w_V (actK E W l ls a)) ∧ (0 ≤ v_ac (w_V W) ∧ v_ac (w_V W) ≤ 60) := by
  obtain ⟨hK, hE, h, hA0, hst, hX, hB, hg, hn, hA, hRF⟩ := H
  have hGA := (act_good hA0).1.1
  obtain ⟨⟨gE, -⟩, hGV, hfr, hfl, -, hx, htk, -, ha, -, -, hl4, hm1, hm2, -⟩ := hA0
  have hac : 0 ≤ v_ac (w_V W) ∧ v_ac (w_V W) ≤ 60 := hGV.2.1
  have q1 := m1_nn ls
  have q2 := m2_nn ls
  have hm1' : m1L ls + (l_q l).length + (l_w l).length + (ls.length + 1) ≤ 59 + v_ac (w_V W) := hm1
  have hm2' : m2L ls + (l_w l).length + (l_as l).length + (l_nx l).length + 1 ≤ v_ac (w_V W) := hm2
  have hh : ((v_hi (w_V W)).length : Int) ≤ B + v_ac (w_V W) := hX.2.2.1
  exact ⟨gE, hGV.1, by omega, hfr, hfl, ha, by omega, ⟨by omega, by omega, by omega, by omega⟩, hx, fun z => by have := htk z; omega, hGA, hac⟩
theorem aK3 (k : e_kd E a.1 = 3) : actK E W l ls a = w_setlv W (qAdd (qAdd l (e_on E a.1, a.2)) (e_ot E a.1, a.2) :: ls) := by
  unfold actK
  rw [if_neg (show ¬ e_kd E a.1 = 0 by omega), if_neg (show ¬ (e_kd E a.1 = 1 ∨ e_kd E a.1 = 2) by omega), if_pos k]
theorem aK45 (k : e_kd E a.1 = 4 ∨ e_kd E a.1 = 5) : actK E W l ls a = askW E W l ls a := by
  unfold actK
  rw [if_neg (show ¬ e_kd E a.1 = 0 by omega), if_neg (show ¬ (e_kd E a.1 = 1 ∨ e_kd E a.1 = 2) by omega), if_neg (show ¬ e_kd E a.1 = 3 by omega), if_pos k]
theorem aK6 (k : e_kd E a.1 = 6) : actK E W l ls a = (if s_nv (v_S (w_V W)) = 60 then w_setlv (w_setV W (v_setfl (w_V W) true)) (l :: ls) else w_setlv (w_setV W (v_setS (w_V W) (mkvar (v_S (w_V W))))) (qAdd l (e_on E a.1, upf a.2.1 (e_wh E a.1) (400 + s_nv (v_S (w_V W))), a.2.2) :: ls)) := by
  unfold actK
  rw [if_neg (show ¬ e_kd E a.1 = 0 by omega), if_neg (show ¬ (e_kd E a.1 = 1 ∨ e_kd E a.1 = 2) by omega), if_neg (show ¬ e_kd E a.1 = 3 by omega), if_neg (show ¬ (e_kd E a.1 = 4 ∨ e_kd E a.1 = 5) by omega), if_pos k]
theorem aK7 (k : e_kd E a.1 = 7) : actK E W l ls a = w_setlv W ((if e_df E (e_wh E a.1) = -1 then l else qAdd l (e_df E (e_wh E a.1), (fun z => if z = 0 then lookA a (e_a E a.1) else if z = 1 then lookA a (e_b E a.1) else 0), a.2.2)) :: ls) := by
  unfold actK
  rw [if_neg (show ¬ e_kd E a.1 = 0 by omega), if_neg (show ¬ (e_kd E a.1 = 1 ∨ e_kd E a.1 = 2) by omega), if_neg (show ¬ e_kd E a.1 = 3 by omega), if_neg (show ¬ (e_kd E a.1 = 4 ∨ e_kd E a.1 = 5) by omega), if_neg (show ¬ e_kd E a.1 = 6 by omega), if_pos k]
  by_cases c : e_df E (e_wh E a.1) = -1
  · rw [if_pos c, if_pos c]
  · rw [if_neg c, if_neg c]
theorem aK8 (k : e_kd E a.1 = 8) : actK E W l ls a = w_setlv W (nAdd l (e_on E a.1, a.2) :: ls) := by
  unfold actK
  rw [if_neg (show ¬ e_kd E a.1 = 0 by omega), if_neg (show ¬ (e_kd E a.1 = 1 ∨ e_kd E a.1 = 2) by omega), if_neg (show ¬ e_kd E a.1 = 3 by omega), if_neg (show ¬ (e_kd E a.1 = 4 ∨ e_kd E a.1 = 5) by omega), if_neg (show ¬ e_kd E a.1 = 6 by omega), if_neg (show ¬ e_kd E a.1 = 7 by omega), if_pos k]
theorem aK9 (k : e_kd E a.1 = 9) : actK E W l ls a = w_setlv W (nAdd (qAdd l (e_on E a.1, a.2)) a :: ls) := by
  unfold actK
  rw [if_neg (show ¬ e_kd E a.1 = 0 by omega), if_neg (show ¬ (e_kd E a.1 = 1 ∨ e_kd E a.1 = 2) by omega), if_neg (show ¬ e_kd E a.1 = 3 by omega), if_neg (show ¬ (e_kd E a.1 = 4 ∨ e_kd E a.1 = 5) by omega), if_neg (show ¬ e_kd E a.1 = 6 by omega), if_neg (show ¬ e_kd E a.1 = 7 by omega), if_neg (show ¬ e_kd E a.1 = 8 by omega), if_pos k]
theorem aK12 (k : e_kd E a.1 = 12) : actK E W l ls a = (w_V W, nextX (w_x W), lotP (w_x W) (e_a E a.1) (e_b E a.1) (w_pw W), w_tk W, qAdd l ((if isFi (w_x W) (e_a E a.1) (e_b E a.1) = true then e_on E a.1 else e_ot E a.1), a.2) :: ls, w_ov W, w_cs W, w_lg W) := by
  unfold actK
  rw [if_neg (show ¬ e_kd E a.1 = 0 by omega), if_neg (show ¬ (e_kd E a.1 = 1 ∨ e_kd E a.1 = 2) by omega), if_neg (show ¬ e_kd E a.1 = 3 by omega), if_neg (show ¬ (e_kd E a.1 = 4 ∨ e_kd E a.1 = 5) by omega), if_neg (show ¬ e_kd E a.1 = 6 by omega), if_neg (show ¬ e_kd E a.1 = 7 by omega), if_neg (show ¬ e_kd E a.1 = 8 by omega), if_neg (show ¬ e_kd E a.1 = 9 by omega), if_pos k]
theorem aK13 (k : e_kd E a.1 = 13) : actK E W l ls a = (if 3 ≤ ls.length then w_setlv W (qAdd l (e_ot E a.1, a.2) :: ls) else w_setlv W (daredL (w_V W) (e_on E a.1) (e_ot E a.1) a :: l :: ls)) := by
  unfold actK
  rw [if_neg (show ¬ e_kd E a.1 = 0 by omega), if_neg (show ¬ (e_kd E a.1 = 1 ∨ e_kd E a.1 = 2) by omega), if_neg (show ¬ e_kd E a.1 = 3 by omega), if_neg (show ¬ (e_kd E a.1 = 4 ∨ e_kd E a.1 = 5) by omega), if_neg (show ¬ e_kd E a.1 = 6 by omega), if_neg (show ¬ e_kd E a.1 = 7 by omega), if_neg (show ¬ e_kd E a.1 = 8 by omega), if_neg (show ¬ e_kd E a.1 = 9 by omega), if_neg (show ¬ e_kd E a.1 = 12 by omega), if_pos k]
theorem aK10 (k : e_kd E a.1 = 10 ∨ e_kd E a.1 = 11) : actK E W l ls a = w_setlv W (wAdd l a :: ls) := by
  unfold actK
  rw [if_neg (show ¬ e_kd E a.1 = 0 by omega), if_neg (show ¬ (e_kd E a.1 = 1 ∨ e_kd E a.1 = 2) by omega), if_neg (show ¬ e_kd E a.1 = 3 by omega), if_neg (show ¬ (e_kd E a.1 = 4 ∨ e_kd E a.1 = 5) by omega), if_neg (show ¬ e_kd E a.1 = 6 by omega), if_neg (show ¬ e_kd E a.1 = 7 by omega), if_neg (show ¬ e_kd E a.1 = 8 by omega), if_neg (show ¬ e_kd E a.1 = 9 by omega), if_neg (show ¬ e_kd E a.1 = 12 by omega), if_neg (show ¬ e_kd E a.1 = 13 by omega)]
end
