/-! THE REFERENCE: what agents do, kind by kind -/
def wL : List Lv → Nat
  | [] => 0
  | l :: ls => wL ls + (l_w l).length
/-- an act has come out as it is meant -/
def ActW (δ d : Dy) (mo n : Nat) (E : Ev) (ch : Nat → Nat) (W A : Wo) : Prop := ∃ n' : Nat, RWm d mo n' E ch A ∧ n' + wL (w_lv A) + (w_lv A).length ≤ n + wL (w_lv W) + (w_lv W).length + 2 ∧ RF mo δ d
section
variable {σ : St} {δ d : Dy} {mo g n n' : Nat} {E : Ev} {W : Wo} {a : Ag} {l : Lv} {ls ls' : List Lv} {m : Int} {ch : Nat → Nat}
theorem ActW_G (h : RWm δ mo n E ch W) (hG : GS (v_S (w_V W))) (hh : (v_hi (w_V W)).length ≤ 2000) (hF : GFm mo δ d) (hg : RGm d mo n' E ls') (hc : n' + wL ls' + ls'.length ≤ n + wL (w_lv W) + (w_lv W).length + 2) : ActW δ d mo n E ch W (w_setlv W ls') := ⟨n', RWm_G h hG hh hF hg, hc, RF_G hF⟩
theorem m_aBoth (hK : KM σ mo) (hN : RNm δ mo E) (gE : GE E) (h : RGm δ mo n E (l :: ls)) (hJ : ls.length < 4) (hg : g < n) (hn : n < 1980) (hA : RAm δ mo g a) (hm : gNode E m) (hk : e_kd E m = 3) (hq : (l_q l).length < 390) : Ok (
          (gR σ 12 mo 3).bind fun v33 =>
          (rI σ δ v33 (ii m)).bind fun v34 =>
          (chk σ 12 mo).bind fun _ => (m_X12_another σ mo (ii g) v34 δ).bind fun v35 =>
          (chk σ 12 mo).bind fun _ => (m_X12_enqueue σ mo v35.1 v35.2).bind fun v36 =>
          (gR σ 12 mo 4).bind fun v37 =>
          (rI σ v36 v37 (ii m)).bind fun v38 =>
          (chk σ 12 mo).bind fun _ => (m_X12_another σ mo (ii g) v38 v36).bind fun v39 =>
          (chk σ 12 mo).bind fun _ => (m_X12_enqueue σ mo v39.1 v39.2).bind fun v40 =>
          some v40) (fun d => RGm d mo (n + 2) E (qAdd (qAdd l (e_on E m, a.2)) (e_ot E m, a.2) :: ls) ∧ GFm mo δ d) := by
  have hc := gE.1.2
  obtain ⟨q1, q2⟩ := (hN.2.2 m hm).2.2.2.1 (Or.inl hk)
  obtain ⟨d1, D1, x1, x2, x3, x4, x5⟩ := m_newq2 hK (m := e_on E m) h hJ hg (by omega) hA (by omega)
  obtain ⟨d2, D2, y1, y2, y3, y4, y5⟩ := m_newq2 hK (m := e_ot E m) x3 hJ (by omega) (by omega) x5 (by show ((l_q l) ++ [_]).length < 400; rw [List.length_append, List.length_singleton]; omega)
  have r1 := m_n1 (σ := σ) hK hc hm q1
  have r2 := m_n2 (σ := σ) (δ := D1) hK hc hm (v := ii (e_ot E m)) (by rw [(x4.1 (mo + 5) (by omega)).1]; exact q2)
  refine ⟨D2, ?_, y3, x4.tr y4⟩
  rw [mg3 hK, ob_some, r1, ob_some, chk_ko hK.1, ob_some, x1, ob_some, ob_some, x2, ob_some, mg4 hK, ob_some, r2, ob_some, ob_some, y1, ob_some, ob_some, y2, ob_some]
theorem m_aNext (hK : KM σ mo) (hN : RNm δ mo E) (gE : GE E) (h : RGm δ mo n E (l :: ls)) (hJ : ls.length < 4) (hg : g < n) (hn : n < 1980) (hA : RAm δ mo g a) (hm : gNode E m) (hk : e_kd E m = 8) (hq : (l_nx l).length < 390) : Ok (
                    (gR σ 12 mo 3).bind fun v79 =>
                    (rI σ δ v79 (ii m)).bind fun v80 =>
                    (chk σ 12 mo).bind fun _ => (m_X12_another σ mo (ii g) v80 δ).bind fun v81 =>
                    (chk σ 12 mo).bind fun _ => (m_X12_forNext σ mo v81.1 v81.2).bind fun v82 =>
                    some v82) (fun d => RGm d mo (n + 1) E (nAdd l (e_on E m, a.2) :: ls) ∧ GFm mo δ d) := by
  have hc := gE.1.2
  have q1 := (hN.2.2 m hm).2.2.2.2.2.2.2.2.1 (Or.inl hk)
  obtain ⟨⟨r1, d⟩, e, h1, h2, h3, h4⟩ := m_another hK hA (m := e_on E m) hg (by omega) h.2.1
  dsimp only at h1 h2 h3 h4
  subst h1
  obtain ⟨D, eD, k1, k2, k3⟩ := (m_push hK (RGm_new h h4 h3) hJ (Nat.lt_succ_self n) h2).2.2.1 (by omega)
  have r1 := m_n1 (σ := σ) hK hc hm q1
  refine ⟨D, ?_, k1, (GFm_AF h4).tr k2⟩
  rw [mg3 hK, ob_some, r1, ob_some, chk_ko hK.1, ob_some, e, ob_some, ob_some, eD, ob_some]
theorem m_aEach (hK : KM σ mo) (hN : RNm δ mo E) (gE : GE E) (h : RGm δ mo n E (l :: ls)) (hJ : ls.length < 4) (hg : g < n) (hn : n < 1980) (hA : RAm δ mo g a) (hm : gNode E m) (hk : e_kd E m = 9) (hq : (l_q l).length < 390) (hq2 : (l_nx l).length < 390) : Ok (
                      (gR σ 12 mo 3).bind fun v83 =>
                      (rI σ δ v83 (ii m)).bind fun v84 =>
                      (chk σ 12 mo).bind fun _ => (m_X12_another σ mo (ii g) v84 δ).bind fun v85 =>
                      (chk σ 12 mo).bind fun _ => (m_X12_enqueue σ mo v85.1 v85.2).bind fun v86 =>
                      (chk σ 12 mo).bind fun _ => (m_X12_forNext σ mo (ii g) v86).bind fun v87 =>
                      some v87) (fun d => RGm d mo (n + 1) E (nAdd (qAdd l (e_on E m, a.2)) a :: ls) ∧ GFm mo δ d) := by
  have hc := gE.1.2
  have q1 := (hN.2.2 m hm).2.2.2.2.2.2.2.2.1 (Or.inr hk)
  obtain ⟨d1, D1, x1, x2, x3, x4, x5⟩ := m_newq2 hK (m := e_on E m) h hJ hg (by omega) hA (by omega)
  obtain ⟨D, eD, k1, k2, k3⟩ := (m_push hK x3 hJ (show g < n + 1 by omega) x5).2.2.1 (show (l_nx l).length < 400 by omega)
  have r1 := m_n1 (σ := σ) hK hc hm q1
  refine ⟨D, ?_, k1, x4.tr k2⟩
  rw [mg3 hK, ob_some, r1, ob_some, chk_ko hK.1, ob_some, x1, ob_some, ob_some, x2, ob_some, ob_some, eD, ob_some]
/-- the record of a new agent is written over -/
theorem RAm_slot {v : Int} {z : Nat} (hA : RAm δ mo n a) (hz : z < 4) : RAm (u2 δ.1 (mo + 17) (9 * n + 1 + z) (ii v), δ.2) mo n (a.1, upf a.2.1 z v, a.2.2) := by
  refine ⟨?_, fun y hy => ?_, B32_eq hA.2.2 (fun k hk => ?_)⟩
  · simp (disch := omega) only [u2, if_neg]
    exact hA.1
  · show _ = ii (upf a.2.1 z v y)
    unfold upf
    by_cases h : y = z
    · rw [h, if_pos rfl]
      simp only [u2, and_self, ↓reduceIte]
    · rw [if_neg (by omega)]
      simp (disch := omega) only [u2, if_neg]
      exact hA.2.1 y hy
  · simp (disch := omega) only [u2, if_neg]
theorem m_aCall (hK : KM σ mo) (hN : RNm δ mo E) (gE : GE E) (h : RGm δ mo n E (l :: ls)) (hJ : ls.length < 4) (hg : g < n) (hn : n < 1980) (hA : RAm δ mo g a) (hm : gNode E m) (hk : e_kd E m = 7) (hq : (l_q l).length < 390) : Ok (
                  (gR σ 12 mo 8).bind fun v55 =>
                  (gR σ 12 mo 3).bind fun v56 =>
                  (rI σ δ v56 (ii m)).bind fun v57 =>
                  (rI σ δ v55 v57).bind fun v58 =>
                  if v58 = (-1 : Int32) then
                    some δ
                  else
                    (gR σ 12 mo 8).bind fun v59 =>
                    (gR σ 12 mo 3).bind fun v60 =>
                    (rI σ δ v60 (ii m)).bind fun v61 =>
                    (rI σ δ v59 v61).bind fun v62 =>
                    (chk σ 12 mo).bind fun _ => (m_X12_another σ mo (ii g) v62 δ).bind fun v63 =>
                    (gR σ 12 mo 21).bind fun v64 =>
                    (gR σ 12 mo 4).bind fun v65 =>
                    (rI σ v63.2 v65 (ii m)).bind fun v66 =>
                    (chk σ 12 mo).bind fun _ => (m_X12_look σ mo (ii g) v66 v63.2).bind fun v67 =>
                    (wI σ v63.2 v64 (((9 : Int32) * v63.1) + (1 : Int32)) v67).bind fun d68 =>
                    (gR σ 12 mo 21).bind fun v69 =>
                    (gR σ 12 mo 5).bind fun v70 =>
                    (rI σ d68 v70 (ii m)).bind fun v71 =>
                    (chk σ 12 mo).bind fun _ => (m_X12_look σ mo (ii g) v71 d68).bind fun v72 =>
                    (wI σ d68 v69 (((9 : Int32) * v63.1) + (2 : Int32)) v72).bind fun d73 =>
                    (gR σ 12 mo 21).bind fun v74 =>
                    (wI σ d73 v74 (((9 : Int32) * v63.1) + (3 : Int32)) (0 : Int32)).bind fun d75 =>
                    (gR σ 12 mo 21).bind fun v76 =>
                    (wI σ d75 v76 (((9 : Int32) * v63.1) + (4 : Int32)) (0 : Int32)).bind fun d77 =>
                    (chk σ 12 mo).bind fun _ => (m_X12_enqueue σ mo v63.1 d77).bind fun v78 =>
                    some v78) (fun d => ∃ n', n' ≤ n + 1 ∧ RGm d mo n' E ((if e_df E (e_wh E m) = -1 then l else qAdd l (e_df E (e_wh E m), (fun z => if z = 0 then lookA a (e_a E m) else if z = 1 then lookA a (e_b E m) else 0), a.2.2)) :: ls) ∧ GFm mo δ d) := by
  have hc := gE.1.2
  obtain ⟨-, ⟨ta, tb⟩, w0, -, -, -, -, w7, -⟩ := gE.2.2.2.2 m hm
  have w5 := w7 hk
  obtain ⟨q1, q2, q3⟩ := (hN.2.2 m hm).2.2.2.2.2.2.2.1 hk
  have r1 := m_n1 (σ := σ) hK hc hm q1
  have qd := hN.2.1 (e_wh E m).toNat (by omega)
  rw [show (((e_wh E m).toNat : Nat) : Int) = e_wh E m by omega] at qd
  have r8 : rI σ δ (mo + 8) (ii (e_wh E m)) = some (ii (e_df E (e_wh E m))) := rst (md8 hK) (by omega) (by omega) rfl qd
  have gd := gE.2.2.2.1 (e_wh E m) (by omega) (by omega)
  have l1 : (-1 : Int32) = ii (-1) := rfl
  have hdr : -1 ≤ e_df E (e_wh E m) ∧ e_df E (e_wh E m) ≤ 60 := by
    rcases gd with h0 | h0
    · omega
    · have : 0 ≤ e_df E (e_wh E m) ∧ e_df E (e_wh E m) < e_ct E := h0
      omega
  rw [mg8 hK, ob_some, mg3 hK, ob_some, r1, ob_some, r8, ob_some, l1]
  by_cases c : e_df E (e_wh E m) = -1
  · rw [if_pos (congrArg ii c), if_pos c]
    exact ⟨δ, rfl, n, by omega, h, GFm.rf⟩
  · rw [if_neg (show ¬ ii (e_df E (e_wh E m)) = ii (-1) by rw [ii_eq (by omega) (by omega) (by omega) (by omega)]; exact c), if_neg c, ob_some, ob_some, r1, ob_some, r8, ob_some]
    obtain ⟨⟨r1, d⟩, e, h1, h2, h3, h4⟩ := m_another hK hA (m := e_df E (e_wh E m)) hg (by omega) h.2.1
    dsimp only at h1 h2 h3 h4
    subst h1
    have p2 := m_n2 (σ := σ) (δ := d) hK hc hm (v := ii (e_a E m)) (by rw [(h4.1 (mo + 5) (by omega)).1]; exact q2)
    have hAd : RAm d mo g a := RAm_eq hA (fun k _ hk2 => h4.2.2 k (by omega))
    have la := m_look (δ := d) hK hAd (by omega) ta
    have hS1 := RAm_slot (v := lookA a (e_a E m)) (z := 0) h2 (by omega)
    have hF1 : AF mo n d (u2 d.1 (mo + 17) (9 * n + 1 + 0) (ii (lookA a (e_a E m))), d.2) := AF_u2 (by omega)
    have e1 : wI σ d (mo + 17) (ii (9 * n + 1)) (ii (lookA a (e_a E m))) = some (u2 d.1 (mo + 17) (9 * n + 1 + 0) (ii (lookA a (e_a E m))), d.2) := by rw [wI_kd (md21 hK) (by omega) (by omega), show (9 * (n : Int) + 1).toNat = 9 * n + 1 + 0 by omega]
    have b1 : (u2 d.1 (mo + 17) (9 * n + 1 + 0) (ii (lookA a (e_a E m))), d.2).1 mo 22 = d.1 mo 22 := by dsimp only; rw [u2_ne (by omega)]
    generalize (u2 d.1 (mo + 17) (9 * n + 1 + 0) (ii (lookA a (e_a E m))), d.2) = d1 at hS1 hF1 e1 b1
    have p3 := m_n3 (σ := σ) (δ := d1) hK hc hm (v := ii (e_b E m)) (by rw [(hF1.1 (mo + 6) (by omega)).1, (h4.1 (mo + 6) (by omega)).1]; exact q3)
    have hAd1 : RAm d1 mo g a := RAm_eq hAd (fun k _ hk2 => hF1.2.2 k (by omega))
    have lb := m_look (δ := d1) hK hAd1 (by omega) tb
    have hS2 := RAm_slot (v := lookA a (e_b E m)) (z := 1) hS1 (by omega)
    have hF2 : AF mo n d1 (u2 d1.1 (mo + 17) (9 * n + 1 + 1) (ii (lookA a (e_b E m))), d1.2) := AF_u2 (by omega)
    have e2 : wI σ d1 (mo + 17) (ii (9 * n + 2)) (ii (lookA a (e_b E m))) = some (u2 d1.1 (mo + 17) (9 * n + 1 + 1) (ii (lookA a (e_b E m))), d1.2) := by rw [wI_kd (md21 hK) (by omega) (by omega), show (9 * (n : Int) + 2).toNat = 9 * n + 1 + 1 by omega]
    have b2 : (u2 d1.1 (mo + 17) (9 * n + 1 + 1) (ii (lookA a (e_b E m))), d1.2).1 mo 22 = d1.1 mo 22 := by dsimp only; rw [u2_ne (by omega)]
    generalize (u2 d1.1 (mo + 17) (9 * n + 1 + 1) (ii (lookA a (e_b E m))), d1.2) = d2 at hS2 hF2 e2 b2
    have hS3 := RAm_slot (v := 0) (z := 2) hS2 (by omega)
    have hF3 : AF mo n d2 (u2 d2.1 (mo + 17) (9 * n + 1 + 2) (ii 0), d2.2) := AF_u2 (by omega)
    have e3 : wI σ d2 (mo + 17) (ii (9 * n + 3)) (ii 0) = some (u2 d2.1 (mo + 17) (9 * n + 1 + 2) (ii 0), d2.2) := by rw [wI_kd (md21 hK) (by omega) (by omega), show (9 * (n : Int) + 3).toNat = 9 * n + 1 + 2 by omega]
    have b3 : (u2 d2.1 (mo + 17) (9 * n + 1 + 2) (ii 0), d2.2).1 mo 22 = d2.1 mo 22 := by dsimp only; rw [u2_ne (by omega)]
    generalize (u2 d2.1 (mo + 17) (9 * n + 1 + 2) (ii 0), d2.2) = d3 at hS3 hF3 e3 b3
    have hS4 := RAm_slot (v := 0) (z := 3) hS3 (by omega)
    have hF4 : AF mo n d3 (u2 d3.1 (mo + 17) (9 * n + 1 + 3) (ii 0), d3.2) := AF_u2 (by omega)
    have e4 : wI σ d3 (mo + 17) (ii (9 * n + 4)) (ii 0) = some (u2 d3.1 (mo + 17) (9 * n + 1 + 3) (ii 0), d3.2) := by rw [wI_kd (md21 hK) (by omega) (by omega), show (9 * (n : Int) + 4).toNat = 9 * n + 1 + 3 by omega]
    have b4 : (u2 d3.1 (mo + 17) (9 * n + 1 + 3) (ii 0), d3.2).1 mo 22 = d3.1 mo 22 := by dsimp only; rw [u2_ne (by omega)]
    generalize (u2 d3.1 (mo + 17) (9 * n + 1 + 3) (ii 0), d3.2) = d4 at hS4 hF4 e4 b4
    have hAF := h4.tr (hF1.tr (hF2.tr (hF3.tr hF4)))
    have hR : RAm d4 mo n (e_df E (e_wh E m), (fun z => if z = 0 then lookA a (e_a E m) else if z = 1 then lookA a (e_b E m) else 0), a.2.2) := by
      refine ⟨hS4.1, fun z hz => ?_, hS4.2.2⟩
      rw [hS4.2.1 z hz]
      rcases (show z = 0 ∨ z = 1 ∨ z = 2 ∨ z = 3 by omega) with rfl | rfl | rfl | rfl <;> rfl
    obtain ⟨D, eD, k1, k2, k3⟩ := (m_push hK (RGm_new h hAF (by rw [b4, b3, b2, b1]; exact h3)) hJ (Nat.lt_succ_self n) hR).1 (by omega)
    refine ⟨D, ?_, n + 1, Nat.le_refl _, k1, (GFm_AF hAF).tr k2⟩
    rw [chk_ko hK.1, ob_some, e, ob_some, mg21 hK, ob_some, mg4 hK, ob_some]
    dsimp only
    rw [p2, ob_some, ob_some, la, ob_some, show ((9 : Int32)) = ii 9 from rfl, show ((1 : Int32)) = ii 1 from rfl, show ((2 : Int32)) = ii 2 from rfl, show ((3 : Int32)) = ii 3 from rfl, show ((4 : Int32)) = ii 4 from rfl, show ((0 : Int32)) = ii 0 from rfl, ii_mul, ii_add, ii_add, ii_add, ii_add, e1, ob_some, ob_some, mg5 hK, ob_some, p3, ob_some, ob_some, lb, ob_some, e2, ob_some, ob_some, e3, ob_some, ob_some, e4, ob_some, ob_some, eD, ob_some]
end
