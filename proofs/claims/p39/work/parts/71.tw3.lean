/-! THE WORLD in the class: asking, hiding, calling, daring -/
section
variable {σ : St} {δ : Dy} {wp nd ro base : Nat} {E : Ev} {made : Int} {W : Wo} {S : Sto} {ac : Int} {fl : Bool} {a : Ag} {l : Lv} {ls : List Lv}
theorem PWo_blk {k n : Nat} (h : wp ≤ k) (h2 : k + n ≤ wp + 486) (h3 : wp + 13 < k ∨ k + n ≤ wp + 13) {d : Dy} (hF : Fr (blk k n) δ d) : Fr (PWo wp) δ d := hF.wk (fun r hr => by unfold blk at hr; unfold PWo; omega)
theorem REn_PW {d : Dy} {P : Nat → Prop} (hK : KWo σ wp nd ro) (hE : REn δ nd ro wp E) (hm : e_md E ≤ 8) (hF : Fr P δ d) (hP : ∀ r, P r → wp ≤ r ∧ ¬ r = wp + 13) : REn d nd ro wp E := by
  have hl := hK.1
  exact REn_of_Fr hE hm hF (fun r a b p => by have := hP r p; omega) (fun r a b p => by have := hP r p; omega) (fun p => by have := hP _ p; omega)
theorem t_ask159 (hK : KWo σ wp nd ro) (hN : RN δ nd E) (gE : GE E) (hR : RWo δ wp base made W) (hl : w_lv W = l :: ls) (h4 : ls.length < 4) (hv : (v_fr (w_V W)).length ≤ 183) (hH : RA δ (wp + 16) a) (hq : (l_q l).length < 120) {m : Int} (hm : gNode E m) : Ok (m_X10_ask_b159 σ wp (wp + 390 + 24 * ls.length) (ii m) δ) (fun d => RWo d wp base made (w_setlv W (qAdd l (e_on E m, a.2) :: ls)) ∧ Fr (PWo wp) δ d) := by
  obtain ⟨d, e, b1, b2, b3⟩ := t_addQ hK hR hl h4 hv hH hq (n := e_on E m)
  obtain ⟨-, k0, ⟨k1, k2, k3, k4, k5, k6, k7, k8⟩, ⟨c0, ⟨c1, c2, c3, c4, c5, c6⟩, d1, d2, d3, d4, d5, d6⟩, -, -, -, -, -, -, -, kA, kL⟩ := hK
  obtain ⟨⟨q0, ⟨q1, q2, q3, q4, q5, -⟩, -⟩, kq1, -⟩ := (kL ls.length h4).2
  have n5 := (hN.2 m hm).2.2.2.2.1
  have hmm : 0 ≤ m ∧ m < e_ct E := hm
  have gct := gE.1
  refine ⟨d, ?_, b1, PWo_blk (by omega) (by omega) (by omega) b3⟩
  unfold m_X10_ask_b159
  simp (disch := omega) only [gR_ko q0 q1, gR_ko k0 k1, gR_ko c0 c5, rI_kd d5, n5, gR_ko k0 k8, chk_ko kq1.1, e, ob_some]
theorem t_ask75 (hK : KWo σ wp nd ro) (hN : RN δ nd E) (gE : GE E) (hG : GS (v_S (w_V W))) (hR : RWo δ wp base made W) (hl : w_lv W = l :: ls) (h4 : ls.length < 4) (hv : (v_fr (w_V W)).length ≤ 183) (hH : RA δ (wp + 16) a) (ha : ∀ z, 0 ≤ z → z < 4 → tm (s_nv (v_S (w_V W))) (a.2.1 z)) (hq : (l_q l).length < 120) {m : Int} (hm : gNode E m) (hk : e_kd E m = 4) : Ok (m_X10_ask_b75 σ wp (wp + 390 + 24 * ls.length) (ii m) δ) (fun d => RWo d wp base made (w_setlv W (qAdd l (goA E (v_S (w_V W)) a m) :: ls)) ∧ Fr (PWo wp) δ d) := by
  have hK' := hK
  obtain ⟨⟨l1, l2⟩, k0, ⟨k1, k2, k3, k4, k5, k6, k7, k8⟩, ⟨c0, ⟨c1, c2, c3, c4, c5, c6⟩, d1, d2, d3, d4, d5, d6⟩, -, kS, -, -, -, -, -, kA, kL⟩ := hK
  obtain ⟨n1, n2, n3, n4, n5, n6⟩ := hN.2 m hm
  have hmm : 0 ≤ m ∧ m < e_ct E := hm
  have gct := gE.1
  have g := gE.2.2.2.2 m hm
  have gw := g.2.2.2.2.1 (Or.inl hk)
  unfold m_X10_ask_b75 goA
  by_cases c : e_wh E m < 10
  · rw [if_pos c]
    obtain ⟨d, e, b⟩ := t_ask159 hK' hN gE hR hl h4 hv hH hq hm
    refine ⟨d, ?_, b⟩
    simp (disch := omega) only [gR_ko k0 k1, gR_ko c0 c2, rI_kd d2, n2, ob_some, ii_lit, ii_lt, if_pos, e]
  · rw [if_neg c]
    have hwh : 10 ≤ e_wh E m ∧ e_wh E m ≤ 15 := by have := g.2.2.1; omega
    have ta := look_tm (S := v_S (w_V W)) ha g.2.1.1
    have tb := look_tm (S := v_S (w_V W)) ha g.2.1.2
    have ra := tm_rng ta hG.1.2.1
    have rb := tm_rng tb hG.1.2.1
    have xa := gTm_rng g.2.1.1
    have xb := gTm_rng g.2.1.2
    have e1 := t_look kA hH (t := e_a E m) (by omega) (by omega)
    have e2 := t_look kA hH (t := e_b E m) (by omega) (by omega)
    have e3 := t_lowest kS hR.1.1 hG (w := e_wh E m - 10) (a := lookA a (e_a E m)) (b := lookA a (e_b E m)) (by omega) (by omega) (by omega) (by omega) (by omega) (by omega)
    have hfnd := fnd_spec (P := isTok (v_S (w_V W)) (e_wh E m - 10) (form (v_S (w_V W)) (lookA a (e_a E m))) (form (v_S (w_V W)) (lookA a (e_b E m)))) (s_nt (v_S (w_V W))).toNat 0
    have hlow : -1 ≤ lowest (v_S (w_V W)) (e_wh E m - 10) (lookA a (e_a E m)) (lookA a (e_b E m)) ∧ lowest (v_S (w_V W)) (e_wh E m - 10) (lookA a (e_a E m)) (lookA a (e_b E m)) ≤ 1000 := by
      have gn := hG.1
      unfold lowest
      rcases hfnd with ⟨h, -⟩ | ⟨h1, h2, -⟩ <;> omega
    generalize lowest (v_S (w_V W)) (e_wh E m - 10) (lookA a (e_a E m)) (lookA a (e_b E m)) = t at e3 hlow ⊢
    obtain ⟨D, eD, D1, D2⟩ := t_include kS kA hR.1.1 hG hH (by omega) hlow.1 hlow.2
    have hR' : RWo D wp base made W := RWo_of_Fr hR (by rw [hl]; show ls.length + 1 ≤ 4; omega) hv D2 (fun r p1 p2 p3 p4 p5 p6 p => by unfold blk at p; omega)
    obtain ⟨d, e, b1, b2⟩ := t_ask159 hK' (RN_of_Fr hN D2 (fun r p1 p2 p => by unfold blk at p; omega)) gE hR' hl h4 hv D1 hq hm
    refine ⟨d, ?_, b1, (PWo_blk (by omega) (by omega) (by omega) D2).tr b2⟩
    simp (disch := omega) only [gR_ko k0 k1, gR_ko k0 k2, gR_ko k0 k8, gR_ko c0 c2, gR_ko c0 c3, gR_ko c0 c4, rI_kd d2, rI_kd d3, rI_kd d4, n2, n3, n4, ob_some, ii_lit, ii_sub, ii_lt, if_neg, chk_ko kA.1, chk_ko kS.1, e1, e2, e3, eD, e]
theorem RWo_tk {z v : Int} (hR : RWo δ wp base made W) (h4 : (w_lv W).length ≤ 4) (hv : (v_fr (w_V W)).length ≤ 183) (z0 : 0 ≤ z) : RWo (u2 δ.1 (wp + 14) z.toNat (ii v), δ.2) wp base made (w_V W, w_x W, w_pw W, upf (w_tk W) z v, w_lv W, w_ov W, w_cs W, w_lg W) := by
  have hF : Fr (fun r => r = wp + 14) δ (u2 δ.1 (wp + 14) z.toNat (ii v), δ.2) := Fr_u2 rfl
  obtain ⟨r1, ⟨r2, r3⟩, r4, r5, r6, r7, r8, r9⟩ := hR
  refine ⟨RVv_cg r1 hv (fun r hr hr2 => hF r (by omega)) (by omega), ⟨?_, ?_⟩, ?_, RLs_of_Fr hF r5 (fun r a b p => by omega), fun j hj => RLany_of_Fr (r6 j hj) hF (fun r a b p => by omega), ?_, ?_, ?_⟩
  · rw [(hF _ (by omega)).1]; exact r2
  · unfold RPw; rw [(hF (wp + 12) (by omega)).1]; exact r3
  · intro y y0 y1
    show u2 δ.1 (wp + 14) z.toNat (ii v) (wp + 14) y.toNat = ii (upf (w_tk W) z v y)
    by_cases hy : y = z
    · subst hy
      simp only [u2, upf, and_self, ↓reduceIte]
    · simp (disch := omega) only [u2, upf, if_neg]
      exact r4 y y0 y1
  · rw [(hF wp (by omega)).1]; exact r7
  · rw [(hF wp (by omega)).1]; exact r8
  · rw [(hF wp (by omega)).1]; exact r9
theorem sideA_rng {tk : Int → Int} {n : Int} : sideA E S tk a n = -1 ∨ sideA E S tk a n = 0 ∨ sideA E S tk a n = 1 := by
  unfold sideA
  repeat' split
  all_goals first | exact Or.inl rfl | exact Or.inr (Or.inl rfl) | exact Or.inr (Or.inr rfl)
theorem t_askW (hK : KWo σ wp nd ro) (hN : RN δ nd E) (gE : GE E) (hG : GS (v_S (w_V W))) (hR : RWo δ wp base made W) (hl : w_lv W = l :: ls) (h4 : ls.length < 4) (hv : (v_fr (w_V W)).length ≤ 183) (hH : RA δ (wp + 16) a) (ha : gAg E (v_S (w_V W)) a) (htk : ∀ z, 0 ≤ w_tk W z ∧ w_tk W z ≤ 100000) (hq : (l_q l).length < 120) (hw : (l_w l).length < 60) (hk : e_kd E a.1 = 4 ∨ e_kd E a.1 = 5) : Ok (m_X10_act_b274 σ wp (wp + 390 + 24 * ls.length) (ii a.1) δ) (fun d => RWo d wp base made (askW E W l ls a) ∧ Fr (PWo wp) δ d) := by
  have hK' := hK
  have es := t_sideOf hK hN gE hR.1.1 hG hH ha hR.2.2.1 htk ha.1
  obtain ⟨⟨l1, l2⟩, k0, ⟨k1, k2, k3, k4, k5, k6, k7, k8⟩, ⟨c0, ⟨c1, c2, c3, c4, c5, c6⟩, d1, d2, d3, d4, d5, d6⟩, -, kS, -, -, -, ktk, -, kA, kL⟩ := hK
  obtain ⟨⟨q0, ⟨q1, q2, q3, q4, q5, -⟩, -⟩, kq1, kq2, -⟩ := (kL ls.length h4).2
  obtain ⟨n1, n2, n3, n4, n5, n6⟩ := hN.2 a.1 ha.1
  have hmm : 0 ≤ a.1 ∧ a.1 < e_ct E := ha.1
  have gct := gE.1
  have g := gE.2.2.2.2 a.1 ha.1
  have hsr := sideA_rng (E := E) (S := v_S (w_V W)) (tk := w_tk W) (a := a) (n := a.1)
  unfold m_X10_act_b274 askW
  rw [chk_ko k0, ob_some, es, ob_some, ob_some]
  generalize sideA E (v_S (w_V W)) (w_tk W) a a.1 = sd at hsr ⊢
  unfold m_X10_ask
  by_cases c : sd = -1
  · rw [if_pos c]
    obtain ⟨d, e, b1, b2, b3⟩ := t_addW hK' hR hl h4 hv hH hw (n := a.1)
    refine ⟨d, ?_, b1, PWo_blk (by omega) (by omega) (by omega) b3⟩
    rw [c]
    simp (disch := omega) only [ii_lit, ii_neg, if_pos, ↓reduceIte, gR_ko q0 q2, gR_ko k0 k8, chk_ko kq2.1, e, ob_some]
  · rw [if_neg c]
    by_cases h5 : e_kd E a.1 = 5
    · have g5 := g.2.2.2.2.2.1 h5
      have von := g.2.2.2.2.2.2.2.2.2.1 (by omega)
      have vot := g.2.2.2.2.2.2.2.2.2.2 (by omega)
      have hon : 0 ≤ e_on E a.1 ∧ e_on E a.1 < e_ct E := von
      have hot : 0 ≤ e_ot E a.1 ∧ e_ot E a.1 < e_ct E := vot
      rw [if_pos h5]
      have hR' := RWo_tk (z := 2 * a.1 + sd) (v := w_tk W (2 * a.1 + sd) + 1) hR (by rw [hl]; show ls.length + 1 ≤ 4; omega) hv (by omega)
      have hF1 : Fr (fun r => r = wp + 14) δ (u2 δ.1 (wp + 14) (2 * a.1 + sd).toNat (ii (w_tk W (2 * a.1 + sd) + 1)), δ.2) := Fr_u2 rfl
      have et := hR.2.2.1 (2 * a.1 + sd) (by omega) (by omega)
      have hN' := RN_of_Fr hN hF1 (fun r p1 p2 p => by omega)
      have hH' := RA_of_Fr hH hF1 (by omega) (by omega)
      have key : ∀ m, gNode E m → e_kd E m = 4 → ∃ d, m_X10_ask_b59 σ wp (wp + 390 + 24 * ls.length) (ii a.1) (ii sd) (ii m) δ = some d ∧ RWo d wp base made (w_V W, w_x W, w_pw W, upf (w_tk W) (2 * a.1 + sd) (w_tk W (2 * a.1 + sd) + 1), qAdd l (goA E (v_S (w_V W)) a m) :: ls, w_ov W, w_cs W, w_lg W) ∧ Fr (PWo wp) δ d := by
        intro m hm hkm
        obtain ⟨d, e, b1, b2⟩ := t_ask75 (l := l) (ls := ls) (W := (w_V W, w_x W, w_pw W, upf (w_tk W) (2 * a.1 + sd) (w_tk W (2 * a.1 + sd) + 1), w_lv W, w_ov W, w_cs W, w_lg W)) hK' hN' gE hG hR' hl h4 hv hH' ha.2 hq hm hkm
        refine ⟨d, ?_, b1, (hF1.wk (fun r p => by unfold PWo; omega)).tr b2⟩
        unfold m_X10_ask_b59
        simp (disch := omega) only [gR_ko k0 k6, ii_lit, ii_mul, ii_add, rI_kd ktk, et, wI_kd ktk, e, ob_some]
      rcases hsr with h | rfl | rfl
      · exact absurd h c
      · obtain ⟨d, e, b⟩ := key _ von g5.1.1
        refine ⟨d, ?_, ?_⟩
        · simp (disch := omega) only [ii_lit, ii_neg, ii_eq, if_neg, gR_ko k0 k1, gR_ko c0 c1, gR_ko c0 c5, rI_kd d1, rI_kd d5, n1, n5, h5, ob_some, if_pos, ↓reduceIte, e]
        · unfold whenA
          rw [if_pos h5, if_pos rfl]
          exact b
      · obtain ⟨d, e, b⟩ := key _ vot g5.1.2
        refine ⟨d, ?_, ?_⟩
        · simp (disch := omega) only [ii_lit, ii_neg, ii_eq, if_neg, gR_ko k0 k1, gR_ko c0 c1, gR_ko c0 c6, rI_kd d1, rI_kd d6, n1, n6, h5, ob_some, if_pos, ↓reduceIte, e]
        · unfold whenA
          rw [if_pos h5, if_neg (by decide)]
          exact b
    · have hk4 : e_kd E a.1 = 4 := by omega
      rw [if_neg h5]
      obtain ⟨d, e, b1, b2⟩ := t_ask75 (l := l) (ls := ls) hK' hN gE hG hR hl h4 hv hH ha.2 hq ha.1 hk4
      refine ⟨d, ?_, ?_, b2⟩
      · simp (disch := omega) only [ii_lit, ii_neg, ii_eq, if_neg, gR_ko k0 k1, gR_ko c0 c1, rI_kd d1, n1, ob_some, e]
      · unfold whenA
        rw [if_neg h5]
        exact b1
end
