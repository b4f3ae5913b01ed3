/-! THE WORLD in the class: giving up -/
section
variable {σ : St} {δ : Dy} {wp nd ro base : Nat} {E : Ev} {made : Int} {W : Wo} {S : Sto} {ac : Int} {fl : Bool} {a : Ag} {l : Lv} {ls : List Lv} {st : Int}
theorem gHi_gHe {Rs : Int → Rl} {made : Int} {hi : Hst} (h : gHi Rs made hi) (hm : made ≤ 8) : ∀ e ∈ hi, gHe e := fun e he => by
  obtain ⟨h1, h2, h3, -⟩ := h.2 e he
  exact ⟨⟨h1.1, by omega⟩, h2, h3⟩
theorem RWo_ov {d : Dy} (hR : RWo δ wp base made W) (h4 : (w_lv W).length ≤ 4) (hv : (v_fr (w_V W)).length ≤ 183) (b : Bool) : RWo (u2 δ.1 wp 9 (bi b), δ.2) wp base made (w_V W, w_x W, w_pw W, w_tk W, w_lv W, b, w_cs W, w_lg W) := by
  have hF : Fr (fun r => r = wp) δ (u2 δ.1 wp 9 (bi b), δ.2) := Fr_u2 rfl
  obtain ⟨r1, ⟨r2, r3⟩, r4, r5, r6, r7, r8, r9⟩ := hR
  refine ⟨RVv_cg r1 hv (fun r hr hr2 => hF r (by omega)) (by omega), ⟨?_, ?_⟩, ?_, RLs_of_Fr hF r5 (fun r a b p => by omega), fun j hj => RLany_of_Fr (r6 j hj) hF (fun r a b p => by omega), ?_, ?_, ?_⟩
  · rw [(hF _ (by omega)).1]; exact r2
  · unfold RPw; rw [(hF (wp + 12) (by omega)).1]; exact r3
  · unfold RTk; rw [(hF (wp + 14) (by omega)).1]; exact r4
  · simp (disch := omega) only [u2, if_neg]
    exact r7
  · simp only [u2, and_self, ↓reduceIte]
  · simp (disch := omega) only [u2, if_neg]
    exact r9
theorem t_giveUp (hK : KWo σ wp nd ro) (hG : GW E base st W) (hm : e_md E ≤ 8) (hR : RWo δ wp base made W) (hl : w_lv W = l :: ls) : Ok (m_X10_giveUp σ wp (wp + 390 + 24 * ls.length) δ) (fun d => RWo d wp base made (giveUp W) ∧ Fr (PWo wp) δ d) := by
  have hK' := hK
  have hrl := fun {j : Nat} (hj : j < 4) => rA_lv hK hj
  have hlen4 := hG.2.2.2.2.2.2.1
  have hlen4' := hlen4
  rw [hl] at hlen4
  have h4 : ls.length < 4 := hlen4
  obtain ⟨⟨l1, l2⟩, k0, ⟨k1, k2, k3, k4, k5, k6, k7, k8⟩, -, -, kS, kW, -, -, -, -, kA, kL⟩ := hK
  obtain ⟨g1, g2, g3, g4, g5, g6, g7, g8, g9, g10, g11⟩ := hG
  have hv : (v_fr (w_V W)).length ≤ 183 := by
    have h1 := okF_len g1.2.2.2.2.2.1
    have h2 := g1.2.2.2.2.2.2.1
    have h3 := g1.2.1
    omega
  have h8 := hR.2.2.2.2.2.1
  rw [hl] at h8
  have h8' : δ.1 wp 8 = ii (ls.length : Int) := by rw [h8]; exact congrArg ii (by show ((ls.length : Int) + 1) - 1 = _; omega)
  -- it stops
  have F1 : Fr (fun r => r = wp + 18) δ (u2 δ.1 (wp + 18) 3 (ii 0), δ.2) := Fr_u2 rfl
  have e1 : m_X6_stop σ (wp + 18) δ = some (u2 δ.1 (wp + 18) 3 (ii 0), δ.2) := by
    unfold m_X6_stop
    rw [show ((0 : Int32)) = ii 0 from rfl, pI_ko kW.1, ob_some]
  have hRW : RWr (u2 δ.1 (wp + 18) 3 (ii 0), δ.2) (wp + 18) base (v_ac (w_V W)) [] (v_hi (w_V W)) (v_fi (w_V W)) made := RWr_wk hR.1.2 (Int.le_refl _) (by simp only [u2, and_self, ↓reduceIte]; rfl) trivial (by simp (disch := omega) only [u2, if_neg]) (by simp (disch := omega) only [u2, if_neg]) rfl (F1 _ (by omega)).1 (F1 _ (by omega)).1
  generalize (u2 δ.1 (wp + 18) 3 (ii 0), δ.2) = d1 at F1 e1 hRW
  have hS1 : RS d1 (wp + 1) (v_S (w_V W)) (v_ac (w_V W)) (v_fl (w_V W)) := RS_of_Fr hR.1.1 F1 (fun r _ _ => by omega)
  have h81 : d1.1 wp 8 = ii (ls.length : Int) := by rw [(F1 wp (by omega)).1]; exact h8'
  unfold m_X10_giveUp giveUp
  rw [hl]
  cases ls with
  | nil =>
    dsimp only
    have hR1 : RWo d1 wp base made (w_setV W (v_setfr (w_V W) [])) := RWo_V hR hlen4' F1 (fun r p => by omega) ⟨hS1, hRW⟩
    refine ⟨(u2 d1.1 wp 9 (bi true), d1.2), ?_, ?_, (F1.wk (fun r p => by unfold PWo; omega)).tr (Fr_u2 (by unfold PWo; omega))⟩
    · have h81' : d1.1 wp 8 = ii 0 := h81
      simp (disch := omega) only [gR_ko k0 k3, chk_ko kW.1, e1, ob_some, gI_ko k0, h81', ii_lit, ↓reduceIte, pZ_ko k0 (Or.inr (show ii 1 = 1 from rfl))]
      rfl
    · have := RWo_ov (d := d1) hR1 hlen4' (by show (0 : Nat) ≤ 183; omega) true
      rw [show w_lv (w_setV W (v_setfr (w_V W) [])) = w_lv W from rfl, hl] at this
      exact this
  | cons l' ls' =>
    dsimp only
    rw [hl] at g6
    obtain ⟨⟨⟨s1, s2, s3, s4⟩, ⟨s5, s6⟩, s7⟩, -⟩ := g6
    have hRL := hR.2.2.2.1
    rw [hl] at hRL
    obtain ⟨hL1, hL2, hL3⟩ := hRL
    have hin := hL2.resolve_left (by show ¬ ls'.length + 1 = 0; omega)
    have hl1 : (l' :: ls').length = ls'.length + 1 := rfl
    have kv := (kL (ls'.length + 1) h4).2
    rw [hl1] at hin ⊢
    rw [hl1] at h81
    generalize hlv : wp + 390 + 24 * (ls'.length + 1) = lv at kv hin ⊢
    obtain ⟨⟨q0, ⟨q1, q2, q3, q4, q5, q6, q7, q8⟩, qa, qb, qc⟩, kq1, kq2, kq3, kq4, kq5⟩ := kv
    obtain ⟨hin1, hin2, hin3⟩ := hin
    have gn := g1.1.1
    -- it restores
    obtain ⟨d2, e2, hS2, F2⟩ := t_restore kS ⟨q0, ⟨q1, q2, q3, q4, q5, q6, q7, q8⟩, qa, qb, qc⟩ (by omega) hS1 (RV_of_Fr hin1 F1 (by omega) (by omega) (by omega) (by omega)) g1.1 s2.1 (by omega) s1.1 (by omega) (fun x x0 x1 => by have := s3 x x0 x1; omega)
    have hb2 : ∀ r, blk (wp + 1) 10 r → wp + 1 ≤ r ∧ r < wp + 11 := fun r p => by unfold blk at p; omega
    have F12 : Fr (fun r => (wp + 1 ≤ r ∧ r < wp + 11) ∨ r = wp + 18) δ d2 := (F1.wk (fun r p => by omega)).tr (F2.wk (fun r p => by have := hb2 r p; omega))
    have h10 : d2.1 lv 10 = ii ((l_hn l : Int) - base) := by rw [(F12 lv (by omega)).1]; exact hin2
    -- it forgets
    obtain ⟨w1, w2, w3, ⟨w4, w5, w6⟩, w7, w8, w9⟩ := hRW
    have hq : ∀ r, wp + 18 ≤ r → d2.1 r = d1.1 r ∧ d2.2 r = d1.2 r := fun r hr => F2 r (fun p => by have := hb2 r p; omega)
    have hH2 : HiR d2 (wp + 18 + 3) (v_hi (w_V W)) := by unfold HiR; rw [(hq (wp + 18 + 3) (by omega)).2]; exact w3
    have hC2 : RcR d2 (wp + 18 + 4) base (v_hi (w_V W)) := RcR_eq w7 (hq _ (by omega)).1
    have hac := g1.2.1
    obtain ⟨d3, e3, hH3, h73, hk3, F3⟩ := t_forget kW hH2 w4 (by omega) (by rw [(hq (wp + 18) (by omega)).1]; exact w6) hC2 g1.2.2.2.2.2.2.2.1 (gHi_gHe g1.2.2.2.2.2.2.2 (by have := g1.2.2.1; omega)) (want := l_hn l - base) (by omega)
    rw [show base + (l_hn l - base) = l_hn l by omega] at hH3
    have hlt : ((v_hi (w_V W)).take (l_hn l)).length = l_hn l := by rw [List.length_take]; omega
    have hV3 : RVv d3 (wp + 18) (wp + 1) base made (restS (v_S (w_V W)) (l_sv l), [], (v_hi (w_V W)).take (l_hn l), v_fi (w_V W), v_ac (w_V W), false) := by
      refine ⟨RS_of_Fr hS2 F3 (fun r _ _ => by omega), ?_, trivial, hH3, ⟨by rw [hlt]; omega, by rw [hlt]; show (l_hn l : Int) ≤ base + v_ac (w_V W); omega, ?_⟩, ?_, ?_, ?_⟩
      · rw [hk3 3 (by decide), (hq (wp + 18) (by omega)).1]; exact w1
      · rw [h73, hlt]
        exact congrArg ii (by omega)
      · intro j e he
        rw [List.getElem?_take] at he
        split at he
        · exact (congrFun ((F3 (wp + 18 + 4) (by omega)).1) j).trans (hC2 j e he)
        · cases he
      · rw [(F3 _ (by omega)).1, (hq _ (by omega)).1]; exact w8
      · rw [hk3 9 (by decide), (hq (wp + 18) (by omega)).1]; exact w9
    have F13 : Fr (fun r => (wp + 1 ≤ r ∧ r < wp + 11) ∨ (wp + 18 ≤ r ∧ r < wp + 22)) δ d3 := (F12.wk (fun r p => by omega)).tr (F3.wk (fun r p => by omega))
    have hR3 := RWo_V hR hlen4' F13 (fun r p => by omega) hV3
    -- the depth
    have h83 : d3.1 wp 8 = ii ((ls'.length : Int) + 1) := by rw [(F13 wp (by omega)).1, h8']; rfl
    have F4 : Fr (fun r => r = wp) d3 (u2 d3.1 wp 8 (ii (ls'.length : Int)), d3.2) := Fr_u2 rfl
    have e4 : pI σ d3 10 wp 8 (ii (ls'.length : Int)) = some (u2 d3.1 wp 8 (ii (ls'.length : Int)), d3.2) := pI_ko k0
    have t8 : (u2 d3.1 wp 8 (ii (ls'.length : Int)), d3.2).1 wp 8 = ii (ls'.length : Int) := by simp only [u2, and_self, ↓reduceIte]
    have t9 : (u2 d3.1 wp 8 (ii (ls'.length : Int)), d3.2).1 wp 9 = d3.1 wp 9 := by simp (disch := omega) only [u2, if_neg]
    have t11 : (u2 d3.1 wp 8 (ii (ls'.length : Int)), d3.2).1 wp 11 = d3.1 wp 11 ∧ (u2 d3.1 wp 8 (ii (ls'.length : Int)), d3.2).1 wp 10 = d3.1 wp 10 := ⟨by simp (disch := omega) only [u2, if_neg], by simp (disch := omega) only [u2, if_neg]⟩
    generalize (u2 d3.1 wp 8 (ii (ls'.length : Int)), d3.2) = d4 at F4 e4 t8 t9 t11
    -- the other one comes to hand
    have F14 : Fr (fun r => (wp ≤ r ∧ r < wp + 11) ∨ (wp + 18 ≤ r ∧ r < wp + 22)) δ d4 := (F13.wk (fun r p => by omega)).tr (F4.wk (fun r p => by omega))
    obtain ⟨d5, e5, hH5, F5⟩ := t_qread kq5 kA (by omega) (RQ_of_Fr hin3 F14 (fun r _ _ => by omega)) (i := 0) (a := l_ow l) rfl
    have hb5 : ∀ r, blk (wp + 16) 2 r → wp + 16 ≤ r ∧ r < wp + 18 := fun r p => by unfold blk at p; omega
    have F35 : Fr (fun r => r = wp ∨ r = wp + 16 ∨ r = wp + 17) d3 d5 := (F4.wk (fun r p => by omega)).tr (F5.wk (fun r p => by have := hb5 r p; omega))
    have hL3' : RLs d3 wp base (l' :: ls') := RLs_of_Fr F13 hL3 (fun r p1 p2 => by rw [hl1] at p2; omega)
    have hR5 : RWo d5 wp base made (w_setlv (w_setV W (restS (v_S (w_V W)) (l_sv l), [], (v_hi (w_V W)).take (l_hn l), v_fi (w_V W), v_ac (w_V W), false)) (l' :: ls')) := RWo_lvs hR3 (by show (0 : Nat) ≤ 183; omega) F35 (fun r p => by omega) (by rw [(F5 wp (fun p => by have := hb5 _ p; omega)).1]; exact t9) (by rw [(F5 wp (fun p => by have := hb5 _ p; omega)).1]; exact t11) (by rw [(F5 wp (fun p => by have := hb5 _ p; omega)).1, t8]; exact congrArg ii (by show (ls'.length : Int) = ((ls'.length : Int) + 1) - 1; omega)) (RLs_of_Fr F35 hL3' (fun r p1 p2 p => by rw [hl1] at p2; omega)) (fun j hj => RLany_of_Fr (hR3.2.2.2.2.1 j hj) F35 (fun r _ _ p => by omega))
    have hm1 : (l_q l').length < 120 := by
      have e1 : m1L (w_lv W) = m1L ls' + (l_q l').length + (l_w l').length + (l_q l).length + (l_w l).length := by rw [hl]; rfl
      have e2 : ((w_lv W).length : Int) = (ls'.length : Int) + 2 := by rw [hl]; rfl
      have := m1_nn ls'
      rw [e1, e2] at g8
      omega
    obtain ⟨D, eD, b1, b2, b3⟩ := t_addQ (l := l') (ls := ls') hK' hR5 rfl (by omega) (by show (0 : Nat) ≤ 183; omega) hH5 hm1 (n := (l_ow l).1)
    refine ⟨D, ?_, b1, (F14.wk (fun r p => by unfold PWo; omega)).tr ((PWo_blk (by omega) (by omega) (by omega) F5).tr (PWo_blk (by omega) (by omega) (by omega) b3))⟩
    have h8z : d1.1 wp 8 = ii ((ls'.length : Int) + 1) := h81
    have h85 : d5.1 wp 8 = ii (ls'.length : Int) := by rw [(F5 wp (fun p => by have := hb5 _ p; omega)).1]; exact t8
    have e3' : m_X6_forget σ (wp + 18) (ii ((l_hn l : Int) - base)) d2 = some d3 := by
      rw [← e3]
      exact congrArg (fun z => m_X6_forget σ (wp + 18) (ii z) d2) (by omega)
    have hn5 := hH5.1
    obtain ⟨⟨p0, ⟨p1, -⟩, -⟩, pq1, -⟩ := (kL ls'.length (by omega)).2
    have erA := hrl (j := ls'.length) (by omega)
    simp (disch := omega) only [gR_ko k0 k3, chk_ko kW.1, e1, ob_some, gI_ko k0, h8z, ii_lit, ii_eq, if_neg, gR_ko k0 k2, chk_ko kS.1, e2, gI_ko q0, h10, e3', h83, ii_sub, Int.add_sub_cancel, e4, gR_ko q0 q5, gR_ko k0 k8, chk_ko kq5.1, show ii 0 = ii ((0 : Nat) : Int) from rfl, e5, gR_ko k0 k7, h85, erA, gR_ko p0 p1, gI_ko kA.1, hn5, chk_ko pq1.1, eD]
end
