/-! THE WORLD in the class: hiding, calling, daring, giving up -/
section
variable {σ : St} {δ : Dy} {wp nd ro base : Nat} {E : Ev} {made : Int} {W : Wo} {S : Sto} {ac : Int} {fl : Bool} {a : Ag} {l : Lv} {ls : List Lv}
theorem w_setlv_self {W : Wo} {ls : List Lv} (h : w_lv W = ls) : w_setlv W ls = W := by
  subst h
  rfl
theorem RWo_lvs {d : Dy} {lv' : List Lv} {P : Nat → Prop} (hR : RWo δ wp base made W) (hv : (v_fr (w_V W)).length ≤ 183) (hF : Fr P δ d) (hP : ∀ r, P r → r = wp ∨ (wp + 390 ≤ r ∧ r < wp + 486) ∨ r = wp + 16 ∨ r = wp + 17) (h9 : d.1 wp 9 = δ.1 wp 9) (h11 : d.1 wp 11 = δ.1 wp 11 ∧ d.1 wp 10 = δ.1 wp 10) (h8 : d.1 wp 8 = ii ((lv'.length : Int) - 1)) (hL : RLs d wp base lv') (hA : ∀ j : Nat, j < 4 → RLany d (wp + 390 + 24 * j)) : RWo d wp base made (w_setlv W lv') := by
  obtain ⟨r1, ⟨r2, r3⟩, r4, r5, r6, r7, r8, r9⟩ := hR
  have h := fun r (hr : ¬ (r = wp ∨ (wp + 390 ≤ r ∧ r < wp + 486) ∨ r = wp + 16 ∨ r = wp + 17)) => hF r (fun p => hr (hP r p))
  refine ⟨RVv_cg r1 hv (fun r hr hr2 => h r (by omega)) (by omega), ⟨?_, ?_⟩, ?_, hL, hA, h8, h9.trans r8, ⟨h11.1.trans r9.1, h11.2.trans r9.2⟩⟩
  · rw [(h _ (by omega)).1]; exact r2
  · unfold RPw; rw [(h (wp + 12) (by omega)).1]; exact r3
  · unfold RTk; rw [(h (wp + 14) (by omega)).1]; exact r4
theorem t_conceal (hK : KWo σ wp nd ro) (hG : GS (v_S (w_V W))) (hR : RWo δ wp base made W) (hl : w_lv W = l :: ls) (h4 : ls.length < 4) (hv : (v_fr (w_V W)).length ≤ 183) (hH : RA δ (wp + 16) a) (hq : (l_q l).length < 120) {slot node : Int} (s0 : 0 ≤ slot) (s1 : slot ≤ 3) : Ok (m_X10_conceal σ wp (wp + 390 + 24 * ls.length) (ii slot) (ii node) δ) (fun d => RWo d wp base made (if s_nv (v_S (w_V W)) = 60 then w_setlv (w_setV W (v_setfl (w_V W) true)) (l :: ls) else w_setlv (w_setV W (v_setS (w_V W) (mkvar (v_S (w_V W))))) (qAdd l (node, upf a.2.1 slot (400 + s_nv (v_S (w_V W))), a.2.2) :: ls)) ∧ Fr (PWo wp) δ d) := by
  have hK' := hK
  obtain ⟨⟨l1, l2⟩, k0, ⟨k1, k2, k3, k4, k5, k6, k7, k8⟩, -, -, kS, -, -, -, -, -, kA, kL⟩ := hK
  obtain ⟨⟨q0, ⟨q1, q2, q3, q4, q5, -⟩, -⟩, kq1, kq2, -⟩ := (kL ls.length h4).2
  have gn := hG.1
  have hl4 : (w_lv W).length ≤ 4 := by rw [hl]; exact h4
  unfold m_X10_conceal
  by_cases c : s_nv (v_S (w_V W)) = 60
  · rw [if_pos c]
    obtain ⟨⟨x, d⟩, e, e1, e2, e3⟩ := t_mkvarF kS hR.1.1 c
    dsimp only at e1 e2 e3
    subst e1
    refine ⟨d, ?_, ?_, PWo_blk (by omega) (by omega) (by omega) e3⟩
    · simp (disch := omega) only [gR_ko k0 k2, chk_ko kS.1, e, ob_some, ii_lit, ii_neg, ↓reduceIte]
    · rw [w_setlv_self (W := w_setV W (v_setfl (w_V W) true)) hl]
      exact RWo_V hR hl4 e3 (fun r p => Or.inl (by unfold blk at p; omega)) (RVv_st hR.1 (by omega) e3 e2 (Int.le_refl _))
  · rw [if_neg c]
    obtain ⟨⟨x, d⟩, e, e1, e2, e3⟩ := t_mkvar kS hR.1.1 hG (by omega)
    dsimp only at e1 e2 e3
    subst e1
    have hb : ∀ r, blk (wp + 1) 10 r → wp + 1 ≤ r ∧ r < wp + 11 := fun r p => by unfold blk at p; omega
    have hR1 : RWo d wp base made (w_setV W (v_setS (w_V W) (mkvar (v_S (w_V W))))) := RWo_V hR hl4 e3 (fun r p => Or.inl (hb r p)) (RVv_st hR.1 (by omega) e3 e2 (Int.le_refl _))
    have hH1 : RA d (wp + 16) a := RA_of_Fr hH e3 (fun p => by have := hb _ p; omega) (fun p => by have := hb _ p; omega)
    have hF2 : Fr (fun r => r = wp + 17) d (u2 d.1 (wp + 17) slot.toNat (ii (400 + s_nv (v_S (w_V W)))), d.2) := Fr_u2 rfl
    have hH2 : RA (u2 d.1 (wp + 17) slot.toNat (ii (400 + s_nv (v_S (w_V W)))), d.2) (wp + 16) (node, upf a.2.1 slot (400 + s_nv (v_S (w_V W))), a.2.2) ∨ True := Or.inr trivial
    have hH3 : RA (u2 d.1 (wp + 17) slot.toNat (ii (400 + s_nv (v_S (w_V W)))), d.2) (wp + 16) (a.1, upf a.2.1 slot (400 + s_nv (v_S (w_V W))), a.2.2) := by
      obtain ⟨p1, p2, p3⟩ := hH1
      refine ⟨?_, fun z z0 z1 => ?_, p3⟩
      · simp (disch := omega) only [u2, if_neg]
        exact p1
      · show u2 d.1 (wp + 17) slot.toNat (ii (400 + s_nv (v_S (w_V W)))) (wp + 16 + 1) z.toNat = ii (upf a.2.1 slot (400 + s_nv (v_S (w_V W))) z)
        by_cases hz : z = slot
        · subst hz
          simp only [u2, upf, and_self, ↓reduceIte]
        · simp (disch := omega) only [u2, upf, if_neg]
          exact p2 z z0 z1
    have hR2 : RWo (u2 d.1 (wp + 17) slot.toNat (ii (400 + s_nv (v_S (w_V W)))), d.2) wp base made (w_setV W (v_setS (w_V W) (mkvar (v_S (w_V W))))) := RWo_of_Fr hR1 hl4 hv hF2 (fun r p1 p2 p3 p4 p5 p6 p => by omega)
    obtain ⟨D, eD, b1, b2, b3⟩ := t_addQ (l := l) (ls := ls) hK' hR2 hl h4 hv hH3 hq (n := node)
    refine ⟨D, ?_, b1, (PWo_blk (by omega) (by omega) (by omega) e3).tr ((hF2.wk (fun r p => by unfold PWo; omega)).tr (PWo_blk (by omega) (by omega) (by omega) b3))⟩
    have kA2 : KD σ (wp + 17) 100 4 := kA.2.2
    have kA1 : srv σ (wp + 16) 0 = some (wp + 17) := kA.2.1
    simp (disch := omega) only [gR_ko k0 k2, chk_ko kS.1, e, ob_some, ii_lit, ii_neg, ii_eq, ii_lt, if_neg, if_pos, gR_ko k0 k8, gR_ko kA.1 kA1, ii_add, wI_kd kA2, gR_ko q0 q1, chk_ko kq1.1, eD]
theorem t_enter (hK : KWo σ wp nd ro) (hR : RWo δ wp base made W) (hl : w_lv W = l :: ls) (h4 : ls.length < 4) (hv : (v_fr (w_V W)).length ≤ 183) (hH : RA δ (wp + 16) a) (hq : (l_q l).length < 120) {df x y : Int} (d0 : -1 ≤ df) (d1 : df ≤ 100) : Ok (m_X10_enter σ wp (wp + 390 + 24 * ls.length) (ii df) (ii x) (ii y) δ) (fun d => RWo d wp base made (if df = -1 then w_setlv W (l :: ls) else w_setlv W (qAdd l (df, (fun z => if z = 0 then x else if z = 1 then y else 0), a.2.2) :: ls)) ∧ Fr (PWo wp) δ d) := by
  have hK' := hK
  obtain ⟨⟨l1, l2⟩, k0, ⟨k1, k2, k3, k4, k5, k6, k7, k8⟩, -, -, kS, -, -, -, -, -, kA, kL⟩ := hK
  obtain ⟨⟨q0, ⟨q1, q2, q3, q4, q5, -⟩, -⟩, kq1, kq2, -⟩ := (kL ls.length h4).2
  have hl4 : (w_lv W).length ≤ 4 := by rw [hl]; exact h4
  unfold m_X10_enter
  by_cases c : df = -1
  · rw [if_pos c, w_setlv_self hl]
    refine ⟨δ, ?_, hR, Fr.rf⟩
    rw [c, if_pos (show ii (-1) = (-1 : Int32) from rfl)]
  · rw [if_neg c]
    obtain ⟨d, e, e1, e2⟩ := t_take kA hH (n := df) (x := x) (y := y)
    have hb : ∀ r, blk (wp + 16) 2 r → wp + 16 ≤ r ∧ r < wp + 18 := fun r p => by unfold blk at p; omega
    have hR2 : RWo d wp base made W := RWo_of_Fr hR hl4 hv e2 (fun r p1 p2 p3 p4 p5 p6 p => by have := hb r p; omega)
    obtain ⟨D, eD, b1, b2, b3⟩ := t_addQ hK' hR2 hl h4 hv e1 hq (n := df)
    refine ⟨D, ?_, b1, (PWo_blk (by omega) (by omega) (by omega) e2).tr (PWo_blk (by omega) (by omega) (by omega) b3)⟩
    simp (disch := omega) only [ii_lit, ii_neg, ii_eq, if_neg, gR_ko k0 k8, chk_ko kA.1, e, ob_some, gR_ko q0 q1, chk_ko kq1.1, eD]
theorem t_open {lv : Nat} (hK : KLv σ lv) (hR : RLany δ lv) : Ok (m_X4_open σ lv δ) (fun d => (RQ d (lv + 1) 120 [] ∧ RQ d (lv + 5) 60 [] ∧ RQ d (lv + 9) 60 [] ∧ RQ d (lv + 13) 60 []) ∧ (∃ o, RQ d (lv + 17) 1 o) ∧ Fr (fun r => r = lv + 1 ∨ r = lv + 5 ∨ r = lv + 9 ∨ r = lv + 13) δ d) := by
  obtain ⟨⟨q0, ⟨q1, q2, q3, q4, q5, -⟩, -⟩, kq1, kq2, kq3, kq4, kq5⟩ := hK
  obtain ⟨⟨a1, r1⟩, ⟨a2, r2⟩, ⟨a3, r3⟩, ⟨a4, r4⟩, ⟨a5, r5⟩⟩ := hR
  have f1 : ∀ {x : Dy} {q : Nat}, Fr (fun r => r = q) x (u2 x.1 q 4 (ii 0), x.2) := fun {x q} => Fr_u2 rfl
  have g1 := f1 (x := δ) (q := lv + 1)
  obtain ⟨e1, s1, -⟩ := t_qclr kq1 r1
  generalize (u2 δ.1 (lv + 1) 4 (ii 0), δ.2) = d1 at e1 s1 g1
  have g2 := f1 (x := d1) (q := lv + 5)
  obtain ⟨e2, s2, -⟩ := t_qclr kq2 (RQ_of_Fr r2 g1 (fun r _ _ => by omega))
  generalize (u2 d1.1 (lv + 5) 4 (ii 0), d1.2) = d2 at e2 s2 g2
  have g3 := f1 (x := d2) (q := lv + 9)
  have g12 := (g1.wk (P' := fun r => r = lv + 1 ∨ r = lv + 5) (fun r p => Or.inl p)).tr (g2.wk (fun r p => Or.inr p))
  obtain ⟨e3, s3, -⟩ := t_qclr kq3 (RQ_of_Fr r3 g12 (fun r _ _ => by omega))
  generalize (u2 d2.1 (lv + 9) 4 (ii 0), d2.2) = d3 at e3 s3 g3
  have g4 := f1 (x := d3) (q := lv + 13)
  have g13 := (g12.wk (P' := fun r => r = lv + 1 ∨ r = lv + 5 ∨ r = lv + 9) (fun r p => by omega)).tr (g3.wk (fun r p => by omega))
  obtain ⟨e4, s4, -⟩ := t_qclr kq4 (RQ_of_Fr r4 g13 (fun r _ _ => by omega))
  generalize (u2 d3.1 (lv + 13) 4 (ii 0), d3.2) = d4 at e4 s4 g4
  have g14 := (g13.wk (P' := fun r => r = lv + 1 ∨ r = lv + 5 ∨ r = lv + 9 ∨ r = lv + 13) (fun r p => by omega)).tr (g4.wk (fun r p => by omega))
  have g23 := (g2.wk (P' := fun r => r = lv + 5 ∨ r = lv + 9 ∨ r = lv + 13) (fun r p => by omega)).tr ((g3.wk (fun r p => by omega)).tr (g4.wk (fun r p => by omega)))
  have g34 := (g3.wk (P' := fun r => r = lv + 9 ∨ r = lv + 13) (fun r p => by omega)).tr (g4.wk (fun r p => by omega))
  refine ⟨d4, ?_, ⟨RQ_of_Fr s1 g23 (fun r _ _ => by omega), RQ_of_Fr s2 g34 (fun r _ _ => by omega), RQ_of_Fr s3 g4 (fun r _ _ => by omega), s4⟩, ⟨a5, RQ_of_Fr r5 g14 (fun r _ _ => by omega)⟩, g14⟩
  unfold m_X4_open
  simp only [gR_ko q0 q1, gR_ko q0 q2, gR_ko q0 q3, gR_ko q0 q4, show ((0 : Int32)) = ii 0 from rfl, e1, e2, e3, e4, ob_some]
end
