/-! THE REWRITER in the class: a firing, whole -/
section
variable {σ : St} {δ : Dy} {rw st ro base ru : Nat} {S : Sto} {ac made : Int} {fl : Bool} {R : Rl} {Rs : Int → Rl} {V : Vw}
theorem t_fireEnd (hW : KW σ rw st ro) (hKS : KS σ st) (hKR : KRu σ ru) (hd1 : st + 10 ≤ rw) (hd2 : ru + 6 ≤ st) (hR : RVv δ rw st base made V) (hnt : s_nt (v_S V) ≤ 100) (hRu : RRu δ ru R) (hGR : GR R) {w one two : Int} {bd : Int → Int} (o0 : 0 ≤ one ∧ one < s_nt (v_S V)) (t0 : 1 < l_hd R → 0 ≤ two ∧ two < s_nt (v_S V)) (hn : (v_fr V).length < 183) (hB : RB δ (rw + 2) bd) : Ok (m_X6_fire_b44 σ rw (ii w) (ii one) (ii two) ru δ) (fun d => RVv d rw st base made (s_setsd (v_S V) (fireSd (v_S V) R one two), .inr (.inr (w, 0, bd, fireSl (v_S V) R one two, fireLa (v_S V) R one two)) :: v_fr V, v_hi V, v_fi V, v_ac V, v_fl V) ∧ Fr (PVr rw st) δ d) := by
  obtain ⟨hS, hV⟩ := hR
  obtain ⟨d, e, p1, p2, p3, p4, p5⟩ := t_fire44 hW hKS hKR hd1 hd2 hS hnt hRu hGR (w := w) (bd := bd) o0 t0 hn hV.1 hB
  refine ⟨d, e, ⟨p1, ?_⟩, p5.wk (fun r hr => by unfold PVr; omega)⟩
  refine RWr_wk hV (Int.le_refl _) ?_ ⟨p4, RFr_eq hV.2.1 (fun r h1 h2 => p5 r (by omega))⟩ (p3 7 (by decide)) (p3 9 (by decide)) (p5 _ (by omega)).2 (p5 _ (by omega)).1 (p5 _ (by omega)).1
  rw [p2]
  rfl
theorem t_fire (hW : KW σ rw st ro) (hKS : KS σ st) (hKR : KRs σ ro) (hd0 : ro + 54 ≤ st) (hd1 : st + 10 ≤ rw) (hR : RVv δ rw st base made V) (hRs : RRs δ ro made Rs) (hG : GV Rs made V) {w one two : Int} {bd : Int → Int} (hw : 0 ≤ w ∧ w < made) (o0 : 0 ≤ one ∧ one < s_nt (v_S V)) (t0 : 1 < l_hd (Rs w) → 0 ≤ two ∧ two < s_nt (v_S V)) (t1 : -1 ≤ two) (t2 : two < 100) (hB : RB δ (rw + 2) bd) : Ok (m_X6_fire σ rw (ii w) (ii one) (ii two) δ) (fun d => RVv d rw st base made (fireV V Rs w one two bd) ∧ Fr (PVr rw st) δ d) := by
  have hW' := hW
  obtain ⟨w0, ⟨w1, w2, w3, w4, w5, w6, w7⟩, x1, x2, x3, x4, x5, xf⟩ := hW
  have hR' := hR
  obtain ⟨hS, hV⟩ := hR
  obtain ⟨g1, g2, g3, g4, g5, g6, g7, g8⟩ := hG
  have gn := g1.1
  have hgr := g4 w hw.1 hw.2
  obtain ⟨⟨x, d⟩, e, h1, h2, h3⟩ := t_mayAct hKS hS g2.1 g2.2
  dsimp only at h1 h2 h3
  subst h1
  have hq : ∀ r, ¬ (st ≤ r ∧ r < st + 10) → d.1 r = δ.1 r ∧ d.2 r = δ.2 r := fun r hr => h3 r (by unfold blk; omega)
  unfold m_X6_fire fireV
  by_cases hac : v_ac V < 60
  · rw [if_pos hac] at h2 ⊢
    rw [if_pos hac] at h2
    rw [decide_eq_true hac] at e
    have hRr := hRs w hw.1 hw.2
    have hKr := (hKR.2 w.toNat (by omega)).2
    have hr6 : ro + 6 + 6 * w.toNat + 6 ≤ st := by omega
    have erA := rA_rule hKR (w := w) hw.1 (by omega)
    generalize hru : ro + 6 + 6 * w.toNat = ru at hRr hKr hr6 erA
    obtain ⟨q1, q2, q3, ⟨q4, q5, q6⟩, q7, q8, q9⟩ := hV
    have hlen : (v_fr V).length < 183 := by
      have := okF_len g6
      omega
    have e8 := q8 w hw.1 (by omega)
    have D1q : ∀ r, ¬ (st ≤ r ∧ r < st + 10) → ¬ r = rw + 5 → u2 d.1 (rw + 5) w.toNat (ii (v_fi V w + 1)) r = δ.1 r ∧ d.2 r = δ.2 r := fun r a b => ⟨by rw [u2_ne b]; exact (hq r a).1, (hq r a).2⟩
    have f5 : ∀ z : Int, 0 ≤ z → z < 8 → u2 d.1 (rw + 5) w.toNat (ii (v_fi V w + 1)) (rw + 5) z.toNat = ii (upf (v_fi V) w (v_fi V w + 1) z) := by
      intro z z0 z1
      by_cases hz : z = w
      · subst hz
        simp only [u2, upf, and_self, ↓reduceIte]
      · simp (disch := omega) only [u2, upf, if_neg]
        rw [(hq _ (by omega)).1]
        exact q8 z z0 z1
    have hR1 : ∀ D : Dy, (∀ r, ¬ r = rw → ¬ r = rw + 3 → ¬ r = rw + 4 → D.1 r = u2 d.1 (rw + 5) w.toNat (ii (v_fi V w + 1)) r ∧ D.2 r = d.2 r) → RRu D ru (Rs w) ∧ RB D (rw + 2) bd ∧ RS D st (v_S V) (v_ac V + 1) (v_fl V) ∧ RFr D rw (v_fr V) ∧ (∀ z : Int, 0 ≤ z → z < 8 → D.1 (rw + 5) z.toNat = ii (upf (v_fi V) w (v_fi V w + 1) z)) := by
      intro D hD
      have hD1 : ∀ r, ¬ r = rw → ¬ r = rw + 3 → ¬ r = rw + 4 → ¬ (st ≤ r ∧ r < st + 10) → ¬ r = rw + 5 → D.1 r = δ.1 r ∧ D.2 r = δ.2 r := fun r a b c p q => ⟨(hD r a b c).1.trans (D1q r p q).1, (hD r a b c).2.trans (D1q r p q).2⟩
      refine ⟨?_, ?_, ?_, ?_, ?_⟩
      · exact RRu_of_Fr (P := fun r => st ≤ r) hRr (fun r hr => hD1 r (by omega) (by omega) (by omega) (by omega) (by omega)) (fun r a b => by omega)
      · intro z z0 z1
        rw [(hD1 _ (by omega) (by omega) (by omega) (by omega) (by omega)).1]
        exact hB z z0 z1
      · refine RS_of_Fr (P := fun r => rw ≤ r) h2 (fun r hr => ?_) (fun r a b => by omega)
        have := hD r (by omega) (by omega) (by omega)
        rw [u2_ne (by omega)] at this
        exact this
      · exact RFr_eq q2 (fun r a b => hD1 r (by omega) (by omega) (by omega) (by omega) (by omega))
      · intro z z0 z1
        rw [(hD _ (by omega) (by omega) (by omega)).1]
        exact f5 z z0 z1
    have hD1 := hR1 (u2 d.1 (rw + 5) w.toNat (ii (v_fi V w + 1)), d.2) (fun r _ _ _ => ⟨rfl, rfl⟩)
    have eRm := t_removesNone hKr hD1.1 hgr
    have hFr1 : Fr (PVr rw st) δ (u2 d.1 (rw + 5) w.toNat (ii (v_fi V w + 1)), d.2) := fun r hr => D1q r (by unfold PVr at hr; omega) (by unfold PVr at hr; omega)
    have h9 : u2 d.1 (rw + 5) w.toNat (ii (v_fi V w + 1)) rw = δ.1 rw := (D1q rw (by omega) (by omega)).1
    have hdr : d.2 rw = δ.2 rw := (hq rw (by omega)).2
    have ed5 : d.1 (rw + 5) w.toNat = ii (v_fi V w) := by rw [(hq _ (by omega)).1]; exact e8
    have hHi : HiR (u2 d.1 (rw + 5) w.toNat (ii (v_fi V w + 1)), d.2) (rw + 3) (v_hi V) := by
      unfold HiR
      rw [show d.2 (rw + 3) = δ.2 (rw + 3) from (hq _ (by omega)).2]
      exact q3
    have hRc : RcR (u2 d.1 (rw + 5) w.toNat (ii (v_fi V w + 1)), d.2) (rw + 4) base (v_hi V) := RcR_eq q7 (D1q _ (by omega) (by omega)).1
    cases hrm : rmNone (Rs w) with
    | false =>
      have hrm' : (l_sy (Rs w) 0 && (decide (l_hd (Rs w) < 2) || l_sy (Rs w) 1)) = false := hrm
      rw [hrm'] at eRm
      have hRV : RVv (u2 d.1 (rw + 5) w.toNat (ii (v_fi V w + 1)), d.2) rw st base made (v_S V, v_fr V, v_hi V, upf (v_fi V) w (v_fi V w + 1), v_ac V + 1, v_fl V) := by
        refine ⟨hD1.2.2.1, ⟨?_, hD1.2.2.2.1, hHi, ⟨q4, by show ((v_hi V).length : Int) ≤ base + (v_ac V + 1); omega, ?_⟩, hRc, hD1.2.2.2.2, ?_⟩⟩
        · exact (congrFun h9 3).trans q1
        · exact (congrFun h9 7).trans q6
        · exact (congrFun h9 9).trans q9
      obtain ⟨D, e9, k1, k2⟩ := t_fireEnd hW' hKS hKr hd1 hr6 hRV gn.2.2.2 hD1.1 hgr (w := w) o0 t0 hlen hD1.2.1
      refine ⟨D, ?_, k1, hFr1.tr k2⟩
      simp (disch := omega) only [gR_ko w0 w1, chk_ko hKS.1, e, ob_some, bi_t, ii_lit, ii_eq, if_neg, gR_ko w0 w2, erA, gR_ko w0 w7, rI_kd x5, ed5, ii_add, wI_kd x5, chk_ko hKr.1, eRm, bi_f, ↓reduceIte]
      exact e9
    | true =>
      have hrm' : (l_sy (Rs w) 0 && (decide (l_hd (Rs w) < 2) || l_sy (Rs w) 1)) = true := hrm
      rw [hrm'] at eRm
      obtain ⟨D2, e7, m1, m2, m3, m4, m5⟩ := t_remember hW' hHi q4 (by omega) (by show u2 d.1 (rw + 5) w.toNat (ii (v_fi V w + 1)) rw 7 = _; rw [h9]; exact q6) hRc (w := w) (o := one) (x := two) ⟨hw.1, by omega⟩ ⟨o0.1, by omega⟩ t1 (by omega)
      have hD2 := hR1 D2 (fun r a b c => m5 r (by omega))
      have hRV : RVv D2 rw st base made (v_S V, v_fr V, v_hi V ++ [(w, one, mx0 two)], upf (v_fi V) w (v_fi V w + 1), v_ac V + 1, v_fl V) := by
        refine ⟨hD2.2.2.1, ⟨?_, hD2.2.2.2.1, m1, ⟨?_, ?_, m3⟩, m2, hD2.2.2.2.2, ?_⟩⟩
        · rw [m4 3 (by decide)]; show u2 d.1 (rw + 5) w.toNat (ii (v_fi V w + 1)) rw 3 = _; rw [h9]; exact q1
        · rw [List.length_append]; omega
        · rw [List.length_append]
          show (((v_hi V).length + 1 : Nat) : Int) ≤ base + (v_ac V + 1)
          omega
        · rw [m4 9 (by decide)]; show u2 d.1 (rw + 5) w.toNat (ii (v_fi V w + 1)) rw 9 = _; rw [h9]; exact q9
      obtain ⟨D, e9, k1, k2⟩ := t_fireEnd hW' hKS hKr hd1 hr6 hRV gn.2.2.2 hD2.1 hgr (w := w) o0 t0 hlen hD2.2.1
      refine ⟨D, ?_, k1, (hFr1.tr (m5.wk (fun r hr => by unfold PVr; omega))).tr k2⟩
      simp (disch := omega) only [gR_ko w0 w1, chk_ko hKS.1, e, ob_some, bi_t, ii_lit, ii_eq, if_neg, gR_ko w0 w2, erA, gR_ko w0 w7, rI_kd x5, ed5, ii_add, wI_kd x5, chk_ko hKr.1, eRm, chk_ko w0, e7]
      exact e9
  · rw [if_neg hac] at h2 ⊢
    rw [if_neg hac] at h2
    rw [decide_eq_false hac] at e
    refine ⟨d, ?_, ⟨h2, ?_⟩, h3.wk (fun r hr => Or.inl hr)⟩
    · simp (disch := omega) only [gR_ko w0 w1, chk_ko hKS.1, e, ob_some, bi_f, ii_lit, ↓reduceIte]
    · exact RWr_wk hV (Int.le_refl _) (by rw [(hq rw (by omega)).1]; exact hV.1) (RFr_eq hV.2.1 (fun r h1 _ => hq r (by omega))) (by rw [(hq rw (by omega)).1]) (by rw [(hq rw (by omega)).1]) (hq _ (by omega)).2 (hq _ (by omega)).1 (hq _ (by omega)).1
end
