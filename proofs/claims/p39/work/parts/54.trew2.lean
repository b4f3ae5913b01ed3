/-! THE REWRITER in the class: telling that two are equal; histories -/
section
variable {σ : St} {δ : Dy} {rw st ro base : Nat} {made : Int} {Rs : Int → Rl} {V : Vw}
theorem t_tellEq (hW : KW σ rw st ro) (hKS : KS σ st) (hd : st + 10 ≤ rw) (hR : RVv δ rw st base made V) (hG : GV Rs made V) (ht : top3 (v_fr V)) {a b : Int} (ha : tm (s_nv (v_S V)) a) (hb : tm (s_nv (v_S V)) b) : Ok (m_X6_tellEqual σ rw (ii a) (ii b) δ) (fun d => RVv d rw st base made (tellEq V a b) ∧ Fr (PVr rw st) δ d) := by
  have hW' := hW
  obtain ⟨w0, ⟨w1, w2, w3, w4, w5, w6, w7⟩, x1, x2, x3, x4, x5, xf⟩ := hW
  obtain ⟨hS, hV⟩ := hR
  obtain ⟨g1, g2, g3, g4, g5, g6, g7, g8⟩ := hG
  have gn := g1.1
  have ra := tm_rng ha gn.2.1
  have rb := tm_rng hb gn.2.1
  obtain ⟨u1, u2', u3, u4, u5⟩ := GS_uni g1 ha hb
  obtain ⟨⟨x, d⟩, e, h1, h2, h3⟩ := t_uni hKS hS g1 (a := a) (b := b) (by omega) (by omega) (by omega) (by omega)
  dsimp only at h1 h2 h3
  subst h1
  have hq : ∀ r, rw ≤ r → d.1 r = δ.1 r ∧ d.2 r = δ.2 r := fun r hr => h3 r (by unfold blk; omega)
  unfold m_X6_tellEqual tellEq
  simp only [gR_ko w0 w1, Option.bind_some, chk_ko hKS.1, e]
  by_cases hm : (uni (v_S V) a b).1 = -1
  · rw [if_pos hm, hm, show ((-1 : Int32)) = ii (-1) from rfl, if_pos rfl]
    exact Ok_of (v := d) rfl ⟨⟨h2, RWr_wk hV (Int.le_refl _) (by rw [(hq rw (by omega)).1]; exact hV.1) (RFr_eq hV.2.1 (fun r h1 _ => hq r (by omega))) (by rw [(hq rw (by omega)).1]) (by rw [(hq rw (by omega)).1]) (hq _ (by omega)).2 (hq _ (by omega)).1 (hq _ (by omega)).1⟩, h3.wk (fun r hr => Or.inl hr)⟩
  · rw [if_neg hm, show ((-1 : Int32)) = ii (-1) from rfl, if_neg (by rw [ii_eq (by omega) (by omega) (by omega) (by omega)]; exact hm)]
    generalize hS1 : (uni (v_S V) a b).2.2 = S1 at u1 u2' u3 h2 ⊢
    generalize hroot : (uni (v_S V) a b).1 = root at u4 u5 hm ⊢
    generalize (v_fl V || (uni (v_S V) a b).2.1) = fl1 at h2 ⊢
    have hlen : (v_fr V).length < 183 := by
      have := okF_len (okF_pushA (t := 0) (p := 0) g6 (top3_2 ht))
      have e1 : nBo (Sum.inl ((0 : Int), (0 : Int)) :: v_fr V) = nBo (v_fr V) := rfl
      rw [e1, List.length_cons] at this
      omega
    obtain ⟨⟨fo, D⟩, e2, p1, p2, p3, ⟨p4, p5, p6, -, p8, p9⟩, p7, -⟩ := t_push (δ := d) hW' hlen (by rw [(hq rw (by omega)).1]; exact hV.1) (kd := (1 : Int32))
    dsimp only at p1 p2 p3 p4 p5 p6 p7 p8 p9
    subst p1
    obtain ⟨-, f2, -, -⟩ := xf _ hlen
    refine Ok_bind (chk_ko w0) (Ok_bind e2 ?_)
    dsimp only
    have hSD : RS D st S1 (v_ac V) fl1 := RS_of_Fr h2 p7 (fun r h1 h2 => by omega)
    have g12 := u1.1
    have hloop : Ok (m_X6_tellEqual_b26 σ rw (ii root) (rw + 6 + 2 * (v_fr V).length) (0 : Int32) D) (fun E => B64 (E.2 (rw + 6 + 2 * (v_fr V).length) 7) (E.2 (rw + 6 + 2 * (v_fr V).length) 8) (wmask S1 root) ∧ E.1 = D.1 ∧ ∀ r, ¬ r = rw + 6 + 2 * (v_fr V).length → E.2 r = D.2 r) := by
      unfold m_X6_tellEqual_b26
      refine Ok_for (fun z s => s.1 = ii z ∧ B64 (s.2.2 (rw + 6 + 2 * (v_fr V).length) 7) (s.2.2 (rw + 6 + 2 * (v_fr V).length) 8) (fun k => decide ((k : Int) < z) && touched S1 root k) ∧ s.2.1 = D.1 ∧ ∀ r, ¬ r = rw + 6 + 2 * (v_fr V).length → s.2.2 r = D.2 r) 0 (s_nt S1) g12.2.2.1 (by omega) ?_ ?_ ⟨rfl, ?_, rfl, fun _ _ => rfl⟩
      · rintro z ⟨s1, E⟩ z0 z1 ⟨hs, hB, hE1, hE2⟩
        dsimp only at hs hB hE1 hE2 ⊢
        subst hs
        have hSE : RS E st S1 (v_ac V) fl1 := RS_of_Fr hSD (P := fun r => r = rw + 6 + 2 * (v_fr V).length) (fun r hr => ⟨by rw [hE1], hE2 r hr⟩) (fun r h1 h2 => by omega)
        have et := t_isTouched hKS hSE u1 z0 z1 u4 (by omega)
        have e10 := hSE.2.1
        have k0 := hKS.1
        cases htc : touched S1 root z with
        | false =>
          rw [htc] at et
          refine Ok_inl (s' := (ii (z + 1), E)) (by simp (disch := omega) only [↓reduceIte, ii_lit, ii_add, ii_sub, ii_mul, ii_neg, ii_lt, ii_le, ii_eq, if_pos, if_neg, Option.bind_some, gR_ko w0 w1, gI_ko k0, chk_ko k0, e10, et, bi_f, m_X6_tellEqual_b81]) ⟨rfl, B64_cg hB (fun k hk => ?_), hE1, hE2⟩
          by_cases hkz : (k : Int) = z
          · rw [hkz, htc, Bool.and_false, Bool.and_false]
          · rw [show decide ((k : Int) < z + 1) = decide ((k : Int) < z) from decide_eq_decide.mpr (by omega)]
        | true =>
          rw [htc] at et
          refine Ok_inl (s' := (ii (z + 1), (E.1, u2 (u2 E.2 (rw + 6 + 2 * (v_fr V).length) 7 (E.2 (rw + 6 + 2 * (v_fr V).length) 7 ||| (if z < 64 then (1 : Int64) <<< ((ii z).toInt64 &&& 63) else 0))) (rw + 6 + 2 * (v_fr V).length) 8 (E.2 (rw + 6 + 2 * (v_fr V).length) 8 ||| (if z < 64 then 0 else (1 : Int64) <<< ((ii (z - 64)).toInt64 &&& 63)))))) ?_ ⟨rfl, ?_, hE1, fun r hr => ?_⟩
          · have hl : ∀ d' : Dy, m_X8_lowBit σ (ii z) d' = some (if z < 64 then (1 : Int64) <<< ((ii z).toInt64 &&& 63) else 0) := fun d' => t_lowBit z0 (by omega)
            have hh : ∀ d' : Dy, m_X8_highBit σ (ii z) d' = some (if z < 64 then 0 else (1 : Int64) <<< ((ii (z - 64)).toInt64 &&& 63)) := fun d' => t_highBit z0 (by omega)
            have hnz : ¬ (bi true = ii 0) := by decide
            have hnt : ¬ (ii (s_nt S1) ≤ ii z) := by rw [ii_le (by omega) (by omega) (by omega) (by omega)]; omega
            simp only [gR_ko w0 w1, gI_ko k0, chk_ko k0, e10, et, Option.bind_some, hnt, if_false, show ((0 : Int32)) = ii 0 from rfl, hnz, gL_ko f2, pL_ko f2, hl, hh, m_X6_tellEqual_b81, show ((1 : Int32)) = ii 1 from rfl, ii_add]
            have e8 : u2 E.2 (rw + 6 + 2 * (v_fr V).length) 7 (E.2 (rw + 6 + 2 * (v_fr V).length) 7 ||| (if z < 64 then (1 : Int64) <<< ((ii z).toInt64 &&& 63) else 0)) (rw + 6 + 2 * (v_fr V).length) 8 = E.2 (rw + 6 + 2 * (v_fr V).length) 8 := by simp (disch := omega) only [u2, if_neg]
            rw [e8]
          · have hb2 := B64_or hB (B64_bit z0 (by omega))
            have e7 : u2 (u2 E.2 (rw + 6 + 2 * (v_fr V).length) 7 (E.2 (rw + 6 + 2 * (v_fr V).length) 7 ||| (if z < 64 then (1 : Int64) <<< ((ii z).toInt64 &&& 63) else 0))) (rw + 6 + 2 * (v_fr V).length) 8 (E.2 (rw + 6 + 2 * (v_fr V).length) 8 ||| (if z < 64 then 0 else (1 : Int64) <<< ((ii (z - 64)).toInt64 &&& 63))) (rw + 6 + 2 * (v_fr V).length) 7 = (E.2 (rw + 6 + 2 * (v_fr V).length) 7 ||| (if z < 64 then (1 : Int64) <<< ((ii z).toInt64 &&& 63) else 0)) := by
              simp (disch := omega) only [u2, if_neg, and_self, ↓reduceIte]
            have e8 : u2 (u2 E.2 (rw + 6 + 2 * (v_fr V).length) 7 (E.2 (rw + 6 + 2 * (v_fr V).length) 7 ||| (if z < 64 then (1 : Int64) <<< ((ii z).toInt64 &&& 63) else 0))) (rw + 6 + 2 * (v_fr V).length) 8 (E.2 (rw + 6 + 2 * (v_fr V).length) 8 ||| (if z < 64 then 0 else (1 : Int64) <<< ((ii (z - 64)).toInt64 &&& 63))) (rw + 6 + 2 * (v_fr V).length) 8 = (E.2 (rw + 6 + 2 * (v_fr V).length) 8 ||| (if z < 64 then 0 else (1 : Int64) <<< ((ii (z - 64)).toInt64 &&& 63))) := by
              simp only [u2, and_self, ↓reduceIte]
            show B64 (u2 _ _ _ _ _ _) (u2 _ _ _ _ _ _) _
            rw [e7, e8]
            refine B64_cg hb2 (fun k hk => ?_)
            by_cases hkz : (k : Int) = z
            · have hk2 : k = z.toNat := by omega
              rw [decide_eq_true hk2, Bool.or_true, hkz, htc, decide_eq_true (by omega), Bool.and_self]
            · have hk2 : ¬ k = z.toNat := by omega
              rw [decide_eq_false hk2, Bool.or_false, show decide ((k : Int) < z + 1) = decide ((k : Int) < z) from decide_eq_decide.mpr (by omega)]
          · show u2 _ _ _ _ r = _
            rw [u2_ne hr, u2_ne hr]
            exact hE2 r hr
      · rintro ⟨s1, E⟩ ⟨hs, hB, hE1, hE2⟩
        dsimp only at hs hB hE1 hE2 ⊢
        subst hs
        have hSE : RS E st S1 (v_ac V) fl1 := RS_of_Fr hSD (P := fun r => r = rw + 6 + 2 * (v_fr V).length) (fun r hr => ⟨by rw [hE1], hE2 r hr⟩) (fun r h1 h2 => by omega)
        have e10 := hSE.2.1
        have k0 := hKS.1
        exact Ok_inr (r := E) (by simp (disch := omega) only [↓reduceIte, ii_lit, ii_add, ii_sub, ii_mul, ii_neg, ii_lt, ii_le, ii_eq, if_pos, if_neg, Option.bind_some, gR_ko w0 w1, gI_ko k0, e10]) ⟨hB, hE1, hE2⟩
      · rw [p8, p9]
        refine B64_cg B64_zero (fun k hk => ?_)
        rw [decide_eq_false (by omega), Bool.false_and]
    obtain ⟨E, e3, hB, hE1, hE2⟩ := hloop
    refine Ok_of (v := E) e3 ⟨⟨?_, ?_⟩, ?_⟩
    · exact RS_of_Fr hSD (P := fun r => r = rw + 6 + 2 * (v_fr V).length) (fun r hr => ⟨by rw [hE1], hE2 r hr⟩) (fun r h1 h2 => by omega)
    · have hz : ∀ r, ¬ r = rw → ¬ r = rw + 6 + 2 * (v_fr V).length → rw ≤ r → E.1 r = δ.1 r ∧ E.2 r = δ.2 r := fun r a1 a2 a3 => ⟨by rw [hE1]; exact ((p7 r (by omega)).1).trans (hq r a3).1, by rw [hE2 r a2]; exact ((p7 r (by omega)).2).trans (hq r a3).2⟩
      refine RWr_wk hV (Int.le_refl _) ?_ ⟨⟨?_, ?_, hB⟩, RFr_eq hV.2.1 (fun r h1 h2 => hz r (by omega) (by omega) (by omega))⟩ ?_ ?_ ?_ ?_ ?_
      · show E.1 rw 3 = ii (((v_fr V).length + 1 : Nat) : Int)
        rw [hE1, p2]
        rfl
      · rw [hE1]; exact p4.trans (ii_lit 1)
      · rw [hE1]; exact p5
      · rw [hE1, p3 7 (by decide), (hq rw (by omega)).1]
      · rw [hE1, p3 9 (by decide), (hq rw (by omega)).1]
      · exact (hz _ (by omega) (by omega) (by omega)).2
      · exact (hz _ (by omega) (by omega) (by omega)).1
      · exact (hz _ (by omega) (by omega) (by omega)).1
    · refine (h3.wk (fun r hr => Or.inl hr)).tr ((p7.wk (fun r hr => Or.inr (by omega))).tr (fun r hr => ?_))
      unfold PVr at hr
      exact ⟨by rw [hE1], hE2 r (by omega)⟩
end
