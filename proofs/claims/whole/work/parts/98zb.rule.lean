/-! THE LAW: a rule is made -/
section
variable {σ : St} {δ d : Dy} {mo p3 k wp : Nat} {E : Ev} {bd kp : Bool} {R : Rl} {I : Iw} {jr : List Jn} {md n : Int}
def ruE (E : Ev) : Ev := (E.1, E.2.1, E.2.2.1, e_md E + 1)
theorem t_madeI (hK : KO σ (wp + 18) 6) (h : RId δ wp md I) : ∃ d, pI σ δ 6 (wp + 18) 9 (ii n) = some d ∧ RId d wp n I ∧ Fr (fun r => r = wp + 18) δ d := by
  obtain ⟨r1, r2, r3, r4, ⟨r5, r5'⟩, r6, r7, r8, r9, r10⟩ := h
  obtain ⟨d, e, v, o, F⟩ := pI_ex (δ := δ) (r := wp + 18) (k := 9) (x := ii n) hK
  refine ⟨d, e, ⟨RS_of_Fr r1 F (fun r a b => by omega), ?_, by rw [(F (wp + 23) (by omega)).1]; exact r3, v, ⟨by rw [(F (wp + 11) (by omega)).1]; exact r5, ?_⟩, ?_, RQ_of_Fr r7 F (fun r a b => by omega), fun j hj => RLany_of_Fr (r8 j hj) F (fun r a b => by omega), by rw [(F wp (by omega)).1]; exact r9, by rw [(F wp (by omega)).1]; exact r10⟩, F⟩
  · unfold HiR; rw [(F (wp + 21) (by omega)).2]; exact r2
  · unfold RPw; rw [(F (wp + 12) (by omega)).1]; exact r5'
  · unfold RTk; rw [(F (wp + 14) (by omega)).1]; exact r6
/-- the reference copies the rule -/
theorem m_ruleC (hK : KM σ mo) (hR : RRm δ mo (e_md E) (e_Rs E)) (hm : 0 ≤ e_md E ∧ e_md E < 8) (hMb : RMb δ mo true R) (hGR : GR R) (hGs : ∀ w, 0 ≤ w → w < e_md E → GR (e_Rs E w)) (hx : e_Rs E (e_md E) = R) : Ok ((gR σ 12 mo 9).bind fun v7 =>
        (gI σ δ 12 mo 18).bind fun v8 =>
        (wI σ δ v7 (ii (e_md E)) v8).bind fun d9 =>
        (gR σ 12 mo 12).bind fun v10 =>
        (gI σ d9 12 mo 19).bind fun v11 =>
        (wI σ d9 v10 (ii (e_md E)) v11).bind fun d12 =>
        m_X12_rule_b61 σ mo (ii (e_md E)) (0 : Int32) d12) (fun r => r.1 = ii (e_md E) ∧ RRm r.2 mo (e_md E + 1) (e_Rs E) ∧ r.2.1 mo 20 = 0 ∧ (∀ j, ¬ j = 14 → ¬ j = 20 → r.2.1 mo j = δ.1 mo j) ∧ Fr (fun r => r = mo ∨ (mo + 9 ≤ r ∧ r ≤ mo + 13)) δ r.2) := by
  obtain ⟨m20, mB⟩ := hMb
  obtain ⟨m18, m19, mh, ⟨mg, mg'⟩, mb⟩ := mB rfl
  have hd := hGR.1
  have hnb := hGR.2.2.2.1
  obtain ⟨d1, e1, v1, o1, F1⟩ := wI_ex (δ := δ) (r := mo + 9) (z := e_md E) (k := (e_md E).toNat) (x := ii (l_hd R)) (md9 hK) hm.1 (by omega) rfl
  have h19 : d1.1 mo 19 = ii (l_nb R) := by rw [(F1 mo (by omega)).1]; exact m19
  obtain ⟨d2, e2, v2, o2, F2⟩ := wI_ex (δ := d1) (r := mo + 12) (z := e_md E) (k := (e_md E).toNat) (x := ii (l_nb R)) (md12 hK) hm.1 (by omega) rfl
  rw [mg9 hK, ob_some, gI_ko hK.1, ob_some, m18, e1, ob_some, mg12 hK, ob_some, gI_ko hK.1, ob_some, h19, e2, ob_some]
  unfold m_X12_rule_b61
  refine Ok_for (fun z s => s.1 = ii z ∧ (∀ j : Nat, (j : Int) < z → s.2.1 (mo + 10) (8 * (e_md E).toNat + j) = δ.1 (mo + 14) j) ∧ (∀ q, ¬ (8 * (e_md E).toNat ≤ q ∧ q < 8 * (e_md E).toNat + 8) → s.2.1 (mo + 10) q = δ.1 (mo + 10) q) ∧ Fr (fun r => r = mo + 10) d2 s.2) 0 8 (by omega) (by omega) ?_ ?_ ⟨rfl, fun j hj => by omega, fun q _ => by rw [(F2 _ (by omega)).1, (F1 _ (by omega)).1], Fr.rf⟩
  · rintro z ⟨s1, d⟩ z0 z1 ⟨hs, hk, ho, hF⟩
    dsimp only at hs hk ho hF ⊢
    subst hs
    have r1 : rI σ d (mo + 14) (ii z) = some (δ.1 (mo + 14) z.toNat) := rst (md15 hK) z0 (by omega) rfl (by rw [(hF _ (by omega)).1, (F2 _ (by omega)).1, (F1 _ (by omega)).1])
    obtain ⟨D, eD, vD, oD, FD⟩ := wI_ex (δ := d) (r := mo + 10) (z := 8 * e_md E + z) (k := 8 * (e_md E).toNat + z.toNat) (x := δ.1 (mo + 14) z.toNat) (md10 hK) (by omega) (by omega) (by omega)
    refine Ok_inl (s' := (ii (z + 1), D)) ?_ ⟨rfl, fun j hj => ?_, fun q hq => by dsimp only; rw [oD q (by omega)]; exact ho q hq, hF.tr FD⟩
    · rw [if_neg (show ¬ (8 : Int32) ≤ ii z by rw [show ((8 : Int32)) = ii 8 from rfl, ii_le (by omega) (by omega) (by omega) (by omega)]; omega), mg10 hK, ob_some, mg15 hK, ob_some, r1, ob_some, show ((8 : Int32)) = ii 8 from rfl, ii_mul, ii_add, eD, ob_some, show ((1 : Int32)) = ii 1 from rfl, ii_add]
    · dsimp only
      by_cases c : j = z.toNat
      · rw [c]; exact vD
      · rw [oD _ (by omega)]; exact hk j (by omega)
  · rintro ⟨s1, d3⟩ ⟨hs, hk3, ho3, hF3⟩
    dsimp only at hs hk3 ho3 hF3 ⊢
    subst hs
    have hb92 : Ok (m_X12_rule_b92 σ mo (ii (e_md E)) (0 : Int32) d3) (fun r => r.1 = ii (e_md E) ∧ RRm r.2 mo (e_md E + 1) (e_Rs E) ∧ r.2.1 mo 20 = 0 ∧ (∀ j, ¬ j = 14 → ¬ j = 20 → r.2.1 mo j = δ.1 mo j) ∧ Fr (fun r => r = mo ∨ (mo + 9 ≤ r ∧ r ≤ mo + 13)) δ r.2) := by
      unfold m_X12_rule_b92
      refine Ok_for (fun z s => s.1 = ii z ∧ (∀ j : Nat, (j : Int) < z → s.2.1 (mo + 11) (3 * (e_md E).toNat + j) = δ.1 (mo + 15) j) ∧ (∀ q, ¬ (3 * (e_md E).toNat ≤ q ∧ q < 3 * (e_md E).toNat + 3) → s.2.1 (mo + 11) q = δ.1 (mo + 11) q) ∧ Fr (fun r => r = mo + 11) d3 s.2) 0 3 (by omega) (by omega) ?_ ?_ ⟨rfl, fun j hj => by omega, fun q _ => by rw [(hF3 _ (by omega)).1, (F2 _ (by omega)).1, (F1 _ (by omega)).1], Fr.rf⟩
      · rintro z ⟨s1, d⟩ z0 z1 ⟨hs, hk, ho, hF⟩
        dsimp only at hs hk ho hF ⊢
        subst hs
        have r1 : rI σ d (mo + 15) (ii z) = some (δ.1 (mo + 15) z.toNat) := rst (md16 hK) z0 (by omega) rfl (by rw [(hF _ (by omega)).1, (hF3 _ (by omega)).1, (F2 _ (by omega)).1, (F1 _ (by omega)).1])
        obtain ⟨D, eD, vD, oD, FD⟩ := wI_ex (δ := d) (r := mo + 11) (z := 3 * e_md E + z) (k := 3 * (e_md E).toNat + z.toNat) (x := δ.1 (mo + 15) z.toNat) (md11 hK) (by omega) (by omega) (by omega)
        refine Ok_inl (s' := (ii (z + 1), D)) ?_ ⟨rfl, fun j hj => ?_, fun q hq => by dsimp only; rw [oD q (by omega)]; exact ho q hq, hF.tr FD⟩
        · rw [if_neg (show ¬ (3 : Int32) ≤ ii z by rw [show ((3 : Int32)) = ii 3 from rfl, ii_le (by omega) (by omega) (by omega) (by omega)]; omega), mg11 hK, ob_some, mg16 hK, ob_some, r1, ob_some, show ((3 : Int32)) = ii 3 from rfl, ii_mul, ii_add, eD, ob_some, show ((1 : Int32)) = ii 1 from rfl, ii_add]
        · dsimp only
          by_cases c : j = z.toNat
          · rw [c]; exact vD
          · rw [oD _ (by omega)]; exact hk j (by omega)
      · rintro ⟨s1, d4⟩ ⟨hs, hk4, ho4, hF4⟩
        dsimp only at hs hk4 ho4 hF4 ⊢
        subst hs
        have hb121 : Ok (m_X12_rule_b121 σ mo (ii (e_md E)) (0 : Int32) d4) (fun r => r.1 = ii (e_md E) ∧ RRm r.2 mo (e_md E + 1) (e_Rs E) ∧ r.2.1 mo 20 = 0 ∧ (∀ j, ¬ j = 14 → ¬ j = 20 → r.2.1 mo j = δ.1 mo j) ∧ Fr (fun r => r = mo ∨ (mo + 9 ≤ r ∧ r ≤ mo + 13)) δ r.2) := by
          unfold m_X12_rule_b121
          refine Ok_for (fun z s => s.1 = ii z ∧ (∀ j : Nat, (j : Int) < z → s.2.1 (mo + 13) (6 * (e_md E).toNat + j) = δ.1 (mo + 16) j) ∧ (∀ q, ¬ (6 * (e_md E).toNat ≤ q ∧ q < 6 * (e_md E).toNat + 6) → s.2.1 (mo + 13) q = δ.1 (mo + 13) q) ∧ Fr (fun r => r = mo + 13) d4 s.2) 0 6 (by omega) (by omega) ?_ ?_ ⟨rfl, fun j hj => by omega, fun q _ => by rw [(hF4 _ (by omega)).1, (hF3 _ (by omega)).1, (F2 _ (by omega)).1, (F1 _ (by omega)).1], Fr.rf⟩
          · rintro z ⟨s1, d⟩ z0 z1 ⟨hs, hk, ho, hF⟩
            dsimp only at hs hk ho hF ⊢
            subst hs
            have r1 : rI σ d (mo + 16) (ii z) = some (δ.1 (mo + 16) z.toNat) := rst (md17 hK) z0 (by omega) rfl (by rw [(hF _ (by omega)).1, (hF4 _ (by omega)).1, (hF3 _ (by omega)).1, (F2 _ (by omega)).1, (F1 _ (by omega)).1])
            obtain ⟨D, eD, vD, oD, FD⟩ := wI_ex (δ := d) (r := mo + 13) (z := 6 * e_md E + z) (k := 6 * (e_md E).toNat + z.toNat) (x := δ.1 (mo + 16) z.toNat) (md13 hK) (by omega) (by omega) (by omega)
            refine Ok_inl (s' := (ii (z + 1), D)) ?_ ⟨rfl, fun j hj => ?_, fun q hq => by dsimp only; rw [oD q (by omega)]; exact ho q hq, hF.tr FD⟩
            · rw [if_neg (show ¬ (6 : Int32) ≤ ii z by rw [show ((6 : Int32)) = ii 6 from rfl, ii_le (by omega) (by omega) (by omega) (by omega)]; omega), mg13 hK, ob_some, mg17 hK, ob_some, r1, ob_some, show ((6 : Int32)) = ii 6 from rfl, ii_mul, ii_add, eD, ob_some, show ((1 : Int32)) = ii 1 from rfl, ii_add]
            · dsimp only
              by_cases c : j = z.toNat
              · rw [c]; exact vD
              · rw [oD _ (by omega)]; exact hk j (by omega)
          · rintro ⟨s1, d5⟩ ⟨hs, hk5, ho5, hF5⟩
            dsimp only at hs hk5 ho5 hF5 ⊢
            subst hs
            obtain ⟨d6, e6, v6, o6, F6⟩ := pZ_ex (δ := d5) (r := mo) (k := 20) (x := 0) hK.1 (Or.inl rfl)
            have F05 : Fr (fun r => mo + 9 ≤ r ∧ r ≤ mo + 13) δ d5 := (F1.wk (fun r p => by omega)).tr ((F2.wk (fun r p => by omega)).tr ((hF3.wk (fun r p => by omega)).tr ((hF4.wk (fun r p => by omega)).tr (hF5.wk (fun r p => by omega)))))
            have g14 : gI σ d6 12 mo 14 = some (ii (e_md E)) := by rw [gI_ko hK.1, o6 14 (by decide), (F05 mo (by omega)).1, hR.1]
            obtain ⟨d7, e7, v7, o7, F7⟩ := pI_ex (δ := d6) (r := mo) (k := 14) (x := ii (e_md E + 1)) hK.1
            have u : ∀ r, ¬ r = mo → d7.1 r = d5.1 r := fun r hr => by rw [(F7 r hr).1, (F6 r hr).1]
            have t9 : ∀ q, d7.1 (mo + 9) q = d1.1 (mo + 9) q := fun q => by rw [u _ (by omega), (hF5 _ (by omega)).1, (hF4 _ (by omega)).1, (hF3 _ (by omega)).1, (F2 _ (by omega)).1]
            have t12 : ∀ q, d7.1 (mo + 12) q = d2.1 (mo + 12) q := fun q => by rw [u _ (by omega), (hF5 _ (by omega)).1, (hF4 _ (by omega)).1, (hF3 _ (by omega)).1]
            have t10 : ∀ q, d7.1 (mo + 10) q = d3.1 (mo + 10) q := fun q => by rw [u _ (by omega), (hF5 _ (by omega)).1, (hF4 _ (by omega)).1]
            have t11 : ∀ q, d7.1 (mo + 11) q = d4.1 (mo + 11) q := fun q => by rw [u _ (by omega), (hF5 _ (by omega)).1]
            have t13 : ∀ q, d7.1 (mo + 13) q = d5.1 (mo + 13) q := fun q => by rw [u _ (by omega)]
            refine Ok_inr (r := (ii (e_md E), d7)) ?_ ⟨rfl, ⟨v7, fun w w0 w1 => ?_⟩, ?_, fun j h1 h2 => ?_, (F05.wk (fun r p => Or.inr p)).tr ((F6.wk (fun r p => Or.inl p)).tr (F7.wk (fun r p => Or.inl p)))⟩
            · rw [if_pos (show (6 : Int32) ≤ ii 6 by decide), e6, ob_some, g14, ob_some, show ((1 : Int32)) = ii 1 from rfl, ii_add, e7, ob_some]
            · by_cases c : w = e_md E
              · rw [c, hx]
                refine ⟨by rw [t9]; exact v1, fun h h0 h1 => ?_, ⟨?_, fun q => ⟨?_, fun q2 => ?_⟩⟩, by rw [t12]; exact v2, fun kk k0 k1 => ?_⟩
                · have cc : ∀ i : Nat, i < 4 → ∀ y : Int, y = 8 * e_md E + 4 * h + i → d7.1 (mo + 10) y.toNat = δ.1 (mo + 14) (4 * h + i).toNat := fun i hi y hy => by
                    rw [t10, show y.toNat = 8 * (e_md E).toNat + (4 * h + i).toNat by omega]
                    exact hk3 _ (by omega)
                  obtain ⟨q1, q2, q3, q4⟩ := mh h h0 h1
                  refine ⟨?_, ?_, ?_, ?_⟩
                  · rw [cc 0 (by omega) _ (by omega)]
                    rw [show (4 * h + ((0 : Nat) : Int)).toNat = (4 * h).toNat by omega]; exact q1
                  · rw [cc 1 (by omega) _ (by omega)]; exact q2
                  · rw [cc 2 (by omega) _ (by omega)]; exact q3
                  · rw [cc 3 (by omega) _ (by omega)]; exact q4
                · rw [t11, show (3 * e_md E).toNat = 3 * (e_md E).toNat + 0 by omega, hk4 0 (by omega)]; exact mg
                · rw [t11, show (3 * e_md E + 1).toNat = 3 * (e_md E).toNat + 1 by omega, hk4 1 (by omega)]; exact (mg' q).1
                · rw [t11, show (3 * e_md E + 2).toNat = 3 * (e_md E).toNat + 2 by omega, hk4 2 (by omega)]; exact (mg' q).2 q2
                · have cc : ∀ i : Nat, i < 3 → ∀ y : Int, y = 6 * e_md E + 3 * kk + i → d7.1 (mo + 13) y.toNat = δ.1 (mo + 16) (3 * kk + i).toNat := fun i hi y hy => by
                    rw [t13, show y.toNat = 6 * (e_md E).toNat + (3 * kk + i).toNat by omega]
                    exact hk5 _ (by omega)
                  obtain ⟨q1, q2, q3⟩ := mb kk k0 k1
                  refine ⟨?_, ?_, ?_⟩
                  · rw [cc 0 (by omega) _ (by omega)]
                    rw [show (3 * kk + ((0 : Nat) : Int)).toNat = (3 * kk).toNat by omega]; exact q1
                  · rw [cc 1 (by omega) _ (by omega)]; exact q2
                  · rw [cc 2 (by omega) _ (by omega)]; exact q3
              · obtain ⟨q1, q2, ⟨q3, q4⟩, q5, q6⟩ := hR.2 w w0 (by omega)
                have gw := hGs w w0 (by omega)
                have gw1 := gw.1
                have gw4 := gw.2.2.2.1
                refine ⟨by rw [t9, o1 _ (by omega)]; exact q1, fun h h0 h1 => ?_, ⟨?_, fun q => ⟨?_, fun q2 => ?_⟩⟩, by rw [t12, o2 _ (by omega), (F1 _ (by omega)).1]; exact q5, fun kk k0 k1 => ?_⟩
                · have hh := q2 h h0 h1
                  rw [t10, t10, t10, t10, ho3 _ (by omega), ho3 _ (by omega), ho3 _ (by omega), ho3 _ (by omega)]
                  exact hh
                · rw [t11, ho4 _ (by omega)]; exact q3
                · rw [t11, ho4 _ (by omega)]; exact (q4 q).1
                · rw [t11, ho4 _ (by omega)]; exact (q4 q).2 q2
                · have hh := q6 kk k0 k1
                  rw [t13, t13, t13, ho5 _ (by omega), ho5 _ (by omega), ho5 _ (by omega)]
                  exact hh
            · show d7.1 mo 20 = 0
              rw [o7 20 (by decide)]; exact v6
            · show d7.1 mo j = δ.1 mo j
              rw [o7 j h1, o6 j h2, (F05 mo (by omega)).1]
        obtain ⟨D, eD, hD⟩ := hb121
        exact Ok_inr (r := D) (by rw [if_pos (show (3 : Int32) ≤ ii 3 by decide), eD, ob_some]) hD
    obtain ⟨D, eD, hD⟩ := hb92
    exact Ok_inr (r := D) (by rw [if_pos (show (8 : Int32) ≤ ii 8 by decide), eD, ob_some]) hD
end
