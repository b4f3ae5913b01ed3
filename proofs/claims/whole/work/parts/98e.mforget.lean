/-! THE REFERENCE: a try is forgotten -/
section
variable {σ : St} {δ : Dy} {mo n J : Nat} {E : Ev} {W : Wo} {l l' : Lv} {ls : List Lv} {ch : Nat → Nat} {S : Sto} {sv : Sav}
/-- what the restoring leaves in the store's array, and nowhere else -/
theorem m_fg124 (hK : KM σ mo) (hJ : J < 3) {hl : Nat} {d0 : Dy} (hF0 : Fr (fun r => r = mo + 1) δ d0) (h1 : δ.1 (mo + 27) (225 * J + 1) = ii sv.2.1) (hr : 0 ≤ sv.2.1 ∧ sv.2.1 ≤ 100) (h2 : δ.1 (mo + 27) (225 * J + 2) = ii hl) (h3 : ∀ t : Nat, t < 100 → (t : Int) < sv.2.1 → δ.1 (mo + 27) (225 * J + 123 + t) = bi (sv.2.2.2.2 t)) {x : Int32} {Q : Dy → Prop} (hq : ∀ d, (∀ t : Nat, t < 100 → d.1 (mo + 1) (422 + t) = bi (decide ((t : Int) < sv.2.1) && sv.2.2.2.2 t)) → d.1 (mo + 1) 1022 = ii hl → (∀ k, ¬ (422 ≤ k ∧ k < 522) → ¬ k = 1022 → d.1 (mo + 1) k = d0.1 (mo + 1) k) → Fr (fun r => r = mo + 1) δ d → ∃ D, ((gR σ 12 mo 4).bind fun v12 => (gR σ 12 mo 21).bind fun v13 => (rI σ d v13 ((9 : Int32) * x)).bind fun v14 => (rI σ d v12 v14).bind fun v15 => (chk σ 12 mo).bind fun _ => (m_X12_another σ mo x v15 d).bind fun v16 => (chk σ 12 mo).bind fun _ => (m_X12_enqueue σ mo v16.1 v16.2).bind fun v17 => some (Sum.inr v17 : (Int32 × Dy) ⊕ Dy)) = some (.inr D) ∧ Q D) : Ok (m_X12_forget_b124 σ mo x (ii (225 * J)) (ii 0) d0) Q := by
  unfold m_X12_forget_b124
  refine Ok_for (fun z s => s.1 = ii z ∧ (∀ t : Nat, (t : Int) < z → s.2.1 (mo + 1) (422 + t) = bi (decide ((t : Int) < sv.2.1) && sv.2.2.2.2 t)) ∧ (∀ k, ¬ (422 ≤ k ∧ k < 522) → s.2.1 (mo + 1) k = d0.1 (mo + 1) k) ∧ Fr (fun r => r = mo + 1) δ s.2) 0 100 (by omega) (by omega) ?_ ?_ ⟨rfl, fun t ht => by omega, fun k _ => rfl, hF0⟩
  · rintro z ⟨s1, d⟩ z0 z1 ⟨hs, hk, ho, hF⟩
    dsimp only at hs hk ho hF ⊢
    subst hs
    have r1 : rI σ d (mo + 27) (ii (225 * J + 1)) = some (ii sv.2.1) := rst (md32 hK) (by omega) (by omega) (show (225 * (J : Int) + 1).toNat = 225 * J + 1 by omega) (by rw [(hF _ (by omega)).1]; exact h1)
    have w1 : ∀ v, wI σ d (mo + 1) (ii (422 + z)) v = some (u2 d.1 (mo + 1) (422 + z.toNat) v, d.2) := fun v => by rw [wI_kd (md0 hK) (by omega) (by omega), show (422 + z).toNat = 422 + z.toNat by omega]
    have step : ∀ v, v = bi (decide (z < sv.2.1) && sv.2.2.2.2 z) → Ok (m_X12_forget_b166 σ mo x (ii (225 * J)) (ii z) (mo + 1) ((422 : Int32) + ii z) v d) (PL (fun s : Int32 × Dy => s.1 = ii (z + 1) ∧ (∀ t : Nat, (t : Int) < z + 1 → s.2.1 (mo + 1) (422 + t) = bi (decide ((t : Int) < sv.2.1) && sv.2.2.2.2 t)) ∧ (∀ k, ¬ (422 ≤ k ∧ k < 522) → s.2.1 (mo + 1) k = d0.1 (mo + 1) k) ∧ Fr (fun r => r = mo + 1) δ s.2) Q) := by
      intro v hv
      refine Ok_inl (s' := (ii (z + 1), (u2 d.1 (mo + 1) (422 + z.toNat) v, d.2))) ?_ ⟨rfl, fun t ht => ?_, fun k hk2 => ?_, hF.tr (Fr_u2 rfl)⟩
      · unfold m_X12_forget_b166
        rw [show ((422 : Int32)) = ii 422 from rfl, show ((1 : Int32)) = ii 1 from rfl, ii_add, w1, ob_some, ii_add]
      · dsimp only
        by_cases htz : t = z.toNat
        · rw [htz, show ((z.toNat : Nat) : Int) = z by omega, ← hv]
          simp only [u2, and_self, ↓reduceIte]
        · simp (disch := omega) only [u2, if_neg]
          exact hk t (by omega)
      · simp (disch := omega) only [u2, if_neg]
        exact ho k hk2
    rw [if_neg (show ¬ (100 : Int32) ≤ ii z by rw [ii_lit, ii_le (by omega) (by omega) (by omega) (by omega)]; omega), mg0 hK, ob_some, mg32 hK, ob_some, show ((1 : Int32)) = ii 1 from rfl, ii_add, r1, ob_some]
    by_cases c : sv.2.1 ≤ z
    · rw [if_pos (show ii sv.2.1 ≤ ii z by rw [ii_le (by omega) (by omega) (by omega) (by omega)]; exact c)]
      exact step _ (by rw [decide_eq_false (by omega)]; rfl)
    · rw [if_neg (show ¬ ii sv.2.1 ≤ ii z by rw [ii_le (by omega) (by omega) (by omega) (by omega)]; exact c), ob_some]
      have r2 : rI σ d (mo + 27) (ii (225 * J + 123 + z)) = some (bi (sv.2.2.2.2 z)) := rst (md32 hK) (by omega) (by omega) (show (225 * (J : Int) + 123 + z).toNat = 225 * J + 123 + z.toNat by omega) (by
        rw [(hF _ (by omega)).1]
        have := h3 z.toNat (by omega) (by omega)
        rw [show ((z.toNat : Nat) : Int) = z by omega] at this
        exact this)
      rw [show ((123 : Int32)) = ii 123 from rfl, ii_add, ii_add, r2, ob_some]
      exact step _ (by rw [decide_eq_true (show z < sv.2.1 by omega)]; rfl)
  · rintro ⟨s1, d⟩ ⟨hs, hk, ho, hF⟩
    dsimp only at hs hk ho hF ⊢
    subst hs
    have r1 : rI σ d (mo + 27) (ii (225 * J + 2)) = some (ii hl) := rst (md32 hK) (by omega) (by omega) (show (225 * (J : Int) + 2).toNat = 225 * J + 2 by omega) (by rw [(hF _ (by omega)).1]; exact h2)
    have w1 : wI σ d (mo + 1) (ii 1022) (ii hl) = some (u2 d.1 (mo + 1) 1022 (ii hl), d.2) := by rw [wI_kd (md0 hK) (by omega) (by omega)]; rfl
    obtain ⟨D, eD, hD⟩ := hq (u2 d.1 (mo + 1) 1022 (ii hl), d.2) (fun t ht => by
      dsimp only
      simp (disch := omega) only [u2, if_neg]
      exact hk t (by omega)) (by simp only [u2, and_self, ↓reduceIte]) (fun k h1 h2 => by
      dsimp only
      simp (disch := omega) only [u2, if_neg]
      exact ho k h1) (hF.tr (Fr_u2 rfl))
    refine Ok_inr (r := D) ?_ hD
    rw [if_pos (show (100 : Int32) ≤ ii 100 by decide), mg0 hK, ob_some, mg32 hK, ob_some, show ((2 : Int32)) = ii 2 from rfl, ii_add, r1, ob_some, show ((1022 : Int32)) = ii 1022 from rfl, w1, ob_some]
    exact eD
theorem m_fg36 (hK : KM σ mo) (hJ : J < 3) (h0 : δ.1 (mo + 27) (225 * J) = ii sv.1) (hr : 0 ≤ sv.1 ∧ sv.1 ≤ 60) (h3 : ∀ v : Nat, v < 60 → (v : Int) < sv.1 → δ.1 (mo + 27) (225 * J + 3 + v) = ii (sv.2.2.1 v) ∧ δ.1 (mo + 27) (225 * J + 63 + v) = ii (sv.2.2.2.1 v)) {x : Int32} {Q : Dy → Prop} (hq : ∀ d, (∀ v : Nat, v < 60 → d.1 (mo + 1) (1 + v) = ii (if (v : Int) < sv.1 then sv.2.2.1 v else v) ∧ d.1 (mo + 1) (61 + v) = ii (if (v : Int) < sv.1 then sv.2.2.2.1 v else 100)) → (∀ k, ¬ (1 ≤ k ∧ k < 121) → d.1 (mo + 1) k = δ.1 (mo + 1) k) → Fr (fun r => r = mo + 1) δ d → Ok (m_X12_forget_b124 σ mo x (ii (225 * J)) (ii 0) d) Q) : Ok (m_X12_forget_b36 σ mo x (ii (225 * J)) (ii 0) δ) Q := by
  unfold m_X12_forget_b36
  refine Ok_for (fun z s => s.1 = ii z ∧ (∀ v : Nat, (v : Int) < z → s.2.1 (mo + 1) (1 + v) = ii (if (v : Int) < sv.1 then sv.2.2.1 v else v) ∧ s.2.1 (mo + 1) (61 + v) = ii (if (v : Int) < sv.1 then sv.2.2.2.1 v else 100)) ∧ (∀ k, ¬ (1 ≤ k ∧ k < 121) → s.2.1 (mo + 1) k = δ.1 (mo + 1) k) ∧ Fr (fun r => r = mo + 1) δ s.2) 0 60 (by omega) (by omega) ?_ ?_ ⟨rfl, fun t ht => by omega, fun k _ => rfl, Fr.rf⟩
  · rintro z ⟨s1, d⟩ z0 z1 ⟨hs, hk, ho, hF⟩
    dsimp only at hs hk ho hF ⊢
    subst hs
    have r1 : rI σ d (mo + 27) (ii (225 * J)) = some (ii sv.1) := rst (md32 hK) (by omega) (by omega) (show (225 * (J : Int)).toNat = 225 * J by omega) (by rw [(hF _ (by omega)).1]; exact h0)
    have fin : ∀ (v1 v2 : Int32), v1 = ii (if z < sv.1 then sv.2.2.1 z else z) → v2 = ii (if z < sv.1 then sv.2.2.2.1 z else 100) → ∃ d4, wI σ d (mo + 1) (ii 1 + ii z) v1 = some d4 ∧ Fr (fun r => r = mo + 1) d d4 ∧ Ok ((wI σ d4 (mo + 1) (ii 61 + ii z) v2).bind fun d29 => some (Sum.inl (ii z + ii 1, d29) : (Int32 × Dy) ⊕ Dy)) (PL (fun s : Int32 × Dy => s.1 = ii (z + 1) ∧ (∀ v : Nat, (v : Int) < z + 1 → s.2.1 (mo + 1) (1 + v) = ii (if (v : Int) < sv.1 then sv.2.2.1 v else v) ∧ s.2.1 (mo + 1) (61 + v) = ii (if (v : Int) < sv.1 then sv.2.2.2.1 v else 100)) ∧ (∀ k, ¬ (1 ≤ k ∧ k < 121) → s.2.1 (mo + 1) k = δ.1 (mo + 1) k) ∧ Fr (fun r => r = mo + 1) δ s.2) Q) := by
      intro v1 v2 e1 e2
      have w1 : wI σ d (mo + 1) (ii (1 + z)) v1 = some (u2 d.1 (mo + 1) (1 + z.toNat) v1, d.2) := by rw [wI_kd (md0 hK) (by omega) (by omega), show (1 + z).toNat = 1 + z.toNat by omega]
      have w2 : wI σ (u2 d.1 (mo + 1) (1 + z.toNat) v1, d.2) (mo + 1) (ii (61 + z)) v2 = some (u2 (u2 d.1 (mo + 1) (1 + z.toNat) v1) (mo + 1) (61 + z.toNat) v2, d.2) := by rw [wI_kd (md0 hK) (by omega) (by omega), show (61 + z).toNat = 61 + z.toNat by omega]
      refine ⟨_, by rw [ii_add]; exact w1, Fr_u2 rfl, Ok_inl (s' := (ii (z + 1), (u2 (u2 d.1 (mo + 1) (1 + z.toNat) v1) (mo + 1) (61 + z.toNat) v2, d.2))) (by rw [ii_add, w2, ob_some, ii_add]) ⟨rfl, fun v hv => ?_, fun k hk2 => ?_, hF.tr ((Fr_u2 (P := fun r => r = mo + 1) rfl).tr (Fr_u2 (P := fun r => r = mo + 1) (δ := (u2 d.1 (mo + 1) (1 + z.toNat) v1, d.2)) rfl))⟩⟩
      · dsimp only
        by_cases hvz : v = z.toNat
        · rw [hvz, show ((z.toNat : Nat) : Int) = z by omega, ← e1, ← e2]
          refine ⟨?_, ?_⟩
          · simp (disch := omega) only [u2, if_neg, and_self, ↓reduceIte]
          · simp only [u2, and_self, ↓reduceIte]
        · obtain ⟨k1, k2⟩ := hk v (by omega)
          refine ⟨?_, ?_⟩
          · simp (disch := omega) only [u2, if_neg]
            exact k1
          · simp (disch := omega) only [u2, if_neg]
            exact k2
      · simp (disch := omega) only [u2, if_neg]
        exact ho k hk2
    rw [if_neg (show ¬ (60 : Int32) ≤ ii z by rw [ii_lit, ii_le (by omega) (by omega) (by omega) (by omega)]; omega), mg32 hK, ob_some, r1, ob_some]
    by_cases c : sv.1 ≤ z
    · rw [if_pos (show ii sv.1 ≤ ii z by rw [ii_le (by omega) (by omega) (by omega) (by omega)]; exact c)]
      obtain ⟨d4, w, f, D, eD, hD⟩ := fin (ii z) (ii 100) (by rw [if_neg (by omega)]) (by rw [if_neg (by omega)])
      unfold m_X12_forget_b57
      rw [mg0 hK, ob_some, if_pos (show (0 : Int32) = 0 from rfl)]
      unfold m_X12_forget_b85 m_X12_forget_b115
      rw [show ((1 : Int32)) = ii 1 from rfl, w, ob_some, mg0 hK, ob_some, if_pos (show (0 : Int32) = 0 from rfl)]
      exact ⟨D, eD, hD⟩
    · rw [if_neg (show ¬ ii sv.1 ≤ ii z by rw [ii_le (by omega) (by omega) (by omega) (by omega)]; exact c)]
      obtain ⟨e1, e2⟩ := h3 z.toNat (by omega) (by omega)
      rw [show ((z.toNat : Nat) : Int) = z by omega] at e1 e2
      have r2 : rI σ d (mo + 27) (ii (225 * J + 3 + z)) = some (ii (sv.2.2.1 z)) := rst (md32 hK) (by omega) (by omega) (show (225 * (J : Int) + 3 + z).toNat = 225 * J + 3 + z.toNat by omega) (by rw [(hF _ (by omega)).1]; exact e1)
      obtain ⟨d4, w, f, D, eD, hD⟩ := fin (ii (sv.2.2.1 z)) (ii (sv.2.2.2.1 z)) (by rw [if_pos (by omega)]) (by rw [if_pos (by omega)])
      have r3 : rI σ d4 (mo + 27) (ii (225 * J + 63 + z)) = some (ii (sv.2.2.2.1 z)) := rst (md32 hK) (by omega) (by omega) (show (225 * (J : Int) + 63 + z).toNat = 225 * J + 63 + z.toNat by omega) (by rw [(f _ (by omega)).1, (hF _ (by omega)).1]; exact e2)
      unfold m_X12_forget_b57
      rw [mg0 hK, ob_some, if_neg (show ¬ (1 : Int32) = 0 by decide), mg32 hK, ob_some, show ((3 : Int32)) = ii 3 from rfl, ii_add, ii_add, r2, ob_some]
      unfold m_X12_forget_b85 m_X12_forget_b115
      rw [show ((1 : Int32)) = ii 1 from rfl, w, ob_some, mg0 hK, ob_some, if_neg (show ¬ ii 1 = 0 by decide), mg32 hK, ob_some, show ((63 : Int32)) = ii 63 from rfl, ii_add, ii_add, r3, ob_some]
      exact ⟨D, eD, hD⟩
  · rintro ⟨s1, d⟩ ⟨hs, hk, ho, hF⟩
    dsimp only at hs hk ho hF ⊢
    subst hs
    obtain ⟨D, eD, hD⟩ := hq d (fun v hv => hk v (by omega)) ho hF
    refine Ok_inr (r := D) ?_ hD
    have eD' : m_X12_forget_b124 σ mo x (ii (225 * J)) 0 d = some D := eD
    rw [if_pos (show (60 : Int32) ≤ ii 60 by decide), eD', ob_some]
theorem m_forget (hK : KM σ mo) (hN : RNm δ mo E) (gE : GE E) (h : RWm δ mo n E ch W) (hG : GS (v_S (w_V W))) (hh : (v_hi (w_V W)).length ≤ 2000) (hfr : v_fr (w_V W) = []) (hl : w_lv W = l :: l' :: ls) (hJ : ls.length < 3) (hn : n < 1980) (hsv : gSv (l_sv l) (v_S (w_V W))) (hhn : l_hn l ≤ (v_hi (w_V W)).length) (hq : (l_q l').length < 390) : Ok (m_X12_forget σ mo δ) (fun d => RWm d mo (n + 1) E ch (giveUp W) ∧ RF mo δ d) := by
  have hc := gE.1.2
  have gn := hG.1
  obtain ⟨⟨s1, ⟨s2, s3, s4⟩, s5, s6, s7⟩, ⟨h33, h22, hls⟩, hX, hC⟩ := h
  rw [hl] at h33 hls
  obtain ⟨⟨t1, t2, t3, t4, t5⟩, u1, u2'⟩ := hls
  obtain ⟨⟨v1, v2, v3⟩, v4, v5, g, a, w1, w2, w3, w4, w5, w6⟩ := t5 (by rw [List.length_cons]; omega)
  have eJ : (l' :: ls).length - 1 = ls.length := by rw [List.length_cons]; omega
  rw [eJ] at v1 v2 v3 v4 v5
  obtain ⟨gs1, gs2, gs3, gs4⟩ := hsv
  have h33' : δ.1 mo 33 = ii ((ls.length : Int) + 1) := by rw [h33, List.length_cons, List.length_cons]; exact congrArg ii (by omega)
  have r31 : rI σ δ (mo + 26) (ii ((ls.length : Int) + 1)) = some (ii g) := rst (md31 hK) (by omega) (by omega) (show ((ls.length : Int) + 1).toNat = (l' :: ls).length by rw [List.length_cons]; omega) w2
  have hq2 := (hN.2.2 a.1 w4).2.2.2.1 (Or.inr w5)
  -- the level is left, the failing is taken back
  have hF0 : Fr (fun r => r = mo) δ (u2 (u2 δ.1 mo 33 (ii ls.length)) mo 35 (ii 0), δ.2) := (Fr_u2 (P := fun r => r = mo) rfl).tr (Fr_u2 (P := fun r => r = mo) (δ := (u2 δ.1 mo 33 (ii ls.length), δ.2)) rfl)
  have p1 : pI σ δ 12 mo 33 (ii ls.length) = some (u2 δ.1 mo 33 (ii ls.length), δ.2) := pI_ko hK.1
  have p2 : pZ σ (u2 δ.1 mo 33 (ii ls.length), δ.2) 12 mo 35 (ii 0) = some (u2 (u2 δ.1 mo 33 (ii ls.length)) mo 35 (ii 0), δ.2) := pZ_ko hK.1 (Or.inl rfl)
  have e33 : (u2 (u2 δ.1 mo 33 (ii ls.length)) mo 35 (ii 0), δ.2).1 mo 33 = ii ls.length := by simp (disch := omega) only [u2, if_neg, and_self, ↓reduceIte]
  have e35 : (u2 (u2 δ.1 mo 33 (ii ls.length)) mo 35 (ii 0), δ.2).1 mo 35 = ii 0 := by simp only [u2, and_self, ↓reduceIte]
  have eo : ∀ k, ¬ k = 33 → ¬ k = 35 → (u2 (u2 δ.1 mo 33 (ii ls.length)) mo 35 (ii 0), δ.2).1 mo k = δ.1 mo k := fun k h1 h2 => by simp (disch := omega) only [u2, if_neg]
  have start : m_X12_forget σ mo δ = m_X12_forget_b36 σ mo (ii g) (ii (225 * ls.length)) (ii 0) (u2 (u2 δ.1 mo 33 (ii ls.length)) mo 35 (ii 0), δ.2) := by
    unfold m_X12_forget
    rw [mg31 hK, ob_some, gI_ko hK.1, ob_some, h33', r31, ob_some, ob_some, show ((1 : Int32)) = ii 1 from rfl, ii_sub, show (ls.length : Int) + 1 - 1 = ls.length by omega, p1, ob_some, show ((0 : Int32)) = ii 0 from rfl, p2, ob_some, gI_ko hK.1, ob_some, e33, show ((225 : Int32)) = ii 225 from rfl, ii_mul]
  rw [start]
  generalize (u2 (u2 δ.1 mo 33 (ii ls.length)) mo 35 (ii 0), δ.2) = d0 at hF0 e33 e35 eo
  have un0 : ∀ r, ¬ r = mo → d0.1 r = δ.1 r := fun r hr => (hF0 r hr).1
  refine m_fg36 (sv := l_sv l) hK (by omega) (by rw [un0 _ (by omega)]; exact v1) (by omega) (by rw [un0 _ (by omega)]; exact v4) (fun d1 c1 c2 hF1 => ?_)
  refine m_fg124 (δ := d0) (sv := l_sv l) (hl := l_hn l) hK (by omega) hF1 (by rw [un0 _ (by omega)]; exact v2) (by omega) (by rw [un0 _ (by omega)]; exact v3) (by rw [un0 _ (by omega)]; exact v5) (fun d c3 c4 c5 hF2 => ?_)
  have un : ∀ r, ¬ (r = mo ∨ r = mo + 1) → d.1 r = δ.1 r := fun r hr => ((hF2 r (by omega)).1).trans (un0 r (by omega))
  have em : d.1 mo = d0.1 mo := (hF2 mo (by omega)).1
  have cc : ∀ k, ¬ (1 ≤ k ∧ k < 121) → ¬ (422 ≤ k ∧ k < 522) → ¬ k = 1022 → d.1 (mo + 1) k = δ.1 (mo + 1) k := fun k k1 k2 k3 => by rw [c5 k k2 k3, c2 k k1, un0 _ (by omega)]
  have hAd : RAm d mo g a := RAm_eq w3 (fun k _ _ => by rw [un _ (by omega)])
  have hlow : LOW mo (l' :: ls).length n δ d := by
    refine ⟨fun k _ => ?_, fun k _ => ?_, fun k _ => by rw [un _ (by omega)], fun k _ => by rw [un _ (by omega)]⟩
    · rw [un (mo + 18) (by omega), un (mo + 20) (by omega), un (mo + 22) (by omega), un (mo + 24) (by omega)]
      exact ⟨rfl, rfl, rfl, rfl⟩
    · rw [un (mo + 19) (by omega), un (mo + 21) (by omega), un (mo + 23) (by omega), un (mo + 25) (by omega), un (mo + 26) (by omega)]
      exact ⟨rfl, rfl, rfl, rfl, rfl⟩
  have hRG : RGm d mo n E (l' :: ls) := ⟨by rw [em, e33, List.length_cons]; exact congrArg ii (by omega), by rw [em, eo 22 (by decide) (by decide)]; exact h22, RLsm_low (ls := l' :: ls) ⟨u1, u2'⟩ (Nat.le_refl _) hlow⟩
  obtain ⟨r1, r2, r3, r4, r5, r6, r7, r8, r9, r10⟩ := s1
  have hS : RSm d mo (restS (v_S (w_V W)) (l_sv l)) := by
    refine ⟨by rw [cc 0 (by omega) (by omega) (by omega)]; exact r1, fun v v0 hv => ?_, fun v v0 hv => ?_, by rw [cc 121 (by omega) (by omega) (by omega)]; exact r4, fun t t0 ht => ?_, fun t t0 ht => ?_, fun t t0 ht => ?_, fun t t0 ht => ?_, fun t t0 ht => ?_, fun t t0 ht k s hk hs => ?_⟩
    · have hv' : v < s_nv (v_S (w_V W)) := hv
      obtain ⟨x1, x2⟩ := c1 v.toNat (by omega)
      rw [c5 _ (by omega) (by omega), show (1 + v).toNat = 1 + v.toNat by omega, x1, show ((v.toNat : Nat) : Int) = v by omega]
      rfl
    · have hv' : v < s_nv (v_S (w_V W)) := hv
      obtain ⟨x1, x2⟩ := c1 v.toNat (by omega)
      rw [c5 _ (by omega) (by omega), show (61 + v).toNat = 61 + v.toNat by omega, x2, show ((v.toNat : Nat) : Int) = v by omega]
      rfl
    · have ht' : t < s_nt (v_S (w_V W)) := ht
      rw [cc _ (by omega) (by omega) (by omega)]
      exact r5 t t0 ht
    · have ht' : t < s_nt (v_S (w_V W)) := ht
      rw [cc _ (by omega) (by omega) (by omega)]
      exact r6 t t0 ht
    · have ht' : t < s_nt (v_S (w_V W)) := ht
      rw [cc _ (by omega) (by omega) (by omega)]
      exact r7 t t0 ht
    · have ht' : t < s_nt (v_S (w_V W)) := ht
      have x1 := c3 t.toNat (by omega)
      rw [show ((t.toNat : Nat) : Int) = t by omega] at x1
      rw [show (422 + t).toNat = 422 + t.toNat by omega, x1]
      rfl
    · have ht' : t < s_nt (v_S (w_V W)) := ht
      rw [cc _ (by omega) (by omega) (by omega)]
      exact r9 t t0 ht
    · have ht' : t < s_nt (v_S (w_V W)) := ht
      show (d.1 (mo + 1) (622 + 4 * t + k).toNat).toBitVec.getLsbD s = _
      rw [cc _ (by omega) (by omega) (by omega)]
      exact r10 t t0 ht k s hk hs
  have hlen : ((v_hi (w_V W)).take (l_hn l)).length = l_hn l := by rw [List.length_take]; omega
  have hG2 := GS_rest (v := l_sv l) hG ⟨gs1, gs2, gs3, gs4⟩
  have hWd : RWm d mo n E ch (w_setlv (w_setV W (restS (v_S (w_V W)) (l_sv l), [], (v_hi (w_V W)).take (l_hn l), v_fi (w_V W), v_ac (w_V W), false)) (l' :: ls)) := by
    refine ⟨⟨hS, ⟨by rw [em, eo 34 (by decide) (by decide)]; exact s2, by rw [em, e35]; rfl, by rw [em, eo 37 (by decide) (by decide), s4, hfr]; rfl⟩, trivial, ⟨?_, fun j e he => ?_⟩, fun w hw => by rw [cc _ (by omega) (by omega) (by omega)]; exact s7 w hw⟩, hRG, RXm_eq hX (fun k k0 => cc k (by omega) (by omega) (by omega)), RCm_eq hC (by rw [em, eo 41 (by decide) (by decide)]) (by rw [em, eo 44 (by decide) (by decide)]) (un _ (by omega)) (un _ (by omega))⟩
    · rw [c4]
      show ii _ = ii (((v_hi (w_V W)).take (l_hn l)).length : Int)
      rw [hlen]
    · have he' : ((v_hi (w_V W)).take (l_hn l))[j]? = some e := he
      rw [List.getElem?_take] at he'
      split at he'
      · rw [cc _ (by omega) (by omega) (by omega), cc _ (by omega) (by omega) (by omega), cc _ (by omega) (by omega) (by omega)]
        exact s6.2 j e he'
      · cases he'
  have hRF : RF mo δ d := ⟨fun r hr => ⟨un r (by omega), by rw [(hF2 r (by omega)).2, (hF0 r (by omega)).2]⟩, fun k hk => by rw [em]; exact eo k (by omega) (by omega), fun k k0 k1 => cc k (by omega) (by omega) (by omega)⟩
  obtain ⟨d2, D2, y1, y2, y3, y4, -⟩ := m_newq2 hK (m := e_ot E a.1) hRG (by omega) w1 (by omega) hAd (by omega)
  refine ⟨D2, ?_, ?_, hRF.tr (RF_G y4)⟩
  · have rA : rI σ d (mo + 17) (ii (9 * g)) = some (ii a.1) := rst (md21 hK) (by omega) (by omega) (show (9 * (g : Int)).toNat = 9 * g by omega) hAd.1
    have rB := m_n2 (σ := σ) (δ := d) hK hc w4 (v := ii (e_ot E a.1)) (by rw [un _ (by omega)]; exact hq2.2)
    rw [mg4 hK, ob_some, mg21 hK, ob_some, show ((9 : Int32)) = ii 9 from rfl, ii_mul, rA, ob_some, rB, ob_some, chk_ko hK.1, ob_some, y1, ob_some, ob_some, y2, ob_some]
  · have hWD := RWm_G hWd hG2 (by show ((v_hi (w_V W)).take (l_hn l)).length ≤ 2000; rw [hlen]; omega) y4 y3
    have e : giveUp W = w_setlv (w_setV W (restS (v_S (w_V W)) (l_sv l), [], (v_hi (w_V W)).take (l_hn l), v_fi (w_V W), v_ac (w_V W), false)) (qAdd l' (l_ow l) :: ls) := by
      unfold giveUp
      rw [hl]
    rw [e, w6]
    exact hWD
end
