/-! THE START: a world's levels -/
def RLz (δ : Dy) (p : Nat) : Prop := RQ δ (p + 1) 120 [] ∧ RQ δ (p + 5) 60 [] ∧ RQ δ (p + 9) 60 [] ∧ RQ δ (p + 13) 60 [] ∧ RQ δ (p + 17) 1 []
section
variable {σ : St} {δ d : Dy} {p q lv st ro nd : Nat}
theorem RLz_eq (h : RLz δ lv) (e : ∀ i, lv ≤ i → i < lv + 24 → d.1 i = δ.1 i) : RLz d lv := ⟨RQ_nl h.1 (e _ (by omega) (by omega)), RQ_nl h.2.1 (e _ (by omega) (by omega)), RQ_nl h.2.2.1 (e _ (by omega) (by omega)), RQ_nl h.2.2.2.1 (e _ (by omega) (by omega)), RQ_nl h.2.2.2.2 (e _ (by omega) (by omega))⟩
theorem KLv_bx {σ' : St} (h : KLv σ lv) (k : Bx σ σ' q) (hq : q < lv) : KLv σ' lv := by
  obtain ⟨⟨h0, ⟨a0, a1, a2, a3, a4, a5, a6, a7⟩, b1, b2, b3⟩, h1, h2, h3, h4, h5⟩ := h
  have e := (k.2 lv h0.1).2.2 (by omega)
  exact ⟨⟨KO_bx h0 k, ⟨(e 0).trans a0, (e 1).trans a1, (e 2).trans a2, (e 3).trans a3, (e 4).trans a4, (e 5).trans a5, (e 6).trans a6, (e 7).trans a7⟩, KD_bx b1 k, KD_bx b2 k, KD_bx b3 k⟩, KQ_bx h1 k (by omega), KQ_bx h2 k (by omega), KQ_bx h3 k (by omega), KQ_bx h4 k (by omega), KQ_bx h5 k (by omega)⟩
theorem i_X10L {σ0 : St} {δ0 : Dy} (hp : KO σ0 p 10) (h6 : srv σ0 p 6 = some (p + 15)) (hD : KD σ0 (p + 15) 103 4) (h4 : srv σ0 p 4 = some (p + 13)) (hD13 : KD σ0 (p + 13) 100 6) (hn : sn σ0 = p + 390) (hr : p < 600) : ∃ s d, m_X10_init_b84 σ0 p (ii 0) δ0 = some (s, d) ∧ sn s = p + 486 ∧ Bx σ0 s (p + 15) ∧ (∀ i : Nat, i < 4 → srv s (p + 15) i = some (p + 390 + 24 * i) ∧ KLv s (p + 390 + 24 * i) ∧ RLz d (p + 390 + 24 * i)) ∧ (∀ k : Nat, k < 6 → d.1 (p + 13) k = -1) ∧ ∀ i, i < p + 390 → ¬ i = p + 13 → d.1 i = δ0.1 i ∧ d.2 i = δ0.2 i := by
  have hro := roB_big
  have key : Ok (m_X10_init_b84 σ0 p (ii 0) δ0) (fun r => sn r.1 = p + 486 ∧ Bx σ0 r.1 (p + 15) ∧ (∀ i : Nat, i < 4 → srv r.1 (p + 15) i = some (p + 390 + 24 * i) ∧ KLv r.1 (p + 390 + 24 * i) ∧ RLz r.2 (p + 390 + 24 * i)) ∧ (∀ k : Nat, k < 6 → r.2.1 (p + 13) k = -1) ∧ ∀ i, i < p + 390 → ¬ i = p + 13 → r.2.1 i = δ0.1 i ∧ r.2.2 i = δ0.2 i) := by
    unfold m_X10_init_b84
    refine Ok_lpi (fun n s => n + s.1 = 4 ∧ s.2.1 = ii (s.1 : Int) ∧ sn s.2.2.1 = p + 390 + 24 * s.1 ∧ Bx σ0 s.2.2.1 (p + 15) ∧ (∀ i : Nat, i < s.1 → srv s.2.2.1 (p + 15) i = some (p + 390 + 24 * i) ∧ KLv s.2.2.1 (p + 390 + 24 * i) ∧ RLz s.2.2.2 (p + 390 + 24 * i)) ∧ ∀ i, i < p + 390 → s.2.2.2.1 i = δ0.1 i ∧ s.2.2.2.2 i = δ0.2 i) ?_ (n := 4) ⟨rfl, rfl, hn, Bx.rf, fun i hi => absurd hi (Nat.not_lt_zero _), fun i _ => ⟨rfl, rfl⟩⟩ (by omega)
    rintro n ⟨z, s1, σ, δ⟩ ⟨hnz, hs1, hsn, hB, hlv, hδ⟩
    dsimp only at hnz hs1 hsn hB hlv hδ ⊢
    subst hs1
    have kp : KO σ p 10 := KO_bx hp hB
    have kD : KD σ (p + 15) 103 4 := KD_bx hD hB
    have e6 : srv σ p 6 = some (p + 15) := ((hB.2 p hp.1).2.2 (by omega) 6).trans h6
    have e4 : srv σ p 4 = some (p + 13) := ((hB.2 p hp.1).2.2 (by omega) 4).trans h4
    have g6 := gR_ko kp e6
    have g4 := gR_ko kp e4
    have al : aln σ 103 (p + 15) = some (ii (4 : Nat)) := aln_kd kD
    rw [if_pos (show z < 5 by omega)]
    by_cases c : z = 4
    · have cc : (ii (4 : Nat) ≤ ii (z : Int)) = True := by
        rw [ii_le (by omega) (by omega) (by omega) (by omega)]
        exact eq_true (by omega)
      obtain ⟨d1, e1, t1, -, F1⟩ := t_fillI (δ := δ) (KD_bx hD13 hB) (v := -1)
      refine Ok_inr (r := (σ, d1)) (by simp only [g6, ob_some, al, cc, ↓reduceIte, g4, e1]) ⟨by dsimp only; omega, hB, fun i hi => ?_, t1, fun i hi hne => ?_⟩
      · obtain ⟨f1, f2, f3⟩ := hlv i (by omega)
        exact ⟨f1, f2, RLz_eq f3 (fun j j0 j1 => (F1 j (by omega)).1)⟩
      · rw [(F1 i hne).1, (F1 i hne).2]
        exact hδ i hi
    · have cc : (ii (4 : Nat) ≤ ii (z : Int)) = False := by
        rw [ii_le (by omega) (by omega) (by omega) (by omega)]
        exact eq_false (by omega)
      obtain ⟨t1, x1, n1, k1, b1⟩ := nO_ex (σ := σ) (c := 4) (by omega)
      obtain ⟨t2, d2, x2, n2, k2, b2, z2, u2⟩ := i_X4 (δ := nwD σ δ) k1 (by omega) (by omega)
      have b12 : Bx σ t2 (p + 15) := (b1 (p + 15)).tr b2 (Or.inr (Nat.le_refl _))
      obtain ⟨t3, x3, n3, v3, o3, b3⟩ := wA_ex (z := z) (KD_bx kD b12) (by omega) k2.1.1
      have a1 : ii (z : Int) + (1 : Int32) = ii ((z + 1 : Nat) : Int) := by
        rw [show ((1 : Int32)) = ii 1 from rfl, ii_add]
        exact congrArg ii (by omega)
      rw [hsn] at k2 v3 z2
      have b13 : Bx σ t3 (p + 15) := b12.tr b3 (Or.inl rfl)
      have low : ∀ i, i < sn σ → d2.1 i = δ.1 i ∧ d2.2 i = δ.2 i := fun i hi => by
        rw [(u2 i (by omega)).1, (u2 i (by omega)).2, (nwD_ne (σ := σ) (δ := δ) (by omega)).1, (nwD_ne (σ := σ) (δ := δ) (by omega)).2]
        exact ⟨rfl, rfl⟩
      refine Ok_inl (s' := (z + 1, ii ((z + 1 : Nat) : Int), t3, d2)) ?_ ⟨n - 1, by omega, by dsimp only; omega, rfl, by dsimp only; omega, hB.tr b13 (Or.inl rfl), fun i hi => ?_, fun i hi => ?_⟩
      · simp only [g6, ob_some, al, cc, ↓reduceIte, x1, x2, x3, a1]
      · dsimp only at hi ⊢
        by_cases ci : i = z
        · subst ci
          exact ⟨v3, KLv_bx k2 b3 (by omega), z2⟩
        · obtain ⟨f1, f2, f3⟩ := hlv i (by omega)
          refine ⟨?_, KLv_bx f2 b13 (by omega), RLz_eq f3 (fun j j0 j1 => (low j (by omega)).1)⟩
          rw [o3 i ci, (b2.2 (p + 15) (by omega)).2.2 (by omega), ((b1 (sn σ)).2 (p + 15) (by omega)).2.2 (by omega)]
          exact f1
      · dsimp only
        rw [(low i (by omega)).1, (low i (by omega)).2]
        exact hδ i hi
  obtain ⟨⟨s, d⟩, e, h1, h2, h3, h4, h5⟩ := key
  exact ⟨s, d, e, h1, h2, h3, h4, h5⟩
theorem RS_zero (h : ∀ i, st ≤ i → i < st + 10 → Zer δ i) : RS δ st S00 0 false := by
  have z0 := h st (by omega) (by omega)
  refine ⟨(z0 2).1, (z0 10).1, fun z z0 z1 => ?_, fun z z0 z1 => ?_, fun z z0 z1 => ?_, fun z z0 z1 => ?_, fun z z0 z1 => ?_, fun z z0 z1 => ?_, fun z z0 z1 => ?_, fun z z0 z1 => ?_, (z0 11).1, (z0 12).1, fun k => Or.inl (h (st + 6) (by omega) (by omega) k).1, fun k => Or.inl (h (st + 7) (by omega) (by omega) k).1⟩
  all_goals exact absurd z1 (by show ¬ z < 0; omega)
end
