/-! THE START: the rewriter -/
section
variable {σ : St} {δ : Dy} {p st ro : Nat}
theorem wA_ex {t c r n z x : Nat} (h : KD σ r t n) (hz : z < n) (hx : KO σ x c) : ∃ s, wA σ t c r (ii (z : Int)) x = some s ∧ sn s = sn σ ∧ srv s r z = some x ∧ (∀ j, ¬ j = z → srv s r j = srv σ r j) ∧ Bx σ s r := by
  have hb := h.2.2
  have hz0 : (ii (z : Int)).toNatClampNeg = z := by rw [ii_nat (by omega) (by omega)]; omega
  have hin : inb (ii (z : Int)) (sln σ r) = true := by
    unfold inb
    rw [hz0, h.2.1]
    have c : ¬ ii (z : Int) < 0 := by
      rw [show ((0 : Int32)) = ii 0 from rfl, ii_lt (by omega) (by omega) (by omega) (by omega)]
      omega
    rw [decide_eq_false c, decide_eq_false (show ¬ n ≤ z by omega)]
    rfl
  refine ⟨(σ.1, σ.2.1, u2 σ.2.2.1 r z (some x), σ.2.2.2), ?_, rfl, ?_, fun j hj => ?_, Nat.le_refl _, fun q hq => ⟨rfl, rfl, fun hne j => ?_⟩⟩
  · unfold wA
    rw [if_pos ⟨⟨h.1, hin⟩, hx⟩, hz0]
  · show u2 σ.2.2.1 r z (some x) r z = _
    simp only [u2, and_self, ↓reduceIte]
  · show u2 σ.2.2.1 r z (some x) r j = _
    simp only [u2, hj, and_false, ↓reduceIte]
    rfl
  · show u2 σ.2.2.1 r z (some x) q j = _
    simp only [u2, hne, false_and, ↓reduceIte]
    rfl
/-- its frames -/
theorem i_X6L {σ0 : St} {δ0 : Dy} (hp : KO σ0 p 6) (h2 : srv σ0 p 2 = some (p + 1)) (hD : KD σ0 (p + 1) 105 183) (hn : sn σ0 = p + 6) (hr : p < 700) : ∃ s d, m_X6_init_b58 σ0 p (ii 0) δ0 = some (s, d) ∧ sn s = p + 372 ∧ Bx σ0 s (p + 1) ∧ (∀ i : Nat, i < 183 → srv s (p + 1) i = some (p + 6 + 2 * i) ∧ KO s (p + 6 + 2 * i) 3 ∧ srv s (p + 6 + 2 * i) 0 = some (p + 7 + 2 * i) ∧ KD s (p + 7 + 2 * i) 100 4) ∧ ∀ i, i < p + 6 → d.1 i = δ0.1 i ∧ d.2 i = δ0.2 i := by
  have hro := roB_big
  have key : Ok (m_X6_init_b58 σ0 p (ii 0) δ0) (fun r => sn r.1 = p + 372 ∧ Bx σ0 r.1 (p + 1) ∧ (∀ i : Nat, i < 183 → srv r.1 (p + 1) i = some (p + 6 + 2 * i) ∧ KO r.1 (p + 6 + 2 * i) 3 ∧ srv r.1 (p + 6 + 2 * i) 0 = some (p + 7 + 2 * i) ∧ KD r.1 (p + 7 + 2 * i) 100 4) ∧ ∀ i, i < p + 6 → r.2.1 i = δ0.1 i ∧ r.2.2 i = δ0.2 i) := by
    unfold m_X6_init_b58
    refine Ok_lpi (fun n s => n + s.1 = 183 ∧ s.2.1 = ii (s.1 : Int) ∧ sn s.2.2.1 = p + 6 + 2 * s.1 ∧ Bx σ0 s.2.2.1 (p + 1) ∧ (∀ i : Nat, i < s.1 → srv s.2.2.1 (p + 1) i = some (p + 6 + 2 * i) ∧ KO s.2.2.1 (p + 6 + 2 * i) 3 ∧ srv s.2.2.1 (p + 6 + 2 * i) 0 = some (p + 7 + 2 * i) ∧ KD s.2.2.1 (p + 7 + 2 * i) 100 4) ∧ ∀ i, i < p + 6 → s.2.2.2.1 i = δ0.1 i ∧ s.2.2.2.2 i = δ0.2 i) ?_ (n := 183) ⟨rfl, rfl, hn, Bx.rf, fun i hi => absurd hi (Nat.not_lt_zero _), fun i _ => ⟨rfl, rfl⟩⟩ (by omega)
    rintro n ⟨z, s1, σ, δ⟩ ⟨hnz, hs1, hsn, hB, hfr, hδ⟩
    dsimp only at hnz hs1 hsn hB hfr hδ ⊢
    subst hs1
    have kp : KO σ p 6 := KO_bx hp hB
    have kD : KD σ (p + 1) 105 183 := KD_bx hD hB
    have e2 : srv σ p 2 = some (p + 1) := ((hB.2 p hp.1).2.2 (by omega) 2).trans h2
    have g2 := gR_ko kp e2
    have al : aln σ 105 (p + 1) = some (ii (183 : Nat)) := aln_kd kD
    rw [if_pos (show z < 184 by omega)]
    by_cases c : z = 183
    · have cc : (ii (183 : Nat) ≤ ii (z : Int)) = True := by
        rw [ii_le (by omega) (by omega) (by omega) (by omega)]
        exact eq_true (by omega)
      exact Ok_inr (r := (σ, δ)) (by simp only [g2, ob_some, al, cc, ↓reduceIte]) ⟨by dsimp only; omega, hB, fun i hi => hfr i (by omega), hδ⟩
    · have cc : (ii (183 : Nat) ≤ ii (z : Int)) = False := by
        rw [ii_le (by omega) (by omega) (by omega) (by omega)]
        exact eq_false (by omega)
      obtain ⟨t1, x1, n1, k1, b1⟩ := nO_ex (σ := σ) (c := 3) (by omega)
      obtain ⟨t2, d2, x2, n2, ⟨k2, v2, D2⟩, b2, z2, u2⟩ := i_X3 (δ := nwD σ δ) k1 (by omega) (by omega)
      have b12 : Bx σ t2 (p + 1) := (b1 (p + 1)).tr b2 (Or.inr (Nat.le_refl _))
      obtain ⟨t3, x3, n3, v3, o3, b3⟩ := wA_ex (z := z) (KD_bx kD b12) (by omega) k2
      have a1 : ii (z : Int) + (1 : Int32) = ii ((z + 1 : Nat) : Int) := by
        rw [show ((1 : Int32)) = ii 1 from rfl, ii_add]
        exact congrArg ii (by omega)
      rw [hsn] at k2 v2 D2 v3
      have b13 : Bx σ t3 (p + 1) := b12.tr b3 (Or.inl rfl)
      refine Ok_inl (s' := (z + 1, ii ((z + 1 : Nat) : Int), t3, d2)) ?_ ⟨n - 1, by omega, by dsimp only; omega, rfl, by dsimp only; omega, hB.tr b13 (Or.inl rfl), fun i hi => ?_, fun i hi => ?_⟩
      · simp only [g2, ob_some, al, cc, ↓reduceIte, x1, x2, x3, a1]
      · dsimp only at hi ⊢
        by_cases ci : i = z
        · subst ci
          refine ⟨v3, KO_bx k2 b3, ((b3.2 _ k2.1).2.2 (by omega) 0).trans ?_, ?_⟩
          · rw [v2]; exact congrArg some (by omega)
          · have := KD_bx D2 b3
            rw [show p + 6 + 2 * i + 1 = p + 7 + 2 * i by omega] at this
            exact this
        · obtain ⟨f1, f2, f3, f4⟩ := hfr i (by omega)
          refine ⟨?_, KO_bx f2 b13, ((b13.2 _ f2.1).2.2 (by omega) 0).trans f3, KD_bx f4 b13⟩
          rw [o3 i ci, (b2.2 (p + 1) (by omega)).2.2 (by omega), ((b1 (sn σ)).2 (p + 1) (by omega)).2.2 (by omega)]
          exact f1
      · dsimp only
        rw [(u2 i (by omega)).1, (u2 i (by omega)).2, (nwD_ne (σ := σ) (δ := δ) (by omega)).1, (nwD_ne (σ := σ) (δ := δ) (by omega)).2]
        exact hδ i hi
  obtain ⟨⟨s, d⟩, e, h1, h2, h3, h4⟩ := key
  exact ⟨s, d, e, h1, h2, h3, h4⟩
end
