section
variable {σ : St} {δ d : Dy} {mo p3 k wp dr : Nat} {E : Ev} {bd kp : Bool} {R : Rl} {I : Iw} {jr : List Jn} {md n a b z x i : Int} {S : Sto}
/-- the power that counts above, or below, the line -/
def ePw (up : Bool) (pw : Int → Int) (i : Int) : Int := if up = true then pw i else -(pw i)
theorem t_line (hK : KDr σ dr) {pw : Int → Int} (hR : RPw δ (dr + 1) pw) (hb : ∀ i, -1000000 ≤ pw i ∧ pw i ≤ 1000000) {up : Bool} : m_X2_line σ dr (bi up) δ = some (lnO (ePw up pw) 7).toInt32 := by
  obtain ⟨k0, k1, kd⟩ := hK
  refine Ok_eq ?_
  unfold m_X2_line m_X2_line_b5
  refine Ok_for (fun z s => s.2 = ii z ∧ s.1 = lnO (ePw up pw) z.toNat) 0 7 (by omega) (by omega) ?_ ?_ ⟨rfl, rfl⟩
  · rintro z ⟨s1, s2⟩ z0 z1 ⟨hs2, hs1⟩
    dsimp only at hs1 hs2 ⊢
    subst hs1
    subst hs2
    have r1 : rI σ δ (dr + 1) (ii z) = some (ii (pw z)) := by rw [rI_kd kd z0 (by omega), hR z z0 z1]
    have hbz := hb z
    have b36 : Ok (m_X2_line_b36 σ dr (bi up) (lnO (ePw up pw) z.toNat) (ii z) (ii (ePw up pw z)) δ) (PL (fun s : Int64 × Int32 => s.2 = ii (z + 1) ∧ s.1 = lnO (ePw up pw) (z + 1).toNat) (fun r => r = (lnO (ePw up pw) 7).toInt32)) := by
      have he : -1000000 ≤ ePw up pw z ∧ ePw up pw z ≤ 1000000 := by unfold ePw; split <;> omega
      have hstep : lnO (ePw up pw) (z + 1).toNat = lnI (lnO (ePw up pw) z.toNat) (ii (pr7 z)) (ePw up pw z).toNat := by
        rw [show (z + 1).toNat = z.toNat + 1 by omega]
        show lnI (lnO (ePw up pw) z.toNat) (ii (pr7 (z.toNat : Nat))) (ePw up pw (z.toNat : Nat)).toNat = _
        rw [show ((z.toNat : Nat) : Int) = z by omega]
      rw [hstep]
      unfold m_X2_line_b36 m_X2_line_b41
      by_cases hneg : ePw up pw z ≤ 0
      · refine Ok_lp (fun s => s = (lnO (ePw up pw) z.toNat, (0 : Int32))) (fun _ => 0) ?_ rfl (by decide)
        rintro s rfl
        refine Ok_inr (r := Sum.inl (lnO (ePw up pw) z.toNat, ii (z + 1))) ?_ ⟨rfl, by rw [show (ePw up pw z).toNat = 0 by omega]; rfl⟩
        rw [if_pos (show ii (ePw up pw z) ≤ (0 : Int32) by rw [show ((0 : Int32)) = ii 0 from rfl, ii_le (by omega) (by omega) (by omega) (by omega)]; exact hneg), show ((1 : Int32)) = ii 1 from rfl, ii_add]
      · refine Ok_for (fun y s => s.2 = ii y ∧ s.1 = lnI (lnO (ePw up pw) z.toNat) (ii (pr7 z)) y.toNat) 0 (ePw up pw z) (by omega) (by omega) ?_ ?_ ⟨rfl, rfl⟩
        · rintro y ⟨t1, t2⟩ y0 y1 ⟨ht2, ht1⟩
          dsimp only at ht1 ht2 ⊢
          subst ht1
          subst ht2
          refine Ok_inl (s' := (lnI (lnO (ePw up pw) z.toNat) (ii (pr7 z)) (y + 1).toNat, ii (y + 1))) ?_ ⟨rfl, rfl⟩
          rw [if_neg (show ¬ ii (ePw up pw z) ≤ ii y by rw [ii_le (by omega) (by omega) (by omega) (by omega)]; omega), rP_ii z0 z1, ob_some, rmL_m, ob_some, show ((1 : Int32)) = ii 1 from rfl, ii_add, show (y + 1).toNat = y.toNat + 1 by omega]
          rfl
        · rintro ⟨t1, t2⟩ ⟨ht2, ht1⟩
          dsimp only at ht1 ht2 ⊢
          subst ht1
          subst ht2
          refine Ok_inr (r := Sum.inl (lnI (lnO (ePw up pw) z.toNat) (ii (pr7 z)) (ePw up pw z).toNat, ii (z + 1))) ?_ ⟨rfl, rfl⟩
          rw [if_pos (show ii (ePw up pw z) ≤ ii (ePw up pw z) by rw [ii_le (by omega) (by omega) (by omega) (by omega)]; omega), show ((1 : Int32)) = ii 1 from rfl, ii_add]
    rw [if_neg (show ¬ (7 : Int32) ≤ ii z by rw [show ((7 : Int32)) = ii 7 from rfl, ii_le (by omega) (by omega) (by omega) (by omega)]; omega)]
    cases hu : up with
    | true =>
      rw [hu] at b36
      rw [if_neg (show ¬ bi true = 0 by decide), gR_ko k0 k1, ob_some, r1, ob_some]
      exact b36
    | false =>
      rw [hu] at b36
      rw [if_pos (show bi false = 0 from rfl), gR_ko k0 k1, ob_some, r1, ob_some, ii_neg]
      exact b36
  · rintro ⟨s1, s2⟩ ⟨hs2, hs1⟩
    dsimp only at hs1 hs2 ⊢
    subst hs1
    subst hs2
    exact Ok_inr (r := (lnO (ePw up pw) 7).toInt32) (by rw [if_pos (show (7 : Int32) ≤ ii 7 by decide)]; rfl) rfl
end
