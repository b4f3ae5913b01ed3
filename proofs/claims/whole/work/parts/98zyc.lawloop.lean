/-! THE LAW: its loop (made by genlaw3.py) -/
section
variable {σ : St} {δ d : Dy} {mo p3 k N : Nat} {xs : Nat → Int32}
theorem rS_ok {z : Int} (h0 : 0 ≤ z) (h1 : z < N) (h2 : z < 2147483648) : rS xs N (ii z) = some (xs z.toNat) := by
  unfold rS inb
  rw [ii_nat h0 h2]
  have c : ¬ ii z < 0 := by
    rw [show ((0 : Int32)) = ii 0 from rfl, ii_lt (by omega) (by omega) (by omega) (by omega)]
    omega
  rw [decide_eq_false c, decide_eq_false (show ¬ N ≤ z.toNat by omega)]
  rfl
theorem InvL_k (h : InvL σ mo p3 k δ) : InvL σ mo p3 (k + 1) δ := by
  obtain ⟨hK, E, bd, R, hI⟩ := h
  refine ⟨hK, E, bd, R, fun F hF => ?_⟩
  obtain ⟨I, jr, hC⟩ := hI F hF
  exact ⟨I, jr, Core_k hC (Nat.le_succ k)⟩
theorem law_loop (hI0 : InvL σ mo p3 0 δ) (hN : N ≤ 3072) : m_law_b23 xs N σ 0 mo p3 (ii 0) δ = some () := by
  have key : Ok (m_law_b23 xs N σ 0 mo p3 (ii 0) δ) (fun _ => True) := by
    unfold m_law_b23
    refine Ok_lpi (fun n s => n + s.1 = 513 ∧ s.2.1 = ii (6 * (s.1 : Int)) ∧ 6 * s.1 ≤ N ∧ InvL σ mo p3 s.1 s.2.2) ?_ (n := 513) ⟨rfl, rfl, Nat.zero_le _, hI0⟩ (by omega)
    rintro n ⟨k, i, δ⟩ ⟨hn, hi, hkN, hI⟩
    dsimp only at hn hi hkN hI ⊢
    subst hi
    rw [if_pos (show k < 600 by omega)]
    have e6 : Int32.ofNat N - (6 : Int32) = ii ((N : Int) - 6) := by
      rw [show Int32.ofNat N = ii (N : Int) from (Int32.ofInt_eq_ofNat (n := N)).symm, show ((6 : Int32)) = ii 6 from rfl, ii_sub]
    rw [e6]
    by_cases c : (N : Int) - 6 < 6 * (k : Int)
    · exact Ok_inr (r := ()) (by rw [if_pos (show ii ((N : Int) - 6) < ii (6 * (k : Int)) by rw [ii_lt (by omega) (by omega) (by omega) (by omega)]; exact c)]) trivial
    · rw [if_neg (show ¬ ii ((N : Int) - 6) < ii (6 * (k : Int)) by rw [ii_lt (by omega) (by omega) (by omega) (by omega)]; exact c)]
      have hk : k < 512 := by omega
      have hRd : RdL xs N (ii (6 * (k : Int))) := by
        intro j j0 j6
        obtain ⟨z, hz, hr⟩ := ar (xs (6 * (k : Int) + j).toNat)
        exact ⟨z, hr, by rw [ii_add, rS_ok (by omega) (by omega) (by omega), hz]⟩
      rw [rS_ok (by omega) (by omega) (by omega), ob_some]
      have up : ∀ {m : Option ((Nat × Int32 × Dy) ⊕ Unit)}, Ok m (LG σ mo p3 k (ii (6 * (k : Int)))) → Ok m (PL (fun s' => ∃ m, m < n ∧ (m + s'.1 = 513 ∧ s'.2.1 = ii (6 * (s'.1 : Int)) ∧ 6 * s'.1 ≤ N ∧ InvL σ mo p3 s'.1 s'.2.2)) (fun _ => True)) := by
        intro m h
        refine Ok_mono h ?_
        rintro (⟨a, b, e⟩ | r) hs
        · obtain ⟨h1, h2, h3⟩ := hs
          dsimp only at h1 h2 h3
          subst h1
          refine ⟨n - 1, by omega, by dsimp only; omega, ?_, by dsimp only; omega, h3⟩
          dsimp only
          rw [h2, show ((6 : Int32)) = ii 6 from rfl, ii_add]
          exact congrArg ii (by omega)
        · exact trivial
      generalize xs (6 * (k : Int)).toNat &&& (63 : Int32) = v
      by_cases c0 : v = (0 : Int32)
      · rw [if_pos c0]; exact up (B_variable hI hk)
      rw [if_neg c0]
      by_cases c1 : v = (1 : Int32)
      · rw [if_pos c1]; exact up (B_equate hI hRd)
      rw [if_neg c1]
      by_cases c2 : v = (2 : Int32)
      · rw [if_pos c2]; exact up (B_token hI hRd)
      rw [if_neg c2]
      by_cases c3 : v = (3 : Int32)
      · rw [if_pos c3]; exact up (B_both hI hRd)
      rw [if_neg c3]
      by_cases c4 : v = (4 : Int32)
      · rw [if_pos c4]; exact up (B_when hI hRd)
      rw [if_neg c4]
      by_cases c5 : v = (5 : Int32)
      · rw [if_pos c5]; exact up (B_either hI hRd)
      rw [if_neg c5]
      by_cases c6 : v = (6 : Int32)
      · rw [if_pos c6]; exact up (B_hide hI hRd)
      rw [if_neg c6]
      by_cases c7 : v = (7 : Int32)
      · rw [if_pos c7]; exact up (B_call hI hRd)
      rw [if_neg c7]
      by_cases c8 : v = (8 : Int32)
      · rw [if_pos c8]; exact up (B_next hI hRd)
      rw [if_neg c8]
      by_cases c9 : v = (9 : Int32)
      · rw [if_pos c9]; exact up (B_each hI hRd)
      rw [if_neg c9]
      by_cases c10 : v = (10 : Int32)
      · rw [if_pos c10]; exact up (B_unless hI hRd)
      rw [if_neg c10]
      by_cases c11 : v = (11 : Int32)
      · rw [if_pos c11]; exact up (B_lot hI hRd)
      rw [if_neg c11]
      by_cases c12 : v = (12 : Int32)
      · rw [if_pos c12]; exact up (B_attempt hI hRd)
      rw [if_neg c12]
      by_cases c13 : v = (13 : Int32)
      · rw [if_pos c13]; exact up (B_define hI hk hRd)
      rw [if_neg c13]
      by_cases c14 : v = (14 : Int32)
      · rw [if_pos c14]; exact up (B_head hI hRd)
      rw [if_neg c14]
      by_cases c15 : v = (15 : Int32)
      · rw [if_pos c15]; exact up (B_other hI hRd)
      rw [if_neg c15]
      by_cases c16 : v = (16 : Int32)
      · rw [if_pos c16]; exact up (B_guard hI hRd)
      rw [if_neg c16]
      by_cases c17 : v = (17 : Int32)
      · rw [if_pos c17]; exact up (B_body hI hRd)
      rw [if_neg c17]
      by_cases c18 : v = (18 : Int32)
      · rw [if_pos c18]; exact up (B_rule hI hk)
      rw [if_neg c18]
      by_cases c19 : v = (19 : Int32)
      · rw [if_pos c19]; exact up (B_begin hI hk hRd)
      rw [if_neg c19]
      by_cases c20 : v = (20 : Int32)
      · rw [if_pos c20]; exact up (B_step hI hk)
      rw [if_neg c20]
      by_cases c21 : v = (21 : Int32)
      · rw [if_pos c21]; exact up (B_seed hI hk hRd)
      rw [if_neg c21]
      by_cases c22 : v = (22 : Int32)
      · rw [if_pos c22]; exact up (B_ends hI)
      rw [if_neg c22]
      by_cases c23 : v = (23 : Int32)
      · rw [if_pos c23]; exact up (B_clock hI)
      rw [if_neg c23]
      by_cases c24 : v = (24 : Int32)
      · rw [if_pos c24]; exact up (B_hasFailed hI)
      rw [if_neg c24]
      by_cases c25 : v = (25 : Int32)
      · rw [if_pos c25]; exact up (B_variables hI)
      rw [if_neg c25]
      by_cases c26 : v = (26 : Int32)
      · rw [if_pos c26]; exact up (B_value hI hRd)
      rw [if_neg c26]
      by_cases c27 : v = (27 : Int32)
      · rw [if_pos c27]; exact up (B_areOne hI hRd)
      rw [if_neg c27]
      by_cases c28 : v = (28 : Int32)
      · rw [if_pos c28]; exact up (B_tokens hI)
      rw [if_neg c28]
      by_cases c29 : v = (29 : Int32)
      · rw [if_pos c29]; exact up (B_part hI hRd)
      rw [if_neg c29]
      by_cases c30 : v = (30 : Int32)
      · rw [if_pos c30]; exact up (B_isMadeBy hI hRd)
      rw [if_neg c30]
      by_cases c31 : v = (31 : Int32)
      · rw [if_pos c31]; exact up (B_standing hI)
      rw [if_neg c31]
      by_cases c32 : v = (32 : Int32)
      · rw [if_pos c32]; exact up (B_standingAnew hI hk)
      rw [if_neg c32]
      by_cases c33 : v = (33 : Int32)
      · rw [if_pos c33]; exact up (B_waiting hI)
      rw [if_neg c33]
      by_cases c34 : v = (34 : Int32)
      · rw [if_pos c34]; exact up (B_fired hI hRd)
      rw [if_neg c34]
      by_cases c35 : v = (35 : Int32)
      · rw [if_pos c35]; exact up (B_chance hI hRd)
      rw [if_neg c35]
      exact up (finL (InvL_k hI))
  obtain ⟨r, e, -⟩ := key
  exact e
end
