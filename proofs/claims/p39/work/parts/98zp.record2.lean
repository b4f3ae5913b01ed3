/-! THE LAW: the class records an end, whole -/
section
variable {σ : St} {δ d : Dy} {n0 r c st : Nat} {e : ERc} {es : List ERc} {V : Vw} {ac : Int} {S : Sto} {fl : Bool}
theorem t_recTok (hK9 : KSu σ 9 8) (hK : KS σ st) (hst : 13 ≤ st) (hR : RS δ st S ac fl) (hG : GS S) {off : Nat} (hoff : off + 100 ≤ 1296) (h0 : 62 ≤ off) : Ok (m_X9_recordTokens σ 9 st (ii off) δ) (fun d => lay d 12 off ((codsE S (s_nt S).toNat).map gC) ∧ CeF 12 off (codsE S (s_nt S).toNat).length δ d) := by
  have g03 : 0 ≤ s_nt S ∧ s_nt S ≤ 100 := ⟨hG.1.2.2.1, hG.1.2.2.2⟩
  have gnv := hG.1
  have hK' := hK
  obtain ⟨k0, ⟨k1, k2, k3, k4, k5, k6, k7, k8, k9⟩, d1, d2, d3, d4, d5, d6, d7, d8, d9⟩ := hK
  unfold m_X9_recordTokens m_X9_recordTokens_b5
  refine Ok_for (fun z s => s.1 = ii ((off : Int) + (codsE S z.toNat).length) ∧ s.2.1 = ii z ∧ lay s.2.2 12 off ((codsE S z.toNat).map gC) ∧ CeF 12 off (codsE S z.toNat).length δ s.2.2) 0 (s_nt S) g03.1 (by omega) ?_ ?_ ⟨by show ii off = ii ((off : Int) + ((0 : Nat) : Int)); exact congrArg ii (by omega), rfl, fun i x hx => (by cases hx), CeF.rf⟩
  · rintro z ⟨s1, s2, d⟩ z0 z1 ⟨hs1, hs2, hL, hC⟩
    dsimp only at hs1 hs2 hL hC ⊢
    subst hs1
    subst hs2
    have hR' : RS d st S ac fl := RS_of_Fr hR hC.2 (fun r a b => by omega)
    obtain ⟨n, rfl⟩ : ∃ n : Nat, z = n := ⟨z.toNat, by omega⟩
    rw [show ((n : Int) + 1).toNat = n + 1 by omega]
    rw [show ((n : Int)).toNat = n by omega] at hL hC ⊢
    obtain ⟨hcr, hcl, hcn⟩ := codsE_rng hG n (by omega)
    obtain ⟨q0, q1, q2, q3⟩ := codE_rng hG (t := n) z0 z1
    have q4 : 0 ≤ gC (codE S n) := by
      have := (gC_le q0 (Int.le_refl 0)).mpr q0
      have w : gC 0 = 0 := rfl
      omega
    obtain ⟨r1, r2, r3, r4, r5, r6, r7, r8, r9, r10, r11, r12, r13, r14⟩ := hR'
    have x10 : gI σ d 8 st 10 = some (ii (s_nt S)) := by rw [gI_ko k0, r2]
    have c1 : (ii (s_nt S) ≤ ii (n : Int)) = False := by
      rw [ii_le (by omega) (by omega) (by omega) (by omega)]
      exact eq_false (by omega)
    have y7 : rZ σ d (st + 7) (ii n) = some (bi (s_sd S n)) := by rw [rZ_kd d7 z0 (by omega), r9 _ z0 z1]
    have a1 : ii (n : Int) + (1 : Int32) = ii ((n : Int) + 1) := by rw [show ((1 : Int32)) = ii 1 from rfl, ii_add]
    cases hsd : s_sd S n with
    | false =>
      rw [hsd] at y7
      refine Ok_inl (s' := (ii ((off : Int) + (codsE S n).length), ii ((n : Int) + 1), d)) ?_ ⟨?_, rfl, ?_, ?_⟩
      · simp only [x10, ob_some, c1, ↓reduceIte, gR_ko k0 k7, y7, bf0, m_X9_recordTokens_b155, a1]
      · show _ = ii ((off : Int) + ((if s_sd S n = true then insE (codE S n) (codsE S n) else codsE S n).length : Nat))
        rw [hsd]; rfl
      · show lay d 12 off ((if s_sd S n = true then insE (codE S n) (codsE S n) else codsE S n).map gC)
        rw [hsd]; exact hL
      · show CeF 12 off (if s_sd S n = true then insE (codE S n) (codsE S n) else codsE S n).length δ d
        rw [hsd]; exact hC
    | true =>
      rw [hsd] at y7
      have y3 : rI σ d (st + 3) (ii n) = some (ii (s_so S n)) := by rw [rI_kd d3 z0 (by omega), r5 _ z0 z1]
      have y6 : rZ σ d (st + 6) (ii n) = some (bi (s_la S n)) := by rw [rZ_kd d6 z0 (by omega), r8 _ z0 z1]
      have y4 : rI σ d (st + 4) (ii n) = some (ii (s_fi S n)) := by rw [rI_kd d4 z0 (by omega), r6 _ z0 z1]
      have y5 : rI σ d (st + 5) (ii n) = some (ii (s_se S n)) := by rw [rI_kd d5 z0 (by omega), r7 _ z0 z1]
      have t4 := tm_rng (hG.2.2.2.2.1 n z0 z1) gnv.2.1
      have t5 := tm_rng (hG.2.2.2.2.2 n z0 z1) gnv.2.1
      have hR2 : RS d st S ac fl := ⟨r1, r2, r3, r4, r5, r6, r7, r8, r9, r10, r11, r12, r13, r14⟩
      have f4 : m_X8_form σ st (ii (s_fi S n)) d = some (ii (form S (s_fi S n))) := t_form hK' hR2 hG (by omega) (by omega)
      have f5 : m_X8_form σ st (ii (s_se S n)) d = some (ii (form S (s_se S n))) := t_form hK' hR2 hG (by omega) (by omega)
      have hlen : ((codsE S n).map gC).length = (codsE S n).length := List.length_map _
      have hin := t_ins (st := st) hK9 (off := off) (l := (codsE S n).map gC) (x := gC (codE S n)) (t := ii (n : Int)) (by omega) hL (fun y hy => by
        obtain ⟨w, hw, rfl⟩ := List.mem_map.mp hy
        have := hcr w hw
        omega) ⟨q4, q3⟩
      rw [hlen, ← codsE_map hG z1 hsd] at hin
      have bv : ∀ b : Int, ((((((2 : Int32) * ii (s_so S n) + ii b) <<< ((10 : Int32) &&& 31) + ii (form S (s_fi S n))) + (99 : Int32)) <<< ((10 : Int32) &&& 31) + ii (form S (s_se S n))) + (99 : Int32)) = ii (((2 * s_so S n + b) * 1024 + form S (s_fi S n) + 99) * 1024 + form S (s_se S n) + 99) := by
        intro b
        rw [sh10, sh10, show ((1024 : Int32)) = ii 1024 from rfl, show ((2 : Int32)) = ii 2 from rfl, show ((99 : Int32)) = ii 99 from rfl]
        simp only [ii_mul, ii_add]
      have hl1 : (codsE S (n + 1)).length = (codsE S n).length + 1 := by
        show (if s_sd S n = true then insE (codE S n) (codsE S n) else codsE S n).length = _
        rw [if_pos hsd, insE_len]
      have fin : Ok (m_X9_recordTokens_b101 σ 9 st (ii off) (ii ((off : Int) + (codsE S n).length)) (ii (n : Int)) (ii (gC (codE S n))) (ii ((off : Int) + (codsE S n).length)) d) (PL (fun s => s.1 = ii ((off : Int) + (codsE S (n + 1)).length) ∧ s.2.1 = ii ((n : Int) + 1) ∧ lay s.2.2 12 off ((codsE S (n + 1)).map gC) ∧ CeF 12 off (codsE S (n + 1)).length δ s.2.2) (fun d => lay d 12 off ((codsE S (s_nt S).toNat).map gC) ∧ CeF 12 off (codsE S (s_nt S).toNat).length δ d)) := by
        refine Ok_mono hin ?_
        rintro (s | r) hs
        · obtain ⟨h1, h2, h3, h4⟩ := hs
          refine ⟨?_, by rw [h2, a1], h3, (hC.wk (by omega)).tr (h4.wk (by omega))⟩
          rw [h1, hl1]
          exact congrArg ii (by omega)
        · exact hs.elim
      cases hla : s_la S n with
      | false =>
        rw [hla] at y6
        have b0 : ((((((2 : Int32) * ii (s_so S n) + (0 : Int32)) <<< ((10 : Int32) &&& 31) + ii (form S (s_fi S n))) + (99 : Int32)) <<< ((10 : Int32) &&& 31) + ii (form S (s_se S n))) + (99 : Int32)) = ii (gC (codE S n)) := by
          rw [q2, hla]
          exact bv 0
        simp only [x10, ob_some, c1, ↓reduceIte, gR_ko k0 k7, y7, bt0, gR_ko k0 k3, y3, gR_ko k0 k6, y6, bf0, m_X9_recordTokens_b51, gR_ko k0 k4, y4, chk_ko k0, f4, gR_ko k0 k5, y5, f5, b0]
        exact fin
      | true =>
        rw [hla] at y6
        have b0 : ((((((2 : Int32) * ii (s_so S n) + (1 : Int32)) <<< ((10 : Int32) &&& 31) + ii (form S (s_fi S n))) + (99 : Int32)) <<< ((10 : Int32) &&& 31) + ii (form S (s_se S n))) + (99 : Int32)) = ii (gC (codE S n)) := by
          rw [q2, hla]
          exact bv 1
        simp only [x10, ob_some, c1, ↓reduceIte, gR_ko k0 k7, y7, bt0, gR_ko k0 k3, y3, gR_ko k0 k6, y6, m_X9_recordTokens_b51, gR_ko k0 k4, y4, chk_ko k0, f4, gR_ko k0 k5, y5, f5, b0]
        exact fin
  · rintro ⟨s1, s2, d⟩ ⟨hs1, hs2, hL, hC⟩
    dsimp only at hs1 hs2 hL hC ⊢
    subst hs2
    have hR' : RS d st S ac fl := RS_of_Fr hR hC.2 (fun r a b => by omega)
    have x10 : gI σ d 8 st 10 = some (ii (s_nt S)) := by rw [gI_ko k0]; exact congrArg some hR'.2.1
    have c1 : (ii (s_nt S) ≤ ii (s_nt S)) = True := by
      rw [ii_le (by omega) (by omega) (by omega) (by omega)]
      exact eq_true (Int.le_refl _)
    exact Ok_inr (r := d) (by simp only [x10, ob_some, c1, ↓reduceIte]) ⟨hL, hC⟩
theorem t_fillR {a n : Nat} (hK : KD σ a 100 n) {x y : Nat} (h1 : x ≤ y) (h2 : y ≤ n) : Ok (m_J7_fill_fda19 σ a (ii (x : Int)) (ii (y : Int)) (0 : Int32) δ) (fun d => (∀ k, x ≤ k → k < y → d.1 a k = 0) ∧ CeF a x (y - x) δ d) := by
  have hn := hK.2.2
  unfold m_J7_fill_fda19 m_J7_rangeCheck_23922 m_J7_fill_fda19_b10
  refine Ok_bind (aln_kd hK) ?_
  rw [if_pos (show ii (x : Int) ≤ ii (y : Int) by rw [ii_le (by omega) (by omega) (by omega) (by omega)]; omega), if_pos (show (0 : Int32) ≤ ii (x : Int) by rw [show ((0 : Int32)) = ii 0 from rfl, ii_le (by omega) (by omega) (by omega) (by omega)]; omega), if_pos (show ii (y : Int) ≤ ii (n : Int) by rw [ii_le (by omega) (by omega) (by omega) (by omega)]; omega), ob_some]
  refine Ok_for (fun z s => s.1 = ii z ∧ (∀ k : Nat, x ≤ k → (k : Int) < z → s.2.1 a k = 0) ∧ CeF a x (y - x) δ s.2) (x : Int) (y : Int) (by omega) (by omega) ?_ ?_ ⟨rfl, fun k h1 h2 => absurd h2 (by omega), CeF.rf⟩
  · rintro z ⟨s1, d⟩ z0 z1 ⟨hs, hv, hC⟩
    dsimp only at hs hv hC ⊢
    subst hs
    obtain ⟨d1, w1, v1, o1, F1⟩ := wI_ex (δ := d) (r := a) (z := z) (k := z.toNat) (x := 0) hK (by omega) (by omega) rfl
    have c1 : (ii (y : Int) ≤ ii z) = False := by
      rw [ii_le (by omega) (by omega) (by omega) (by omega)]
      exact eq_false (by omega)
    have a1 : ii z + (1 : Int32) = ii (z + 1) := by rw [show ((1 : Int32)) = ii 1 from rfl, ii_add]
    refine Ok_inl (s' := (ii (z + 1), d1)) (by simp only [c1, ↓reduceIte, w1, ob_some, a1]) ⟨rfl, fun k k1 k2 => ?_, hC.tr (CeF_w (v := 0) o1 F1 (by omega))⟩
    by_cases ck : k = z.toNat
    · rw [ck]; exact v1
    · rw [o1 k ck]; exact hv k k1 (by omega)
  · rintro ⟨s1, d⟩ ⟨hs, hv, hC⟩
    dsimp only at hs hv hC ⊢
    subst hs
    have c1 : (ii (y : Int) ≤ ii (y : Int)) = True := by
      rw [ii_le (by omega) (by omega) (by omega) (by omega)]
      exact eq_true (Int.le_refl _)
    exact Ok_inr (r := d) (by simp only [c1, ↓reduceIte]) ⟨fun k k1 k2 => hv k k1 (by omega), hC⟩
end
