/-! THE REWRITER in the class: a firing -/
section
variable {σ : St} {δ : Dy} {rw st ro base ru : Nat} {S : Sto} {ac made : Int} {fl : Bool} {R : Rl} {Rs : Int → Rl} {V : Vw}
theorem t_fireS (hW : KW σ rw st ro) (hKS : KS σ st) (hKR : KRu σ ru) (hd1 : st + 10 ≤ rw) (hd2 : ru + 6 ≤ st) (hS : RS δ st S ac fl) (hnt : s_nt S ≤ 100) (hR : RRu δ ru R) (hGR : GR R) {z q w k : Int} {bd : Int → Int} {sl : Nat → Bool} {la : Bool} (z0 : 0 ≤ z) (z1 : z < l_hd R) (q0 : 0 ≤ q) (q1 : q < s_nt S) {n : Nat} (hn : n < 183) (hF : FAt δ (rw + 6 + 2 * n) (.inr (.inr (w, k, bd, sl, la)))) {x y : Int32} : Ok (m_X6_fire_b101 σ rw x y ru (rw + 6 + 2 * n) (ii z) (ii q) δ) (PL (fun s => s.1 = ii (z + 1) ∧ RS s.2 st (s_setsd S (upf (s_sd S) q (l_sy R z))) ac fl ∧ FAt s.2 (rw + 6 + 2 * n) (.inr (.inr (w, k, bd, fun i => sl i || (decide (i = q.toNat) || s_sl S q i), la && s_la S q))) ∧ Fr (fun r => r = st + 7 ∨ r = rw + 6 + 2 * n) δ s.2) (fun _ => False)) := by
  obtain ⟨w0, ⟨w1, w2, w3, w4, w5, w6, w7⟩, x1, x2, x3, x4, x5, xf⟩ := hW
  obtain ⟨f1, f2, f3, f4⟩ := xf n hn
  obtain ⟨k0, ⟨k1, k2, k3, k4, k5⟩, d1, d2, d3, d4, d5⟩ := hKR
  obtain ⟨r1, r2, r3, r4, -⟩ := hR
  obtain ⟨m0, ⟨m1, m2, m3, m4, m5, m6, m7, m8, m9⟩, b1, b2, b3, b4, b5, b6, b7, b8, b9⟩ := hKS
  have hS' := hS
  obtain ⟨s1, s2, s3, s4, s5, s6, s7, s8, s9, s10, -⟩ := hS
  obtain ⟨⟨g1, g2⟩, -⟩ := hGR
  obtain ⟨F1, F2, F3, F4, F5, F6⟩ := hF
  generalize hfo : rw + 6 + 2 * n = fo at f1 f2 f3 f4 F1 F2 F3 F4 F5 F6 ⊢
  have e4 := r4 z z0 z1
  have e8 := s8 q q0 q1
  have eb := s10 q q0 q1
  have hl : ∀ d' : Dy, m_X8_lowBit σ (ii q) d' = some (if q < 64 then (1 : Int64) <<< ((ii q).toInt64 &&& 63) else 0) := fun d' => t_lowBit q0 (by omega)
  have hh : ∀ d' : Dy, m_X8_highBit σ (ii q) d' = some (if q < 64 then 0 else (1 : Int64) <<< ((ii (q - 64)).toInt64 &&& 63)) := fun d' => t_highBit q0 (by omega)
  have hb2 := B64_or F5 (B64_or (B64_bit q0 (show q < 128 by omega)) eb)
  generalize (if q < 64 then (1 : Int64) <<< ((ii q).toInt64 &&& 63) else 0) = lo at hl hb2
  generalize (if q < 64 then 0 else (1 : Int64) <<< ((ii (q - 64)).toInt64 &&& 63)) = hi at hh hb2
  have h149 : ∀ c : Bool, c = (la && s_la S q) → Ok (m_X6_fire_b149 σ rw x y ru fo (ii z) (ii q) fo (bi c) (u2 δ.1 (st + 7) q.toNat (bi (l_sy R z)), δ.2)) (PL (fun s => s.1 = ii (z + 1) ∧ RS s.2 st (s_setsd S (upf (s_sd S) q (l_sy R z))) ac fl ∧ FAt s.2 fo (.inr (.inr (w, k, bd, fun i => sl i || (decide (i = q.toNat) || s_sl S q i), la && s_la S q))) ∧ Fr (fun r => r = st + 7 ∨ r = fo) δ s.2) (fun _ => False)) := by
    intro c hc
    unfold m_X6_fire_b149
    refine Ok_inl (s' := (ii (z + 1), (u2 (u2 δ.1 (st + 7) q.toNat (bi (l_sy R z))) fo 6 (bi c), u2 (u2 δ.2 fo 7 (δ.2 fo 7 ||| (lo ||| δ.2 (st + 8) q.toNat))) fo 8 (δ.2 fo 8 ||| (hi ||| δ.2 (st + 9) q.toNat))))) ?_ ⟨rfl, ?_, ⟨?_, ?_, ?_, ?_, ?_, ?_⟩, ?_⟩
    · simp (disch := omega) only [pZ_ko f2 (bi_01 c), ob_some, gL_ko f2, hl, hh, gR_ko w0 w1, gR_ko m0 m8, gR_ko m0 m9, rL_kd b8, rL_kd b9, pL_ko f2, u2_ne, ii_lit, ii_add]
      rw [show u2 δ.2 fo 7 (δ.2 fo 7 ||| (lo ||| δ.2 (st + 8) q.toNat)) fo 8 = δ.2 fo 8 by simp (disch := omega) only [u2, if_neg]]
    · exact RS_of_Fr (RS_wsd (y := q) (v := l_sy R z) hS' q0) (P := fun r => r = fo) (fun r hr => ⟨u2_ne hr, by show u2 (u2 _ _ _ _) _ _ _ r = _; rw [u2_ne hr, u2_ne hr]⟩) (fun r h1 h2 => by omega)
    · simp (disch := omega) only [u2, if_neg]
      exact F1
    · simp (disch := omega) only [u2, if_neg]
      exact F2
    · simp (disch := omega) only [u2, if_neg]
      exact F3
    · intro z z0 z1
      have := F4 z z0 z1
      simp (disch := omega) only [u2, if_neg]
      exact this
    · have e1 : u2 (u2 δ.2 fo 7 (δ.2 fo 7 ||| (lo ||| δ.2 (st + 8) q.toNat))) fo 8 (δ.2 fo 8 ||| (hi ||| δ.2 (st + 9) q.toNat)) fo 7 = (δ.2 fo 7 ||| (lo ||| δ.2 (st + 8) q.toNat)) := by
        simp (disch := omega) only [u2, if_neg, and_self, ↓reduceIte]
      have e2 : u2 (u2 δ.2 fo 7 (δ.2 fo 7 ||| (lo ||| δ.2 (st + 8) q.toNat))) fo 8 (δ.2 fo 8 ||| (hi ||| δ.2 (st + 9) q.toNat)) fo 8 = (δ.2 fo 8 ||| (hi ||| δ.2 (st + 9) q.toNat)) := by
        simp only [u2, and_self, ↓reduceIte]
      show B64 (u2 _ _ _ _ _ _) (u2 _ _ _ _ _ _) _
      rw [e1, e2]
      exact hb2
    · show u2 _ _ _ _ _ _ = _
      rw [← hc]
      simp only [u2, and_self, ↓reduceIte]
    · intro r hr
      exact ⟨by simp (disch := omega) only [u2_ne], by simp (disch := omega) only [u2_ne]⟩
  unfold m_X6_fire_b101
  cases la with
  | false =>
    simp (disch := omega) only [gR_ko w0 w1, gR_ko m0 m7, gR_ko k0 k3, rZ_kd d3, e4, wZ_kd b7 (bi_01 (l_sy R z)), ob_some, gI_ko f2, u2_ne, F6, bi_f, ii_lit, ↓reduceIte, m_X6_fire_b148]
    have := h149 false (Bool.false_and _).symm
    rw [bi_f] at this
    exact this
  | true =>
    cases hla : s_la S q with
    | false =>
      rw [hla] at e8
      simp (disch := omega) only [gR_ko w0 w1, gR_ko m0 m7, gR_ko m0 m6, gR_ko k0 k3, rZ_kd d3, rZ_kd b6, e4, wZ_kd b7 (bi_01 (l_sy R z)), ob_some, gI_ko f2, u2_ne, F6, e8, bi_f, bi_t, ii_lit, ii_eq, if_neg, ↓reduceIte, m_X6_fire_b148]
      have := h149 false (by rw [hla]; rfl)
      rw [bi_f, hla] at this
      exact this
    | true =>
      rw [hla] at e8
      simp (disch := omega) only [gR_ko w0 w1, gR_ko m0 m7, gR_ko m0 m6, gR_ko k0 k3, rZ_kd d3, rZ_kd b6, e4, wZ_kd b7 (bi_01 (l_sy R z)), ob_some, gI_ko f2, u2_ne, F6, e8, bi_t, ii_lit, ii_eq, if_neg, ↓reduceIte]
      have := h149 true (by rw [hla]; rfl)
      rw [bi_t, hla] at this
      exact this

def fsd (S : Sto) (R : Rl) (one two z : Int) : Int → Bool := if z = 0 then s_sd S else if z = 1 then upf (s_sd S) one (l_sy R 0) else upf (upf (s_sd S) one (l_sy R 0)) two (l_sy R 1)
def fsl (S : Sto) (one two z : Int) : Nat → Bool := if z = 0 then fun _ => false else if z = 1 then fun i => false || (decide (i = one.toNat) || s_sl S one i) else fun i => (false || (decide (i = one.toNat) || s_sl S one i)) || (decide (i = two.toNat) || s_sl S two i)
def fla (S : Sto) (one two z : Int) : Bool := if z = 0 then true else if z = 1 then true && s_la S one else (true && s_la S one) && s_la S two
theorem t_fire44 (hW : KW σ rw st ro) (hKS : KS σ st) (hKR : KRu σ ru) (hd1 : st + 10 ≤ rw) (hd2 : ru + 6 ≤ st) (hS : RS δ st S ac fl) (hnt : s_nt S ≤ 100) (hR : RRu δ ru R) (hGR : GR R) {w one two : Int} {bd : Int → Int} (o0 : 0 ≤ one ∧ one < s_nt S) (t0 : 1 < l_hd R → 0 ≤ two ∧ two < s_nt S) {n : Nat} (hn : n < 183) (h3 : δ.1 rw 3 = ii n) (hB : RB δ (rw + 2) bd) : Ok (m_X6_fire_b44 σ rw (ii w) (ii one) (ii two) ru δ) (fun d => RS d st (s_setsd S (fireSd S R one two)) ac fl ∧ d.1 rw 3 = ii ((n : Int) + 1) ∧ (∀ k, ¬ k = 3 → d.1 rw k = δ.1 rw k) ∧ FAt d (rw + 6 + 2 * n) (.inr (.inr (w, 0, bd, fireSl S R one two, fireLa S R one two))) ∧ Fr (fun r => r = st + 7 ∨ r = rw ∨ r = rw + 6 + 2 * n ∨ r = rw + 7 + 2 * n) δ d) := by
  obtain ⟨⟨fo, D⟩, e2, p1, p2, p3, ⟨p4, p5, p6, p10, p8, p9⟩, p7, -⟩ := t_push (δ := δ) hW hn h3 (kd := ii 2)
  dsimp only at p1 p2 p3 p4 p5 p6 p7 p8 p9 p10
  subst p1
  have hW' := hW
  obtain ⟨w0, ⟨w1, w2, w3, w4, w5, w6, w7⟩, x1, x2, x3, x4, x5, xf⟩ := hW
  obtain ⟨f1, f2, f3, f4⟩ := xf n hn
  have hhd := hGR.1
  obtain ⟨D2, e3, y, nn, F, F'⟩ := cpI_ok (δ := (u2 (u2 D.1 (rw + 6 + 2 * n) 4 (ii w)) (rw + 6 + 2 * n) 6 (ii 1), D.2)) (x := 0) (y := 0) (c := 4) x2 f4 (by omega) (by omega) (by omega) (by omega) (by omega)
  simp (disch := omega) only [u2_ne] at y
  have hFr2 : Fr (fun r => r = rw ∨ r = rw + 6 + 2 * n ∨ r = rw + 7 + 2 * n) δ D2 := by
    intro r hr
    refine ⟨?_, ?_⟩
    · rw [F r (by omega)]
      simp (disch := omega) only [u2_ne]
      exact (p7 r (by omega)).1
    · rw [F']
      exact (p7 r (by omega)).2
  have hfo : ∀ k, ¬ k = 4 → ¬ k = 6 → D2.1 (rw + 6 + 2 * n) k = D.1 (rw + 6 + 2 * n) k := by
    intro k h4 h6
    rw [F _ (by omega)]
    simp (disch := omega) only [u2, if_neg]
  have hF0 : FAt D2 (rw + 6 + 2 * n) (.inr (.inr (w, 0, bd, fsl S one two 0, fla S one two 0))) := by
    refine ⟨?_, ?_, ?_, ?_, ?_, ?_⟩
    · rw [hfo 1 (by decide) (by decide)]; exact p4
    · rw [F _ (by omega)]
      simp (disch := omega) only [u2, if_neg, and_self, ↓reduceIte]
    · rw [hfo 5 (by decide) (by decide)]; exact p10
    · intro z z0 z1
      have := y z z0 z1
      rw [Int.zero_add] at this
      rw [show rw + 6 + 2 * n + 1 = rw + 7 + 2 * n by omega, this, (p7 _ (by omega)).1]
      exact hB z z0 z1
    · rw [F']
      show B64 (D.2 _ 7) (D.2 _ 8) _
      rw [p8, p9]
      exact B64_zero
    · rw [F _ (by omega)]
      simp only [u2, and_self, ↓reduceIte]
      rfl
  have hb81 : Ok (m_X6_fire_b81 σ rw (ii one) (ii two) ru (rw + 6 + 2 * n) (ii 0) D2) (fun d => RS d st (s_setsd S (fireSd S R one two)) ac fl ∧ FAt d (rw + 6 + 2 * n) (.inr (.inr (w, 0, bd, fireSl S R one two, fireLa S R one two))) ∧ Fr (fun r => r = st + 7 ∨ r = rw + 6 + 2 * n) D2 d) := by
    unfold m_X6_fire_b81
    have k0 := hKR.1
    refine Ok_for (fun z s => s.1 = ii z ∧ RS s.2 st (s_setsd S (fsd S R one two z)) ac fl ∧ FAt s.2 (rw + 6 + 2 * n) (.inr (.inr (w, 0, bd, fsl S one two z, fla S one two z))) ∧ Fr (fun r => r = st + 7 ∨ r = rw + 6 + 2 * n) D2 s.2) 0 (l_hd R) (by omega) (by omega) ?_ ?_ ⟨rfl, RS_of_Fr hS hFr2 (fun r h1 h2 => by omega), hF0, Fr.rf⟩
    · rintro z ⟨s1, d⟩ z0 z1 ⟨hs, hS1, hF1, hFr⟩
      dsimp only at hs hS1 hF1 hFr ⊢
      subst hs
      have hR1 : RRu d ru R := RRu_of_Fr (RRu_of_Fr hR hFr2 (fun r h1 h2 => by omega)) hFr (fun r h1 h2 => by omega)
      have q0 := hR1.1
      rcases (show z = 0 ∨ z = 1 by omega) with rfl | rfl
      · obtain ⟨s', es, hs'⟩ := t_fireS hW' hKS hKR hd1 hd2 hS1 hnt hR1 hGR (z := 0) (q := one) (by omega) (by omega) o0.1 o0.2 hn hF1 (x := ii one) (y := ii two)
        rcases s' with s' | s'
        · refine Ok_inl (s' := s') (by simp (disch := omega) only [gI_ko k0, q0, ob_some, ii_lit, ii_le, if_neg, if_pos, ↓reduceIte, es]) ⟨hs'.1, hs'.2.1, hs'.2.2.1, hFr.tr hs'.2.2.2⟩
        · exact hs'.elim
      · obtain ⟨s', es, hs'⟩ := t_fireS hW' hKS hKR hd1 hd2 hS1 hnt hR1 hGR (z := 1) (q := two) (by omega) (by omega) (t0 (by omega)).1 (t0 (by omega)).2 hn hF1 (x := ii one) (y := ii two)
        rcases s' with s' | s'
        · refine Ok_inl (s' := s') (by simp (disch := omega) only [gI_ko k0, q0, ob_some, ii_lit, ii_le, ii_eq, if_neg, es]) ⟨hs'.1, hs'.2.1, hs'.2.2.1, hFr.tr hs'.2.2.2⟩
        · exact hs'.elim
    · rintro ⟨s1, d⟩ ⟨hs, hS1, hF1, hFr⟩
      dsimp only at hs hS1 hF1 hFr ⊢
      subst hs
      have hR1 : RRu d ru R := RRu_of_Fr (RRu_of_Fr hR hFr2 (fun r h1 h2 => by omega)) hFr (fun r h1 h2 => by omega)
      have q0 := hR1.1
      refine Ok_inr (r := d) (by simp (disch := omega) only [gI_ko k0, q0, ob_some, ii_le, if_pos]) ⟨?_, ?_, hFr⟩
      · rcases (show l_hd R = 1 ∨ l_hd R = 2 by omega) with h | h
        · rw [h] at hS1
          have : fireSd S R one two = fsd S R one two 1 := by unfold fireSd; rw [h]; rfl
          rw [this]; exact hS1
        · rw [h] at hS1
          have : fireSd S R one two = fsd S R one two 2 := by unfold fireSd; rw [h]; rfl
          rw [this]; exact hS1
      · rcases (show l_hd R = 1 ∨ l_hd R = 2 by omega) with h | h
        · rw [h] at hF1
          have e1 : fireSl S R one two = fsl S one two 1 := by
            unfold fireSl fsl
            rw [h]
            funext i
            show ((decide (i = one.toNat) || s_sl S one i) || false) = (false || (decide (i = one.toNat) || s_sl S one i))
            rw [Bool.or_false, Bool.false_or]
          have e2 : fireLa S R one two = fla S one two 1 := by
            unfold fireLa fla
            rw [h]
            show (s_la S one && true) = (true && s_la S one)
            rw [Bool.and_true, Bool.true_and]
          rw [e1, e2]; exact hF1
        · rw [h] at hF1
          have e1 : fireSl S R one two = fsl S one two 2 := by
            unfold fireSl fsl
            rw [h]
            funext i
            show ((decide (i = one.toNat) || s_sl S one i) || (true && (decide (i = two.toNat) || s_sl S two i))) = ((false || (decide (i = one.toNat) || s_sl S one i)) || (decide (i = two.toNat) || s_sl S two i))
            rw [Bool.true_and, Bool.false_or]
          have e2 : fireLa S R one two = fla S one two 2 := by
            unfold fireLa fla
            rw [h]
            show (s_la S one && (false || s_la S two)) = ((true && s_la S one) && s_la S two)
            rw [Bool.false_or, Bool.true_and]
          rw [e1, e2]; exact hF1
  obtain ⟨d, e4, q1, q2, q3⟩ := hb81
  unfold m_X6_fire_b44
  refine ⟨d, ?_, q1, ?_, ?_, q2, ?_⟩
  · simp (disch := omega) only [chk_ko w0, e2, ob_some, pI_ko f2, pZ_ko f2 (x := ii 1) (Or.inr rfl), gR_ko w0 w4, gR_ko f2 f3, ii_lit, e3]
    exact e4
  · rw [(q3 rw (by omega)).1, F _ (by omega)]
    simp (disch := omega) only [u2_ne]
    exact p2
  · intro k hk
    rw [(q3 rw (by omega)).1, F _ (by omega)]
    simp (disch := omega) only [u2_ne]
    exact p3 k hk
  · exact (hFr2.wk (fun r hr => by omega)).tr (q3.wk (fun r hr => by omega))
end
