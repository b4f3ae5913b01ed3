/-! MATCHING in the class -/
section
variable {σ : St} {δ : Dy} {rw st ro ru : Nat} {S : Sto} {R : Rl} {ac : Int} {fl : Bool}
theorem RRu_of_Fr {δ' : Dy} {P : Nat → Prop} (hR : RRu δ ru R) (hF : Fr P δ δ') (hd : ∀ r, ru ≤ r → r < ru + 6 → ¬ P r) : RRu δ' ru R := by
  have h : ∀ k, k < 6 → δ'.1 (ru + k) = δ.1 (ru + k) := fun k hk => (hF (ru + k) (hd _ (by omega) (by omega))).1
  unfold RRu
  rw [show δ'.1 ru = δ.1 ru from h 0 (by omega), h 1 (by omega), h 2 (by omega), h 3 (by omega), h 4 (by omega), h 5 (by omega)]
  exact hR
theorem mt_b67 (hW : KW σ rw st ro) (hKS : KS σ st) (hKR : KRu σ ru) (hS : RS δ st S ac fl) (hGS : GS S) (hR : RRu δ ru R) (hGR : GR R) (hd1 : st + 10 ≤ rw) (hd2 : ru + 6 ≤ rw) {bd : Int → Int} (hB : RB δ (rw + 2) bd) (hBD : BDr bd) {p arg : Int} (p0 : 0 ≤ p) (p1 : p < 2 * l_hd R) (a0 : -1000 ≤ arg) (a1 : arg < 1000) {x y : Int32} : Ok (m_X6_isMatch_b67 σ rw ru x y (ii p) (ii arg) δ) (PL (fun s' => s'.1 = ii (p + 1) ∧ ∃ bd', mstep S (l_pa R p) arg bd = some bd' ∧ RB s'.2 (rw + 2) bd' ∧ BDr bd' ∧ Fr (fun r => r = rw + 2) δ s'.2) (fun r => mstep S (l_pa R p) arg bd = none ∧ r.1 = ii 0 ∧ Fr (fun r => r = rw + 2) δ r.2)) := by
  obtain ⟨w0, ⟨w1, w2, w3, w4, w5, w6, w7⟩, x1, x2, -⟩ := hW
  obtain ⟨k0, ⟨k1, k2, k3, k4, k5⟩, d1, d2, d3, d4, d5⟩ := hKR
  obtain ⟨r1, r2, r3, r4, r5, r6, r7, r8, r9⟩ := hR
  obtain ⟨⟨g1, g2⟩, g3, g4, -⟩ := hGR
  have e3 := r3 p p0 p1
  have hp := g4 p p0 p1
  unfold slot valu at hp
  have hpr : -1000 ≤ l_pa R p ∧ l_pa R p ≤ 1000 := by omega
  have es := isSlot_ii (σ := σ) (δ := δ) (t := l_pa R p) (by omega) (by omega)
  have q := resB_rng hBD hpr.1 hpr.2
  have er := t_resolve x2 hB hpr.1 hpr.2
  have ef1 := t_form hKS hS hGS (t := resB bd (l_pa R p)) (by omega) (by omega)
  have ef2 := t_form hKS hS hGS (t := arg) (by omega) (by omega)
  have q1 := form_rng hGS (t := resB bd (l_pa R p)) (by omega) (by omega)
  have q2 := form_rng hGS (t := arg) (by omega) (by omega)
  unfold m_X6_isMatch_b67 mstep
  by_cases c1 : l_pa R p = 300
  · refine Ok_inl (s' := (ii (p + 1), δ)) (by simp (disch := omega) only [↓reduceIte, ii_lit, ii_add, ii_sub, ii_mul, ii_neg, ii_lt, ii_le, ii_eq, if_pos, if_neg, Option.bind_some, gR_ko k0 k2, rI_kd d2, e3, m_X6_isMatch_b160]) ⟨rfl, bd, if_pos c1, hB, hBD, Fr.rf⟩
  · have hb130 : Ok (m_X6_isMatch_b130 σ rw ru x y (ii p) (ii arg) (ii (l_pa R p)) δ) (PL (fun s' => s'.1 = ii (p + 1) ∧ ∃ bd', (if form S (resB bd (l_pa R p)) = form S arg then some bd else none) = some bd' ∧ RB s'.2 (rw + 2) bd' ∧ BDr bd' ∧ Fr (fun r => r = rw + 2) δ s'.2) (fun r => (if form S (resB bd (l_pa R p)) = form S arg then some bd else none) = none ∧ r.1 = ii 0 ∧ Fr (fun r => r = rw + 2) δ r.2)) := by
      unfold m_X6_isMatch_b130
      by_cases c4 : form S (resB bd (l_pa R p)) = form S arg
      · refine Ok_inl (s' := (ii (p + 1), δ)) (by simp (disch := omega) only [↓reduceIte, ii_lit, ii_add, ii_sub, ii_mul, ii_neg, ii_lt, ii_le, ii_eq, if_pos, if_neg, Option.bind_some, gR_ko w0 w1, gR_ko w0 w4, er, chk_ko hKS.1, ef1, ef2, m_X6_isMatch_b160]) ⟨rfl, bd, if_pos c4, hB, hBD, Fr.rf⟩
      · refine Ok_inr (r := (ii 0, δ)) (by simp (disch := omega) only [↓reduceIte, ii_lit, ii_add, ii_sub, ii_mul, ii_neg, ii_lt, ii_le, ii_eq, if_pos, if_neg, Option.bind_some, gR_ko w0 w1, gR_ko w0 w4, er, chk_ko hKS.1, ef1, ef2]) ⟨if_neg c4, rfl, Fr.rf⟩
    rw [if_neg c1]
    by_cases c2 : 200 ≤ l_pa R p ∧ l_pa R p < 204
    · have hb := hB (l_pa R p - 200) (by omega) (by omega)
      have hbr := hBD (l_pa R p - 200) (by omega) (by omega)
      rw [decide_eq_true c2] at es
      by_cases c3 : bd (l_pa R p - 200) = 1000
      · rw [if_pos ⟨c2, c3⟩]
        refine Ok_inl (s' := (ii (p + 1), (u2 δ.1 (rw + 2) (l_pa R p - 200).toNat (ii arg), δ.2))) (by simp (disch := omega) only [↓reduceIte, ii_lit, ii_add, ii_sub, ii_mul, ii_neg, ii_lt, ii_le, ii_eq, if_pos, if_neg, Option.bind_some, gR_ko k0 k2, rI_kd d2, e3, es, bi_t, gR_ko w0 w4, rI_kd x2, hb, wI_kd x2, m_X6_isMatch_b160]) ⟨rfl, _, rfl, fun z z0 z1 => ?_, fun z z0 z1 => ?_, Fr_u2 rfl⟩
        · by_cases hz : z = l_pa R p - 200
          · subst hz
            simp only [u2, upf, and_self, ↓reduceIte]
          · simp (disch := omega) only [u2, upf, if_neg]
            exact hB z z0 z1
        · unfold upf
          split
          · omega
          · exact hBD z z0 z1
      · rw [if_neg (fun h => c3 h.2)]
        simp (disch := omega) only [↓reduceIte, ii_lit, ii_add, ii_sub, ii_mul, ii_neg, ii_lt, ii_le, ii_eq, if_pos, if_neg, Option.bind_some, gR_ko k0 k2, rI_kd d2, e3, es, bi_t, gR_ko w0 w4, rI_kd x2, hb]
        exact hb130
    · rw [decide_eq_false c2] at es
      rw [if_neg (fun h => c2 h.1)]
      simp (disch := omega) only [↓reduceIte, ii_lit, ii_add, ii_sub, ii_mul, ii_neg, ii_lt, ii_le, ii_eq, if_pos, if_neg, Option.bind_some, gR_ko k0 k2, rI_kd d2, e3, es, bi_f]
      exact hb130
theorem entl_rng {σ : St} {δ : Dy} (hKS : KS σ st) (hS : RS δ st S ac fl) (hGS : GS S) {c a b : Int} (h0 : -1000 ≤ a) (h1 : a ≤ 1000) (h2 : -1000 ≤ b) (h3 : b ≤ 1000) (h4 : (0 ≤ c ∧ c ≤ 3) ∨ (10 ≤ c ∧ c ≤ 15)) : m_X8_isEntailed σ st (ii c) (ii a) (ii b) δ = some (bi (entl S c a b)) := t_entl hKS hS hGS (by omega) (by omega) (by omega) (by omega) (by omega) (by omega) (by omega)
theorem t_isMatch (hW : KW σ rw st ro) (hKS : KS σ st) (hKR : KRu σ ru) (hS : RS δ st S ac fl) (hGS : GS S) (hR : RRu δ ru R) (hGR : GR R) (hd1 : st + 10 ≤ rw) (hd2 : ru + 6 ≤ rw) {one two : Int} (o0 : 0 ≤ one) (o1 : one < s_nt S) (t0 : 1 < l_hd R → 0 ≤ two ∧ two < s_nt S) : Ok (m_X6_isMatch σ rw ru (ii one) (ii two) δ) (fun r => r.1 = bi (matchR S R one two).isSome ∧ (∀ bd, matchR S R one two = some bd → RB r.2 (rw + 2) bd ∧ BDr bd) ∧ Fr (fun r => r = rw + 2) δ r.2) := by
  have hW' := hW
  have hKR' := hKR
  obtain ⟨w0, ⟨w1, w2, w3, w4, w5, w6, w7⟩, x1, x2, -⟩ := hW
  have gN := hGS.1
  obtain ⟨D0, e0, f0, F0, F0'⟩ := fillI (δ := δ) (v := (1000 : Int32)) x2
  have hF0 : Fr (fun r => r = rw + 2) δ D0 := fun r hr => ⟨F0 r hr, by rw [F0']⟩
  unfold m_X6_isMatch
  rw [gR_ko w0 w4, Option.bind_some, e0, Option.bind_some]
  unfold m_X6_isMatch_b13 matchR
  have hhd := hGR.1
  refine Ok_for (fun z s => s.1 = ii z ∧ ∃ bd, mrun S R one two (2 * l_hd R - z).toNat z bd = mrun S R one two (2 * l_hd R).toNat 0 (fun _ => 1000) ∧ RB s.2 (rw + 2) bd ∧ BDr bd ∧ Fr (fun r => r = rw + 2) δ s.2) 0 (2 * l_hd R) (by omega) (by omega) ?_ ?_ ⟨rfl, fun _ => 1000, by rw [Int.sub_zero], fun z z0 z1 => f0 z z0 (by omega), fun z _ _ => ⟨by show (-1000 : Int) ≤ 1000; omega, by show (1000 : Int) ≤ 1000; omega⟩, hF0⟩
  · rintro z ⟨s1, d⟩ z0 z1 ⟨hs, bd, hm, hB, hBD, hF⟩
    dsimp only at hs hB hF ⊢
    subst hs
    have hS' := RS_of_Fr hS hF (fun r h1 h2 => by omega)
    have hR' := RRu_of_Fr hR hF (fun r h1 h2 => by omega)
    have q0 := hR'.1
    obtain ⟨k0, -⟩ := id hKR
    obtain ⟨m0, ⟨m1, m2, m3, m4, m5, -⟩, -, -, -, b4, b5, -⟩ := id hKS
    have ht : 0 ≤ (if 2 ≤ z then two else one) ∧ (if 2 ≤ z then two else one) < s_nt S := by
      split
      · exact t0 (by omega)
      · exact ⟨o0, o1⟩
    have hmr : mrun S R one two (2 * l_hd R - z).toNat z bd = (mstep S (l_pa R z) (marg S one two z) bd).bind (mrun S R one two (2 * l_hd R - (z + 1)).toNat (z + 1)) := by
      rw [show (2 * l_hd R - z).toNat = (2 * l_hd R - (z + 1)).toNat + 1 by omega]
      rfl
    have key : ∀ arg : Int, marg S one two z = arg → -1000 ≤ arg → arg < 1000 → Ok (m_X6_isMatch_b67 σ rw ru (ii one) (ii two) (ii z) (ii arg) d) (PL (fun s' => s'.1 = ii (z + 1) ∧ ∃ bd, mrun S R one two (2 * l_hd R - (z + 1)).toNat (z + 1) bd = mrun S R one two (2 * l_hd R).toNat 0 (fun _ => 1000) ∧ RB s'.2 (rw + 2) bd ∧ BDr bd ∧ Fr (fun r => r = rw + 2) δ s'.2) (fun r => r.1 = bi ((mrun S R one two (2 * l_hd R).toNat 0 (fun _ => 1000)).bind fun bd => if guardOk S R bd = true then some bd else none).isSome ∧ (∀ bd, ((mrun S R one two (2 * l_hd R).toNat 0 (fun _ => 1000)).bind fun bd => if guardOk S R bd = true then some bd else none) = some bd → RB r.2 (rw + 2) bd ∧ BDr bd) ∧ Fr (fun r => r = rw + 2) δ r.2)) := by
      intro arg ha a0 a1
      refine Ok_mono (mt_b67 hW' hKS hKR' hS' hGS hR' hGR hd1 hd2 hB hBD z0 z1 a0 a1) (fun x hx => ?_)
      rw [ha] at hmr
      cases x with
      | inl s' =>
        obtain ⟨h1, bd', h2, h3, h4, h5⟩ := hx
        refine ⟨h1, bd', ?_, h3, h4, hF.tr h5⟩
        rw [← hm, hmr, h2, Option.bind_some]
      | inr r =>
        obtain ⟨h1, h2, h3⟩ := hx
        rw [h1, Option.bind_none] at hmr
        rw [← hm, hmr, Option.bind_none]
        exact ⟨h2, fun bd h => (by cases h), hF.tr h3⟩
    have g8 := hGS.2.2.2.2.1 _ ht.1 ht.2
    have g9 := hGS.2.2.2.2.2 _ ht.1 ht.2
    have h8 := tm_rng g8 gN.2.1
    have h9 := tm_rng g9 gN.2.1
    have e8 := hS'.2.2.2.2.2.1 _ ht.1 ht.2
    have e9 := hS'.2.2.2.2.2.2.1 _ ht.1 ht.2
    have hgo : Ok (m_X6_isMatch_b35 σ rw ru (ii one) (ii two) (ii z) (ii (if 2 ≤ z then two else one)) d) (PL (fun s' => s'.1 = ii (z + 1) ∧ ∃ bd, mrun S R one two (2 * l_hd R - (z + 1)).toNat (z + 1) bd = mrun S R one two (2 * l_hd R).toNat 0 (fun _ => 1000) ∧ RB s'.2 (rw + 2) bd ∧ BDr bd ∧ Fr (fun r => r = rw + 2) δ s'.2) (fun r => r.1 = bi ((mrun S R one two (2 * l_hd R).toNat 0 (fun _ => 1000)).bind fun bd => if guardOk S R bd = true then some bd else none).isSome ∧ (∀ bd, ((mrun S R one two (2 * l_hd R).toNat 0 (fun _ => 1000)).bind fun bd => if guardOk S R bd = true then some bd else none) = some bd → RB r.2 (rw + 2) bd ∧ BDr bd) ∧ Fr (fun r => r = rw + 2) δ r.2)) := by
      unfold m_X6_isMatch_b35
      unfold marg at key
      generalize (if 2 ≤ z then two else one) = t at ht e8 e9 h8 h9 key ⊢
      by_cases c : z % 2 = 0
      · rw [if_pos c] at key
        have k := key _ rfl (by omega) (by omega)
        simp (disch := omega) only [↓reduceIte, ii_lit, ii_add, ii_sub, ii_mul, ii_neg, ii_lt, ii_le, ii_eq, if_pos, if_neg, Option.bind_some, rmI_ii, gR_ko w0 w1, gR_ko m0 m4, rI_kd b4, e8]
        exact k
      · rw [if_neg c] at key
        have k := key _ rfl (by omega) (by omega)
        simp (disch := omega) only [↓reduceIte, ii_lit, ii_add, ii_sub, ii_mul, ii_neg, ii_lt, ii_le, ii_eq, if_pos, if_neg, Option.bind_some, rmI_ii, gR_ko w0 w1, gR_ko m0 m5, rI_kd b5, e9]
        exact k
    by_cases c : 2 ≤ z
    · rw [if_pos c] at hgo
      simp (disch := omega) only [↓reduceIte, ii_lit, ii_add, ii_sub, ii_mul, ii_neg, ii_lt, ii_le, ii_eq, if_pos, if_neg, Option.bind_some, gI_ko k0, q0]
      exact hgo
    · rw [if_neg c] at hgo
      simp (disch := omega) only [↓reduceIte, ii_lit, ii_add, ii_sub, ii_mul, ii_neg, ii_lt, ii_le, ii_eq, if_pos, if_neg, Option.bind_some, gI_ko k0, q0]
      exact hgo
  · rintro ⟨s1, d⟩ ⟨hs, bd, hm, hB, hBD, hF⟩
    dsimp only at hs hB hF ⊢
    subst hs
    have hS' := RS_of_Fr hS hF (fun r h1 h2 => by omega)
    have hR' := RRu_of_Fr hR hF (fun r h1 h2 => by omega)
    obtain ⟨q1, -, -, -, -, -, -, q8, q9⟩ := hR'
    obtain ⟨k0, -⟩ := id hKR
    rw [Int.sub_self] at hm
    have hm' : mrun S R one two (2 * l_hd R).toNat 0 (fun _ => 1000) = some bd := hm.symm
    rw [hm', Option.bind_some]
    cases hg : l_gd R with
    | false =>
      have hgk : guardOk S R bd = true := by unfold guardOk; rw [hg]; rfl
      rw [if_pos hgk]
      rw [hg] at q8
      refine Ok_inr (r := (ii 1, d)) (by simp (disch := omega) only [↓reduceIte, ii_lit, ii_add, ii_sub, ii_mul, ii_neg, ii_lt, ii_le, ii_eq, if_pos, if_neg, Option.bind_some, gI_ko k0, q1, q8, bi_f]) ⟨rfl, fun bd2 h => ?_, hF⟩
      cases h
      exact ⟨hB, hBD⟩
    | true =>
      obtain ⟨q9, q10, q11⟩ := q9 hg
      rw [hg] at q8
      obtain ⟨c1, c2, c3⟩ := hGR.2.2.2.2.2.2 hg
      have va : ∀ t, valu t ∨ bnd R t → -1000 ≤ t ∧ t ≤ 1000 := fun t h => by
        rcases h with h | h
        · unfold valu at h; omega
        · have := h.1; unfold slot at this; omega
      have v1 := va _ c2
      have v2 := va _ c3
      have u1 := resB_rng hBD v1.1 v1.2
      have u2' := resB_rng hBD v2.1 v2.2
      have e1 := t_resolve (σ := σ) x2 hB v1.1 v1.2
      have e2 := t_resolve (σ := σ) x2 hB v2.1 v2.2
      have e3 := entl_rng hKS hS' hGS u1.1 u1.2 u2'.1 u2'.2 c1
      have hgk : guardOk S R bd = entl S (l_gc R) (resB bd (l_ga R)) (resB bd (l_gb R)) := by unfold guardOk; rw [hg]; rfl
      rw [hgk]
      cases he : entl S (l_gc R) (resB bd (l_ga R)) (resB bd (l_gb R)) with
      | false =>
        rw [he] at e3
        refine Ok_inr (r := (ii 0, d)) (by simp (disch := omega) only [↓reduceIte, ii_lit, ii_add, ii_sub, ii_mul, ii_neg, ii_lt, ii_le, ii_eq, if_pos, if_neg, Option.bind_some, gI_ko k0, gR_ko w0 w1, gR_ko w0 w4, q1, q8, q9, q10, q11, bi_f, bi_t, e1, e2, chk_ko hKS.1, e3]) ⟨rfl, fun bd2 h => ?_, hF⟩
        simp at h
      | true =>
        rw [he] at e3
        refine Ok_inr (r := (ii 1, d)) (by simp (disch := omega) only [↓reduceIte, ii_lit, ii_add, ii_sub, ii_mul, ii_neg, ii_lt, ii_le, ii_eq, if_pos, if_neg, Option.bind_some, gI_ko k0, gR_ko w0 w1, gR_ko w0 w4, q1, q8, q9, q10, q11, bi_t, e1, e2, chk_ko hKS.1, e3]) ⟨rfl, fun bd2 h => ?_, hF⟩
        rw [if_pos rfl] at h
        cases h
        exact ⟨hB, hBD⟩
end
