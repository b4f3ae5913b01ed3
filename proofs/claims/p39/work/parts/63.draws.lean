/-! THE DRAWS in the class; filling; what an agent takes in -/
def pr7 (i : Int) : Int := if i = 0 then 2 else if i = 1 then 3 else if i = 2 then 5 else if i = 3 then 7 else if i = 4 then 11 else if i = 5 then 13 else 17
theorem pr7_rng (i : Int) : 2 ≤ pr7 i ∧ pr7 i ≤ 17 := by
  unfold pr7
  repeat' split
  all_goals omega
theorem rP_ii {i : Int} (h0 : 0 ≤ i) (h1 : i < 7) : rP (ii i) = some (ii (pr7 i)) := by
  rcases (show i = 0 ∨ i = 1 ∨ i = 2 ∨ i = 3 ∨ i = 4 ∨ i = 5 ∨ i = 6 by omega) with rfl | rfl | rfl | rfl | rfl | rfl | rfl <;> decide
/-- how often p divides n, below the fuel -/
def vl (p : Int) : Nat → Int → Int
  | 0, _ => 0
  | f + 1, n => if n ≤ 1 then 0 else if n % p = 0 then 1 + vl p f (n / p) else 0
def mulP (n s : Int) (pw : Int → Int) : Int → Int := fun i => pw i + s * vl (pr7 i) 5 n
def nextX (x : Int) : Int := (x * 75 + 74) % 65537
def isFi (x w m : Int) : Bool := decide (nextX x % (w + m) < w)
def lotP (x w m : Int) (pw : Int → Int) : Int → Int := mulP (w + m) (-1) (mulP (if isFi x w m = true then w else m) 1 pw)
def KDr (σ : St) (dr : Nat) : Prop := KO σ dr 2 ∧ srv σ dr 0 = some (dr + 1) ∧ KD σ (dr + 1) 100 7
def RPw (δ : Dy) (a : Nat) (pw : Int → Int) : Prop := ∀ z : Int, 0 ≤ z → z < 7 → δ.1 a z.toNat = ii (pw z)
section
variable {σ : St} {δ : Dy} {dr : Nat}
theorem RPw_up {pw : Int → Int} {z v : Int} (hR : RPw δ dr pw) (z0 : 0 ≤ z) : RPw (u2 δ.1 dr z.toNat (ii v), δ.2) dr (upf pw z v) := by
  intro y y0 y1
  by_cases hy : y = z
  · subst hy
    simp only [u2, upf, and_self, ↓reduceIte]
  · simp (disch := omega) only [u2, upf, if_neg]
    exact hR y y0 y1
theorem t_mulP (hK : KDr σ dr) {pw : Int → Int} (hR : RPw δ (dr + 1) pw) {n s : Int} (n0 : 0 ≤ n) (n1 : n ≤ 18) : Ok (m_X2_multiply σ dr (ii n) (ii s) δ) (fun d => RPw d (dr + 1) (mulP n s pw) ∧ Fr (fun r => r = dr + 1) δ d) := by
  obtain ⟨k0, k1, k2⟩ := hK
  unfold m_X2_multiply m_X2_multiply_b2
  refine Ok_for (fun z t => t.1 = ii z ∧ RPw t.2 (dr + 1) (fun i => if i < z then mulP n s pw i else pw i) ∧ Fr (fun r => r = dr + 1) δ t.2) 0 7 (by omega) (by omega) ?_ ?_ ⟨rfl, fun z z0 z1 => by dsimp only; rw [if_neg (by omega)]; exact hR z z0 z1, Fr.rf⟩
  · rintro z ⟨s1, d⟩ z0 z1 ⟨hs, hP, hF⟩
    dsimp only at hs hP hF ⊢
    subst hs
    have hp := pr7_rng z
    have er := rP_ii z0 z1
    rw [if_neg (show ¬ ((7 : Int32) ≤ ii z) by rw [ii_lit, ii_le (by omega) (by omega) (by omega) (by omega)]; omega)]
    unfold m_X2_multiply_b13
    have hend : ∀ (d' : Dy) (m : Int), vl (pr7 z) 5 n = m → d'.1 (dr + 1) z.toNat = ii (pw z + s * m) → (∀ y : Int, 0 ≤ y → y < 7 → ¬ y = z → d'.1 (dr + 1) y.toNat = d.1 (dr + 1) y.toNat) → Fr (fun r => r = dr + 1) δ d' → RPw d' (dr + 1) (fun i => if i < z + 1 then mulP n s pw i else pw i) := by
      intro d' m hm h1 h2 h3 y y0 y1
      by_cases hy : y = z
      · subst hy
        rw [h1]
        dsimp only
        rw [if_pos (by omega)]
        unfold mulP
        rw [hm]
      · rw [h2 y y0 y1 hy, hP y y0 y1]
        dsimp only
        by_cases hy2 : y < z
        · rw [if_pos hy2, if_pos (by omega)]
        · rw [if_neg hy2, if_neg (by omega)]
    refine Ok_lp (fun t => ∃ (m k : Int) (f : Nat), t.1 = ii m ∧ (0 ≤ m ∧ m ≤ 18 ∧ m < 2 ^ f) ∧ k + vl (pr7 z) f m = vl (pr7 z) 5 n ∧ t.2.1 (dr + 1) z.toNat = ii (pw z + s * k) ∧ (∀ y : Int, 0 ≤ y → y < 7 → ¬ y = z → t.2.1 (dr + 1) y.toNat = d.1 (dr + 1) y.toNat) ∧ Fr (fun r => r = dr + 1) δ t.2) (fun t => t.1.toInt.toNat) ?_ ⟨n, 0, 5, rfl, ⟨n0, n1, by show n < 32; omega⟩, by omega, ?_, fun _ _ _ _ => rfl, hF⟩ ?_
    · rintro ⟨t1, t2⟩ ⟨m, k, f, ht, hm, hv, hz, hy, hF2⟩
      dsimp only at ht hz hy hF2 ⊢
      subst ht
      by_cases c1 : m ≤ 1
      · have hv0 : vl (pr7 z) f m = 0 := by
          cases f with
          | zero => rfl
          | succ f => show (if m ≤ 1 then 0 else _) = 0; rw [if_pos c1]
        refine Ok_inr (r := (Sum.inl (ii (z + 1), t2) : (Int32 × Dy) ⊕ Dy)) (by simp (disch := omega) only [ii_lit, ii_le, if_pos, m_X2_multiply_b53, ii_add, ob_some]) ⟨rfl, hend t2 k (by omega) hz hy hF2, hF2⟩
      · obtain ⟨f, rfl⟩ : ∃ g, f = g + 1 := ⟨f - 1, by
          cases f with
          | zero => have : m < 1 := hm.2.2; omega
          | succ f => omega⟩
        have hvl : vl (pr7 z) (f + 1) m = if m % pr7 z = 0 then 1 + vl (pr7 z) f (m / pr7 z) else 0 := by
          show (if m ≤ 1 then 0 else _) = _
          rw [if_neg c1]
        by_cases c2 : m % pr7 z = 0
        · rw [if_pos c2] at hvl
          have hdv : m / pr7 z < m := Int.ediv_lt_self_of_pos_of_ne_one (by omega) (by omega) |> fun h => h
          have hdv0 : 0 ≤ m / pr7 z := Int.ediv_nonneg (by omega) (by omega)
          refine Ok_inl (s' := (ii (m / pr7 z), (u2 t2.1 (dr + 1) z.toNat (ii (pw z + s * k + s)), t2.2))) ?_ ⟨⟨m / pr7 z, k + 1, f, rfl, ⟨hdv0, by omega, ?_⟩, by omega, ?_, fun y y0 y1 y2 => ?_, hF2.tr (Fr_u2 rfl)⟩, ?_⟩
          · simp (disch := omega) only [ii_lit, ii_le, if_neg, er, ob_some, rmI_ii, c2, ↓reduceIte, gR_ko k0 k1, rI_kd k2, hz, ii_add, wI_kd k2, dvI_ii]
          · have h2 : m < 2 ^ f * 2 := hm.2.2
            refine Int.ediv_lt_of_lt_mul (by omega) (Int.lt_of_lt_of_le h2 ?_)
            exact Int.mul_le_mul_of_nonneg_left (by omega) (Int.le_of_lt (Int.pow_pos (by omega)))
          · simp only [u2, and_self, ↓reduceIte]
            rw [Int.mul_add, Int.mul_one, Int.add_assoc]
          · dsimp only
            simp (disch := omega) only [u2, if_neg]
            exact hy y y0 y1 y2
          · dsimp only
            rw [ii_toInt (by omega) (by omega), ii_toInt (by omega) (by omega)]
            omega
        · rw [if_neg c2] at hvl
          have hmod := Int.emod_nonneg m (show pr7 z ≠ 0 by omega)
          have hmod2 := Int.emod_lt_of_pos m (show 0 < pr7 z by omega)
          refine Ok_inr (r := (Sum.inl (ii (z + 1), t2) : (Int32 × Dy) ⊕ Dy)) (by simp (disch := omega) only [ii_lit, ii_le, if_neg, er, ob_some, rmI_ii, ii_eq, c2, ↓reduceIte, m_X2_multiply_b53, ii_add]) ⟨rfl, hend t2 k (by omega) hz hy hF2, hF2⟩
    · dsimp only
      rw [hP z z0 z1]
      dsimp only
      rw [if_neg (by omega), Int.mul_zero, Int.add_zero]
    · dsimp only
      rw [ii_toInt (by omega) (by omega)]
      omega
  · rintro ⟨s1, d⟩ ⟨hs, hP, hF⟩
    dsimp only at hs hP hF ⊢
    subst hs
    refine Ok_inr (r := d) (by simp (disch := omega) only [ii_lit, ii_le, if_pos]) ⟨fun z z0 z1 => ?_, hF⟩
    rw [hP z z0 z1]
    dsimp only
    rw [if_pos (by omega)]
theorem t_isFirst (hK : KDr σ dr) {pw : Int → Int} (hR : RPw δ (dr + 1) pw) {x w m : Int} (hx : δ.1 dr 1 = ii x) (x0 : 0 ≤ x) (x1 : x < 65537) (w0 : 1 ≤ w) (w1 : w ≤ 9) (m0 : 1 ≤ m) (m1 : m ≤ 9) : Ok (m_X2_isFirst σ dr (ii w) (ii m) δ) (fun r => r.1 = bi (isFi x w m) ∧ r.2.1 dr 1 = ii (nextX x) ∧ RPw r.2 (dr + 1) (lotP x w m pw) ∧ Fr (blk dr 2) δ r.2) := by
  obtain ⟨k0, k1, k2⟩ := id hK
  have hn : 0 ≤ nextX x ∧ nextX x < 65537 := by unfold nextX; omega
  have hm0 := Int.emod_nonneg (nextX x) (show w + m ≠ 0 by omega)
  have hm1 := Int.emod_lt_of_pos (nextX x) (show 0 < w + m by omega)
  have eN : rmI (ii (x * 75 + 74)) (ii 65537) = some (ii (nextX x)) := rmI_ii (by omega) (by omega) (by omega) (by omega)
  have hF1 : Fr (blk dr 2) δ (u2 δ.1 dr 1 (ii (nextX x)), δ.2) := Fr_u2 (by unfold blk; omega)
  have hR1 : RPw (u2 δ.1 dr 1 (ii (nextX x)), δ.2) (dr + 1) pw := fun z z0 z1 => by
    dsimp only
    rw [u2_ne (by omega)]
    exact hR z z0 z1
  have hg : (u2 δ.1 dr 1 (ii (nextX x))) dr 1 = ii (nextX x) := by simp only [u2, and_self, ↓reduceIte]
  have key : ∀ (g : Int), 0 ≤ g → g ≤ 18 → ∀ b : Bool, ∃ D, m_X2_isFirst_b53 σ dr (ii (w + m)) (bi b) dr (ii g) (u2 δ.1 dr 1 (ii (nextX x)), δ.2) = some (bi b, D) ∧ D.1 dr 1 = ii (nextX x) ∧ RPw D (dr + 1) (mulP (w + m) (-1) (mulP g 1 pw)) ∧ Fr (blk dr 2) δ D := by
    intro g g0 g1 b
    obtain ⟨D1, e1, a1, b1⟩ := t_mulP hK hR1 (n := g) (s := 1) g0 g1
    obtain ⟨D2, e2, a2, b2⟩ := t_mulP hK a1 (n := w + m) (s := -1) (by omega) (by omega)
    refine ⟨D2, ?_, ?_, a2, hF1.tr ((b1.tr b2).wk (fun r hr => by unfold blk; omega))⟩
    · unfold m_X2_isFirst_b53
      rw [show ((-1 : Int32)) = ii (-1) from rfl, show ((1 : Int32)) = ii 1 from rfl, chk_ko k0, ob_some, e1, ob_some, ob_some, e2, ob_some]
      cases b <;> rfl
    · rw [(b2 dr (by omega)).1, (b1 dr (by omega)).1]
      exact hg
  unfold m_X2_isFirst
  by_cases c : nextX x % (w + m) < w
  · have hfi : isFi x w m = true := decide_eq_true c
    obtain ⟨D, e, h1, h2, h3⟩ := key w (by omega) (by omega) true
    rw [hfi]
    refine ⟨(bi true, D), ?_, rfl, h1, by unfold lotP; rw [hfi]; exact h2, h3⟩
    rw [← e]
    simp (disch := omega) only [gI_ko k0, hx, ii_lit, ii_mul, ii_add, eN, ob_some, pI_ko k0, ii_le, if_neg, hg, rmI_ii, m_X2_isFirst_b35, m_X2_isFirst_b40, ii_eq, bi_t]
  · have hfi : isFi x w m = false := decide_eq_false c
    obtain ⟨D, e, h1, h2, h3⟩ := key m (by omega) (by omega) false
    rw [hfi]
    refine ⟨(bi false, D), ?_, rfl, h1, by unfold lotP; rw [hfi]; exact h2, h3⟩
    rw [← e]
    simp (disch := omega) only [gI_ko k0, hx, ii_lit, ii_mul, ii_add, eN, ob_some, pI_ko k0, ii_le, if_neg, if_pos, hg, rmI_ii, m_X2_isFirst_b40, ↓reduceIte, bi_f]
theorem t_fillI {a n : Nat} (hK : KD σ a 100 n) {v : Int32} : Ok (m_J7_fill_53178 σ a v δ) (fun d => (∀ k : Nat, k < n → d.1 a k = v) ∧ d.2 = δ.2 ∧ Fr (fun r => r = a) δ d) := by
  unfold m_J7_fill_53178 m_J7_fill_53178_b5
  have hn := hK.2.2
  refine Ok_bind (aln_kd hK) ?_
  refine Ok_for (fun z s => s.1 = ii z ∧ (∀ k : Nat, (k : Int) < z → s.2.1 a k = v) ∧ s.2.2 = δ.2 ∧ Fr (fun r => r = a) δ s.2) 0 n (by omega) (by omega) ?_ ?_ ⟨rfl, fun k hk => by omega, rfl, Fr.rf⟩
  · rintro z ⟨s1, d⟩ z0 z1 ⟨hs, hv, h2, hF⟩
    dsimp only at hs hv h2 hF ⊢
    subst hs
    refine Ok_inl (s' := (ii (z + 1), (u2 d.1 a z.toNat v, d.2))) (by simp (disch := omega) only [ii_le, if_neg, wI_kd hK, ob_some, ii_lit, ii_add]) ⟨rfl, fun k hk => ?_, h2, hF.tr (Fr_u2 rfl)⟩
    by_cases hkz : k = z.toNat
    · subst hkz
      simp only [u2, and_self, ↓reduceIte]
    · simp (disch := omega) only [u2, if_neg]
      exact hv k (by omega)
  · rintro ⟨s1, d⟩ ⟨hs, hv, h2, hF⟩
    dsimp only at hs hv h2 hF ⊢
    subst hs
    exact Ok_inr (r := d) (by simp (disch := omega) only [ii_le, if_pos]) ⟨fun k hk => hv k (by omega), h2, hF⟩
theorem t_fillL {a n : Nat} (hK : KD σ a 102 n) {v : Int64} : Ok (m_J7_fill_d0a16 σ a v δ) (fun d => (∀ k : Nat, k < n → d.2 a k = v) ∧ d.1 = δ.1 ∧ Fr (fun r => r = a) δ d) := by
  unfold m_J7_fill_d0a16 m_J7_fill_d0a16_b6
  have hn := hK.2.2
  refine Ok_bind (aln_kd hK) ?_
  refine Ok_for (fun z s => s.1 = ii z ∧ (∀ k : Nat, (k : Int) < z → s.2.2 a k = v) ∧ s.2.1 = δ.1 ∧ Fr (fun r => r = a) δ s.2) 0 n (by omega) (by omega) ?_ ?_ ⟨rfl, fun k hk => by omega, rfl, Fr.rf⟩
  · rintro z ⟨s1, d⟩ z0 z1 ⟨hs, hv, h2, hF⟩
    dsimp only at hs hv h2 hF ⊢
    subst hs
    refine Ok_inl (s' := (ii (z + 1), (d.1, u2 d.2 a z.toNat v))) (by simp (disch := omega) only [ii_le, if_neg, wLo_kd hK, ob_some, ii_lit, ii_add]) ⟨rfl, fun k hk => ?_, h2, hF.tr (Fr_u2L rfl)⟩
    by_cases hkz : k = z.toNat
    · subst hkz
      simp only [u2, and_self, ↓reduceIte]
    · simp (disch := omega) only [u2, if_neg]
      exact hv k (by omega)
  · rintro ⟨s1, d⟩ ⟨hs, hv, h2, hF⟩
    dsimp only at hs hv h2 hF ⊢
    subst hs
    exact Ok_inr (r := d) (by simp (disch := omega) only [ii_le, if_pos]) ⟨fun k hk => hv k (by omega), h2, hF⟩
end
def inclA (S : Sto) (a : Ag) (t : Int) : Ag := if 0 ≤ t ∧ t < s_nt S then (a.1, a.2.1, fun k => a.2.2 k || (decide (k = t.toNat) || s_sl S t k)) else a
section
variable {σ : St} {δ : Dy} {st h : Nat} {S : Sto} {ac : Int} {fl : Bool} {a : Ag}
theorem t_include (hK : KS σ st) (hA : KA σ h) (hR : RS δ st S ac fl) (hG : GS S) (hH : RA δ h a) (hd : st + 10 ≤ h ∨ h + 2 ≤ st) {t : Int} (t0 : -1 ≤ t) (t1 : t ≤ 1000) : Ok (m_X0_include σ h st (ii t) δ) (fun d => RA d h (inclA S a t) ∧ Fr (blk h 2) δ d) := by
  obtain ⟨k0, ⟨k1, k2, k3, k4, k5, k6, k7, k8, k9⟩, d1, d2, d3, d4, d5, d6, d7, d8, d9⟩ := id hK
  obtain ⟨a0, a1, a2⟩ := hA
  obtain ⟨q1, q2, q3⟩ := id hH
  have gn := hG.1
  have r10 := hR.2.1
  unfold m_X0_include inclA
  by_cases c0 : t < 0
  · rw [if_neg (show ¬ (0 ≤ t ∧ t < s_nt S) by omega)]
    exact Ok_of (v := δ) (by simp (disch := omega) only [ii_lit, ii_lt, if_pos]) ⟨hH, Fr.rf⟩
  · by_cases c1 : t < s_nt S
    · rw [if_pos (show 0 ≤ t ∧ t < s_nt S from ⟨by omega, c1⟩)]
      have hb := hR.2.2.2.2.2.2.2.2.2.1 t (by omega) c1
      have el : ∀ d' : Dy, m_X8_lowBit σ (ii t) d' = some (if t < 64 then (1 : Int64) <<< ((ii t).toInt64 &&& 63) else 0) := fun d' => t_lowBit (by omega) (by omega)
      have eh : ∀ d' : Dy, m_X8_highBit σ (ii t) d' = some (if t < 64 then 0 else (1 : Int64) <<< ((ii (t - 64)).toInt64 &&& 63)) := fun d' => t_highBit (by omega) (by omega)
      have hb2 := B64_or q3 (B64_or (B64_bit (z := t) (by omega) (by omega)) hb)
      generalize (if t < 64 then (1 : Int64) <<< ((ii t).toInt64 &&& 63) else 0) = lo at el hb2
      generalize (if t < 64 then 0 else (1 : Int64) <<< ((ii (t - 64)).toInt64 &&& 63)) = hi at eh hb2
      refine ⟨(δ.1, u2 (u2 δ.2 h 2 (δ.2 h 2 ||| (lo ||| δ.2 (st + 8) t.toNat))) h 3 (δ.2 h 3 ||| (hi ||| δ.2 (st + 9) t.toNat))), ?_, ⟨q1, q2, ?_⟩, ?_⟩
      · have e3 : u2 δ.2 h 2 (δ.2 h 2 ||| (lo ||| δ.2 (st + 8) t.toNat)) h 3 = δ.2 h 3 := by simp (disch := omega) only [u2, if_neg]
        have e9 : u2 δ.2 h 2 (δ.2 h 2 ||| (lo ||| δ.2 (st + 8) t.toNat)) (st + 9) = δ.2 (st + 9) := u2_ne (by omega)
        simp (disch := omega) only [ii_lit, ii_lt, if_neg, if_pos, gI_ko k0, r10, ob_some, gL_ko a0, el, eh, gR_ko k0 k8, gR_ko k0 k9, rL_kd d8, rL_kd d9, pL_ko a0, e3, e9]
      · have e2 : u2 (u2 δ.2 h 2 (δ.2 h 2 ||| (lo ||| δ.2 (st + 8) t.toNat))) h 3 (δ.2 h 3 ||| (hi ||| δ.2 (st + 9) t.toNat)) h 2 = δ.2 h 2 ||| (lo ||| δ.2 (st + 8) t.toNat) := by simp (disch := omega) only [u2, if_neg, and_self, ↓reduceIte]
        have e3 : u2 (u2 δ.2 h 2 (δ.2 h 2 ||| (lo ||| δ.2 (st + 8) t.toNat))) h 3 (δ.2 h 3 ||| (hi ||| δ.2 (st + 9) t.toNat)) h 3 = δ.2 h 3 ||| (hi ||| δ.2 (st + 9) t.toNat) := by simp only [u2, and_self, ↓reduceIte]
        dsimp only
        rw [e2, e3]
        exact hb2
      · intro r hr
        unfold blk at hr
        exact ⟨rfl, by simp (disch := omega) only [u2_ne]⟩
    · rw [if_neg (show ¬ (0 ≤ t ∧ t < s_nt S) by omega)]
      exact Ok_of (v := δ) (by simp (disch := omega) only [ii_lit, ii_lt, if_neg, gI_ko k0, r10, ob_some]) ⟨hH, Fr.rf⟩
end
