/-! THE REFERENCE: lots -/
def il (z : Int) : Int64 := Int64.ofInt z
theorem il_toInt {a : Int} (h0 : -9223372036854775808 ≤ a) (h1 : a < 9223372036854775808) : (il a).toInt = a := Int64.toInt_ofInt_of_le h0 h1
theorem il_add (a b : Int) : il a + il b = il (a + b) := (Int64.ofInt_add a b).symm
theorem il_sub (a b : Int) : il a - il b = il (a - b) := (Int64.ofInt_sub a b).symm
theorem il_mul (a b : Int) : il a * il b = il (a * b) := (Int64.ofInt_mul a b).symm
theorem il_eq {a b : Int} (h0 : -9223372036854775808 ≤ a) (h1 : a < 9223372036854775808) (h2 : -9223372036854775808 ≤ b) (h3 : b < 9223372036854775808) : (il a = il b) = (a = b) := by
  rw [← Int64.toInt_inj, il_toInt h0 h1, il_toInt h2 h3]
theorem il_ii {a : Int} (h0 : -2147483648 ≤ a) (h1 : a < 2147483648) : (ii a).toInt64 = il a := by
  rw [← Int64.toInt_inj, Int32.toInt_toInt64, ii_toInt h0 h1, il_toInt (by omega) (by omega)]
theorem ii_il {a : Int} : (il a).toInt32 = ii a := Int64.toInt32_ofInt
theorem il_div {a b : Int} (h0 : 0 ≤ a) (h1 : a < 9223372036854775808) (h2 : 0 < b) (h3 : b < 9223372036854775808) : il a / il b = il (a / b) := by
  rw [← Int64.toInt_inj, Int64.toInt_div_of_ne_right _ _ (by
    rw [show (-1 : Int64) = il (-1) from rfl]
    intro h
    rw [il_eq (by omega) (by omega) (by omega) (by omega)] at h
    omega), il_toInt (by omega) h1, il_toInt (by omega) h3]
  have hd : a / b ≤ a := Int.ediv_le_self b h0
  have hd0 : 0 ≤ a / b := Int.ediv_nonneg h0 (by omega)
  rw [il_toInt (by omega) (by omega), Int.tdiv_eq_ediv_of_nonneg h0]
theorem rmL_il {a b : Int} (h0 : 0 ≤ a) (h1 : a < 9223372036854775808) (h2 : 0 < b) (h3 : b < 9223372036854775808) : rmL (il a) (il b) = some (il (a % b)) := by
  unfold rmL
  rw [if_neg (by rw [show (0 : Int64) = il 0 from rfl, il_eq (by omega) (by omega) (by omega) (by omega)]; omega), il_div h0 h1 h2 h3, il_mul, il_sub]
  congr 2
  have := Int.emod_add_mul_ediv a b
  have h9 : b * (a / b) = a / b * b := Int.mul_comm _ _
  omega
/-- how often p divides m, and what is left -/
def cvP (p : Int) : Nat → Int → Int × Int
  | 0, m => (0, m)
  | f + 1, m => if m % p = 0 then (1 + (cvP p f (m / p)).1, (cvP p f (m / p)).2) else (0, m)
def lfP (n : Int) : Nat → Int
  | 0 => n
  | z + 1 => (cvP (pr7 z) 5 (lfP n z)).2
theorem lf_dec : ∀ n : Fin 18, ∀ z : Fin 8, (1 ≤ lfP (n.val + 1 : Nat) z.val ∧ lfP (n.val + 1 : Nat) z.val ≤ 18) ∧ (z.val < 7 → (cvP (pr7 (z.val : Nat)) 5 (lfP (n.val + 1 : Nat) z.val)).1 = vl (pr7 (z.val : Nat)) 5 (n.val + 1 : Nat)) := by decide +kernel
theorem lf_spec {n : Int} (h0 : 1 ≤ n) (h1 : n ≤ 18) {z : Nat} (hz : z ≤ 7) : (1 ≤ lfP n z ∧ lfP n z ≤ 18) ∧ (z < 7 → (cvP (pr7 z) 5 (lfP n z)).1 = vl (pr7 z) 5 n) := by
  have h := lf_dec ⟨(n - 1).toNat, by omega⟩ ⟨z, by omega⟩
  dsimp only at h
  rw [show (((n - 1).toNat + 1 : Nat) : Int) = n by omega] at h
  exact h
section
variable {σ : St} {δ : Dy} {mo g n : Nat} {E : Ev} {W : Wo} {a : Ag} {l : Lv} {ls : List Lv} {m : Int} {ch : Nat → Nat}
theorem m_prime {z : Int} (h0 : 0 ≤ z) (h1 : z < 7) : m_X12_primeOf σ (ii z) δ = some (ii (pr7 z)) := by
  rcases (show z = 0 ∨ z = 1 ∨ z = 2 ∨ z = 3 ∨ z = 4 ∨ z = 5 ∨ z = 6 by omega) with rfl | rfl | rfl | rfl | rfl | rfl | rfl <;> rfl
theorem m_countPrimes (hK : KM σ mo) {k s : Int} {pw : Int → Int} (k0 : 1 ≤ k) (k1 : k ≤ 18) (hP : ∀ y : Nat, y < 7 → δ.1 (mo + 1) (7031 + y) = ii (pw y)) : Ok (m_X12_countPrimes σ mo (ii k) (ii s) δ) (fun d => (∀ y : Nat, y < 7 → d.1 (mo + 1) (7031 + y) = ii (mulP k s pw y)) ∧ (∀ y, ¬ (7031 ≤ y ∧ y < 7038) → d.1 (mo + 1) y = δ.1 (mo + 1) y) ∧ Fr (fun r => r = mo + 1) δ d) := by
  unfold m_X12_countPrimes m_X12_countPrimes_b5
  refine Ok_for (fun z t => t.1 = ii (lfP k z.toNat) ∧ t.2.1 = ii z ∧ (∀ y : Nat, y < 7 → t.2.2.1 (mo + 1) (7031 + y) = ii (if (y : Int) < z then mulP k s pw y else pw y)) ∧ (∀ y, ¬ (7031 ≤ y ∧ y < 7038) → t.2.2.1 (mo + 1) y = δ.1 (mo + 1) y) ∧ Fr (fun r => r = mo + 1) δ t.2.2) 0 7 (by omega) (by omega) ?_ ?_ ⟨rfl, rfl, fun y hy => by rw [if_neg (by omega)]; exact hP y hy, fun y _ => rfl, Fr.rf⟩
  · rintro z ⟨t1, t2, d⟩ z0 z1 ⟨hs, ht, hP1, hO, hF⟩
    dsimp only at hs ht hP1 hO hF ⊢
    subst hs
    subst ht
    obtain ⟨⟨l0, l1⟩, lv⟩ := lf_spec k0 k1 (z := z.toNat) (by omega)
    have lv' := lv (by omega)
    rw [show ((z.toNat : Nat) : Int) = z by omega] at lv'
    have hlf : lfP k (z + 1).toNat = (cvP (pr7 z) 5 (lfP k z.toNat)).2 := by
      rw [show (z + 1).toNat = z.toNat + 1 by omega]
      show (cvP (pr7 ((z.toNat : Nat) : Int)) 5 _).2 = _
      rw [show ((z.toNat : Nat) : Int) = z by omega]
    have hp := pr7_rng z
    rw [if_neg (show ¬ ((7 : Int32) ≤ ii z) by rw [ii_lit, ii_le (by omega) (by omega) (by omega) (by omega)]; omega), m_prime z0 z1, ob_some]
    unfold m_X12_countPrimes_b19
    refine Ok_lp (fun t => ∃ (q c : Int) (f : Nat), t.1 = ii q ∧ (1 ≤ q ∧ q ≤ 18 ∧ q < 2 ^ f) ∧ c + (cvP (pr7 z) f q).1 = vl (pr7 z) 5 k ∧ (cvP (pr7 z) f q).2 = lfP k (z + 1).toNat ∧ t.2.1 (mo + 1) (7031 + z.toNat) = ii (pw z + s * c) ∧ (∀ y : Nat, ¬ y = 7031 + z.toNat → t.2.1 (mo + 1) y = d.1 (mo + 1) y) ∧ Fr (fun r => r = mo + 1) δ t.2) (fun t => t.1.toInt.toNat) ?_ ⟨lfP k z.toNat, 0, 5, rfl, ⟨l0, l1, by show lfP k z.toNat < 32; omega⟩, by omega, hlf.symm, ?_, fun _ _ => rfl, hF⟩ ?_
    · rintro ⟨t1, t2⟩ ⟨q, c, f, ht, hm, hv, hr, hz, hy, hF2⟩
      dsimp only at ht hz hy hF2 ⊢
      subst ht
      obtain ⟨f, rfl⟩ : ∃ g, f = g + 1 := ⟨f - 1, by
        cases f with
        | zero => have : q < 1 := hm.2.2; omega
        | succ f => omega⟩
      rw [rmI_ii (by omega) (by omega) (by omega) (by omega), ob_some]
      have hmod := Int.emod_nonneg q (show pr7 z ≠ 0 by omega)
      have hmod2 := Int.emod_lt_of_pos q (show 0 < pr7 z by omega)
      by_cases c2 : q % pr7 z = 0
      · have hcv : cvP (pr7 z) (f + 1) q = (1 + (cvP (pr7 z) f (q / pr7 z)).1, (cvP (pr7 z) f (q / pr7 z)).2) := by
          show (if q % pr7 z = 0 then _ else _) = _
          rw [if_pos c2]
        rw [hcv] at hv hr
        dsimp only at hv hr
        have hdv : q / pr7 z < q := Int.ediv_lt_self_of_pos_of_ne_one (by omega) (by omega)
        have hq1 : 1 ≤ q / pr7 z := by
          have h1 := Int.emod_add_mul_ediv q (pr7 z)
          have h0 : 0 ≤ q / pr7 z := Int.ediv_nonneg (by omega) (by omega)
          rcases (show q / pr7 z = 0 ∨ 1 ≤ q / pr7 z by omega) with h | h
          · rw [h] at h1
            simp only [Int.mul_zero, Int.add_zero] at h1
            omega
          · exact h
        have r1 : rI σ t2 (mo + 1) (ii (7031 + z)) = some (ii (pw z + s * c)) := rst (md0 hK) (by omega) (by omega) (show (7031 + z).toNat = 7031 + z.toNat by omega) hz
        have w1 : wI σ t2 (mo + 1) (ii (7031 + z)) (ii (pw z + s * c + s)) = some (u2 t2.1 (mo + 1) (7031 + z.toNat) (ii (pw z + s * c + s)), t2.2) := by rw [wI_kd (md0 hK) (by omega) (by omega), show (7031 + z).toNat = 7031 + z.toNat by omega]
        refine Ok_inl (s' := (ii (q / pr7 z), (u2 t2.1 (mo + 1) (7031 + z.toNat) (ii (pw z + s * c + s)), t2.2))) ?_ ⟨⟨q / pr7 z, c + 1, f, rfl, ⟨hq1, by omega, ?_⟩, by omega, hr, ?_, fun y hy2 => ?_, hF2.tr (Fr_u2 rfl)⟩, ?_⟩
        · rw [if_pos (show ii (q % pr7 z) = 0 by rw [c2]; rfl), dvI_ii (by omega) (by omega) (by omega) (by omega), ob_some, mg0 hK, ob_some, show ((7031 : Int32)) = ii 7031 from rfl, ii_add, r1, ob_some, ii_add, w1, ob_some]
        · have h2 : q < 2 ^ f * 2 := hm.2.2
          refine Int.ediv_lt_of_lt_mul (by omega) (Int.lt_of_lt_of_le h2 ?_)
          exact Int.mul_le_mul_of_nonneg_left (by omega) (Int.le_of_lt (Int.pow_pos (by omega)))
        · simp only [u2, and_self, ↓reduceIte]
          rw [Int.mul_add, Int.mul_one, Int.add_assoc]
        · simp (disch := omega) only [u2, if_neg]
          exact hy y hy2
        · dsimp only
          rw [ii_toInt (by omega) (by omega), ii_toInt (by omega) (by omega)]
          omega
      · have hcv : cvP (pr7 z) (f + 1) q = (0, q) := by
          show (if q % pr7 z = 0 then _ else _) = _
          rw [if_neg c2]
        rw [hcv] at hv hr
        dsimp only at hv hr
        refine Ok_inr (r := (Sum.inl (ii q, ii (z + 1), t2) : (Int32 × Int32 × Dy) ⊕ Dy)) ?_ ⟨by rw [hr], rfl, fun y hy2 => ?_, fun y hy2 => ?_, hF2⟩
        · rw [if_neg (show ¬ ii (q % pr7 z) = 0 by rw [show ((0 : Int32)) = ii 0 from rfl, ii_eq (by omega) (by omega) (by omega) (by omega)]; exact c2), show ((1 : Int32)) = ii 1 from rfl, ii_add]
        · dsimp only
          by_cases h : (y : Int) = z
          · rw [if_pos (by omega), show 7031 + y = 7031 + z.toNat by omega, hz]
            unfold mulP
            rw [h, ← hv, Int.add_zero]
          · rw [hy _ (by omega), hP1 y hy2]
            by_cases h2 : (y : Int) < z
            · rw [if_pos h2, if_pos (by omega)]
            · rw [if_neg h2, if_neg (by omega)]
        · dsimp only
          rw [hy _ (by omega)]
          exact hO y hy2
    · dsimp only
      rw [hP1 _ (by omega), if_neg (by omega), Int.mul_zero, Int.add_zero, show ((z.toNat : Nat) : Int) = z by omega]
    · dsimp only
      rw [ii_toInt (by omega) (by omega)]
      omega
  · rintro ⟨t1, t2, d⟩ ⟨hs, ht, hP1, hO, hF⟩
    dsimp only at hs ht hP1 hO hF ⊢
    subst ht
    refine Ok_inr (r := d) (if_pos (by decide)) ⟨fun y hy => ?_, hO, hF⟩
    rw [hP1 y hy, if_pos (by omega)]
/-- what else the store's array holds has changed -/
theorem RVm_hi {d : Dy} {Rs : Int → Rl} {V : Vw} (hV : RVm δ mo Rs V) (hG : GS (v_S V)) (hh : (v_hi V).length ≤ 2000) (hF : Fr (fun r => r = mo + 1) δ d) (e1 : ∀ k, k < 7031 → d.1 (mo + 1) k = δ.1 (mo + 1) k) : RVm d mo Rs V := by
  obtain ⟨s1, ⟨s2, s3, s4⟩, s5, s6, s7⟩ := hV
  have e0 : d.1 mo = δ.1 mo := (hF _ (by omega)).1
  have e28 : d.1 (mo + 28) = δ.1 (mo + 28) := (hF _ (by omega)).1
  exact ⟨RSm_eq s1 hG (fun k _ => e1 k (by omega)), ⟨by rw [e0]; exact s2, by rw [e0]; exact s3, by rw [e0]; exact s4⟩, RMfr_eq s5 (fun k _ => by rw [e28]), RMh_eq s6 (fun k _ _ => e1 k (by omega)) hh, fun w hw => by rw [e1 _ (by omega)]; exact s7 w hw⟩
theorem RWm_x {d : Dy} {x : Int} {pw tk : Int → Int} (h : RWm δ mo n E ch W) (hG : GS (v_S (w_V W))) (hh : (v_hi (w_V W)).length ≤ 2000) (hF : Fr (fun r => r = mo + 1) δ d) (e1 : ∀ k, k < 7031 → d.1 (mo + 1) k = δ.1 (mo + 1) k) (e2 : ∀ k, 7040 ≤ k → k < 9743 → d.1 (mo + 1) k = δ.1 (mo + 1) k) (hx : RXm d mo x pw tk (w_ck W)) : RWm d mo n E ch (w_V W, x, pw, tk, w_lv W, w_ov W, w_cs W, w_lg W) ∧ RF mo δ d := by
  have e0 : d.1 mo = δ.1 mo := (hF _ (by omega)).1
  exact ⟨⟨RVm_hi h.1 hG hh hF e1, RGm_eq h.2.1 (by rw [e0]) (by rw [e0]) (fun r _ _ => (hF r (by omega)).1), hx, RCm_eq h.2.2.2 (by rw [e0]) (by rw [e0]) (hF _ (by omega)).1 (hF _ (by omega)).1⟩, hF.wk (fun r p => Or.inr (Or.inl p)), fun k _ => by rw [e0], e2⟩
theorem m_aLot (hK : KM σ mo) (hN : RNm δ mo E) (gE : GE E) (h : RWm δ mo n E ch (w_setlv W (l :: ls))) (hG : GS (v_S (w_V W))) (hh : (v_hi (w_V W)).length ≤ 2000) (hJ : ls.length < 4) (hg : g < n) (hn : n < 1980) (hA : RAm δ mo g a) (hm : gNode E m) (hk : e_kd E m = 12) (hx : 0 ≤ w_x W ∧ w_x W < 65537) (hq : (l_q l).length < 390) : Ok (m_X12_actLot σ mo (ii g) (ii m) δ) (fun d => ActW δ d mo n E ch (w_setlv W (l :: ls)) (w_V W, nextX (w_x W), lotP (w_x W) (e_a E m) (e_b E m) (w_pw W), w_tk W, qAdd l ((if isFi (w_x W) (e_a E m) (e_b E m) = true then e_on E m else e_ot E m), a.2) :: ls, w_ov W, w_cs W, w_lg W)) := by
  have hc := gE.1.2
  obtain ⟨-, -, -, -, -, -, -, -, w12, -⟩ := gE.2.2.2.2 m hm
  obtain ⟨⟨wa0, wa1⟩, wb0, wb1⟩ := w12 hk
  obtain ⟨q1, q2, q3, q4⟩ := (hN.2.2 m hm).2.2.2.2.2.2.2.2.2 hk
  obtain ⟨x1, x2, x3, x4⟩ := h.2.2.1
  have hnx : 0 ≤ nextX (w_x W) ∧ nextX (w_x W) < 65537 := by unfold nextX; omega
  have r0 : rI σ δ (mo + 1) (ii 7038) = some (ii (w_x W)) := rst (md0 hK) (by omega) (by omega) rfl x1
  have eN : rmL (((75 : Int64) * (ii (w_x W)).toInt64) + (74 : Int64)) (65537 : Int64) = some (il (nextX (w_x W))) := by
    rw [il_ii (by omega) (by omega), show ((75 : Int64)) = il 75 from rfl, show ((74 : Int64)) = il 74 from rfl, show ((65537 : Int64)) = il 65537 from rfl, il_mul, il_add, rmL_il (by omega) (by omega) (by omega) (by omega)]
    unfold nextX
    rw [Int.mul_comm]
  -- the seed is drawn
  have w0 : wI σ δ (mo + 1) (ii 7038) (ii (nextX (w_x W))) = some (u2 δ.1 (mo + 1) 7038 (ii (nextX (w_x W))), δ.2) := by rw [wI_kd (md0 hK) (by omega) (by omega)]; rfl
  have g0 : (u2 δ.1 (mo + 1) 7038 (ii (nextX (w_x W))), δ.2).1 (mo + 1) 7038 = ii (nextX (w_x W)) := by simp only [u2, and_self, ↓reduceIte]
  have o0 : ∀ k, ¬ k = 7038 → (u2 δ.1 (mo + 1) 7038 (ii (nextX (w_x W))), δ.2).1 (mo + 1) k = δ.1 (mo + 1) k := fun k hk => by simp (disch := omega) only [u2, if_neg]
  have f0 : Fr (fun r => r = mo + 1) δ (u2 δ.1 (mo + 1) 7038 (ii (nextX (w_x W))), δ.2) := Fr_u2 rfl
  generalize (u2 δ.1 (mo + 1) 7038 (ii (nextX (w_x W))), δ.2) = d0 at w0 g0 o0 f0
  have p1 := m_n1 (σ := σ) (δ := d0) hK hc hm (v := ii (e_a E m)) (by rw [(f0 (mo + 4) (by omega)).1]; exact q1)
  have p3 := m_n3 (σ := σ) (δ := d0) hK hc hm (v := ii (e_b E m)) (by rw [(f0 (mo + 6) (by omega)).1]; exact q3)
  have p0 : rI σ d0 (mo + 1) (ii 7038) = some (ii (nextX (w_x W))) := rst (md0 hK) (by omega) (by omega) rfl g0
  have hm0 := Int.emod_nonneg (nextX (w_x W)) (show e_a E m + e_b E m ≠ 0 by omega)
  have hm1 := Int.emod_lt_of_pos (nextX (w_x W)) (show 0 < e_a E m + e_b E m by omega)
  have key : ∀ b : Bool, isFi (w_x W) (e_a E m) (e_b E m) = b → Ok (m_X12_actLot_b68 σ mo (ii g) (ii m) (ii (e_a E m + e_b E m)) (bi b) d0) (fun d => ActW δ d mo n E ch (w_setlv W (l :: ls)) (w_V W, nextX (w_x W), lotP (w_x W) (e_a E m) (e_b E m) (w_pw W), w_tk W, qAdd l ((if isFi (w_x W) (e_a E m) (e_b E m) = true then e_on E m else e_ot E m), a.2) :: ls, w_ov W, w_cs W, w_lg W)) := by
    intro b hb
    obtain ⟨d1, c1, a1, b1, f1⟩ := m_countPrimes (δ := d0) hK (k := if b = true then e_a E m else e_b E m) (s := 1) (pw := w_pw W) (by split <;> omega) (by split <;> omega) (fun y hy => by rw [o0 _ (by omega)]; exact x2 y hy)
    obtain ⟨d2, c2, a2, b2, f2⟩ := m_countPrimes (δ := d1) hK (k := e_a E m + e_b E m) (s := -1) (by omega) (by omega) a1
    have F2 := f0.tr (f1.tr f2)
    have O2 : ∀ k, ¬ (7031 ≤ k ∧ k < 7039) → d2.1 (mo + 1) k = δ.1 (mo + 1) k := fun k hk => by rw [b2 _ (by omega), b1 _ (by omega), o0 _ (by omega)]
    have hX2 : RXm d2 mo (nextX (w_x W)) (lotP (w_x W) (e_a E m) (e_b E m) (w_pw W)) (w_tk W) (w_ck W) := by
      refine ⟨by rw [b2 _ (by omega), b1 _ (by omega)]; exact g0, fun k hk => ?_, fun k hk => by rw [O2 _ (by omega)]; exact x3 k hk, by rw [O2 _ (by omega)]; exact x4⟩
      rw [a2 k hk]
      unfold lotP
      rw [hb]
    obtain ⟨hW2, hRF⟩ := RWm_x h hG hh F2 (fun k hk => O2 k (by omega)) (fun k h1 h2 => O2 k (by omega)) hX2
    have hA2 : RAm d2 mo g a := RAm_eq hA (fun k _ _ => by rw [(F2 (mo + 17) (by omega)).1])
    obtain ⟨d3, D, y1, y2, y3, y4, -⟩ := m_newq2 hK (m := if b = true then e_on E m else e_ot E m) hW2.2.1 hJ hg (by omega) hA2 (by omega)
    refine ⟨D, ?_, n + 1, RWm_G hW2 hG hh y4 (by rw [hb]; exact y3), ?_, hRF.tr (RF_G y4)⟩
    · have p2 := m_n2 (σ := σ) (δ := d2) hK hc hm (v := ii (e_on E m)) (by rw [(F2 (mo + 5) (by omega)).1]; exact q2)
      have p4 := m_n4 (σ := σ) (δ := d2) hK hc hm (v := ii (e_ot E m)) (by rw [(F2 (mo + 7) (by omega)).1]; exact q4)
      unfold m_X12_actLot_b68 m_X12_actLot_b91 m_X12_actLot_b124
      cases b with
      | true =>
        rw [if_neg (show ¬ bi true = 0 by decide), mg3 hK, ob_some, p1, ob_some, chk_ko hK.1, ob_some]
        have c1' : m_X12_countPrimes σ mo (ii (e_a E m)) 1 d0 = some d1 := c1
        have c2' : m_X12_countPrimes σ mo (ii (e_a E m + e_b E m)) (-1) d1 = some d2 := c2
        have y1' : m_X12_another σ mo (ii g) (ii (e_on E m)) d2 = some (ii n, d3) := y1
        rw [c1', ob_some, ob_some, c2', ob_some, if_neg (show ¬ bi true = 0 by decide), mg4 hK, ob_some, p2, ob_some, ob_some, y1', ob_some, ob_some, y2, ob_some]
      | false =>
        rw [if_pos (show bi false = 0 from rfl), mg5 hK, ob_some, p3, ob_some, chk_ko hK.1, ob_some]
        have c1' : m_X12_countPrimes σ mo (ii (e_b E m)) 1 d0 = some d1 := c1
        have c2' : m_X12_countPrimes σ mo (ii (e_a E m + e_b E m)) (-1) d1 = some d2 := c2
        have y1' : m_X12_another σ mo (ii g) (ii (e_ot E m)) d2 = some (ii n, d3) := y1
        rw [c1', ob_some, ob_some, c2', ob_some, if_pos (show bi false = 0 from rfl), mg6 hK, ob_some, p4, ob_some, ob_some, y1', ob_some, ob_some, y2, ob_some]
    · show n + 1 + (wL ls + (l_w l).length) + (ls.length + 1) ≤ n + (wL ls + (l_w l).length) + (ls.length + 1) + 2
      omega
  unfold m_X12_actLot
  rw [show ((7038 : Int32)) = ii 7038 from rfl, mg0 hK, ob_some, ob_some, r0, ob_some, eN, ob_some, ii_il, w0, ob_some, mg3 hK, ob_some, p1, ob_some, mg5 hK, ob_some, p3, ob_some, ob_some, p0, ob_some, ii_add, rmI_ii (by omega) (by omega) (by omega) (by omega), ob_some, ob_some, p1, ob_some]
  by_cases c : nextX (w_x W) % (e_a E m + e_b E m) < e_a E m
  · rw [if_neg (show ¬ ii (e_a E m) ≤ ii (nextX (w_x W) % (e_a E m + e_b E m)) by rw [ii_le (by omega) (by omega) (by omega) (by omega)]; omega)]
    exact key true (decide_eq_true c)
  · rw [if_pos (show ii (e_a E m) ≤ ii (nextX (w_x W) % (e_a E m + e_b E m)) by rw [ii_le (by omega) (by omega) (by omega) (by omega)]; omega)]
    exact key false (decide_eq_false c)
end
