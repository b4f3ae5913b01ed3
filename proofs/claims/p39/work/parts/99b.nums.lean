/-! THE LAW'S OWN NUMBERS: cell, at, gcd; the chance's lines as fractions in lowest terms -/
section
variable {σ : St} {δ : Dy}
theorem ush_nn (x : Int32) : ∃ z : Int, ush x 1 = ii z ∧ 0 ≤ z ∧ z < 2147483648 := by
  have h := pk_ushr x 1 1 (by decide)
  have hb : (ush x 1).toBitVec.toNat = x.toBitVec.toNat / 2 ^ 1 := h
  have hl : x.toBitVec.toNat < 2 ^ 32 := x.toBitVec.isLt
  have ht : (ush x 1).toInt = ((ush x 1).toBitVec.toNat : Int) := by
    show (ush x 1).toBitVec.toInt = _
    exact BitVec.toInt_eq_toNat_of_lt (by rw [hb]; omega)
  refine ⟨(ush x 1).toInt, (Int32.ofInt_toInt _).symm, by rw [ht]; omega, by rw [ht, hb]; omega⟩
theorem at_ok (x : Int32) {n : Int} (h0 : 0 < n) (h1 : n < 100) : ∃ r : Int, m_L_at σ x (ii n) δ = some (ii r) ∧ 0 ≤ r ∧ r < n := by
  obtain ⟨z, hz, z0, z1⟩ := ush_nn x
  refine ⟨z % n, ?_, Int.emod_nonneg _ (by omega), Int.emod_lt_of_pos _ h0⟩
  unfold m_L_at
  rw [hz, rmI_ii z0 z1 h0 (by omega), ob_some]
theorem cell_ok {N : Nat} (xs : Nat → Int32) (hN : N ≤ 260) {k : Int} (h0 : 0 ≤ k) (h1 : k < 12) : ∃ v, m_L_cell xs N (ii k) = some v := by
  unfold m_L_cell
  have hn : Int32.ofNat N = ii N := rfl
  by_cases h : Int32.ofNat N ≤ ii k
  · exact ⟨_, if_pos h⟩
  · rw [hn, ii_le (by omega) (by omega) (by omega) (by omega)] at h
    rw [if_neg (by rw [hn, ii_le (by omega) (by omega) (by omega) (by omega)]; exact h)]
    have hin : inb (ii k) N = true := by
      unfold inb
      have a1 : ¬ ii k < 0 := by
        rw [show (0 : Int32) = ii 0 from rfl, ii_lt (by omega) (by omega) (by omega) (by omega)]
        omega
      have a2 : ¬ N ≤ (ii k).toNatClampNeg := by
        have : (ii k).toNatClampNeg = k.toNat := by
          unfold Int32.toNatClampNeg
          rw [show (ii k).toInt = k from Int32.toInt_ofInt_of_le (by omega) (by omega)]
        omega
      rw [decide_eq_false a1, decide_eq_false a2]
      rfl
    refine ⟨xs (ii k).toNatClampNeg, ?_⟩
    unfold rS
    rw [if_pos hin, ob_some]
theorem lg_iff {x y : Int64} : (lg_cmp x y = 0) = (x = y) := by
  unfold lg_cmp
  apply propext
  constructor
  · intro h
    split at h
    · exact absurd h (by decide)
    · split at h
      · assumption
      · exact absurd h (by decide)
  · intro h
    subst h
    rw [if_neg (fun h => by have := Int64.lt_iff_toInt_lt.mp h; omega), if_pos rfl]
theorem dvL_il {a b : Int} (h0 : 0 ≤ a) (h1 : a < 9223372036854775808) (h2 : 0 < b) (h3 : b < 9223372036854775808) : dvL (il a) (il b) = some (il (a / b)) := by
  unfold dvL
  rw [if_neg (by rw [show (0 : Int64) = il 0 from rfl, il_eq (by omega) (by omega) (by omega) (by omega)]; omega), il_div h0 h1 h2 h3]
theorem gcd_ok {a b : Nat} (ha : a < 4611686018427387904) (hb : b < 4611686018427387904) : m_L_gcd σ (il a) (il b) δ = some (il (Nat.gcd a b : Nat)) := by
  refine Ok_eq ?_
  unfold m_L_gcd m_L_gcd_b6
  refine Ok_lp (fun s => ∃ x y : Nat, s = (il x, il y) ∧ x < 4611686018427387904 ∧ y < 4611686018427387904 ∧ Nat.gcd x y = Nat.gcd a b) (fun s => s.2.toInt.toNat) ?_ ⟨a, b, rfl, ha, hb, rfl⟩ ?_
  · rintro s ⟨x, y, rfl, hx, hy, hg⟩
    dsimp only
    by_cases h : y = 0
    · subst h
      refine Ok_inr (r := il (x : Nat)) ?_ (by rw [← hg, Nat.gcd_zero_right])
      rw [if_pos (by rw [lg_iff]; rfl)]
    · have hne : ¬ lg_cmp (il (y : Nat)) 0 = 0 := by
        rw [lg_iff, show (0 : Int64) = il 0 from rfl, il_eq (by omega) (by omega) (by omega) (by omega)]
        omega
      have hm : ((x : Int) % (y : Int)) = ((x % y : Nat) : Int) := by omega
      have hlt : x % y < y := Nat.mod_lt _ (by omega)
      refine Ok_inl (s' := (il (y : Nat), il (x % y : Nat))) ?_ ⟨⟨y, x % y, rfl, hy, by omega, ?_⟩, ?_⟩
      · rw [if_neg hne, rmL_il (by omega) (by omega) (by omega) (by omega), ob_some, hm]
      · rw [← hg, Nat.gcd_comm y, ← Nat.gcd_rec, Nat.gcd_comm]
      · dsimp only
        rw [il_toInt (by omega) (by omega), il_toInt (by omega) (by omega)]
        omega
  · dsimp only
    rw [il_toInt (by omega) (by omega)]
    omega
/-! products of the seven primes -/
def pn7 (n : Nat) : Nat := (pr7 n).toNat
def PN (u : Nat → Nat) : Nat → Nat
  | 0 => 1
  | n + 1 => PN u n * pn7 n ^ u n
theorem pn7_pos : ∀ n, 1 ≤ pn7 n ∧ pn7 n ≤ 17 ∧ pr7 (n : Nat) = (pn7 n : Nat) := by
  intro n
  unfold pn7 pr7
  repeat' split
  all_goals omega
theorem PN_pos (u : Nat → Nat) : ∀ n, 0 < PN u n
  | 0 => Nat.one_pos
  | n + 1 => Nat.mul_pos (PN_pos u n) (Nat.pow_pos (pn7_pos n).1)
theorem PN_add (u v : Nat → Nat) : ∀ n, PN (fun i => u i + v i) n = PN u n * PN v n
  | 0 => rfl
  | n + 1 => by
    show PN (fun i => u i + v i) n * pn7 n ^ (u n + v n) = (PN u n * pn7 n ^ u n) * (PN v n * pn7 n ^ v n)
    rw [PN_add u v n, Nat.pow_add]
    exact Nat.mul_mul_mul_comm _ _ _ _
theorem PN_congr {u v : Nat → Nat} : ∀ n, (∀ i, i < n → u i = v i) → PN u n = PN v n
  | 0, _ => rfl
  | n + 1, h => by
    show PN u n * pn7 n ^ u n = PN v n * pn7 n ^ v n
    rw [PN_congr n (fun i hi => h i (by omega)), h n (Nat.lt_succ_self n)]
theorem pn7_cop : ∀ i : Fin 7, ∀ j : Fin 7, i ≠ j → Nat.gcd (pn7 i) (pn7 j) = 1 := by decide +kernel
theorem PN_cop1 {x : Nat} (u : Nat → Nat) : ∀ n, (∀ i, i < n → Nat.Coprime (pn7 i ^ u i) x) → Nat.Coprime (PN u n) x
  | 0, _ => Nat.coprime_one_left x
  | n + 1, h => Nat.Coprime.mul_left (PN_cop1 u n (fun i hi => h i (by omega))) (h n (Nat.lt_succ_self n))
theorem PN_cop {u v : Nat → Nat} (h : ∀ i, u i = 0 ∨ v i = 0) : Nat.Coprime (PN u 7) (PN v 7) := by
  refine PN_cop1 u 7 (fun i hi => Nat.Coprime.symm (PN_cop1 v 7 (fun j hj => ?_)))
  by_cases e : i = j
  · subst e
    rcases h i with h | h
    · rw [h]; exact Nat.coprime_one_right _
    · rw [h]; exact Nat.coprime_one_left _
  · exact Nat.Coprime.pow _ _ (pn7_cop ⟨j, hj⟩ ⟨i, hi⟩ (fun q => e (Fin.mk.inj q).symm))
/-- the exponents of a small number -/
def vx (f : Int) (i : Nat) : Nat := (vl (pr7 i) 5 f).toNat
theorem vx_ok : ∀ f : Fin 19, ¬ (f : Nat) = 0 → PN (vx ((f : Nat) : Int)) 7 = (f : Nat) := by decide +kernel
theorem vl_nn {p : Int} : ∀ (n : Nat) (f : Int), 0 ≤ vl p n f
  | 0, _ => Int.le_refl 0
  | n + 1, f => by
    show 0 ≤ if f ≤ 1 then 0 else if f % p = 0 then 1 + vl p n (f / p) else 0
    have := vl_nn (p := p) n (f / p)
    split
    · omega
    · split <;> omega
theorem PN_vx {f : Int} (h0 : 1 ≤ f) (h1 : f ≤ 18) : (PN (vx f) 7 : Int) = f := by
  have h := vx_ok ⟨f.toNat, by omega⟩ (by dsimp only; omega)
  dsimp only at h
  rw [show ((f.toNat : Nat) : Int) = f by omega] at h
  omega
def upE (pw : Int → Int) (i : Nat) : Nat := (ePw true pw i).toNat
def dnE (pw : Int → Int) (i : Nat) : Nat := (ePw false pw i).toNat
def drwP (f g : Int) (pw : Int → Int) : Int → Int := mulP g (-1) (mulP f 1 pw)
/-- the fraction, brought to lowest terms, is the powers' again -/
theorem draw_frac {pw : Int → Int} {f g : Int} (f0 : 1 ≤ f) (f1 : f ≤ 18) (g0 : 1 ≤ g) (g1 : g ≤ 18) : ∃ h : Nat, 0 < h ∧ ((PN (upE pw) 7 : Nat) : Int) * f = ((PN (upE (drwP f g pw)) 7 * h : Nat) : Int) ∧ ((PN (dnE pw) 7 : Nat) : Int) * g = ((PN (dnE (drwP f g pw)) 7 * h : Nat) : Int) ∧ Nat.gcd (PN (upE (drwP f g pw)) 7 * h) (PN (dnE (drwP f g pw)) 7 * h) = h := by
  obtain ⟨mn, hmn⟩ : ∃ mn : Nat → Nat, mn = fun i => min (upE pw i + vx f i) (dnE pw i + vx g i) := ⟨_, rfl⟩
  have key : ∀ i, upE pw i + vx f i = upE (drwP f g pw) i + mn i ∧ dnE pw i + vx g i = dnE (drwP f g pw) i + mn i := by
    intro i
    have a1 := vl_nn (p := pr7 i) 5 f
    have a2 := vl_nn (p := pr7 i) 5 g
    have e : drwP f g pw (i : Nat) = pw i + 1 * vl (pr7 i) 5 f + -1 * vl (pr7 i) 5 g := rfl
    have b1 : upE pw i = (pw i).toNat := rfl
    have b2 : dnE pw i = (-(pw i)).toNat := rfl
    have b3 : upE (drwP f g pw) i = (drwP f g pw i).toNat := rfl
    have b4 : dnE (drwP f g pw) i = (-(drwP f g pw i)).toNat := rfl
    have b5 : vx f i = (vl (pr7 i) 5 f).toNat := rfl
    have b6 : vx g i = (vl (pr7 i) 5 g).toNat := rfl
    have b7 : mn i = min (upE pw i + vx f i) (dnE pw i + vx g i) := by rw [hmn]
    rw [b1, b2, b5, b6] at b7
    rw [b1, b2, b3, b4, b5, b6, e]
    generalize vl (pr7 i) 5 f = y at *
    generalize vl (pr7 i) 5 g = z at *
    generalize pw i = x at *
    rw [b7]
    omega
  have hF : PN (upE pw) 7 * PN (vx f) 7 = PN (upE (drwP f g pw)) 7 * PN mn 7 := by
    rw [← PN_add, ← PN_add]
    exact PN_congr 7 (fun i _ => (key i).1)
  have hG : PN (dnE pw) 7 * PN (vx g) 7 = PN (dnE (drwP f g pw)) 7 * PN mn 7 := by
    rw [← PN_add, ← PN_add]
    exact PN_congr 7 (fun i _ => (key i).2)
  refine ⟨PN mn 7, PN_pos _ _, ?_, ?_, ?_⟩
  · rw [← hF, Int.natCast_mul, PN_vx f0 f1]
  · rw [← hG, Int.natCast_mul, PN_vx g0 g1]
  · rw [Nat.gcd_mul_right, PN_cop (fun i => ?_), Nat.one_mul]
    have b3 : upE (drwP f g pw) i = (drwP f g pw i).toNat := rfl
    have b4 : dnE (drwP f g pw) i = (-(drwP f g pw i)).toNat := rfl
    omega
theorem mulR_il {c p : Nat} (hc : c < 1000003) (hp : p ≤ 17) : mulR (il (c : Nat)) (ii (p : Nat)) = il ((c * p % 1000003 : Nat) : Int) := by
  have h17 : c * p ≤ c * 17 := Nat.mul_le_mul_left c hp
  unfold mulR
  rw [il_ii (by omega) (by omega), il_mul, show (1000003 : Int64) = il 1000003 from rfl, ← Int.natCast_mul, il_div (by omega) (by omega) (by omega) (by omega), il_mul, il_sub]
  congr 1
  omega
theorem lnI_il {x p : Nat} (hp : p ≤ 17) : ∀ j : Nat, lnI (il ((x % 1000003 : Nat) : Int)) (ii (p : Nat)) j = il ((x * p ^ j % 1000003 : Nat) : Int)
  | 0 => by
    show il ((x % 1000003 : Nat) : Int) = _
    rw [Nat.pow_zero, Nat.mul_one]
  | j + 1 => by
    show mulR (lnI (il ((x % 1000003 : Nat) : Int)) (ii (p : Nat)) j) (ii (p : Nat)) = _
    rw [lnI_il hp j, mulR_il (Nat.mod_lt _ (by omega)) hp, Nat.mod_mul_mod, Nat.pow_succ, Nat.mul_assoc]
theorem lnO_il (e : Int → Int) : ∀ n : Nat, lnO e n = il ((PN (fun i => (e i).toNat) n % 1000003 : Nat) : Int)
  | 0 => rfl
  | n + 1 => by
    show lnI (lnO e n) (ii (pr7 n)) (e n).toNat = _
    rw [lnO_il e n, (pn7_pos n).2.2, lnI_il (pn7_pos n).2.1]
    rfl
theorem chance_up (pw : Int → Int) : (lnO (ePw true pw) 7).toInt32 = ii ((PN (upE pw) 7 % 1000003 : Nat) : Int) := by
  rw [lnO_il, ii_il]
  rfl
theorem chance_dn (pw : Int → Int) : (lnO (ePw false pw) 7).toInt32 = ii ((PN (dnE pw) 7 % 1000003 : Nat) : Int) := by
  rw [lnO_il, ii_il]
  rfl
end
