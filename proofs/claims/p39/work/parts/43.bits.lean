/-! BITS: slices in two longs; copies of rows -/
set_option maxRecDepth 100000 in
theorem bit_tw : ∀ t : Fin 64, (1 : Int64) <<< ((ii ((t : Nat) : Int)).toInt64 &&& 63) = Int64.ofBitVec (1#64 <<< (t : Nat)) := by decide +kernel
theorem bit_lo {z : Int} (h0 : 0 ≤ z) (h1 : z < 64) (k : Nat) (hk : k < 64) : ((1 : Int64) <<< ((ii z).toInt64 &&& 63)).toBitVec.getLsbD k = decide (k = z.toNat) := by
  have h := bit_tw ⟨z.toNat, by omega⟩
  rw [show (((⟨z.toNat, by omega⟩ : Fin 64) : Nat) : Int) = z by show ((z.toNat : Nat) : Int) = z; omega] at h
  rw [h, Int64.toBitVec_ofBitVec, BitVec.getLsbD_shiftLeft, BitVec.getLsbD_one]
  by_cases hz : k = z.toNat
  · subst hz
    simp [hk]
  · by_cases hlt : k < z.toNat
    · simp [hz, hlt]
    · have hne : ¬ k - z.toNat = 0 := by omega
      simp [hz, hne]
theorem zero_bit (k : Nat) : (0 : Int64).toBitVec.getLsbD k = false := by
  rw [Int64.toBitVec_zero, BitVec.getLsbD_zero]
theorem t_lowBit {σ : St} {δ : Dy} {z : Int} (h0 : 0 ≤ z) (h1 : z < 128) : m_X8_lowBit σ (ii z) δ = some (if z < 64 then (1 : Int64) <<< ((ii z).toInt64 &&& 63) else 0) := by
  unfold m_X8_lowBit
  by_cases h : z < 64
  · simp (disch := omega) only [↓reduceIte, ii_lit, ii_add, ii_sub, ii_mul, ii_neg, ii_lt, ii_le, ii_eq, if_pos, if_neg, Option.bind_some]
  · simp (disch := omega) only [↓reduceIte, ii_lit, ii_add, ii_sub, ii_mul, ii_neg, ii_lt, ii_le, ii_eq, if_pos, if_neg, Option.bind_some]
theorem t_highBit {σ : St} {δ : Dy} {z : Int} (h0 : 0 ≤ z) (h1 : z < 128) : m_X8_highBit σ (ii z) δ = some (if z < 64 then 0 else (1 : Int64) <<< ((ii (z - 64)).toInt64 &&& 63)) := by
  unfold m_X8_highBit
  by_cases h : z < 64
  · simp (disch := omega) only [↓reduceIte, ii_lit, ii_add, ii_sub, ii_mul, ii_neg, ii_lt, ii_le, ii_eq, if_pos, if_neg, Option.bind_some]
  · simp (disch := omega) only [↓reduceIte, ii_lit, ii_add, ii_sub, ii_mul, ii_neg, ii_lt, ii_le, ii_eq, if_pos, if_neg, Option.bind_some]
theorem B64_bit {z : Int} (h0 : 0 ≤ z) (h1 : z < 128) : B64 (if z < 64 then (1 : Int64) <<< ((ii z).toInt64 &&& 63) else 0) (if z < 64 then 0 else (1 : Int64) <<< ((ii (z - 64)).toInt64 &&& 63)) (fun k => decide (k = z.toNat)) := by
  intro t ht
  by_cases h : z < 64
  · rw [if_pos h, if_pos h, bit_lo h0 h t ht, zero_bit]
    refine ⟨rfl, ?_⟩
    show false = decide (64 + t = z.toNat)
    rw [decide_eq_false (by omega)]
  · rw [if_neg h, if_neg h, zero_bit, bit_lo (by omega) (by omega) t ht]
    refine ⟨?_, ?_⟩
    · show false = decide (t = z.toNat)
      rw [decide_eq_false (by omega)]
    · show decide (t = (z - 64).toNat) = decide (64 + t = z.toNat)
      apply decide_eq_decide.mpr
      omega
theorem B64_or {a b c d : Int64} {f g : Nat → Bool} (h : B64 a b f) (k : B64 c d g) : B64 (a ||| c) (b ||| d) (fun t => f t || g t) := by
  intro t ht
  rw [Int64.toBitVec_or, Int64.toBitVec_or, BitVec.getLsbD_or, BitVec.getLsbD_or, (h t ht).1, (h t ht).2, (k t ht).1, (k t ht).2]
  exact ⟨rfl, rfl⟩
theorem B64_zero : B64 0 0 (fun _ => false) := fun t _ => ⟨zero_bit t, zero_bit _⟩
theorem lg_zero (x : Int64) : (lg_cmp x 0 = 0) = (x = 0) := by
  unfold lg_cmp
  by_cases h1 : x > 0
  · rw [if_pos h1]
    have : x ≠ 0 := fun h => by subst h; exact absurd h1 (by decide)
    simp [this]
  · rw [if_neg h1]
    by_cases h2 : x = 0
    · simp [h2]
    · rw [if_neg h2]
      simp [h2]
theorem i64_zero {x : Int64} (h : ∀ k : Nat, k < 64 → x.toBitVec.getLsbD k = false) : x = 0 := by
  apply Int64.toBitVec.inj
  rw [Int64.toBitVec_zero]
  apply BitVec.eq_of_getLsbD_eq
  intro i hi
  rw [h i hi, BitVec.getLsbD_zero]
theorem t_isIn {σ : St} {δ : Dy} {z : Int} {lo hi : Int64} {f : Nat → Bool} (h0 : 0 ≤ z) (h1 : z < 128) (hb : B64 lo hi f) : m_X8_isIn σ (ii z) lo hi δ = some (bi (f z.toNat)) := by
  unfold m_X8_isIn
  rw [t_lowBit h0 h1, t_highBit h0 h1]
  simp only [Option.bind_some, lg_zero]
  have key : (((if z < 64 then (1 : Int64) <<< ((ii z).toInt64 &&& 63) else 0) &&& lo) ||| ((if z < 64 then 0 else (1 : Int64) <<< ((ii (z - 64)).toInt64 &&& 63)) &&& hi) = 0) = (f z.toNat = false) := by
    apply propext
    constructor
    · intro h
      have hz := fun k : Nat => congrArg (fun x : Int64 => x.toBitVec.getLsbD k) h
      by_cases hc : z < 64
      · have := hz z.toNat
        simp only [hc, if_true, Int64.toBitVec_or, Int64.toBitVec_and, BitVec.getLsbD_or, BitVec.getLsbD_and, bit_lo h0 hc z.toNat (by omega), zero_bit, decide_true, Bool.true_and, Bool.false_and, Bool.or_false] at this
        rw [← (hb z.toNat (by omega)).1]
        exact this
      · have := hz (z - 64).toNat
        simp only [hc, if_false, Int64.toBitVec_or, Int64.toBitVec_and, BitVec.getLsbD_or, BitVec.getLsbD_and, bit_lo (z := z - 64) (by omega) (by omega) (z - 64).toNat (by omega), zero_bit, decide_true, Bool.true_and, Bool.false_and, Bool.false_or] at this
        have h9 := (hb (z - 64).toNat (by omega)).2
        rw [show 64 + (z - 64).toNat = z.toNat by omega] at h9
        rw [← h9]
        exact this
    · intro h
      apply i64_zero
      intro k hk
      by_cases hc : z < 64
      · simp only [hc, if_true, Int64.toBitVec_or, Int64.toBitVec_and, BitVec.getLsbD_or, BitVec.getLsbD_and, bit_lo h0 hc k hk, zero_bit, Bool.false_and, Bool.or_false]
        by_cases hk2 : k = z.toNat
        · rw [hk2, (hb z.toNat (by omega)).1, h, Bool.and_false]
        · rw [decide_eq_false hk2, Bool.false_and]
      · simp only [hc, if_false, Int64.toBitVec_or, Int64.toBitVec_and, BitVec.getLsbD_or, BitVec.getLsbD_and, bit_lo (z := z - 64) (by omega) (by omega) k hk, zero_bit, Bool.false_and, Bool.false_or]
        by_cases hk2 : k = (z - 64).toNat
        · have h9 := (hb (z - 64).toNat (by omega)).2
          rw [show 64 + (z - 64).toNat = z.toNat by omega] at h9
          rw [hk2, h9, h, Bool.and_false]
        · rw [decide_eq_false hk2, Bool.false_and]
  simp only [key]
  cases h : f z.toNat
  · rfl
  · rfl
theorem nn_lt {a : Int} (h0 : 0 ≤ a) (h1 : a < 2147483648) : ¬ ii a < 0 := by
  rw [show (0 : Int32) = ii 0 from rfl, ii_lt (by omega) h1 (by omega) (by omega)]
  omega
theorem cpI_kd {σ : St} {δ : Dy} {a b n m : Nat} {x y c : Int} (ha : KD σ a 100 n) (hb : KD σ b 100 m) (h0 : 0 ≤ x) (h1 : 0 ≤ y) (h2 : 0 ≤ c) (h3 : x + c ≤ n) (h4 : y + c ≤ m) : cpI σ δ a (ii x) b (ii y) (ii c) = some (uR δ.1 b (va_cpy (δ.1 a) (δ.1 b) x.toNat y.toNat c.toNat), δ.2) := by
  obtain ⟨a1, a2, a3⟩ := ha
  obtain ⟨b1, b2, b3⟩ := hb
  unfold cpI
  rw [ii_nat h0 (by omega), ii_nat h1 (by omega), ii_nat h2 (by omega), if_pos ⟨⟨a1, b1⟩, ⟨nn_lt h0 (by omega), nn_lt h1 (by omega), nn_lt h2 (by omega)⟩, by omega, by omega⟩]
theorem cpL_kd {σ : St} {δ : Dy} {a b n m : Nat} {x y c : Int} (ha : KD σ a 102 n) (hb : KD σ b 102 m) (h0 : 0 ≤ x) (h1 : 0 ≤ y) (h2 : 0 ≤ c) (h3 : x + c ≤ n) (h4 : y + c ≤ m) : cpL σ δ a (ii x) b (ii y) (ii c) = some (δ.1, uR δ.2 b (va_cpy (δ.2 a) (δ.2 b) x.toNat y.toNat c.toNat)) := by
  obtain ⟨a1, a2, a3⟩ := ha
  obtain ⟨b1, b2, b3⟩ := hb
  unfold cpL
  rw [ii_nat h0 (by omega), ii_nat h1 (by omega), ii_nat h2 (by omega), if_pos ⟨⟨a1, b1⟩, ⟨nn_lt h0 (by omega), nn_lt h1 (by omega), nn_lt h2 (by omega)⟩, by omega, by omega⟩]
theorem cpZ_kd {σ : St} {δ : Dy} {a b n m : Nat} {x y c : Int} (ha : KD σ a 101 n) (hb : KD σ b 101 m) (h0 : 0 ≤ x) (h1 : 0 ≤ y) (h2 : 0 ≤ c) (h3 : x + c ≤ n) (h4 : y + c ≤ m) (h5 : ∀ k : Nat, δ.1 a k = 0 ∨ δ.1 a k = 1) : cpZ σ δ a (ii x) b (ii y) (ii c) = some (uR δ.1 b (va_cpy (δ.1 a) (δ.1 b) x.toNat y.toNat c.toNat), δ.2) := by
  obtain ⟨a1, a2, a3⟩ := ha
  obtain ⟨b1, b2, b3⟩ := hb
  unfold cpZ
  rw [ii_nat h0 (by omega), ii_nat h1 (by omega), ii_nat h2 (by omega), if_pos ⟨⟨⟨a1, b1⟩, ⟨nn_lt h0 (by omega), nn_lt h1 (by omega), nn_lt h2 (by omega)⟩, by omega, by omega⟩, fun i _ => h5 _⟩]
