/-! THE REWRITER in the class: which firings were -/
section
set_option maxRecDepth 100000 in
theorem hbit_tw : ∀ t : Fin 128, (1 : Int64) <<< (((ii ((t : Nat) : Int)) &&& (63 : Int32)).toInt64 &&& 63) = Int64.ofBitVec (1#64 <<< ((t : Nat) % 64)) := by decide +kernel
def hbt (x : Int) : Int64 := if 0 ≤ x then (1 : Int64) <<< (((ii x) &&& (63 : Int32)).toInt64 &&& 63) else 1
def hro (w o x : Int) : Int := 2 * (100 * w + o) + (if x < 64 then 0 else 1)
theorem hbt_bit {x : Int} (h0 : -1 ≤ x) (h1 : x < 128) (k : Nat) (hk : k < 64) : (hbt x).toBitVec.getLsbD k = decide (k = (mx0 x % 64).toNat) := by
  unfold hbt mx0
  by_cases hx : 0 ≤ x
  · rw [if_pos hx, if_neg (by omega)]
    have h := hbit_tw ⟨x.toNat, by omega⟩
    rw [show (((⟨x.toNat, by omega⟩ : Fin 128) : Nat) : Int) = x by show ((x.toNat : Nat) : Int) = x; omega] at h
    rw [h, Int64.toBitVec_ofBitVec, BitVec.getLsbD_shiftLeft, BitVec.getLsbD_one]
    rw [show (x % 64).toNat = x.toNat % 64 by omega]
    have hm : x.toNat % 64 < 64 := Nat.mod_lt _ (by decide)
    show (decide (k < 64) && !decide (k < x.toNat % 64) && (decide (0 < 64) && decide (k - x.toNat % 64 = 0))) = _
    generalize x.toNat % 64 = m at hm ⊢
    by_cases hz : k = m
    · subst hz
      simp [hk]
    · by_cases hlt : k < m
      · simp [hz, hlt]
      · have hne : ¬ k - m = 0 := by omega
        simp [hz, hne]
  · rw [if_neg hx, if_pos (by omega)]
    show (1 : Int64).toBitVec.getLsbD k = decide (k = 0)
    rw [Int64.toBitVec_one, BitVec.getLsbD_one]
    simp
theorem t_hbit {σ : St} {δ : Dy} {x : Int} (h0 : -1 ≤ x) (h1 : x < 128) : m_X6_historyBit σ (ii x) δ = some (hbt x) := by
  unfold m_X6_historyBit hbt
  by_cases h : 0 ≤ x
  · rw [if_pos h, if_pos (by rw [show (0 : Int32) = ii 0 from ii_lit 0, ii_le (by omega) (by omega) (by omega) (by omega)]; exact h)]
  · rw [if_neg h, if_neg (by rw [show (0 : Int32) = ii 0 from ii_lit 0, ii_le (by omega) (by omega) (by omega) (by omega)]; exact h)]
theorem t_hrow {σ : St} {δ : Dy} {w o x : Int} (h0 : 0 ≤ w ∧ w < 8) (h1 : 0 ≤ o ∧ o < 100) (h2 : -1 ≤ x) (h3 : x < 128) : m_X6_historyRow σ (ii w) (ii o) (ii x) δ = some (ii (hro w o (mx0 x))) := by
  unfold m_X6_historyRow hro mx0
  by_cases h : 64 ≤ x
  · simp (disch := omega) only [↓reduceIte, ii_lit, ii_add, ii_sub, ii_mul, ii_neg, ii_lt, ii_le, ii_eq, if_pos, if_neg, Option.bind_some]
    rw [show 2 * (w * 100 + o) = 2 * (100 * w + o) by omega]
  · by_cases h4 : x < 0
    · simp (disch := omega) only [↓reduceIte, ii_lit, ii_add, ii_sub, ii_mul, ii_neg, ii_lt, ii_le, ii_eq, if_pos, if_neg, Option.bind_some]
      rw [show 2 * (w * 100 + o) = 2 * (100 * w + o) by omega]
    · simp (disch := omega) only [↓reduceIte, ii_lit, ii_add, ii_sub, ii_mul, ii_neg, ii_lt, ii_le, ii_eq, if_pos, if_neg, Option.bind_some]
      rw [show 2 * (w * 100 + o) = 2 * (100 * w + o) by omega]
theorem mx0_rng {x : Int} (h2 : -1 ≤ x) (h3 : x < 128) : 0 ≤ mx0 x ∧ mx0 x < 128 := by
  unfold mx0
  split <;> omega
theorem hro_rng {w o x : Int} (h0 : 0 ≤ w ∧ w < 8) (h1 : 0 ≤ o ∧ o < 100) : 0 ≤ hro w o x ∧ hro w o x < 1600 := by
  unfold hro
  split <;> omega
theorem hro_inj {w o x w' o' x' : Int} (h0 : 0 ≤ w ∧ w < 8) (h1 : 0 ≤ o ∧ o < 100) (h2 : 0 ≤ x ∧ x < 128) (k0 : 0 ≤ w' ∧ w' < 8) (k1 : 0 ≤ o' ∧ o' < 100) (k2 : 0 ≤ x' ∧ x' < 128) : (hro w o x = hro w' o' x' ∧ (x % 64).toNat = (x' % 64).toNat) ↔ (w = w' ∧ o = o' ∧ x = x') := by
  unfold hro
  constructor
  · rintro ⟨h, k⟩
    split at h <;> split at h <;> omega
  · rintro ⟨rfl, rfl, rfl⟩
    exact ⟨rfl, rfl⟩
theorem and_bit {v : Int64} {x : Int} (h0 : -1 ≤ x) (h1 : x < 128) : (v &&& hbt x = 0) = (v.toBitVec.getLsbD (mx0 x % 64).toNat = false) := by
  have hm := mx0_rng h0 h1
  apply propext
  constructor
  · intro h
    have hz := congrArg (fun y : Int64 => y.toBitVec.getLsbD (mx0 x % 64).toNat) h
    simp only [Int64.toBitVec_and, BitVec.getLsbD_and, hbt_bit h0 h1 _ (show (mx0 x % 64).toNat < 64 by omega), decide_true, Bool.and_true, zero_bit] at hz
    exact hz
  · intro h
    apply i64_zero
    intro k hk
    rw [Int64.toBitVec_and, BitVec.getLsbD_and, hbt_bit h0 h1 k hk]
    by_cases hk2 : k = (mx0 x % 64).toNat
    · rw [hk2, h, Bool.false_and]
    · rw [decide_eq_false hk2, Bool.and_false]
theorem HiR_at {δ : Dy} {hr : Nat} {hi : Hst} (h : HiR δ hr hi) {w o x : Int} (h0 : 0 ≤ w ∧ w < 8) (h1 : 0 ≤ o ∧ o < 100) (h2 : 0 ≤ x ∧ x < 128) : (δ.2 hr (hro w o x).toNat).toBitVec.getLsbD (x % 64).toNat = decide ((w, o, x) ∈ hi) := h w o x h0.1 h0.2 h1.1 h1.2 h2.1 h2.2
variable {σ : St} {δ : Dy} {rw st ro base : Nat} {hi : Hst}
theorem t_isNew (hW : KW σ rw st ro) (hH : HiR δ (rw + 3) hi) {w o x : Int} (h0 : 0 ≤ w ∧ w < 8) (h1 : 0 ≤ o ∧ o < 100) (h2 : -1 ≤ x) (h3 : x < 128) : m_X6_isNew σ rw (ii w) (ii o) (ii x) δ = some (bi (!decide ((w, o, mx0 x) ∈ hi))) := by
  obtain ⟨w0, ⟨w1, w2, w3, w4, w5, w6, w7⟩, x1, x2, x3, x4, x5, xf⟩ := hW
  have hm := mx0_rng h2 h3
  have hq := hro_rng (x := mx0 x) h0 h1
  have hb := HiR_at hH h0 h1 hm
  unfold m_X6_isNew
  simp (disch := omega) only [gR_ko w0 w5, Option.bind_some, t_hrow h0 h1 h2 h3, t_hbit h2 h3, rL_kd x3, lg_zero, and_bit h2 h3, hb]
  cases decide ((w, o, mx0 x) ∈ hi)
  · rfl
  · rfl
theorem HiR_u2 {hi' : Hst} (hH : HiR δ (rw + 3) hi) {w o x : Int} (h0 : 0 ≤ w ∧ w < 8) (h1 : 0 ≤ o ∧ o < 100) (h2 : 0 ≤ x ∧ x < 128) {v : Int64} {b : Bool} (hv : ∀ k, k < 64 → v.toBitVec.getLsbD k = if k = (x % 64).toNat then b else (δ.2 (rw + 3) (hro w o x).toNat).toBitVec.getLsbD k) (hb : decide ((w, o, x) ∈ hi') = b) (hm : ∀ e, ¬ e = (w, o, x) → (e ∈ hi' ↔ e ∈ hi)) {f : Nat → Nat → Int32} : HiR (f, u2 δ.2 (rw + 3) (hro w o x).toNat v) (rw + 3) hi' := by
  intro w' o' x' a0 a1 b0 b1 c0 c1
  have q := hro_rng (x := x) h0 h1
  have q' := hro_rng (x := x') ⟨a0, a1⟩ ⟨b0, b1⟩
  have hj := hro_inj h0 h1 h2 ⟨a0, a1⟩ ⟨b0, b1⟩ ⟨c0, c1⟩
  show (u2 δ.2 (rw + 3) (hro w o x).toNat v (rw + 3) (hro w' o' x').toNat).toBitVec.getLsbD _ = _
  by_cases hr : hro w o x = hro w' o' x'
  · rw [← hr]
    rw [show u2 δ.2 (rw + 3) (hro w o x).toNat v (rw + 3) (hro w o x).toNat = v by simp only [u2, and_self, ↓reduceIte]]
    rw [hv _ (by omega)]
    by_cases hk : (x' % 64).toNat = (x % 64).toNat
    · obtain ⟨e1, e2, e3⟩ := hj.mp ⟨hr, hk.symm⟩
      subst e1 e2 e3
      rw [if_pos rfl, hb]
    · rw [if_neg hk, hr, HiR_at hH ⟨a0, a1⟩ ⟨b0, b1⟩ ⟨c0, c1⟩]
      refine decide_eq_decide.mpr (hm _ (fun e => ?_)).symm
      injection e with e1 e2
      injection e2 with e2 e3
      subst e3
      exact hk rfl
  · have hne : ¬ (hro w' o' x').toNat = (hro w o x).toNat := by omega
    rw [show u2 δ.2 (rw + 3) (hro w o x).toNat v (rw + 3) (hro w' o' x').toNat = δ.2 (rw + 3) (hro w' o' x').toNat by simp only [u2, hne, and_false, ↓reduceIte]]
    rw [HiR_at hH ⟨a0, a1⟩ ⟨b0, b1⟩ ⟨c0, c1⟩]
    refine decide_eq_decide.mpr (hm _ (fun e => ?_)).symm
    injection e with e1 e2
    injection e2 with e2 e3
    subst e1 e2 e3
    exact hr rfl
theorem RcR_eq {δ' : Dy} {rc : Nat} (h : RcR δ rc base hi) (e : δ'.1 rc = δ.1 rc) : RcR δ' rc base hi := by
  unfold RcR
  rw [e]
  exact h
theorem t_remember (hW : KW σ rw st ro) (hH : HiR δ (rw + 3) hi) (hb : base ≤ hi.length) (hl : hi.length < base + 60) (h7 : δ.1 rw 7 = ii ((hi.length : Int) - base)) (hc : RcR δ (rw + 4) base hi) {w o x : Int} (h0 : 0 ≤ w ∧ w < 8) (h1 : 0 ≤ o ∧ o < 100) (h2 : -1 ≤ x) (h3 : x < 128) : Ok (m_X6_remember σ rw (ii w) (ii o) (ii x) δ) (fun d => HiR d (rw + 3) (hi ++ [(w, o, mx0 x)]) ∧ RcR d (rw + 4) base (hi ++ [(w, o, mx0 x)]) ∧ d.1 rw 7 = ii (((hi ++ [(w, o, mx0 x)]).length : Int) - base) ∧ (∀ k, ¬ k = 7 → d.1 rw k = δ.1 rw k) ∧ Fr (fun r => r = rw ∨ r = rw + 3 ∨ r = rw + 4) δ d) := by
  obtain ⟨w0, ⟨w1, w2, w3, w4, w5, w6, w7⟩, x1, x2, x3, x4, x5, xf⟩ := hW
  have hm := mx0_rng h2 h3
  have hq := hro_rng (x := mx0 x) h0 h1
  have hmx : (if ii x < ii 0 then ii 0 else ii x) = ii (mx0 x) := by
    unfold mx0
    by_cases hx : x < 0
    · simp (disch := omega) only [↓reduceIte, ii_lit, ii_add, ii_sub, ii_mul, ii_neg, ii_lt, ii_le, ii_eq, if_pos, if_neg, Option.bind_some]
    · simp (disch := omega) only [↓reduceIte, ii_lit, ii_add, ii_sub, ii_mul, ii_neg, ii_lt, ii_le, ii_eq, if_pos, if_neg, Option.bind_some]
  unfold m_X6_remember
  refine ⟨(u2 (u2 δ.1 (rw + 4) ((hi.length : Int) - base).toNat (ii ((w * 100 + o) * 100 + mx0 x))) rw 7 (ii ((hi.length : Int) - base + 1)), u2 δ.2 (rw + 3) (hro w o (mx0 x)).toNat (δ.2 (rw + 3) (hro w o (mx0 x)).toNat ||| hbt x)), ?_, ?_, ?_, ?_, ?_, ?_⟩
  · simp (disch := omega) only [gR_ko w0 w5, gR_ko w0 w6, Option.bind_some, t_hrow h0 h1 h2 h3, t_hbit h2 h3, rL_kd x3, wLo_kd x3, gI_ko w0, h7, ii_lit, ii_le, if_neg, hmx, ii_mul, ii_add, wI_kd x4, u2_ne, pI_ko w0]
  · refine HiR_u2 hH h0 h1 hm (b := true) (fun k hk => ?_) (decide_eq_true (List.mem_append_right _ (List.mem_singleton.mpr rfl))) (fun e he => ?_)
    · rw [Int64.toBitVec_or, BitVec.getLsbD_or, hbt_bit h2 h3 k hk]
      by_cases hk2 : k = (mx0 x % 64).toNat
      · rw [if_pos hk2, decide_eq_true hk2, Bool.or_true]
      · rw [if_neg hk2, decide_eq_false hk2, Bool.or_false]
    · rw [List.mem_append, List.mem_singleton]
      exact ⟨fun h => h.resolve_right he, Or.inl⟩
  · intro j e he
    show u2 (u2 δ.1 (rw + 4) _ _) rw 7 _ (rw + 4) j = _
    rw [u2_ne (by omega)]
    by_cases hj : base + j < hi.length
    · rw [List.getElem?_append_left hj] at he
      simp (disch := omega) only [u2, if_neg]
      exact hc j e he
    · rw [List.getElem?_append_right (by omega)] at he
      have hj2 : base + j - hi.length = 0 := by
        by_cases hz : base + j - hi.length = 0
        · exact hz
        · rw [List.getElem?_eq_none (by simp only [List.length_cons, List.length_nil]; omega)] at he
          cases he
      rw [hj2] at he
      cases he
      have : j = ((hi.length : Int) - base).toNat := by omega
      subst this
      simp only [u2, and_self, ↓reduceIte]
  · simp only [u2, and_self, ↓reduceIte, List.length_append, List.length_cons, List.length_nil]
    congr 1
    omega
  · intro k hk
    simp (disch := omega) only [u2, if_neg]
  · intro r hr
    exact ⟨by simp (disch := omega) only [u2_ne], by simp (disch := omega) only [u2_ne]⟩
end
