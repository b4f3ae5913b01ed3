/-! FILLS; RULES; matching -/
section
variable {σ : St} {δ : Dy}
theorem fillI {a n : Nat} {v : Int32} (ha : KD σ a 100 n) : Ok (m_J7_fill_53178 σ a v δ) (fun d => (∀ z : Int, 0 ≤ z → z < n → d.1 a z.toNat = v) ∧ (∀ r, ¬ r = a → d.1 r = δ.1 r) ∧ d.2 = δ.2) := by
  have hn : n ≤ 1000000 := ha.2.2
  unfold m_J7_fill_53178
  rw [aln_kd ha, Option.bind_some]
  unfold m_J7_fill_53178_b5
  refine Ok_for (fun z s => s.1 = ii z ∧ (∀ y : Int, 0 ≤ y → y < z → s.2.1 a y.toNat = v) ∧ (∀ r, ¬ r = a → s.2.1 r = δ.1 r) ∧ s.2.2 = δ.2) 0 n (by omega) (by omega) ?_ ?_ ⟨rfl, fun y y0 y1 => by omega, fun _ _ => rfl, rfl⟩
  · rintro z ⟨s1, d⟩ z0 z1 ⟨hs, h1, h2, h3⟩
    dsimp only at hs h1 h2 h3 ⊢
    subst hs
    refine Ok_inl (s' := (ii (z + 1), (u2 d.1 a z.toNat v, d.2))) (by simp (disch := omega) only [↓reduceIte, ii_lit, ii_add, ii_sub, ii_mul, ii_neg, ii_lt, ii_le, ii_eq, if_pos, if_neg, Option.bind_some, wI_kd ha]) ⟨rfl, fun y y0 y1 => ?_, fun r hr => ?_, h3⟩
    · by_cases hy : y = z
      · subst hy
        simp only [u2, and_self, ↓reduceIte]
      · simp (disch := omega) only [u2, if_neg]
        exact h1 y y0 (by omega)
    · show u2 d.1 a z.toNat v r = _
      rw [u2_ne hr, h2 r hr]
  · rintro ⟨s1, d⟩ ⟨hs, h1, h2, h3⟩
    dsimp only at hs h1 h2 h3 ⊢
    subst hs
    exact Ok_inr (r := d) (by simp (disch := omega) only [↓reduceIte, ii_lit, ii_add, ii_sub, ii_mul, ii_neg, ii_lt, ii_le, ii_eq, if_pos, if_neg, Option.bind_some]) ⟨h1, h2, h3⟩
theorem fillL {a n : Nat} {v : Int64} (ha : KD σ a 102 n) : Ok (m_J7_fill_d0a16 σ a v δ) (fun d => (∀ z : Int, 0 ≤ z → z < n → d.2 a z.toNat = v) ∧ (∀ r, ¬ r = a → d.2 r = δ.2 r) ∧ d.1 = δ.1) := by
  have hn : n ≤ 1000000 := ha.2.2
  unfold m_J7_fill_d0a16
  rw [aln_kd ha, Option.bind_some]
  unfold m_J7_fill_d0a16_b6
  refine Ok_for (fun z s => s.1 = ii z ∧ (∀ y : Int, 0 ≤ y → y < z → s.2.2 a y.toNat = v) ∧ (∀ r, ¬ r = a → s.2.2 r = δ.2 r) ∧ s.2.1 = δ.1) 0 n (by omega) (by omega) ?_ ?_ ⟨rfl, fun y y0 y1 => by omega, fun _ _ => rfl, rfl⟩
  · rintro z ⟨s1, d⟩ z0 z1 ⟨hs, h1, h2, h3⟩
    dsimp only at hs h1 h2 h3 ⊢
    subst hs
    refine Ok_inl (s' := (ii (z + 1), (d.1, u2 d.2 a z.toNat v))) (by simp (disch := omega) only [↓reduceIte, ii_lit, ii_add, ii_sub, ii_mul, ii_neg, ii_lt, ii_le, ii_eq, if_pos, if_neg, Option.bind_some, wLo_kd ha]) ⟨rfl, fun y y0 y1 => ?_, fun r hr => ?_, h3⟩
    · by_cases hy : y = z
      · subst hy
        simp only [u2, and_self, ↓reduceIte]
      · simp (disch := omega) only [u2, if_neg]
        exact h1 y y0 (by omega)
    · show u2 d.2 a z.toNat v r = _
      rw [u2_ne hr, h2 r hr]
  · rintro ⟨s1, d⟩ ⟨hs, h1, h2, h3⟩
    dsimp only at hs h1 h2 h3 ⊢
    subst hs
    exact Ok_inr (r := d) (by simp (disch := omega) only [↓reduceIte, ii_lit, ii_add, ii_sub, ii_mul, ii_neg, ii_lt, ii_le, ii_eq, if_pos, if_neg, Option.bind_some]) ⟨h1, h2, h3⟩
end
/-- a rule: heads, sorts, patterns, which stay, bodies, their sorts and terms, guard -/
abbrev Rl : Type := Int × (Int → Int) × (Int → Int) × (Int → Bool) × Int × (Int → Int) × (Int → Int) × Bool × Int × Int × Int
abbrev l_hd (R : Rl) : Int := R.1
abbrev l_so (R : Rl) : Int → Int := R.2.1
abbrev l_pa (R : Rl) : Int → Int := R.2.2.1
abbrev l_sy (R : Rl) : Int → Bool := R.2.2.2.1
abbrev l_nb (R : Rl) : Int := R.2.2.2.2.1
abbrev l_bs (R : Rl) : Int → Int := R.2.2.2.2.2.1
abbrev l_bt (R : Rl) : Int → Int := R.2.2.2.2.2.2.1
abbrev l_gd (R : Rl) : Bool := R.2.2.2.2.2.2.2.1
abbrev l_gc (R : Rl) : Int := R.2.2.2.2.2.2.2.2.1
abbrev l_ga (R : Rl) : Int := R.2.2.2.2.2.2.2.2.2.1
abbrev l_gb (R : Rl) : Int := R.2.2.2.2.2.2.2.2.2.2
def slot (t : Int) : Prop := 200 ≤ t ∧ t < 204
def valu (t : Int) : Prop := -99 ≤ t ∧ t ≤ 99
/-- the slot t stands in a head -/
def bnd (R : Rl) (t : Int) : Prop := slot t ∧ ∃ p, 0 ≤ p ∧ p < 2 * l_hd R ∧ l_pa R p = t
def GR (R : Rl) : Prop := (1 ≤ l_hd R ∧ l_hd R ≤ 2) ∧ (∀ z, 0 ≤ z → z < l_hd R → 0 ≤ l_so R z ∧ l_so R z ≤ 5) ∧ (∀ p, 0 ≤ p → p < 2 * l_hd R → valu (l_pa R p) ∨ slot (l_pa R p) ∨ l_pa R p = 300) ∧ (0 ≤ l_nb R ∧ l_nb R ≤ 2) ∧ (∀ z, 0 ≤ z → z < l_nb R → -1 ≤ l_bs R z ∧ l_bs R z ≤ 5) ∧ (∀ z, 0 ≤ z → z < 2 * l_nb R → valu (l_bt R z) ∨ bnd R (l_bt R z)) ∧ (l_gd R = true → ((0 ≤ l_gc R ∧ l_gc R ≤ 3) ∨ (10 ≤ l_gc R ∧ l_gc R ≤ 15)) ∧ (valu (l_ga R) ∨ bnd R (l_ga R)) ∧ (valu (l_gb R) ∨ bnd R (l_gb R)))
/-- the class's rule at the place ru -/
def KRu (σ : St) (ru : Nat) : Prop := KO σ ru 7 ∧ (srv σ ru 0 = some (ru + 1) ∧ srv σ ru 1 = some (ru + 2) ∧ srv σ ru 2 = some (ru + 3) ∧ srv σ ru 3 = some (ru + 4) ∧ srv σ ru 4 = some (ru + 5)) ∧ KD σ (ru + 1) 100 2 ∧ KD σ (ru + 2) 100 4 ∧ KD σ (ru + 3) 101 2 ∧ KD σ (ru + 4) 100 2 ∧ KD σ (ru + 5) 100 4
def RRu (δ : Dy) (ru : Nat) (R : Rl) : Prop := δ.1 ru 5 = ii (l_hd R) ∧ (∀ z : Int, 0 ≤ z → z < l_hd R → δ.1 (ru + 1) z.toNat = ii (l_so R z)) ∧ (∀ z : Int, 0 ≤ z → z < 2 * l_hd R → δ.1 (ru + 2) z.toNat = ii (l_pa R z)) ∧ (∀ z : Int, 0 ≤ z → z < l_hd R → δ.1 (ru + 3) z.toNat = bi (l_sy R z)) ∧ δ.1 ru 6 = ii (l_nb R) ∧ (∀ z : Int, 0 ≤ z → z < l_nb R → δ.1 (ru + 4) z.toNat = ii (l_bs R z)) ∧ (∀ z : Int, 0 ≤ z → z < 2 * l_nb R → δ.1 (ru + 5) z.toNat = ii (l_bt R z)) ∧ δ.1 ru 8 = bi (l_gd R) ∧ (l_gd R = true → δ.1 ru 9 = ii (l_gc R) ∧ δ.1 ru 10 = ii (l_ga R) ∧ δ.1 ru 11 = ii (l_gb R))
def resB (bd : Int → Int) (t : Int) : Int := if 200 ≤ t ∧ t < 204 then bd (t - 200) else t
def mstep (S : Sto) (pat arg : Int) (bd : Int → Int) : Option (Int → Int) := if pat = 300 then some bd else if (200 ≤ pat ∧ pat < 204) ∧ bd (pat - 200) = 1000 then some (upf bd (pat - 200) arg) else if form S (resB bd pat) = form S arg then some bd else none
def marg (S : Sto) (one two p : Int) : Int := if p % 2 = 0 then s_fi S (if 2 ≤ p then two else one) else s_se S (if 2 ≤ p then two else one)
def mrun (S : Sto) (R : Rl) (one two : Int) : Nat → Int → (Int → Int) → Option (Int → Int)
  | 0, _, bd => some bd
  | n + 1, p, bd => (mstep S (l_pa R p) (marg S one two p) bd).bind (mrun S R one two n (p + 1))
def guardOk (S : Sto) (R : Rl) (bd : Int → Int) : Bool := !(l_gd R) || entl S (l_gc R) (resB bd (l_ga R)) (resB bd (l_gb R))
def matchR (S : Sto) (R : Rl) (one two : Int) : Option (Int → Int) := (mrun S R one two (2 * l_hd R).toNat 0 (fun _ => 1000)).bind fun bd => if guardOk S R bd = true then some bd else none
def BDr (bd : Int → Int) : Prop := ∀ z, 0 ≤ z → z < 4 → -1000 ≤ bd z ∧ bd z ≤ 1000
theorem resB_rng {bd : Int → Int} (h : BDr bd) {t : Int} (h0 : -1000 ≤ t) (h1 : t ≤ 1000) : -1000 ≤ resB bd t ∧ resB bd t ≤ 1000 := by
  unfold resB
  split
  · exact h _ (by omega) (by omega)
  · omega
/-- the rewriter at the place rw; its store at st, the rules' row at ro -/
def KW (σ : St) (rw st ro : Nat) : Prop := KO σ rw 6 ∧ (srv σ rw 0 = some st ∧ srv σ rw 1 = some ro ∧ srv σ rw 2 = some (rw + 1) ∧ srv σ rw 4 = some (rw + 2) ∧ srv σ rw 5 = some (rw + 3) ∧ srv σ rw 6 = some (rw + 4) ∧ srv σ rw 8 = some (rw + 5)) ∧ KD σ (rw + 1) 105 183 ∧ KD σ (rw + 2) 100 4 ∧ KD σ (rw + 3) 102 1600 ∧ KD σ (rw + 4) 100 60 ∧ KD σ (rw + 5) 100 8 ∧ (∀ i : Nat, i < 183 → srv σ (rw + 1) i = some (rw + 6 + 2 * i) ∧ KO σ (rw + 6 + 2 * i) 3 ∧ srv σ (rw + 6 + 2 * i) 0 = some (rw + 7 + 2 * i) ∧ KD σ (rw + 7 + 2 * i) 100 4)
def RB (δ : Dy) (a : Nat) (bd : Int → Int) : Prop := ∀ z : Int, 0 ≤ z → z < 4 → δ.1 a z.toNat = ii (bd z)
theorem t_resolve {σ : St} {δ : Dy} {a : Nat} {bd : Int → Int} (hK : KD σ a 100 4) (hB : RB δ a bd) {t : Int} (h0 : -1000 ≤ t) (h1 : t ≤ 1000) : m_X6_resolve σ (ii t) a δ = some (ii (resB bd t)) := by
  unfold m_X6_resolve resB
  rw [isSlot_ii (by omega) (by omega)]
  by_cases hs : 200 ≤ t ∧ t < 204
  · have hb := hB (t - 200) (by omega) (by omega)
    rw [decide_eq_true hs, if_pos hs]
    simp (disch := omega) only [↓reduceIte, ii_lit, ii_add, ii_sub, ii_mul, ii_neg, ii_lt, ii_le, ii_eq, if_pos, if_neg, Option.bind_some, bi_t, rI_kd hK, hb]
  · rw [decide_eq_false hs, if_neg hs]
    simp (disch := omega) only [↓reduceIte, ii_lit, ii_add, ii_sub, ii_mul, ii_neg, ii_lt, ii_le, ii_eq, if_pos, if_neg, Option.bind_some, bi_f]
theorem t_removesNone {σ : St} {δ : Dy} {ru : Nat} {R : Rl} (hK : KRu σ ru) (hR : RRu δ ru R) (hG : GR R) : m_X7_removesNone σ ru δ = some (bi (l_sy R 0 && (decide (l_hd R < 2) || l_sy R 1))) := by
  obtain ⟨k0, ⟨k1, k2, k3, k4, k5⟩, d1, d2, d3, d4, d5⟩ := hK
  obtain ⟨r1, r2, r3, r4, r5, r6, r7, r8, r9⟩ := hR
  obtain ⟨⟨g1, g2⟩, -⟩ := hG
  have e0 := r4 0 (by omega) (by omega)
  unfold m_X7_removesNone
  cases h0 : l_sy R 0 with
  | false =>
    rw [h0] at e0
    simp (disch := omega) only [↓reduceIte, ii_lit, ii_add, ii_sub, ii_mul, ii_neg, ii_lt, ii_le, ii_eq, if_pos, if_neg, Option.bind_some, gR_ko k0 k3, rZ_kd d3, e0, bi_f, Bool.false_and]
  | true =>
    rw [h0] at e0
    by_cases h2 : l_hd R < 2
    · rw [decide_eq_true h2]
      simp (disch := omega) only [↓reduceIte, ii_lit, ii_add, ii_sub, ii_mul, ii_neg, ii_lt, ii_le, ii_eq, if_pos, if_neg, Option.bind_some, gR_ko k0 k3, rZ_kd d3, e0, bi_t, gI_ko k0, r1, Bool.true_and, Bool.true_or]
    · have e1 := r4 1 (by omega) (by omega)
      rw [decide_eq_false h2]
      cases h3 : l_sy R 1 <;> rw [h3] at e1 <;> simp (disch := omega) only [↓reduceIte, ii_lit, ii_add, ii_sub, ii_mul, ii_neg, ii_lt, ii_le, ii_eq, if_pos, if_neg, Option.bind_some, gR_ko k0 k3, rZ_kd d3, e0, e1, bi_t, bi_f, gI_ko k0, r1, Bool.true_and, Bool.false_or]
