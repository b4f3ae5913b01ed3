/-! THE STORE, as it is meant: variables, their classes and values, tokens -/
abbrev Sto : Type := Int × (Int → Int) × (Int → Int) × Int × (Int → Int) × (Int → Int) × (Int → Int) × (Int → Bool) × (Int → Bool) × (Int → Nat → Bool)
abbrev s_nv (S : Sto) : Int := S.1
abbrev s_cl (S : Sto) : Int → Int := S.2.1
abbrev s_va (S : Sto) : Int → Int := S.2.2.1
abbrev s_nt (S : Sto) : Int := S.2.2.2.1
abbrev s_so (S : Sto) : Int → Int := S.2.2.2.2.1
abbrev s_fi (S : Sto) : Int → Int := S.2.2.2.2.2.1
abbrev s_se (S : Sto) : Int → Int := S.2.2.2.2.2.2.1
abbrev s_sd (S : Sto) : Int → Bool := S.2.2.2.2.2.2.2.1
abbrev s_la (S : Sto) : Int → Bool := S.2.2.2.2.2.2.2.2.1
abbrev s_sl (S : Sto) : Int → Nat → Bool := S.2.2.2.2.2.2.2.2.2
def upf {α : Type} (f : Int → α) (z : Int) (v : α) : Int → α := fun y => if y = z then v else f y
def bi (b : Bool) : Int32 := if b = true then 1 else 0
theorem bi_ii (b : Bool) : bi b = ii (if b = true then 1 else 0) := by cases b <;> rfl
theorem bi_t : bi true = ii 1 := rfl
theorem bi_f : bi false = ii 0 := rfl
theorem bi_01 (b : Bool) : bi b = 0 ∨ bi b = 1 := by cases b <;> decide
theorem bi_eq0 (b : Bool) : (bi b = ii 0) = (b = false) := by cases b <;> simp [bi] <;> decide
theorem bi_eq1 (b : Bool) : (bi b = ii 1) = (b = true) := by cases b <;> simp [bi] <;> decide
/-- a term that stands for something: a value, or one of n variables -/
def tm (n x : Int) : Prop := (-99 ≤ x ∧ x ≤ 99) ∨ (400 ≤ x ∧ x < 400 + n)
def GS (S : Sto) : Prop := (0 ≤ s_nv S ∧ s_nv S ≤ 60 ∧ 0 ≤ s_nt S ∧ s_nt S ≤ 100) ∧ (∀ v, 0 ≤ v → v < s_nv S → 0 ≤ s_cl S v ∧ s_cl S v < s_nv S) ∧ (∀ v, 0 ≤ v → v < s_nv S → -99 ≤ s_va S v ∧ s_va S v ≤ 100) ∧ (∀ t, 0 ≤ t → t < s_nt S → 0 ≤ s_so S t ∧ s_so S t ≤ 5) ∧ (∀ t, 0 ≤ t → t < s_nt S → tm (s_nv S) (s_fi S t)) ∧ (∀ t, 0 ≤ t → t < s_nt S → tm (s_nv S) (s_se S t))
def form (S : Sto) (t : Int) : Int := if t - 400 < 0 then t else if t - 400 < s_nv S then (if s_va S (s_cl S (t - 400)) = 100 then 400 + s_cl S (t - 400) else s_va S (s_cl S (t - 400))) else t
def rootOf (S : Sto) (t : Int) : Int := if t - 400 < 0 then -1 else if t - 400 < s_nv S then s_cl S (t - 400) else -1
/-- the first z at which P, from z on, n of them; or -1 -/
def fnd (P : Int → Bool) : Nat → Int → Int
  | 0, _ => -1
  | n + 1, z => if P z = true then z else fnd P n (z + 1)
theorem fnd_hit {P : Int → Bool} : ∀ (n : Nat) (a r : Int), a ≤ r → r < a + n → P r = true → (∀ z, a ≤ z → z < r → P z = false) → fnd P n a = r := by
  intro n
  induction n with
  | zero => intro a r h1 h2; omega
  | succ n ih =>
    intro a r h1 h2 h3 h4
    unfold fnd
    by_cases hr : a = r
    · subst hr
      rw [if_pos h3]
    · rw [if_neg (by rw [h4 a (Int.le_refl _) (by omega)]; decide)]
      exact ih (a + 1) r (by omega) (by omega) h3 (fun z h5 h6 => h4 z (by omega) h6)
theorem fnd_no {P : Int → Bool} : ∀ (n : Nat) (a : Int), (∀ z, a ≤ z → z < a + n → P z = false) → fnd P n a = -1 := by
  intro n
  induction n with
  | zero => intro a _; rfl
  | succ n ih =>
    intro a h4
    unfold fnd
    rw [if_neg (by rw [h4 a (Int.le_refl _) (by omega)]; decide)]
    exact ih (a + 1) (fun z h5 h6 => h4 z (by omega) (by omega))
theorem fnd_spec {P : Int → Bool} : ∀ (n : Nat) (a : Int), (fnd P n a = -1 ∧ ∀ z, a ≤ z → z < a + n → P z = false) ∨ (a ≤ fnd P n a ∧ fnd P n a < a + n ∧ P (fnd P n a) = true ∧ ∀ z, a ≤ z → z < fnd P n a → P z = false) := by
  intro n
  induction n with
  | zero => intro a; exact Or.inl ⟨rfl, fun z h1 h2 => by omega⟩
  | succ n ih =>
    intro a
    unfold fnd
    by_cases h : P a = true
    · rw [if_pos h]
      exact Or.inr ⟨Int.le_refl _, by omega, h, fun z h1 h2 => by omega⟩
    · rw [if_neg h]
      have h' : P a = false := by simpa using h
      rcases ih (a + 1) with ⟨h1, h2⟩ | ⟨h1, h2, h3, h4⟩
      · exact Or.inl ⟨h1, fun z h5 h6 => by
          by_cases hz : z = a
          · rw [hz]; exact h'
          · exact h2 z (by omega) (by omega)⟩
      · exact Or.inr ⟨by omega, by omega, h3, fun z h5 h6 => by
          by_cases hz : z = a
          · rw [hz]; exact h'
          · exact h4 z (by omega) (by omega)⟩
def isTok (S : Sto) (w l r : Int) (z : Int) : Bool := s_sd S z && (decide (s_so S z = w) && (decide (form S (s_fi S z) = l) && decide (form S (s_se S z) = r)))
def lowest (S : Sto) (w a b : Int) : Int := fnd (isTok S w (form S a) (form S b)) (s_nt S).toNat 0
def entl (S : Sto) (c a b : Int) : Bool := if c < 10 then (if c = 0 then decide (form S a = form S b) else if c = 1 then decide (form S a < 400 ∧ form S b < 400 ∧ ¬ form S a = form S b) else if c = 2 then decide (form S a < 400 ∧ form S b < 400 ∧ form S a < form S b) else decide (form S a < 400)) else decide (¬ lowest S (c - 10) a b = -1)
theorem form_rng {S : Sto} (hG : GS S) {t : Int} (h0 : -100000 ≤ t) (h1 : t ≤ 100000) : -100000 ≤ form S t ∧ form S t ≤ 100000 := by
  obtain ⟨⟨g1, g2, g3, g4⟩, g5, g6, -⟩ := hG
  unfold form
  by_cases ha : t - 400 < 0
  · rw [if_pos ha]; omega
  · rw [if_neg ha]
    by_cases hb : t - 400 < s_nv S
    · rw [if_pos hb]
      have h5 := g5 (t - 400) (by omega) hb
      have h6 := g6 _ h5.1 h5.2
      split <;> omega
    · rw [if_neg hb]; omega
/-! the class's store at the place st -/
def KS (σ : St) (st : Nat) : Prop := KO σ st 8 ∧ (srv σ st 0 = some (st + 1) ∧ srv σ st 1 = some (st + 2) ∧ srv σ st 3 = some (st + 3) ∧ srv σ st 4 = some (st + 4) ∧ srv σ st 5 = some (st + 5) ∧ srv σ st 6 = some (st + 6) ∧ srv σ st 7 = some (st + 7) ∧ srv σ st 8 = some (st + 8) ∧ srv σ st 9 = some (st + 9)) ∧
  KD σ (st + 1) 100 60 ∧ KD σ (st + 2) 100 60 ∧ KD σ (st + 3) 100 100 ∧ KD σ (st + 4) 100 100 ∧ KD σ (st + 5) 100 100 ∧ KD σ (st + 6) 101 100 ∧ KD σ (st + 7) 101 100 ∧ KD σ (st + 8) 102 100 ∧ KD σ (st + 9) 102 100
theorem gR_ko {σ : St} {r c k x : Nat} (h : KO σ r c) (hs : srv σ r k = some x) : gR σ c r k = some x := (if_pos h).trans hs
/-- slices of 128 bits in two longs -/
def B64 (lo hi : Int64) (f : Nat → Bool) : Prop := ∀ t : Nat, t < 64 → lo.toBitVec.getLsbD t = f t ∧ hi.toBitVec.getLsbD t = f (64 + t)
def RS (δ : Dy) (st : Nat) (S : Sto) (ac : Int) (fl : Bool) : Prop := δ.1 st 2 = ii (s_nv S) ∧ δ.1 st 10 = ii (s_nt S) ∧ (∀ z : Int, 0 ≤ z → z < s_nv S → δ.1 (st + 1) z.toNat = ii (s_cl S z)) ∧ (∀ z : Int, 0 ≤ z → z < s_nv S → δ.1 (st + 2) z.toNat = ii (s_va S z)) ∧ (∀ z : Int, 0 ≤ z → z < s_nt S → δ.1 (st + 3) z.toNat = ii (s_so S z)) ∧ (∀ z : Int, 0 ≤ z → z < s_nt S → δ.1 (st + 4) z.toNat = ii (s_fi S z)) ∧ (∀ z : Int, 0 ≤ z → z < s_nt S → δ.1 (st + 5) z.toNat = ii (s_se S z)) ∧ (∀ z : Int, 0 ≤ z → z < s_nt S → δ.1 (st + 6) z.toNat = bi (s_la S z)) ∧ (∀ z : Int, 0 ≤ z → z < s_nt S → δ.1 (st + 7) z.toNat = bi (s_sd S z)) ∧ (∀ z : Int, 0 ≤ z → z < s_nt S → B64 (δ.2 (st + 8) z.toNat) (δ.2 (st + 9) z.toNat) (s_sl S z)) ∧ δ.1 st 11 = ii ac ∧ δ.1 st 12 = bi fl ∧ (∀ k : Nat, δ.1 (st + 6) k = 0 ∨ δ.1 (st + 6) k = 1) ∧ (∀ k : Nat, δ.1 (st + 7) k = 0 ∨ δ.1 (st + 7) k = 1)
/-- only what P names is written -/
def Fr (P : Nat → Prop) (δ δ' : Dy) : Prop := ∀ r : Nat, ¬ P r → δ'.1 r = δ.1 r ∧ δ'.2 r = δ.2 r
theorem Fr.rf {P : Nat → Prop} {δ : Dy} : Fr P δ δ := fun _ _ => ⟨rfl, rfl⟩
theorem Fr.tr {P : Nat → Prop} {δ δ1 δ2 : Dy} (h : Fr P δ δ1) (k : Fr P δ1 δ2) : Fr P δ δ2 := fun r hr => ⟨(k r hr).1.trans (h r hr).1, (k r hr).2.trans (h r hr).2⟩
theorem Fr.wk {P P' : Nat → Prop} {δ δ1 : Dy} (h : Fr P δ δ1) (k : ∀ r, P r → P' r) : Fr P' δ δ1 := fun r hr => h r (fun z => hr (k r z))
def blk (a n : Nat) : Nat → Prop := fun r => a ≤ r ∧ r < a + n
section
variable {σ : St} {δ : Dy} {st : Nat} {S : Sto} {ac : Int} {fl : Bool}
theorem t_form (hK : KS σ st) (hR : RS δ st S ac fl) (hG : GS S) {t : Int} (h0 : -100000 ≤ t) (h1 : t ≤ 100000) : m_X8_form σ st (ii t) δ = some (ii (form S t)) := by
  obtain ⟨k0, ⟨k1, k2, k3, k4, k5, k6, k7, k8, k9⟩, d1, d2, d3, d4, d5, d6, d7, d8, d9⟩ := hK
  obtain ⟨r1, r2, r3, r4, r5, r6, r7, r8, r9, r10, r11, r12, r13, r14⟩ := hR
  obtain ⟨⟨g1, g2, g3, g4⟩, g5, g6, g7, g8, g9⟩ := hG
  unfold m_X8_form form
  by_cases ha : t - 400 < 0
  · simp (disch := omega) only [↓reduceIte, ii_lit, ii_add, ii_sub, ii_mul, ii_neg, ii_lt, ii_le, ii_eq, if_pos, if_neg, Option.bind_some]
  · by_cases hb : t - 400 < s_nv S
    · have h5 := g5 (t - 400) (by omega) hb
      have h6 := g6 _ h5.1 h5.2
      by_cases hc : s_va S (s_cl S (t - 400)) = 100
      · simp (disch := omega) only [↓reduceIte, ii_lit, ii_add, ii_sub, ii_mul, ii_neg, ii_lt, ii_le, ii_eq, if_pos, if_neg, Option.bind_some, gI_ko k0, chk_ko k0, pI_ko k0, gR_ko k0 k1, gR_ko k0 k2, gR_ko k0 k3, gR_ko k0 k4, gR_ko k0 k5, gR_ko k0 k6, gR_ko k0 k7, gR_ko k0 k8, gR_ko k0 k9, rI_kd d1, rI_kd d2, rI_kd d3, rI_kd d4, rI_kd d5, rZ_kd d6, rZ_kd d7, rL_kd d8, rL_kd d9, r1, r2, r3, r4, r5, r6, r7, r8, r9, r11, r12]
      · simp (disch := omega) only [↓reduceIte, ii_lit, ii_add, ii_sub, ii_mul, ii_neg, ii_lt, ii_le, ii_eq, if_pos, if_neg, Option.bind_some, gI_ko k0, chk_ko k0, pI_ko k0, gR_ko k0 k1, gR_ko k0 k2, gR_ko k0 k3, gR_ko k0 k4, gR_ko k0 k5, gR_ko k0 k6, gR_ko k0 k7, gR_ko k0 k8, gR_ko k0 k9, rI_kd d1, rI_kd d2, rI_kd d3, rI_kd d4, rI_kd d5, rZ_kd d6, rZ_kd d7, rL_kd d8, rL_kd d9, r1, r2, r3, r4, r5, r6, r7, r8, r9, r11, r12]
    · simp (disch := omega) only [↓reduceIte, ii_lit, ii_add, ii_sub, ii_mul, ii_neg, ii_lt, ii_le, ii_eq, if_pos, if_neg, Option.bind_some, gI_ko k0, chk_ko k0, pI_ko k0, gR_ko k0 k1, gR_ko k0 k2, gR_ko k0 k3, gR_ko k0 k4, gR_ko k0 k5, gR_ko k0 k6, gR_ko k0 k7, gR_ko k0 k8, gR_ko k0 k9, rI_kd d1, rI_kd d2, rI_kd d3, rI_kd d4, rI_kd d5, rZ_kd d6, rZ_kd d7, rL_kd d8, rL_kd d9, r1, r2, r3, r4, r5, r6, r7, r8, r9, r11, r12]
theorem t_rootOf (hK : KS σ st) (hR : RS δ st S ac fl) (hG : GS S) {t : Int} (h0 : -100000 ≤ t) (h1 : t ≤ 100000) : m_X8_rootOf σ st (ii t) δ = some (ii (rootOf S t)) := by
  obtain ⟨k0, ⟨k1, k2, k3, k4, k5, k6, k7, k8, k9⟩, d1, d2, d3, d4, d5, d6, d7, d8, d9⟩ := hK
  obtain ⟨r1, r2, r3, r4, r5, r6, r7, r8, r9, r10, r11, r12, r13, r14⟩ := hR
  obtain ⟨⟨g1, g2, g3, g4⟩, g5, g6, g7, g8, g9⟩ := hG
  unfold m_X8_rootOf rootOf
  by_cases ha : t - 400 < 0
  · simp (disch := omega) only [↓reduceIte, ii_lit, ii_add, ii_sub, ii_mul, ii_neg, ii_lt, ii_le, ii_eq, if_pos, if_neg, Option.bind_some]
  · by_cases hb : t - 400 < s_nv S
    · simp (disch := omega) only [↓reduceIte, ii_lit, ii_add, ii_sub, ii_mul, ii_neg, ii_lt, ii_le, ii_eq, if_pos, if_neg, Option.bind_some, gI_ko k0, chk_ko k0, pI_ko k0, gR_ko k0 k1, gR_ko k0 k2, gR_ko k0 k3, gR_ko k0 k4, gR_ko k0 k5, gR_ko k0 k6, gR_ko k0 k7, gR_ko k0 k8, gR_ko k0 k9, rI_kd d1, rI_kd d2, rI_kd d3, rI_kd d4, rI_kd d5, rZ_kd d6, rZ_kd d7, rL_kd d8, rL_kd d9, r1, r2, r3, r4, r5, r6, r7, r8, r9, r11, r12]
    · simp (disch := omega) only [↓reduceIte, ii_lit, ii_add, ii_sub, ii_mul, ii_neg, ii_lt, ii_le, ii_eq, if_pos, if_neg, Option.bind_some, gI_ko k0, chk_ko k0, pI_ko k0, gR_ko k0 k1, gR_ko k0 k2, gR_ko k0 k3, gR_ko k0 k4, gR_ko k0 k5, gR_ko k0 k6, gR_ko k0 k7, gR_ko k0 k8, gR_ko k0 k9, rI_kd d1, rI_kd d2, rI_kd d3, rI_kd d4, rI_kd d5, rZ_kd d6, rZ_kd d7, rL_kd d8, rL_kd d9, r1, r2, r3, r4, r5, r6, r7, r8, r9, r11, r12]
theorem tm_rng {n x : Int} (h : tm n x) (hn : n ≤ 60) : -99 ≤ x ∧ x < 460 := by
  unfold tm at h
  omega
theorem t_lowest (hK : KS σ st) (hR : RS δ st S ac fl) (hG : GS S) {w a b : Int} (h0 : -100000 ≤ a) (h1 : a ≤ 100000) (h2 : -100000 ≤ b) (h3 : b ≤ 100000) (h4 : 0 ≤ w) (h5 : w ≤ 10) : m_X8_lowest σ st (ii w) (ii a) (ii b) δ = some (ii (lowest S w a b)) := by
  have e1 := t_form hK hR hG h0 h1
  have e2 := t_form hK hR hG h2 h3
  have q1 := form_rng hG h0 h1
  have q2 := form_rng hG h2 h3
  have hfo := fun {t : Int} => t_form hK hR hG (t := t)
  have hgo := fun {t : Int} => form_rng hG (t := t)
  obtain ⟨k0, ⟨k1, k2, k3, k4, k5, k6, k7, k8, k9⟩, d1, d2, d3, d4, d5, d6, d7, d8, d9⟩ := hK
  obtain ⟨r1, r2, r3, r4, r5, r6, r7, r8, r9, r10, r11, r12, r13, r14⟩ := hR
  obtain ⟨⟨g1, g2, g3, g4⟩, g5, g6, g7, g8, g9⟩ := hG
  unfold m_X8_lowest lowest
  simp only [chk_ko k0, e1, e2, Option.bind_some]
  generalize form S a = l at q1 ⊢
  generalize form S b = r at q2 ⊢
  unfold m_X8_lowest_b17
  apply Ok_eq
  refine Ok_for (fun z s => s = ii z ∧ ∀ y, 0 ≤ y → y < z → isTok S w l r y = false) 0 (s_nt S) g3 (by omega) ?_ ?_ ⟨rfl, fun y _ _ => by omega⟩
  · rintro z s hz0 hz1 ⟨rfl, hno⟩
    have h7 := g7 z hz0 hz1
    have h8 := tm_rng (g8 z hz0 hz1) g2
    have h9 := tm_rng (g9 z hz0 hz1) g2
    have e3 := hfo (t := s_fi S z) (by omega) (by omega)
    have e4 := hfo (t := s_se S z) (by omega) (by omega)
    have q3 := hgo (t := s_fi S z) (by omega) (by omega)
    have q4 := hgo (t := s_se S z) (by omega) (by omega)
    have hn : isTok S w l r z = false → ∀ y, 0 ≤ y → y < z + 1 → isTok S w l r y = false := fun h y y1 y2 => by
      by_cases hy : y = z
      · rw [hy]; exact h
      · exact hno y y1 (by omega)
    cases hsd : s_sd S z with
    | false => exact Ok_inl (s' := ii (z + 1)) (by simp (disch := omega) only [↓reduceIte, ii_lit, ii_add, ii_sub, ii_mul, ii_neg, ii_lt, ii_le, ii_eq, if_pos, if_neg, Option.bind_some, gI_ko k0, chk_ko k0, pI_ko k0, gR_ko k0 k1, gR_ko k0 k2, gR_ko k0 k3, gR_ko k0 k4, gR_ko k0 k5, gR_ko k0 k6, gR_ko k0 k7, gR_ko k0 k8, gR_ko k0 k9, rI_kd d1, rI_kd d2, rI_kd d3, rI_kd d4, rI_kd d5, rZ_kd d6, rZ_kd d7, rL_kd d8, rL_kd d9, r1, r2, r3, r4, r5, r6, r7, r8, r9, r11, r12, hsd, bi_t, bi_f, m_X8_lowest_b82]) ⟨rfl, hn (by simp only [isTok, hsd, Bool.false_and])⟩
    | true =>
      by_cases c1 : s_so S z = w
      · by_cases c2 : form S (s_fi S z) = l
        · by_cases c3 : form S (s_se S z) = r
          · refine Ok_inr (r := ii z) (by simp (disch := omega) only [↓reduceIte, ii_lit, ii_add, ii_sub, ii_mul, ii_neg, ii_lt, ii_le, ii_eq, if_pos, if_neg, Option.bind_some, gI_ko k0, chk_ko k0, pI_ko k0, gR_ko k0 k1, gR_ko k0 k2, gR_ko k0 k3, gR_ko k0 k4, gR_ko k0 k5, gR_ko k0 k6, gR_ko k0 k7, gR_ko k0 k8, gR_ko k0 k9, rI_kd d1, rI_kd d2, rI_kd d3, rI_kd d4, rI_kd d5, rZ_kd d6, rZ_kd d7, rL_kd d8, rL_kd d9, r1, r2, r3, r4, r5, r6, r7, r8, r9, r11, r12, hsd, bi_t, bi_f, e3, e4]) ?_
            have ht : isTok S w l r z = true := by simp only [isTok, hsd, c1, c2, c3, decide_true, Bool.and_true]
            show ii z = _
            rw [fnd_hit (s_nt S).toNat 0 z hz0 (by omega) ht hno]
          · exact Ok_inl (s' := ii (z + 1)) (by simp (disch := omega) only [↓reduceIte, ii_lit, ii_add, ii_sub, ii_mul, ii_neg, ii_lt, ii_le, ii_eq, if_pos, if_neg, Option.bind_some, gI_ko k0, chk_ko k0, pI_ko k0, gR_ko k0 k1, gR_ko k0 k2, gR_ko k0 k3, gR_ko k0 k4, gR_ko k0 k5, gR_ko k0 k6, gR_ko k0 k7, gR_ko k0 k8, gR_ko k0 k9, rI_kd d1, rI_kd d2, rI_kd d3, rI_kd d4, rI_kd d5, rZ_kd d6, rZ_kd d7, rL_kd d8, rL_kd d9, r1, r2, r3, r4, r5, r6, r7, r8, r9, r11, r12, hsd, bi_t, bi_f, m_X8_lowest_b82, e3, e4]) ⟨rfl, hn (by simp only [isTok, c3, decide_false, Bool.and_false])⟩
        · exact Ok_inl (s' := ii (z + 1)) (by simp (disch := omega) only [↓reduceIte, ii_lit, ii_add, ii_sub, ii_mul, ii_neg, ii_lt, ii_le, ii_eq, if_pos, if_neg, Option.bind_some, gI_ko k0, chk_ko k0, pI_ko k0, gR_ko k0 k1, gR_ko k0 k2, gR_ko k0 k3, gR_ko k0 k4, gR_ko k0 k5, gR_ko k0 k6, gR_ko k0 k7, gR_ko k0 k8, gR_ko k0 k9, rI_kd d1, rI_kd d2, rI_kd d3, rI_kd d4, rI_kd d5, rZ_kd d6, rZ_kd d7, rL_kd d8, rL_kd d9, r1, r2, r3, r4, r5, r6, r7, r8, r9, r11, r12, hsd, bi_t, bi_f, m_X8_lowest_b82, e3]) ⟨rfl, hn (by simp only [isTok, c2, decide_false, Bool.false_and, Bool.and_false])⟩
      · exact Ok_inl (s' := ii (z + 1)) (by simp (disch := omega) only [↓reduceIte, ii_lit, ii_add, ii_sub, ii_mul, ii_neg, ii_lt, ii_le, ii_eq, if_pos, if_neg, Option.bind_some, gI_ko k0, chk_ko k0, pI_ko k0, gR_ko k0 k1, gR_ko k0 k2, gR_ko k0 k3, gR_ko k0 k4, gR_ko k0 k5, gR_ko k0 k6, gR_ko k0 k7, gR_ko k0 k8, gR_ko k0 k9, rI_kd d1, rI_kd d2, rI_kd d3, rI_kd d4, rI_kd d5, rZ_kd d6, rZ_kd d7, rL_kd d8, rL_kd d9, r1, r2, r3, r4, r5, r6, r7, r8, r9, r11, r12, hsd, bi_t, bi_f, m_X8_lowest_b82]) ⟨rfl, hn (by simp only [isTok, c1, decide_false, Bool.false_and, Bool.and_false])⟩
  · rintro s ⟨rfl, hno⟩
    refine Ok_inr (r := ii (-1)) (by simp (disch := omega) only [↓reduceIte, ii_lit, ii_add, ii_sub, ii_mul, ii_neg, ii_lt, ii_le, ii_eq, if_pos, if_neg, Option.bind_some, gI_ko k0, chk_ko k0, pI_ko k0, gR_ko k0 k1, gR_ko k0 k2, gR_ko k0 k3, gR_ko k0 k4, gR_ko k0 k5, gR_ko k0 k6, gR_ko k0 k7, gR_ko k0 k8, gR_ko k0 k9, rI_kd d1, rI_kd d2, rI_kd d3, rI_kd d4, rI_kd d5, rZ_kd d6, rZ_kd d7, rL_kd d8, rL_kd d9, r1, r2, r3, r4, r5, r6, r7, r8, r9, r11, r12]) ?_
    show ii (-1) = _
    rw [fnd_no _ _ (fun z z0 z1 => hno z z0 (by omega))]
end
