/-! INTS: Int32 as images of Int; runs of mirrors -/
def ii (z : Int) : Int32 := Int32.ofInt z
theorem ii_add (a b : Int) : ii a + ii b = ii (a + b) := (Int32.ofInt_add a b).symm
theorem ii_sub (a b : Int) : ii a - ii b = ii (a - b) := (Int32.ofInt_sub a b).symm
theorem ii_mul (a b : Int) : ii a * ii b = ii (a * b) := (Int32.ofInt_mul a b).symm
theorem ii_neg (a : Int) : - ii a = ii (-a) := (Int32.ofInt_neg a).symm
theorem ii_lit (n : Nat) : (no_index (OfNat.ofNat n) : Int32) = ii (no_index (OfNat.ofNat n) : Int) := (Int32.ofInt_eq_ofNat (n := n)).symm
theorem ii_toInt {a : Int} (h0 : -2147483648 ≤ a) (h1 : a < 2147483648) : (ii a).toInt = a := Int32.toInt_ofInt_of_le h0 h1
theorem ii_lt {a b : Int} (h0 : -2147483648 ≤ a) (h1 : a < 2147483648) (h2 : -2147483648 ≤ b) (h3 : b < 2147483648) : (ii a < ii b) = (a < b) := by
  rw [Int32.lt_iff_toInt_lt, ii_toInt h0 h1, ii_toInt h2 h3]
theorem ii_le {a b : Int} (h0 : -2147483648 ≤ a) (h1 : a < 2147483648) (h2 : -2147483648 ≤ b) (h3 : b < 2147483648) : (ii a ≤ ii b) = (a ≤ b) := by
  rw [Int32.le_iff_toInt_le, ii_toInt h0 h1, ii_toInt h2 h3]
theorem ii_eq {a b : Int} (h0 : -2147483648 ≤ a) (h1 : a < 2147483648) (h2 : -2147483648 ≤ b) (h3 : b < 2147483648) : (ii a = ii b) = (a = b) := by
  rw [← Int32.toInt_inj, ii_toInt h0 h1, ii_toInt h2 h3]
theorem ii_nat {a : Int} (h0 : 0 ≤ a) (h1 : a < 2147483648) : (ii a).toNatClampNeg = a.toNat := by
  rw [← Int32.toNat_toInt, ii_toInt (by omega) h1]
theorem ii_inb {a : Int} {n : Nat} (h0 : 0 ≤ a) (h1 : a < n) (hn : n ≤ 2147483648) : inb (ii a) n = true := by
  have e0 : (0 : Int32) = ii 0 := rfl
  have h2 : ¬ (ii a < 0) := by
    rw [e0, ii_lt (by omega) (by omega) (by omega) (by omega)]
    omega
  unfold inb
  rw [ii_nat h0 (by omega)]
  simp only [Bool.not_eq_true', Bool.or_eq_false_iff, decide_eq_false_iff_not]
  exact ⟨h2, by omega⟩
theorem ii_div {a b : Int} (h0 : 0 ≤ a) (h1 : a < 2147483648) (h2 : 0 < b) (h3 : b < 2147483648) : ii a / ii b = ii (a / b) := by
  rw [← Int32.toInt_inj, Int32.toInt_div_of_ne_right _ _ (by
    rw [show (-1 : Int32) = ii (-1) from rfl]
    intro h
    rw [ii_eq (by omega) (by omega) (by omega) (by omega)] at h
    omega), ii_toInt (by omega) h1, ii_toInt (by omega) h3]
  have hd : a / b ≤ a := Int.ediv_le_self b h0
  have hd0 : 0 ≤ a / b := Int.ediv_nonneg h0 (by omega)
  rw [ii_toInt (by omega) (by omega), Int.tdiv_eq_ediv_of_nonneg h0]
theorem dvI_ii {a b : Int} (h0 : 0 ≤ a) (h1 : a < 2147483648) (h2 : 0 < b) (h3 : b < 2147483648) : dvI (ii a) (ii b) = some (ii (a / b)) := by
  unfold dvI
  rw [if_neg (by rw [show (0 : Int32) = ii 0 from rfl, ii_eq (by omega) (by omega) (by omega) (by omega)]; omega), ii_div h0 h1 h2 h3]
theorem rmI_ii {a b : Int} (h0 : 0 ≤ a) (h1 : a < 2147483648) (h2 : 0 < b) (h3 : b < 2147483648) : rmI (ii a) (ii b) = some (ii (a % b)) := by
  unfold rmI
  rw [if_neg (by rw [show (0 : Int32) = ii 0 from rfl, ii_eq (by omega) (by omega) (by omega) (by omega)]; omega), ii_div h0 h1 h2 h3, ii_mul, ii_sub]
  congr 2
  have := Int.emod_add_mul_ediv a b
  have h9 : b * (a / b) = a / b * b := Int.mul_comm _ _
  omega
/-- the mirror answers, and so -/
def Ok {α : Type} (m : Option α) (Q : α → Prop) : Prop := ∃ r, m = some r ∧ Q r
theorem Ok_some {α : Type} {v : α} {Q : α → Prop} (h : Q v) : Ok (some v) Q := ⟨v, rfl, h⟩
theorem Ok_bind {α β : Type} {m : Option α} {f : α → Option β} {Q : β → Prop} {v : α} (h : m = some v) (k : Ok (f v) Q) : Ok (m.bind f) Q := by
  rw [h]
  exact k
theorem Ok_call {α β : Type} {m : Option α} {f : α → Option β} {Q1 : α → Prop} {Q : β → Prop} (h : Ok m Q1) (k : ∀ r, Q1 r → Ok (f r) Q) : Ok (m.bind f) Q := by
  obtain ⟨r, e, h1⟩ := h
  exact Ok_bind e (k r h1)
theorem Ok_if {α : Type} {c : Prop} [Decidable c] {a b : Option α} {Q : α → Prop} (h1 : c → Ok a Q) (h2 : ¬ c → Ok b Q) : Ok (if c then a else b) Q := by
  by_cases h : c
  · rw [if_pos h]
    exact h1 h
  · rw [if_neg h]
    exact h2 h
theorem Ok_mono {α : Type} {m : Option α} {Q Q' : α → Prop} (h : Ok m Q) (k : ∀ r, Q r → Q' r) : Ok m Q' := by
  obtain ⟨r, e, h1⟩ := h
  exact ⟨r, e, k r h1⟩
theorem Ok_eq {α : Type} {m : Option α} {v : α} (h : Ok m (fun r => r = v)) : m = some v := by
  obtain ⟨r, e, h1⟩ := h
  rw [e, h1]
theorem Ok_of {α : Type} {m : Option α} {v : α} {Q : α → Prop} (h : m = some v) (k : Q v) : Ok m Q := ⟨v, h, k⟩
/-- a loop: invariant I, measure falls; below the fuel -/
theorem Ok_lp {σ ρ : Type} {f : σ → Option (σ ⊕ ρ)} {Q : ρ → Prop} (I : σ → Prop) (μ : σ → Nat) (hstep : ∀ s, I s → Ok (f s) (PL (fun s' => I s' ∧ μ s' < μ s) Q)) {s : σ} (h0 : I s) (hμ : μ s < 18446744073709551616) : Ok (lp f s) Q := by
  have key : ∀ (n : Nat) (s : σ), I s → μ s < n → Ok (lpF f n s) Q := by
    intro n
    induction n with
    | zero => intro s _ h; omega
    | succ n ih =>
      intro s hI hm
      obtain ⟨x, e, hx⟩ := hstep s hI
      unfold lpF
      rw [e]
      cases x with
      | inl s' => exact ih s' hx.1 (by have := hx.2; omega)
      | inr r => exact ⟨r, rfl, hx⟩
  exact key fuel s h0 hμ
/-- a counting loop: the state at count z is S z -/
theorem Ok_for {σ ρ : Type} {f : σ → Option (σ ⊕ ρ)} {Q : ρ → Prop} (S : Int → σ → Prop) (a b : Int) (hab : a ≤ b) (hbd : b - a < 18446744073709551616) (hstep : ∀ z s, a ≤ z → z < b → S z s → Ok (f s) (PL (S (z + 1)) Q)) (hend : ∀ s, S b s → Ok (f s) (PL (fun _ => False) Q)) {s : σ} (h0 : S a s) : Ok (lp f s) Q := by
  have key : ∀ (n : Nat) (z : Int) (s : σ) (m : Nat), a ≤ z → z ≤ b → (b - z).toNat = n → n < m → S z s → Ok (lpF f m s) Q := by
    intro n
    induction n with
    | zero =>
      intro z s m h1 h2 h3 h4 hS
      obtain ⟨k, rfl⟩ : ∃ k, m = k + 1 := ⟨m - 1, by omega⟩
      have hz : z = b := by omega
      subst hz
      obtain ⟨x, e, hx⟩ := hend s hS
      unfold lpF
      rw [e]
      cases x with
      | inl s' => exact hx.elim
      | inr r => exact ⟨r, rfl, hx⟩
    | succ n ih =>
      intro z s m h1 h2 h3 h4 hS
      obtain ⟨k, rfl⟩ : ∃ k, m = k + 1 := ⟨m - 1, by omega⟩
      obtain ⟨x, e, hx⟩ := hstep z s h1 (by omega) hS
      unfold lpF
      rw [e]
      cases x with
      | inl s' => exact ih (z + 1) s' k (by omega) (by omega) (by omega) (by omega) hx
      | inr r => exact ⟨r, rfl, hx⟩
  exact key (b - a).toNat a s fuel (by omega) hab rfl (by unfold fuel; omega) h0
/-- what stands where -/
def KD (σ : St) (r t n : Nat) : Prop := (r < sn σ ∧ skd σ r = t) ∧ sln σ r = n ∧ n ≤ 1000000
theorem rI_kd {σ : St} {δ : Dy} {r n : Nat} {z : Int} (h : KD σ r 100 n) (h0 : 0 ≤ z) (h1 : z < n) : rI σ δ r (ii z) = some (δ.1 r z.toNat) := by
  obtain ⟨h2, h3, h4⟩ := h
  unfold rI
  rw [h3, if_pos ⟨h2, ii_inb h0 h1 (Nat.le_trans h4 (by decide))⟩, ii_nat h0 (by omega)]
theorem rZ_kd {σ : St} {δ : Dy} {r n : Nat} {z : Int} (h : KD σ r 101 n) (h0 : 0 ≤ z) (h1 : z < n) : rZ σ δ r (ii z) = some (δ.1 r z.toNat) := by
  obtain ⟨h2, h3, h4⟩ := h
  unfold rZ
  rw [h3, if_pos ⟨h2, ii_inb h0 h1 (Nat.le_trans h4 (by decide))⟩, ii_nat h0 (by omega)]
theorem rL_kd {σ : St} {δ : Dy} {r n : Nat} {z : Int} (h : KD σ r 102 n) (h0 : 0 ≤ z) (h1 : z < n) : rL σ δ r (ii z) = some (δ.2 r z.toNat) := by
  obtain ⟨h2, h3, h4⟩ := h
  unfold rL
  rw [h3, if_pos ⟨h2, ii_inb h0 h1 (Nat.le_trans h4 (by decide))⟩, ii_nat h0 (by omega)]
theorem wI_kd {σ : St} {δ : Dy} {r n : Nat} {z : Int} {x : Int32} (h : KD σ r 100 n) (h0 : 0 ≤ z) (h1 : z < n) : wI σ δ r (ii z) x = some (u2 δ.1 r z.toNat x, δ.2) := by
  obtain ⟨h2, h3, h4⟩ := h
  unfold wI
  rw [h3, if_pos ⟨h2, ii_inb h0 h1 (Nat.le_trans h4 (by decide))⟩, ii_nat h0 (by omega)]
theorem wZ_kd {σ : St} {δ : Dy} {r n : Nat} {z : Int} {x : Int32} (h : KD σ r 101 n) (hx : x = 0 ∨ x = 1) (h0 : 0 ≤ z) (h1 : z < n) : wZ σ δ r (ii z) x = some (u2 δ.1 r z.toNat x, δ.2) := by
  obtain ⟨h2, h3, h4⟩ := h
  unfold wZ
  rw [h3, if_pos ⟨⟨h2, ii_inb h0 h1 (Nat.le_trans h4 (by decide))⟩, hx⟩, ii_nat h0 (by omega)]
theorem wLo_kd {σ : St} {δ : Dy} {r n : Nat} {z : Int} {x : Int64} (h : KD σ r 102 n) (h0 : 0 ≤ z) (h1 : z < n) : wLo σ δ r (ii z) x = some (δ.1, u2 δ.2 r z.toNat x) := by
  obtain ⟨h2, h3, h4⟩ := h
  unfold wLo
  rw [h3, if_pos ⟨h2, ii_inb h0 h1 (Nat.le_trans h4 (by decide))⟩, ii_nat h0 (by omega)]
theorem aln_kd {σ : St} {r t n : Nat} (h : KD σ r t n) : aln σ t r = some (ii n) := by
  obtain ⟨h2, h3, h4⟩ := h
  unfold aln
  rw [if_pos h2, h3]
  rfl
/-- an object of class c -/
def KO (σ : St) (r c : Nat) : Prop := r < sn σ ∧ skd σ r = c
theorem gI_ko {σ : St} {δ : Dy} {r c k : Nat} (h : KO σ r c) : gI σ δ c r k = some (δ.1 r k) := if_pos h
theorem gL_ko {σ : St} {δ : Dy} {r c k : Nat} (h : KO σ r c) : gL σ δ c r k = some (δ.2 r k) := if_pos h
theorem chk_ko {σ : St} {r c : Nat} (h : KO σ r c) : chk σ c r = some () := if_pos h
theorem pI_ko {σ : St} {δ : Dy} {r c k : Nat} {x : Int32} (h : KO σ r c) : pI σ δ c r k x = some (u2 δ.1 r k x, δ.2) := if_pos h
theorem pZ_ko {σ : St} {δ : Dy} {r c k : Nat} {x : Int32} (h : KO σ r c) (hx : x = 0 ∨ x = 1) : pZ σ δ c r k x = some (u2 δ.1 r k x, δ.2) := if_pos ⟨h, hx⟩
theorem pL_ko {σ : St} {δ : Dy} {r c k : Nat} {x : Int64} (h : KO σ r c) : pL σ δ c r k x = some (δ.1, u2 δ.2 r k x) := if_pos h
theorem Ok_inl {σ ρ : Type} {m : Option (σ ⊕ ρ)} {s' : σ} {A : σ → Prop} {B : ρ → Prop} (h : m = some (.inl s')) (k : A s') : Ok m (PL A B) := ⟨_, h, k⟩
theorem Ok_inr {σ ρ : Type} {m : Option (σ ⊕ ρ)} {r : ρ} {A : σ → Prop} {B : ρ → Prop} (h : m = some (.inr r)) (k : B r) : Ok m (PL A B) := ⟨_, h, k⟩
