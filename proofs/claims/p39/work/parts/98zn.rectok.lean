/-! THE LAW: the class records the tokens of an end -/
theorem sh10 (x : Int32) : x <<< ((10 : Int32) &&& 31) = x * 1024 := by
  apply Int32.toBitVec.inj
  show x.toBitVec <<< (((10 : Int32) &&& 31).toBitVec.smod 32) = x.toBitVec * (1024 : Int32).toBitVec
  rw [show (((10 : Int32) &&& 31).toBitVec.smod 32) = 10#32 from by decide, BitVec.shiftLeft_eq', BitVec.shiftLeft_eq_mul_twoPow]
  rfl
/-- a list lies at a place of an array -/
def lay (δ : Dy) (r off : Nat) (l : List Int) : Prop := ∀ (i : Nat) (x : Int), l[i]? = some x → δ.1 r (off + i) = ii x
/-- only n places of an array are written -/
def CeF (r off n : Nat) (δ d : Dy) : Prop := (∀ q, ¬ (off ≤ q ∧ q < off + n) → d.1 r q = δ.1 r q) ∧ Fr (fun q => q = r) δ d
theorem CeF.rf {r off n : Nat} {δ : Dy} : CeF r off n δ δ := ⟨fun _ _ => rfl, Fr.rf⟩
theorem CeF.tr {r off n : Nat} {a b c : Dy} (h : CeF r off n a b) (k : CeF r off n b c) : CeF r off n a c := ⟨fun q hq => (k.1 q hq).trans (h.1 q hq), h.2.tr k.2⟩
theorem CeF.wk {r off n off' n' : Nat} {a b : Dy} (h : CeF r off n a b) (k : off' ≤ off ∧ off + n ≤ off' + n') : CeF r off' n' a b := ⟨fun q hq => h.1 q (by omega), h.2⟩
theorem CeF_w {r off n k : Nat} {v : Int32} {δ d : Dy} (o : ∀ j, ¬ j = k → d.1 r j = δ.1 r j) (F : Fr (fun q => q = r) δ d) (hk : off ≤ k ∧ k < off + n) : CeF r off n δ d := ⟨fun q hq => o q (by omega), F⟩
theorem lay_CeF {r off n off' : Nat} {l : List Int} {δ d : Dy} (h : lay δ r off' l) (k : CeF r off n δ d) (hd : off' + l.length ≤ off ∨ off + n ≤ off') : lay d r off' l := fun i x hx => by
  have := (List.getElem?_eq_some_iff.mp hx).1
  rw [k.1 _ (by omega)]
  exact h i x hx
/-- a code on its way to its place -/
def INS (δ d : Dy) (r off : Nat) (l : List Int) (x : Int) (k : Nat) : Prop := (∀ (i : Nat) (y : Int), l[i]? = some y → i < k → d.1 r (off + i) = ii y) ∧ (∀ (i : Nat) (y : Int), l[i]? = some y → k ≤ i → d.1 r (off + i + 1) = ii y) ∧ CeF r off (l.length + 1) δ d ∧ posE x l l.length = posE x l k ∧ k ≤ l.length
theorem INS_0 {δ : Dy} {r off : Nat} {l : List Int} {x : Int} (h : lay δ r off l) : INS δ δ r off l x l.length := ⟨fun i y hy _ => h i y hy, fun i y hy hi => absurd (List.getElem?_eq_some_iff.mp hy).1 (by omega), CeF.rf, rfl, Nat.le_refl _⟩
theorem INS_step {δ d d' : Dy} {r off k : Nat} {l : List Int} {x y : Int} (h : INS δ d r off l x (k + 1)) (hy : l[k]? = some y) (hx : ¬ y ≤ x) (v : d'.1 r (off + (k + 1)) = ii y) (o : ∀ j, ¬ j = off + (k + 1) → d'.1 r j = d.1 r j) (F : Fr (fun q => q = r) d d') : INS δ d' r off l x k := by
  obtain ⟨h1, h2, h3, h4, h5⟩ := h
  refine ⟨fun i z hz hi => ?_, fun i z hz hi => ?_, h3.tr (CeF_w (v := ii y) o F (by omega)), ?_, by omega⟩
  · rw [o _ (by omega)]; exact h1 i z hz (by omega)
  · by_cases c : i = k
    · subst c
      rw [hy] at hz
      rw [show off + i + 1 = off + (i + 1) by omega, v, Option.some.inj hz]
    · rw [o _ (by omega)]; exact h2 i z hz (by omega)
  · rw [h4]
    show (if l.getD k 0 ≤ x then k + 1 else posE x l k) = _
    rw [show l.getD k 0 = y by rw [List.getD_eq_getElem?_getD, hy]; rfl, if_neg hx]
theorem INS_end {δ d d' : Dy} {r off k : Nat} {l : List Int} {x : Int} (h : INS δ d r off l x k) (hk : k = 0 ∨ ∃ j y, k = j + 1 ∧ l[j]? = some y ∧ y ≤ x) (v : d'.1 r (off + k) = ii x) (o : ∀ j, ¬ j = off + k → d'.1 r j = d.1 r j) (F : Fr (fun q => q = r) d d') : lay d' r off (insE x l) ∧ CeF r off (l.length + 1) δ d' := by
  obtain ⟨h1, h2, h3, h4, h5⟩ := h
  have hp : posE x l l.length = k := by
    rw [h4]
    rcases hk with hk | ⟨j, y, hj, hy, hx⟩
    · rw [hk]; rfl
    · rw [hj]
      show (if l.getD j 0 ≤ x then j + 1 else posE x l j) = _
      rw [show l.getD j 0 = y by rw [List.getD_eq_getElem?_getD, hy]; rfl, if_pos hx]
  refine ⟨fun i z hz => ?_, h3.tr (CeF_w (v := ii x) o F (by omega))⟩
  unfold insE at hz
  rw [hp, ins_get h5] at hz
  by_cases c : i < k
  · rw [if_pos c] at hz
    rw [o _ (by omega)]; exact h1 i z hz c
  · rw [if_neg c] at hz
    by_cases c2 : i = k
    · rw [if_pos c2] at hz
      rw [c2, v, Option.some.inj hz]
    · rw [if_neg c2] at hz
      rw [o _ (by omega), show off + i = off + (i - 1) + 1 by omega]
      exact h2 (i - 1) z hz (by omega)
section
variable {σ : St} {δ d : Dy} {st : Nat} {S : Sto} {ac : Int} {fl : Bool}
theorem t_ins (hK : KSu σ 9 8) {off : Nat} {l : List Int} {x : Int} {t : Int32} (hoff : off + l.length < 1296) (h : lay δ 12 off l) (hl : ∀ y ∈ l, 0 ≤ y ∧ y < 13000000) (hx : 0 ≤ x ∧ x < 13000000) : Ok (m_X9_recordTokens_b101 σ 9 st (ii off) (ii ((off : Int) + l.length)) t (ii x) (ii ((off : Int) + l.length)) δ) (PL (fun s => s.1 = ii ((off : Int) + l.length + 1) ∧ s.2.1 = t + 1 ∧ lay s.2.2 12 off (insE x l) ∧ CeF 12 off (l.length + 1) δ s.2.2) (fun _ => False)) := by
  obtain ⟨-, k0, ⟨k1, k2, k3⟩, D1, D2, D3⟩ := hK
  have e4 : gR σ 9 9 4 = some 12 := gR_ko k0 k3
  have stop : ∀ (k : Nat) (d : Dy), INS δ d 12 off l x k → (k = 0 ∨ ∃ j y, k = j + 1 ∧ l[j]? = some y ∧ y ≤ x) → ∃ s, m_X9_recordTokens_b143 σ 9 st (ii off) (ii ((off : Int) + l.length)) t (ii x) (ii ((off : Int) + k)) d = some (Sum.inl s) ∧ s.1 = ii ((off : Int) + l.length + 1) ∧ s.2.1 = t + 1 ∧ lay s.2.2 12 off (insE x l) ∧ CeF 12 off (l.length + 1) δ s.2.2 := by
    intro k d hI hk
    have h5 := hI.2.2.2.2
    obtain ⟨d1, w1, v1, o1, F1⟩ := wI_ex (δ := d) (r := 12) (z := (off : Int) + k) (k := off + k) (x := ii x) D3 (by omega) (by omega) (by omega)
    obtain ⟨b1, b2⟩ := INS_end hI hk v1 o1 F1
    refine ⟨(ii ((off : Int) + l.length + 1), t + 1, d1), ?_, rfl, rfl, b1, b2⟩
    unfold m_X9_recordTokens_b143 m_X9_recordTokens_b155
    rw [e4, ob_some, w1, ob_some, show ((1 : Int32)) = ii 1 from rfl, ii_add]
  unfold m_X9_recordTokens_b101
  refine Ok_lpi (fun n s => s.1 = ii ((off : Int) + n) ∧ INS δ s.2 12 off l x n) ?_ (n := l.length) ⟨rfl, INS_0 h⟩ (by omega)
  rintro n ⟨s1, d⟩ ⟨hs, hI⟩
  dsimp only at hs hI ⊢
  subst hs
  have h5 := hI.2.2.2.2
  match n with
  | 0 =>
    obtain ⟨s, e, hs⟩ := stop 0 d hI (Or.inl rfl)
    refine Ok_inr (r := Sum.inl s) ?_ hs
    have c : (ii ((off : Int) + (0 : Nat)) ≤ ii (off : Int)) = True := by
      rw [ii_le (by omega) (by omega) (by omega) (by omega)]
      exact eq_true (by omega)
    simp only [c, ↓reduceIte, e, ob_some]
  | k + 1 =>
    have hk : k < l.length := by omega
    obtain ⟨y, hy⟩ : ∃ y, l[k]? = some y := ⟨_, List.getElem?_eq_getElem hk⟩
    have hyr := hl y (List.mem_of_getElem? hy)
    have c : (ii ((off : Int) + ((k + 1 : Nat) : Int)) ≤ ii (off : Int)) = False := by
      rw [ii_le (by omega) (by omega) (by omega) (by omega)]
      exact eq_false (by omega)
    have a1 : ii ((off : Int) + ((k + 1 : Nat) : Int)) - (1 : Int32) = ii ((off : Int) + k) := by
      rw [show ((1 : Int32)) = ii 1 from rfl, ii_sub]
      exact congrArg ii (by omega)
    have a2 : ii ((off : Int) + ((k + 1 : Nat) : Int)) + (-1 : Int32) = ii ((off : Int) + k) := by
      rw [show ((-1 : Int32)) = ii (-1) from rfl, ii_add]
      exact congrArg ii (by omega)
    have y1 : rI σ d 12 (ii ((off : Int) + k)) = some (ii y) := rst (z := (off : Int) + k) (k := off + k) D3 (by omega) (by omega) (by omega) (hI.1 k y hy (by omega))
    by_cases cx : y ≤ x
    · have c2 : (ii y ≤ ii x) = True := by
        rw [ii_le (by omega) (by omega) (by omega) (by omega)]
        exact eq_true cx
      obtain ⟨s, e, hs⟩ := stop (k + 1) d hI (Or.inr ⟨k, y, rfl, hy, cx⟩)
      refine Ok_inr (r := Sum.inl s) ?_ hs
      simp only [c, ↓reduceIte, e4, ob_some, a1, y1, c2, e]
    · have c2 : (ii y ≤ ii x) = False := by
        rw [ii_le (by omega) (by omega) (by omega) (by omega)]
        exact eq_false cx
      obtain ⟨d1, w1, v1, o1, F1⟩ := wI_ex (δ := d) (r := 12) (z := (off : Int) + ((k + 1 : Nat) : Int)) (k := off + (k + 1)) (x := ii y) D3 (by omega) (by omega) (by omega)
      refine Ok_inl (s' := (ii ((off : Int) + k), d1)) ?_ ⟨k, by omega, rfl, INS_step hI hy cx v1 o1 F1⟩
      simp only [c, ↓reduceIte, e4, ob_some, a1, a2, y1, c2, w1]
end
