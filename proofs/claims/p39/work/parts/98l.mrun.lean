section
variable {σ : St} {δ d : Dy} {mo g n i r : Nat} {E : Ev} {W : Wo} {S : Sto} {a : Ag} {l : Lv} {ls : List Lv} {ch : Nat → Nat} {I : Iw} {st : Int}
theorem pI_ex {c k : Nat} {x : Int32} (h : KO σ r c) : ∃ d, pI σ δ c r k x = some d ∧ d.1 r k = x ∧ (∀ j, ¬ j = k → d.1 r j = δ.1 r j) ∧ Fr (fun q => q = r) δ d := ⟨_, pI_ko h, by simp only [u2, and_self, ↓reduceIte], fun j hj => by simp (disch := omega) only [u2, if_neg], Fr_u2 rfl⟩
theorem wI_ex {z : Int} {k n : Nat} {x : Int32} (h : KD σ r 100 n) (h0 : 0 ≤ z) (h1 : z < n) (hz : z.toNat = k) : ∃ d, wI σ δ r (ii z) x = some d ∧ d.1 r k = x ∧ (∀ j, ¬ j = k → d.1 r j = δ.1 r j) ∧ Fr (fun q => q = r) δ d := by
  subst hz
  exact ⟨_, wI_kd h h0 h1, by simp only [u2, and_self, ↓reduceIte], fun j hj => by simp (disch := omega) only [u2, if_neg], Fr_u2 rfl⟩
end
