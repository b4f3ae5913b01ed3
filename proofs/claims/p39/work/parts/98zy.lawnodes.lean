section
variable {σ : St} {δ : Dy} {mo p3 k : Nat} {E F : Ev} {a b c p q s : Int}
theorem gNode_ag (h : AgE E F) : gNode F p ↔ gNode E p := by
  unfold gNode
  rw [h.1]
end
