section
variable {σ : St} {δ : Dy} {mo g : Nat} {E : Ev} {S : Sto} {a : Ag} {t m : Int}
theorem zo_bi (b : Bool) : zo (bi b) = some () := by cases b <;> rfl
end
