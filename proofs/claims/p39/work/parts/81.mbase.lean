section
variable {σ : St} {δ : Dy} {mo : Nat}
theorem rst {a n : Nat} {z : Int} {k : Nat} {v : Int32} (hK : KD σ a 100 n) (h0 : 0 ≤ z) (h1 : z < n) (hz : z.toNat = k) (h : δ.1 a k = v) : rI σ δ a (ii z) = some v := by
  rw [rI_kd hK h0 h1, hz, h]
end
def vaM (S : Sto) (t : Int) : Int := if t < 400 then t else s_va S (s_cl S (t - 400))
