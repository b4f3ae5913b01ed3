def R00 : Rl := (0, fun _ => 0, fun _ => 0, fun _ => false, 0, fun _ => 0, fun _ => 0, false, 0, 0, 0)
def E00 : Ev := ((0, fun _ => 0, fun _ => 0, fun _ => 0, fun _ => 0, fun _ => 0, fun _ => 0), fun _ => -1, fun _ => R00, 0)
section
variable {δ : Dy} {F : Ev} {mo : Nat}
theorem E00_ct (h : AgE E00 F) : e_ct F = 0 := h.1
theorem E00_md (h : AgE E00 F) : e_md F = 0 := h.2.1
theorem E00_df (h : AgE E00 F) : e_df F = fun _ => -1 := h.2.2.1
theorem E00_no (h : AgE E00 F) {n : Int} (hn : gNode F n) : False := by
  have h1 : 0 ≤ n ∧ n < e_ct F := hn
  rw [E00_ct h] at h1
  omega
theorem Good00 (h : AgE E00 F) : Good F false R00 I0 := by
  have gE : GE F := by
    refine ⟨by rw [E00_ct h]; omega, by rw [E00_md h]; omega, fun w w0 w1 => ?_, fun d _ _ => Or.inl (by rw [E00_df h]), fun n hn => (E00_no h hn).elim⟩
    rw [E00_md h] at w1
    omega
  have e : stE F (fun _ => -1) 0 = F := by
    obtain ⟨N, df, Rs, md⟩ := F
    have h1 : df = fun _ => -1 := E00_df h
    have h2 : md = 0 := E00_md h
    subst h1
    subst h2
    rfl
  obtain ⟨g1, g2, g3, g4⟩ := (st0_good gE).1
  have g2' : GI (stE F (fun _ => -1) 0) (60 * i_st I0) I0 := g2
  have g3' : XI (stE F (fun _ => -1) 0) (60 * i_st I0) I0 := g3
  rw [e] at g2' g3'
  exact ⟨gE, g2', g3', g4, fun hb => (by cases hb)⟩
theorem RT00 (h : AgE E00 F) (r68 : RId δ 68 0 I0) (r554 : RId δ 554 0 I0) (df : ∀ z : Int, 0 ≤ z → z < 6 → δ.1 (68 + 13) z.toNat = ii (-1)) (z0 : ∀ k, δ.1 0 k = 0) (z16 : δ.1 1 6 = 0) : RT δ F false R00 I0 [] := by
  refine ⟨⟨⟨?_, fun n hn => (E00_no h hn).elim⟩, fun w w0 w1 => ?_, fun d d0 d1 => ?_⟩, ?_, ⟨(z0 7).trans rfl, fun hb => (by cases hb)⟩, ⟨(z0 6).trans rfl, fun j e he => (by have h' : (none : Option Jn) = some e := he; cases h')⟩, 0, I0, r554⟩
  · rw [E00_ct h]; exact z16.trans rfl
  · rw [E00_md h] at w1; omega
  · rw [E00_df h]; exact df d d0 d1
  · rw [E00_md h]; exact r68
end
