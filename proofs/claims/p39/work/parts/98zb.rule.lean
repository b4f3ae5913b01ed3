section
variable {σ : St} {δ d : Dy} {mo p3 k wp : Nat} {E : Ev} {bd kp : Bool} {R : Rl} {I : Iw} {jr : List Jn} {md n : Int}
theorem t_madeI (hK : KO σ (wp + 18) 6) (h : RId δ wp md I) : ∃ d, pI σ δ 6 (wp + 18) 9 (ii n) = some d ∧ RId d wp n I ∧ Fr (fun r => r = wp + 18) δ d := by
  obtain ⟨r1, r2, r3, r4, ⟨r5, r5'⟩, r6, r7, r8, r9, r10⟩ := h
  obtain ⟨d, e, v, o, F⟩ := pI_ex (δ := δ) (r := wp + 18) (k := 9) (x := ii n) hK
  refine ⟨d, e, ⟨RS_of_Fr r1 F (fun r a b => by omega), ?_, by rw [(F (wp + 23) (by omega)).1]; exact r3, v, ⟨by rw [(F (wp + 11) (by omega)).1]; exact r5, ?_⟩, ?_, RQ_of_Fr r7 F (fun r a b => by omega), fun j hj => RLany_of_Fr (r8 j hj) F (fun r a b => by omega), by rw [(F wp (by omega)).1]; exact r9, by rw [(F wp (by omega)).1]; exact r10⟩, F⟩
  · unfold HiR; rw [(F (wp + 21) (by omega)).2]; exact r2
  · unfold RPw; rw [(F (wp + 12) (by omega)).1]; exact r5'
  · unfold RTk; rw [(F (wp + 14) (by omega)).1]; exact r6
end
