section
variable {σ : St} {δ d : Dy} {mo p3 k : Nat} {E : Ev} {bd : Bool} {R : Rl} {I : Iw} {jr : List Jn}
theorem ends_same {n0 : Nat} {v w : Int} (hT : (∃ r es, r ≤ 8 ∧ Done E I n0 r es ∧ v = (es.length : Nat)) ∨ (v = -1 ∧ ∃ ch es, Rnds E I n0 8 ch es)) (hM : (∃ r es, r ≤ 8 ∧ Done E I n0 r es ∧ w = (es.length : Nat)) ∨ (w = -1 ∧ ∃ ch es, Rnds E I n0 8 ch es)) : v = w := by
  rcases hT with ⟨r, es, h8, hD, hv⟩ | ⟨hv, ch, es, hR⟩
  · rcases hM with ⟨r', es', h8', hD', hw⟩ | ⟨hw, ch', es', hR'⟩
    · rw [hv, hw, Done_uni hD hD']
    · exact (Done_Rnds hD hR' h8).elim
  · rcases hM with ⟨r', es', h8', hD', hw⟩ | ⟨hw, ch', es', hR'⟩
    · exact (Done_Rnds hD' hR h8').elim
    · rw [hv, hw]
end
