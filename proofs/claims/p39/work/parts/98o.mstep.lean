/-- what more stays good between steps -/
def XI (E : Ev) (B : Int) (I : Iw) : Prop := (∀ e ∈ v_hi (i_V I), l_hd (e_Rs E e.1) < 2 → e.2.2 = 0) ∧ ((v_hi (i_V I)).length : Int) ≤ B
section
variable {σ : St} {δ d : Dy} {mo n base : Nat} {E : Ev} {W Wf : Wo} {I : Iw} {ch : Nat → Nat} {st B : Int}
theorem GI_end (hG : GW E base st Wf) (ho : w_ov Wf = true) : GI E (st + 60) (endI Wf) := by
  obtain ⟨g1, g2, g3, g4, g5, g6, g7, g8, g9, g10, g11⟩ := hG
  rw [if_pos ho] at g9
  have hac := g1.2.1
  have hnx : gAs E (v_S (w_V Wf)) (topNx (w_lv Wf)) ∧ ((topNx (w_lv Wf)).length : Int) ≤ 60 := by
    obtain ⟨h1, h2⟩ := g9
    revert h1 h2 g5
    match w_lv Wf with
    | [] => intro _ h _; exact absurd h (by decide)
    | [l] =>
      intro h5 _ h
      refine ⟨(h5 l List.mem_cons_self).2.2.2.1, ?_⟩
      have := h l List.mem_cons_self
      show ((l_nx l).length : Int) ≤ 60
      omega
    | _ :: _ :: _ => intro _ h _; rw [List.length_cons, List.length_cons] at h; omega
  refine ⟨g1.1, g1.2.2.2.2.2.2.2, g3, fun z => ?_, hnx.1, by have := hnx.2; show (topNx (w_lv Wf)).length ≤ 60; omega, fun i => ?_, hac⟩
  · have := g4 z
    show 0 ≤ w_tk Wf z ∧ w_tk Wf z ≤ st + 60
    omega
  · have := g11 i
    show -(4 * (st + 60)) ≤ w_pw Wf i ∧ w_pw Wf i ≤ 4 * (st + 60)
    omega
theorem XV_start (gE : GE E) (hG : GI E st I) (hX : XI E B I) : XV (e_Rs E) (e_md E) B (w_V (startW I)) := ⟨(GW_start gE hG).1, hX.1, by have := hX.2; show ((v_hi (i_V I)).length : Int) ≤ B + 0; omega, fun t p h => (by cases h), fun a m h => (by cases h)⟩
theorem XI_end (hX : XV (e_Rs E) (e_md E) B (w_V Wf)) : XI E (B + 60) (endI Wf) := ⟨hX.2.1, by
  have h1 := hX.2.2.1
  have h2 := hX.1.2.1.2
  show ((v_hi (w_V Wf)).length : Int) ≤ B + 60
  omega⟩
theorem okCh_0 : okCh (fun _ => 0) W := fun l _ _ _ _ h => Nat.pos_of_ne_zero h
end
