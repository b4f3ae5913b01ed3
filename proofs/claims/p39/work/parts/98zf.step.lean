section
variable {σ : St} {δ d : Dy} {mo p3 k : Nat} {E : Ev} {bd : Bool} {R : Rl} {I : Iw} {jr : List Jn} {Wf : Wo} {ch : Nat → Nat} {st B md : Int}
theorem run_good (gE : GE E) (hG : GI E st I) (hX : XI E B I) (hc : ∀ n, okCh ch (turns E ch (startW I) n)) (hr : RunEnd E ch (startW I) Wf) : GI E (st + 60) (endI Wf) ∧ XI E (B + 60) (endI Wf) ∧ w_sp Wf = i_st I + 1 ∧ GW E (v_hi (i_V I)).length st Wf := by
  obtain ⟨n, hn, ho⟩ := hr
  have g := (turns_good gE (GW_start gE hG) hc n).1
  have x := turns_X gE (GW_start gE hG) hc (XV_start gE hG hX) n
  rw [hn] at g x
  refine ⟨GI_end g ho, XI_end x, ?_, g⟩
  rw [← hn, turns_sp]
  rfl
theorem Good_step (h : Good E bd R I) (hr : RunEnd E (fun _ => 0) (startW I) Wf) (c : i_st I < 30) : Good E bd R (endI Wf) := by
  obtain ⟨gE, hG, hX, h30, hb⟩ := h
  obtain ⟨a1, a2, a3, -⟩ := run_good gE hG hX (fun n => okCh_0) hr
  have e : 60 * i_st (endI Wf) = 60 * i_st I + 60 := by
    show 60 * w_sp Wf = _
    omega
  refine ⟨gE, by rw [e]; exact a1, by rw [e]; exact a2, ?_, hb⟩
  show 0 ≤ w_sp Wf ∧ w_sp Wf ≤ 30
  omega
/-- the survey starts anew -/
theorem t_restart (hK : KSu σ 9 8) : ∃ d, m_X9_restart σ 9 δ = some d ∧ RSu d 9 0 (fun _ => 0) (fun _ => 0) [] ∧ d.1 9 5 = 0 ∧ Fr (fun r => r = 9) δ d := by
  obtain ⟨-, k0, -⟩ := hK
  obtain ⟨d1, e1, v1, o1, F1⟩ := pI_ex (δ := δ) (r := 9) (k := 2) (x := 0) k0
  obtain ⟨d2, e2, v2, o2, F2⟩ := pI_ex (δ := d1) (r := 9) (k := 3) (x := 0) k0
  obtain ⟨d3, e3, v3, o3, F3⟩ := pI_ex (δ := d2) (r := 9) (k := 5) (x := 0) k0
  refine ⟨d3, ?_, ⟨⟨?_, by omega⟩, ?_, fun j p hp => ?_, fun j _ hj => absurd hj (by omega)⟩, v3, F1.tr (F2.tr F3)⟩
  · unfold m_X9_restart
    rw [e1, ob_some, e2, ob_some, e3, ob_some]
  · rw [o3 2 (by decide), o2 2 (by decide)]; exact v1
  · rw [o3 3 (by decide)]; exact v2
  · have : (bz ([] : List Int))[j]? = none := rfl
    rw [this] at hp
    cases hp
theorem okPl_0 {W : Wo} : okPl 0 (fun _ => 0) (fun _ => 0) W := fun l _ _ _ _ _ => by rw [if_neg (Nat.not_lt_zero _)]
/-- a step of the class, in a world at 68 or 554 -/
theorem t_stepI {wp : Nat} (hK : KWo σ wp 1 8) (hS : KSu σ 9 8) (gE : GE E) (hE : REn δ 1 8 wp E) (hG : GI E st I) (hst : st ≤ 90000) (hR : RId δ wp (e_md E) I) (hwp : 14 ≤ wp) : ∃ d d', m_X9_restart σ 9 δ = some d ∧ m_X10_doStep σ wp 9 d = some d' ∧ (∃ Wf, RunEnd E (fun _ => 0) (startW I) Wf ∧ RId d' wp (e_md E) (endI Wf)) ∧ Fr (fun r => ((wp ≤ r ∧ r < wp + 486) ∧ ¬ r = wp + 13) ∨ (9 ≤ r ∧ r < 12)) δ d' := by
  obtain ⟨d, e1, t1, -, F1⟩ := t_restart (δ := δ) hS
  have hE1 : REn d 1 8 wp E := REn_of_Fr hE gE.2.1.2 F1 (fun r a b => by omega) (fun r a b => by omega) (by omega)
  have hR1 : RId d wp (e_md E) I := RId_of_Fr hR F1 (fun r a b => by omega)
  obtain ⟨d', e2, Wf, y1, y2, y3, y4, y5⟩ := t_doStep hK hS gE hE1 hG hst hR1 t1 (fun n => okCh_0) (fun n => okPl_0)
  exact ⟨d, d', e1, e2, ⟨Wf, y1, y3⟩, (F1.wk (fun r p => by omega)).tr (y5.wk (fun r p => by unfold PT PWo at p; omega))⟩
end
