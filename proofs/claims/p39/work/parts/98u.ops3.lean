section
variable {σ : St} {δ d : Dy} {mo p3 k k' wp : Nat} {E E' : Ev} {bd bd' : Bool} {R R' : Rl} {I I' : Iw} {jr jr' : List Jn} {z a b c e n md st x : Int}
theorem GI_var (h : GI E st I) (hn : s_nv (v_S (i_V I)) < 60) : GI E st (varI I) := by
  obtain ⟨h1, h2, h3, h4, h5, h6, h7, h8⟩ := h
  exact ⟨GS_mkvar h1 hn, h2, h3, h4, gAs_mono h5 (by show s_nv (v_S (i_V I)) ≤ s_nv (v_S (i_V I)) + 1; omega), h6, h7, h8⟩
/-- a variable, in a world between steps -/
theorem t_varI (hK : KS σ (wp + 1)) (h : RId δ wp md I) (hG : GS (v_S (i_V I))) (hn : s_nv (v_S (i_V I)) < 60) : Ok (m_X8_makeVariable σ (wp + 1) δ) (fun r => r.1 = ii (s_nv (v_S (i_V I))) ∧ RId r.2 wp md (varI I) ∧ Fr (fun r => wp + 1 ≤ r ∧ r < wp + 11) δ r.2) := by
  obtain ⟨r1, r2, r3, r4, ⟨r5, r5'⟩, r6, r7, r8, r9, r10⟩ := h
  obtain ⟨r, e, t1, t2, t3⟩ := t_mkvar hK r1 hG hn
  have F : Fr (fun r => wp + 1 ≤ r ∧ r < wp + 11) δ r.2 := t3.wk (fun r p => by unfold blk at p; omega)
  refine ⟨r, e, t1, ⟨t2, ?_, by rw [(F (wp + 23) (by omega)).1]; exact r3, by rw [(F (wp + 18) (by omega)).1]; exact r4, ⟨by rw [(F (wp + 11) (by omega)).1]; exact r5, ?_⟩, ?_, RQ_of_Fr r7 F (fun r a b => by omega), fun j hj => RLany_of_Fr (r8 j hj) F (fun r a b => by omega), by rw [(F wp (by omega)).1]; exact r9, by rw [(F wp (by omega)).1]; exact r10⟩, F⟩
  · unfold HiR; rw [(F (wp + 21) (by omega)).2]; exact r2
  · unfold RPw; rw [(F (wp + 12) (by omega)).1]; exact r5'
  · unfold RTk; rw [(F (wp + 14) (by omega)).1]; exact r6
/-- the world's part of the class's relation is put in -/
theorem RT_world (h : RT δ E bd R I jr) (hm : 0 ≤ e_md E ∧ e_md E ≤ 8) (hI : RId d 68 (e_md E) I') (hF : Fr (fun r => (68 ≤ r ∧ r < 554) ∧ ¬ r = 81) δ d) : RT d E bd R I' jr := by
  obtain ⟨q1, -, q3, q4, md, I'', q5⟩ := h
  exact ⟨REn_of_Fr q1 hm.2 hF (fun r a b => by omega) (fun r a b => by omega) (by omega), hI, RBg_of_Fr q3 hF (by omega) (fun r a b => by omega), RJn_of_Fr q4 hF (by omega) (by omega), md, I'', RId_of_Fr q5 hF (fun r a b => by omega)⟩
theorem t_seedI (hK : KDr σ (wp + 11)) (h : RId δ wp md I) : ∃ d, pI σ δ 2 (wp + 11) 1 (ii x) = some d ∧ RId d wp md (seedI I x) ∧ Fr (fun r => r = wp + 11) δ d := by
  obtain ⟨r1, r2, r3, r4, ⟨r5, r5'⟩, r6, r7, r8, r9, r10⟩ := h
  obtain ⟨d, e, v, o, F⟩ := pI_ex (δ := δ) (r := wp + 11) (k := 1) (x := ii x) hK.1
  refine ⟨d, e, ⟨RS_of_Fr r1 F (fun r a b => by omega), ?_, by rw [(F (wp + 23) (by omega)).1]; exact r3, by rw [(F (wp + 18) (by omega)).1]; exact r4, ⟨v, ?_⟩, ?_, RQ_of_Fr r7 F (fun r a b => by omega), fun j hj => RLany_of_Fr (r8 j hj) F (fun r a b => by omega), by rw [(F wp (by omega)).1]; exact r9, by rw [(F wp (by omega)).1]; exact r10⟩, F⟩
  · unfold HiR; rw [(F (wp + 21) (by omega)).2]; exact r2
  · unfold RPw; rw [(F (wp + 12) (by omega)).1]; exact r5'
  · unfold RTk; rw [(F (wp + 14) (by omega)).1]; exact r6
theorem GI_seed (h : GI E st I) (hx : 0 ≤ x ∧ x ≤ 65536) : GI E st (seedI I x) := by
  obtain ⟨h1, h2, h3, h4, h5, h6, h7, h8⟩ := h
  exact ⟨h1, h2, ⟨hx.1, by show x < 65537; omega⟩, h4, h5, h6, h7, h8⟩
end
