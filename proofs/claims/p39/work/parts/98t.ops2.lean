section
variable {σ : St} {δ d : Dy} {mo p3 k k' : Nat} {E E' : Ev} {bd bd' : Bool} {R R' : Rl} {I I' : Iw} {jr jr' : List Jn} {z a b c e n : Int}
theorem t_note (hT : KT σ) (hJ : RJn δ jr) (hl : jr.length < 512) : Ok (m_X11_note σ 0 (ii a) (ii b) (ii c) (ii e) δ) (fun d => RJn d (jr ++ [(a, b, c, e)]) ∧ Fr (fun r => r = 0 ∨ r = 13) δ d ∧ ∀ j, ¬ j = 6 → d.1 0 j = δ.1 0 j) := by
  obtain ⟨h0, ⟨s0, s1, s2, s3, s4, s5⟩, h13, -⟩ := hT
  obtain ⟨j1, j2⟩ := hJ
  have g0 : gI σ δ 11 0 6 = some (ii jr.length) := by rw [gI_ko h0, j1]
  have l4 : (4 : Int32) * ii jr.length = ii (4 * jr.length) := by rw [show ((4 : Int32)) = ii 4 from rfl, ii_mul]
  obtain ⟨d1, e1, v1, o1, F1⟩ := wI_ex (δ := δ) (r := 13) (z := 4 * jr.length) (k := 4 * jr.length) (x := ii a) h13 (by omega) (by omega) (by omega)
  obtain ⟨d2, e2, v2, o2, F2⟩ := wI_ex (δ := d1) (r := 13) (z := 4 * jr.length + 1) (k := 4 * jr.length + 1) (x := ii b) h13 (by omega) (by omega) (by omega)
  obtain ⟨d3, e3, v3, o3, F3⟩ := wI_ex (δ := d2) (r := 13) (z := 4 * jr.length + 2) (k := 4 * jr.length + 2) (x := ii c) h13 (by omega) (by omega) (by omega)
  obtain ⟨d4, e4, v4, o4, F4⟩ := wI_ex (δ := d3) (r := 13) (z := 4 * jr.length + 3) (k := 4 * jr.length + 3) (x := ii e) h13 (by omega) (by omega) (by omega)
  have F14 : Fr (fun q => q = 13) δ d4 := F1.tr (F2.tr (F3.tr F4))
  have g4 : gI σ d4 11 0 6 = some (ii jr.length) := by rw [gI_ko h0, (F14 0 (by omega)).1, j1]
  obtain ⟨d5, e5, v5, o5, F5⟩ := pI_ex (δ := d4) (r := 0) (k := 6) (x := ii ((jr.length : Int) + 1)) h0
  refine ⟨d5, ?_, ⟨?_, fun j x hx => ?_⟩, (F14.wk (fun r p => Or.inr p)).tr (F5.wk (fun r p => Or.inl p)), fun j hj => by rw [o5 j hj, (F14 0 (by omega)).1]⟩
  · unfold m_X11_note
    rw [g0, ob_some, if_pos (show ii jr.length < 512 by rw [show ((512 : Int32)) = ii 512 from rfl, ii_lt (by omega) (by omega) (by omega) (by omega)]; omega), ob_some, gR_ko h0 s5, ob_some, l4, e1, ob_some, ob_some, show ((1 : Int32)) = ii 1 from rfl, ii_add, e2, ob_some, ob_some, show ((2 : Int32)) = ii 2 from rfl, ii_add, e3, ob_some, ob_some, show ((3 : Int32)) = ii 3 from rfl, ii_add, e4, ob_some, g4, ob_some, ii_add, e5, ob_some]
  · rw [v5, List.length_append, List.length_singleton]; rfl
  · have hj := (List.getElem?_eq_some_iff.mp hx).1
    rw [List.length_append, List.length_singleton] at hj
    have u : ∀ q, d5.1 13 q = d4.1 13 q := fun q => by rw [(F5 13 (by omega)).1]
    rw [u, u, u, u]
    by_cases hjl : j < jr.length
    · rw [List.getElem?_append_left hjl] at hx
      obtain ⟨q1, q2, q3, q4⟩ := j2 j x hx
      have w : ∀ q, q < 4 * jr.length → d4.1 13 q = δ.1 13 q := fun q hq => by rw [o4 q (by omega), o3 q (by omega), o2 q (by omega), o1 q (by omega)]
      rw [w _ (by omega), w _ (by omega), w _ (by omega), w _ (by omega)]
      exact ⟨q1, q2, q3, q4⟩
    · have hj2 : j = jr.length := by omega
      subst hj2
      rw [List.getElem?_append_right (Nat.le_refl _), Nat.sub_self] at hx
      have hx' : (a, b, c, e) = x := Option.some.inj hx
      subst hx'
      refine ⟨?_, ?_, ?_, v4⟩
      · rw [o4 _ (by omega), o3 _ (by omega), o2 _ (by omega)]; exact v1
      · rw [o4 _ (by omega), o3 _ (by omega)]; exact v2
      · rw [o4 _ (by omega)]; exact v3
/-- the class's relation where only the journal was written -/
theorem RT_note (h : RT δ E bd R I jr) (hm : 0 ≤ e_md E ∧ e_md E ≤ 8) (hJ : RJn d jr') (hF : Fr (fun r => r = 0 ∨ r = 13) δ d) (ho : ∀ j, ¬ j = 6 → d.1 0 j = δ.1 0 j) : RT d E bd R I jr' := by
  obtain ⟨h1, h2, ⟨h3, h3'⟩, -, md, I', h5⟩ := h
  refine ⟨REn_of_Fr h1 hm.2 hF (fun r a b => by omega) (fun r a b => by omega) (by omega), RId_of_Fr h2 hF (fun r a b => by omega), ⟨by rw [ho 7 (by decide)]; exact h3, fun hb => ?_⟩, hJ, md, I', RId_of_Fr h5 hF (fun r a b => by omega)⟩
  obtain ⟨q1, q2⟩ := h3' hb
  exact ⟨RRu_of_Fr q1 hF (fun r a b => by omega), by rw [(hF _ (by omega)).1]; exact q2⟩
theorem RBg_of_Fr {ru : Nat} {P : Nat → Prop} (h : RBg δ ru bd R) (hF : Fr P δ d) (h0 : ¬ P 0) (hd : ∀ r, ru ≤ r → r < ru + 6 → ¬ P r) : RBg d ru bd R := ⟨by rw [(hF 0 h0).1]; exact h.1, fun hb => ⟨RRu_of_Fr (h.2 hb).1 hF hd, by rw [(hF ru (hd ru (Nat.le_refl _) (by omega))).1]; exact (h.2 hb).2⟩⟩
theorem RJn_of_Fr {P : Nat → Prop} (h : RJn δ jr) (hF : Fr P δ d) (h0 : ¬ P 0) (h13 : ¬ P 13) : RJn d jr := ⟨by rw [(hF 0 h0).1]; exact h.1, by rw [(hF 13 h13).1]; exact h.2⟩
end
