/-! THE LAW: the scratch world starts anew -/
section
variable {σ : St} {δ d : Dy} {wp nd ro : Nat} {I : Iw} {md : Int}
theorem t_clearI (hK : KWo σ wp nd ro) (h : RId δ wp md I) : Ok (m_X10_clear σ wp δ) (fun d => RId d wp 0 I0 ∧ (∀ z : Int, 0 ≤ z → z < 6 → d.1 (wp + 13) z.toNat = ii (-1)) ∧ Fr (fun r => wp ≤ r ∧ r < wp + 486) δ d) := by
  have hrl : rA σ 103 (wp + 15) (0 : Int32) = some (wp + 390) := rA_lv hK (j := 0) (by omega)
  obtain ⟨-, k0, ⟨k1, k2, k3, k4, k5, k6, k7, k8⟩, -, -, kst, kW, kDr, kD13, kD14, -, -, kL⟩ := hK
  obtain ⟨w0, ⟨-, -, -, -, w5, -, w8⟩, -, -, wD3, -, wD5, -⟩ := kW
  obtain ⟨x0, x1, xD⟩ := kDr
  obtain ⟨r1, r2, r3, r4, ⟨r5, r5'⟩, r6, r7, r8, r9, r10⟩ := h
  obtain ⟨d1, e1, t1, F1⟩ := t_clear kst r1
  obtain ⟨d2, e2, v2, o2, F2⟩ := pI_ex (δ := d1) (r := wp + 18) (k := 3) (x := 0) w0
  obtain ⟨d3, e3, v3, o3, F3⟩ := pI_ex (δ := d2) (r := wp + 18) (k := 9) (x := 0) w0
  obtain ⟨d4, e4, v4, o4, F4⟩ := pI_ex (δ := d3) (r := wp + 18) (k := 7) (x := 0) w0
  obtain ⟨d5, e5, t5, q5, F5⟩ := t_fillL (δ := d4) (v := 0) wD3
  obtain ⟨d6, e6, t6, q6, F6⟩ := t_fillI (δ := d5) (v := 0) wD5
  obtain ⟨d7, e7, v7, o7, F7⟩ := pI_ex (δ := d6) (r := wp + 11) (k := 1) (x := 1) x0
  obtain ⟨d8, e8, t8, q8, F8⟩ := t_fillI (δ := d7) (v := 0) xD
  obtain ⟨d9, e9, t9, q9, F9⟩ := t_fillI (δ := d8) (v := -1) kD13
  obtain ⟨d10, e10, t10, q10, F10⟩ := t_fillI (δ := d9) (v := 0) kD14
  have F1' : Fr (fun r => wp + 1 ≤ r ∧ r < wp + 11) δ d1 := F1.wk (fun r p => by unfold blk at p; omega)
  have G10 : Fr (fun r => (wp + 1 ≤ r ∧ r < wp + 15) ∨ (wp + 18 ≤ r ∧ r < wp + 24)) δ d10 := (F1'.wk (fun r p => by omega)).tr ((F2.wk (fun r p => by omega)).tr ((F3.wk (fun r p => by omega)).tr ((F4.wk (fun r p => by omega)).tr ((F5.wk (fun r p => by omega)).tr ((F6.wk (fun r p => by omega)).tr ((F7.wk (fun r p => by omega)).tr ((F8.wk (fun r p => by omega)).tr ((F9.wk (fun r p => by omega)).tr (F10.wk (fun r p => by omega))))))))))
  have r80 := RLany_of_Fr (r8 0 (by omega)) G10 (fun r a b => by omega)
  rw [show wp + 390 + 24 * 0 = wp + 390 by omega] at r80
  have kL0 := (kL 0 (by omega)).2
  rw [show wp + 390 + 24 * 0 = wp + 390 by omega] at kL0
  obtain ⟨d11, e11, ⟨a1, a2, a3, a4⟩, a5, F11⟩ := t_open kL0 r80
  obtain ⟨d12, e12, v12, o12, F12⟩ := pI_ex (δ := d11) (r := wp) (k := 10) (x := 0) k0
  obtain ⟨d13, e13, v13, o13, F13⟩ := pI_ex (δ := d12) (r := wp) (k := 11) (x := 0) k0
  have H13 : Fr (fun r => r = wp) d11 d13 := F12.tr F13
  have F11' : Fr (fun r => wp + 391 ≤ r ∧ r < wp + 404) d10 d11 := F11.wk (fun r p => by omega)
  have H11 : Fr (fun r => r = wp ∨ (wp + 391 ≤ r ∧ r < wp + 404)) d10 d13 := (F11'.wk (fun r p => Or.inr p)).tr (H13.wk (fun r p => Or.inl p))
  have H10 : Fr (fun r => r = wp + 14 ∨ r = wp ∨ (wp + 391 ≤ r ∧ r < wp + 404)) d9 d13 := (F10.wk (fun r p => Or.inl p)).tr (H11.wk (fun r p => Or.inr p))
  have H9 : Fr (fun r => r = wp + 13 ∨ r = wp + 14 ∨ r = wp ∨ (wp + 391 ≤ r ∧ r < wp + 404)) d8 d13 := (F9.wk (fun r p => Or.inl p)).tr (H10.wk (fun r p => Or.inr p))
  have H8 : Fr (fun r => r = wp + 12 ∨ r = wp + 13 ∨ r = wp + 14 ∨ r = wp ∨ (wp + 391 ≤ r ∧ r < wp + 404)) d7 d13 := (F8.wk (fun r p => Or.inl p)).tr (H9.wk (fun r p => Or.inr p))
  have H7 : Fr (fun r => r = wp + 11 ∨ r = wp + 12 ∨ r = wp + 13 ∨ r = wp + 14 ∨ r = wp ∨ (wp + 391 ≤ r ∧ r < wp + 404)) d6 d13 := (F7.wk (fun r p => Or.inl p)).tr (H8.wk (fun r p => Or.inr p))
  have H6 : Fr (fun r => r = wp + 23 ∨ r = wp + 11 ∨ r = wp + 12 ∨ r = wp + 13 ∨ r = wp + 14 ∨ r = wp ∨ (wp + 391 ≤ r ∧ r < wp + 404)) d5 d13 := (F6.wk (fun r p => Or.inl p)).tr (H7.wk (fun r p => Or.inr p))
  have H5 : Fr (fun r => r = wp + 21 ∨ r = wp + 23 ∨ r = wp + 11 ∨ r = wp + 12 ∨ r = wp + 13 ∨ r = wp + 14 ∨ r = wp ∨ (wp + 391 ≤ r ∧ r < wp + 404)) d4 d13 := (F5.wk (fun r p => Or.inl p)).tr (H6.wk (fun r p => Or.inr p))
  have H1 : Fr (fun r => r = wp + 18 ∨ r = wp + 21 ∨ r = wp + 23 ∨ r = wp + 11 ∨ r = wp + 12 ∨ r = wp + 13 ∨ r = wp + 14 ∨ r = wp ∨ (wp + 391 ≤ r ∧ r < wp + 404)) d1 d13 := (F2.wk (fun r p => Or.inl p)).tr ((F3.wk (fun r p => Or.inl p)).tr ((F4.wk (fun r p => Or.inl p)).tr (H5.wk (fun r p => Or.inr p))))
  have H0 : Fr (fun r => wp ≤ r ∧ r < wp + 486) δ d13 := (F1'.wk (fun r p => by omega)).tr (H1.wk (fun r p => by omega))
  refine ⟨d13, ?_, ⟨RS_of_Fr t1 H1 (fun r a b => by omega), ?_, fun z z0 z1 => ?_, ?_, ⟨?_, fun z z0 z1 => ?_⟩, fun z z0 z1 => ?_, RQ_of_Fr a4 H13 (fun r a b => by omega), fun j hj => ?_, v13, ?_⟩, fun z z0 z1 => ?_, H0⟩
  · unfold m_X10_clear m_X6_clear m_X2_clear
    simp only [gR_ko k0 k2, gR_ko k0 k3, gR_ko k0 k4, gR_ko k0 k5, gR_ko k0 k6, gR_ko k0 k7, gR_ko w0 w5, gR_ko w0 w8, gR_ko x0 x1, chk_ko kst.1, chk_ko w0, chk_ko x0, chk_ko kL0.1.1, hrl, e1, e2, e3, e4, e5, e6, e7, e8, e9, e10, e11, e12, e13, ob_some]
  · intro w o x w0' w1 o0 o1 x0' x1'
    rw [show wp + 18 + 3 = wp + 21 by omega] at t5
    rw [(H6 (wp + 21) (by omega)).2]
    rw [t5 _ (by split <;> omega)]
    show (0 : BitVec 64).getLsbD _ = decide ((w, o, x) ∈ ([] : List (Int × Int × Int)))
    rw [decide_eq_false (by intro hh; cases hh)]
    exact BitVec.getLsbD_zero
  · rw [show wp + 18 + 5 = wp + 23 by omega] at t6
    rw [(H7 (wp + 23) (by omega)).1, t6 _ (by omega)]
    rfl
  · rw [(H5 (wp + 18) (by omega)).1, o4 9 (by decide)]; exact v3
  · rw [(H8 (wp + 11) (by omega)).1]; exact v7
  · rw [show wp + 11 + 1 = wp + 12 by omega] at t8
    rw [(H9 (wp + 12) (by omega)).1, t8 _ (by omega)]
    rfl
  · rw [(H11 (wp + 14) (by omega)).1, t10 _ (by omega)]
    rfl
  · by_cases c : j = 0
    · subst c
      rw [show wp + 390 + 24 * 0 = wp + 390 by omega]
      exact RLany_of_Fr ⟨⟨_, a1⟩, ⟨_, a2⟩, ⟨_, a3⟩, ⟨_, a4⟩, a5⟩ H13 (fun r a b => by omega)
    · exact RLany_of_Fr (RLany_of_Fr (r8 j hj) G10 (fun r a b => by omega)) H11 (fun r a b => by omega)
  · rw [o13 10 (by decide)]; exact v12
  · rw [(H10 (wp + 13) (by omega)).1, t9 _ (by omega)]
    rfl
end
