/-! THE LAW: the world is copied into the scratch world -/
section
variable {σ : St} {δ d : Dy} {wp w0 nd ro : Nat} {I I' : Iw} {md md' : Int}
theorem cpI_ex {a b n m : Nat} {c : Int32} (ha : KD σ a 100 n) (hb : KD σ b 100 m) (hc : c = ii m) (hnm : m ≤ n) : ∃ d, cpI σ δ a (0 : Int32) b (0 : Int32) c = some d ∧ (∀ z : Int, 0 ≤ z → z < m → d.1 b z.toNat = δ.1 a z.toNat) ∧ Fr (fun r => r = b) δ d := by
  obtain ⟨d, e, h1, -, h3, h4⟩ := cpI_ok (δ := δ) (x := 0) (y := 0) (c := m) ha hb (Int.le_refl _) (Int.le_refl _) (by omega) (by omega) (by omega)
  refine ⟨d, by rw [hc]; exact e, fun z z0 z1 => ?_, fun r hr => ⟨h3 r hr, by rw [h4]⟩⟩
  have := h1 z z0 z1
  rw [show (0 : Int) + z = z by omega] at this
  exact this
theorem cpL_ex {a b n m : Nat} {c : Int32} (ha : KD σ a 102 n) (hb : KD σ b 102 m) (hc : c = ii m) (hnm : m ≤ n) : ∃ d, cpL σ δ a (0 : Int32) b (0 : Int32) c = some d ∧ (∀ z : Int, 0 ≤ z → z < m → d.2 b z.toNat = δ.2 a z.toNat) ∧ Fr (fun r => r = b) δ d := by
  obtain ⟨d, e, h1, -, h3, h4⟩ := cpL_ok (δ := δ) (x := 0) (y := 0) (c := m) ha hb (Int.le_refl _) (Int.le_refl _) (by omega) (by omega) (by omega)
  refine ⟨d, by rw [hc]; exact e, fun z z0 z1 => ?_, fun r hr => ⟨by rw [h4], h3 r hr⟩⟩
  have := h1 z z0 z1
  rw [show (0 : Int) + z = z by omega] at this
  exact this
theorem t_copyI (hK : KWo σ wp nd ro) (hK0 : KWo σ w0 nd ro) (hd : w0 + 486 ≤ wp) (h : RId δ w0 md I) (h' : RId δ wp md' I') (hG : GS (v_S (i_V I))) (hl : (i_nx I).length ≤ 60) : Ok (m_X10_copyFrom σ wp w0 δ) (fun d => RId d wp md I ∧ (∀ z : Int, 0 ≤ z → z < 6 → d.1 (wp + 13) z.toNat = δ.1 (w0 + 13) z.toNat) ∧ Fr (fun r => wp ≤ r ∧ r < wp + 486) δ d) := by
  have hrl : rA σ 103 (wp + 15) (0 : Int32) = some (wp + 390) := rA_lv hK (j := 0) (by omega)
  have hrl0 : rA σ 103 (w0 + 15) (0 : Int32) = some (w0 + 390) := rA_lv hK0 (j := 0) (by omega)
  obtain ⟨-, k0, ⟨k1, k2, k3, k4, k5, k6, k7, k8⟩, -, -, kst, kW, kDr, kD13, kD14, -, -, kL⟩ := hK
  obtain ⟨-, j0, ⟨j1, j2, j3, j4, j5, j6, j7, j8⟩, -, -, jst, jW, jDr, jD13, jD14, -, -, jL⟩ := hK0
  obtain ⟨w0', ⟨-, -, -, -, w5, -, w8⟩, -, -, wD3, -, wD5, -⟩ := kW
  obtain ⟨v0, ⟨-, -, -, -, v5, -, v8⟩, -, -, vD3, -, vD5, -⟩ := jW
  obtain ⟨x0, x1, xD⟩ := kDr
  obtain ⟨y0, y1, yD⟩ := jDr
  obtain ⟨r1, r2, r3, r4, ⟨r5, r5'⟩, r6, r7, r8, r9, r10⟩ := h
  obtain ⟨s1, s2, s3, s4, ⟨s5, s5'⟩, s6, s7, s8, s9, s10⟩ := h'
  have kL0 := (kL 0 (by omega)).2
  have jL0 := (jL 0 (by omega)).2
  rw [show wp + 390 + 24 * 0 = wp + 390 by omega] at kL0
  rw [show w0 + 390 + 24 * 0 = w0 + 390 by omega] at jL0
  obtain ⟨d1, e1, t1, F1⟩ := t_copyS kst jst (by omega) s1 r1 hG
  have F1' : Fr (fun r => wp ≤ r ∧ r < wp + 486) δ d1 := F1.wk (fun r p => by unfold blk at p; omega)
  -- the rewriter
  obtain ⟨d2, e2, t2, o2, F2⟩ := pI_ex (δ := d1) (r := wp + 18) (k := 9) (x := ii md) w0'
  have g1 : gI σ d1 6 (w0 + 18) 9 = some (ii md) := by rw [gI_ko v0, (F1' (w0 + 18) (by omega)).1, r4]
  obtain ⟨d3, e3, t3, F3⟩ := cpL_ex (δ := d2) vD3 wD3 (c := ii (1600 : Nat)) rfl (Nat.le_refl _)
  obtain ⟨d4, e4, t4, F4⟩ := cpI_ex (δ := d3) vD5 wD5 (c := ii (8 : Nat)) rfl (Nat.le_refl _)
  -- the draws
  have G4 : Fr (fun r => wp ≤ r ∧ r < wp + 486) δ d4 := F1'.tr ((F2.wk (fun r p => by omega)).tr ((F3.wk (fun r p => by omega)).tr (F4.wk (fun r p => by omega))))
  have g5 : gI σ d4 2 (w0 + 11) 1 = some (ii (i_x I)) := by rw [gI_ko y0, (G4 (w0 + 11) (by omega)).1, r5]
  obtain ⟨d5, e5, t5, o5, F5⟩ := pI_ex (δ := d4) (r := wp + 11) (k := 1) (x := ii (i_x I)) x0
  obtain ⟨d6, e6, t6, F6⟩ := cpI_ex (δ := d5) yD xD (c := ii (7 : Nat)) rfl (Nat.le_refl _)
  -- definitions, taken
  obtain ⟨d7, e7, t7, F7⟩ := cpI_ex (δ := d6) jD13 kD13 (c := ii (6 : Nat)) rfl (Nat.le_refl _)
  obtain ⟨d8, e8, t8, F8⟩ := cpI_ex (δ := d7) jD14 kD14 (c := ii (120 : Nat)) rfl (Nat.le_refl _)
  have G5 : Fr (fun r => wp ≤ r ∧ r < wp + 486) δ d5 := G4.tr (F5.wk (fun r p => by omega))
  have G6 : Fr (fun r => wp ≤ r ∧ r < wp + 486) δ d6 := G5.tr (F6.wk (fun r p => by omega))
  have G7 : Fr (fun r => wp ≤ r ∧ r < wp + 486) δ d7 := G6.tr (F7.wk (fun r p => by omega))
  have G8 : Fr (fun r => wp ≤ r ∧ r < wp + 486) δ d8 := G7.tr (F8.wk (fun r p => by omega))
  have I8 : Fr (fun r => (wp + 1 ≤ r ∧ r < wp + 15) ∨ r = wp + 18 ∨ r = wp + 21 ∨ r = wp + 23) δ d8 := (F1.wk (fun r p => by unfold blk at p; omega)).tr ((F2.wk (fun r p => by omega)).tr ((F3.wk (fun r p => by omega)).tr ((F4.wk (fun r p => by omega)).tr ((F5.wk (fun r p => by omega)).tr ((F6.wk (fun r p => by omega)).tr ((F7.wk (fun r p => by omega)).tr (F8.wk (fun r p => by omega))))))))
  -- the agents for the next step
  have s80 := RLany_of_Fr (s8 0 (by omega)) I8 (fun r a b => by omega)
  rw [show wp + 390 + 24 * 0 = wp + 390 by omega] at s80
  obtain ⟨d9, e9, ⟨a1, a2, a3, a4⟩, a5, F9⟩ := t_open kL0 s80
  have F9' : Fr (fun r => wp + 391 ≤ r ∧ r < wp + 404) d8 d9 := F9.wk (fun r p => by omega)
  have G9 : Fr (fun r => wp ≤ r ∧ r < wp + 486) δ d9 := G8.tr (F9.wk (fun r p => by omega))
  obtain ⟨⟨p0, ⟨-, -, -, p4, -⟩, -⟩, -, -, -, pq4, -⟩ := kL0
  obtain ⟨⟨u0, ⟨-, -, -, u4, -⟩, -⟩, -, -, -, uq4, -⟩ := jL0
  obtain ⟨d10, e10, t10, F10⟩ := t_qaddAll pq4 uq4 (by omega) a4 (RQ_of_Fr (q := w0 + 390 + 13) (by rw [show w0 + 390 + 13 = w0 + 403 by omega]; exact r7) G9 (fun r _ _ => by omega)) (by show 0 + (i_nx I).length ≤ 60; omega)
  have F10' : Fr (fun r => wp + 403 ≤ r ∧ r < wp + 407) d9 d10 := F10.wk (fun r p => by unfold blk at p; omega)
  have G10 : Fr (fun r => wp ≤ r ∧ r < wp + 486) δ d10 := G9.tr (F10'.wk (fun r p => by omega))
  have g11 : gI σ d10 10 w0 10 = some (ii (i_st I)) := by rw [gI_ko j0, (G10 w0 (by omega)).1, r10]
  obtain ⟨d11, e11, t11, o11, F11⟩ := pI_ex (δ := d10) (r := wp) (k := 10) (x := ii (i_st I)) k0
  have G11 : Fr (fun r => wp ≤ r ∧ r < wp + 486) δ d11 := G10.tr (F11.wk (fun r p => by omega))
  have g12 : gI σ d11 10 w0 11 = some (ii (i_ck I)) := by rw [gI_ko j0, (G11 w0 (by omega)).1, r9]
  obtain ⟨d12, e12, t12, o12, F12⟩ := pI_ex (δ := d11) (r := wp) (k := 11) (x := ii (i_ck I)) k0
  have G12 : Fr (fun r => wp ≤ r ∧ r < wp + 486) δ d12 := G11.tr (F12.wk (fun r p => by omega))
  have H11 : Fr (fun r => r = wp) d10 d12 := F11.tr F12
  have H9 : Fr (fun r => r = wp ∨ (wp + 403 ≤ r ∧ r < wp + 407)) d9 d12 := (F10'.wk (fun r p => Or.inr p)).tr (H11.wk (fun r p => Or.inl p))
  have H8 : Fr (fun r => r = wp ∨ (wp + 391 ≤ r ∧ r < wp + 407)) d8 d12 := (F9'.wk (fun r p => by omega)).tr (H9.wk (fun r p => by omega))
  have H7 : Fr (fun r => r = wp + 14 ∨ r = wp ∨ (wp + 391 ≤ r ∧ r < wp + 407)) d7 d12 := (F8.wk (fun r p => Or.inl p)).tr (H8.wk (fun r p => Or.inr p))
  have H6 : Fr (fun r => r = wp + 13 ∨ r = wp + 14 ∨ r = wp ∨ (wp + 391 ≤ r ∧ r < wp + 407)) d6 d12 := (F7.wk (fun r p => Or.inl p)).tr (H7.wk (fun r p => Or.inr p))
  have H5 : Fr (fun r => r = wp + 12 ∨ r = wp + 13 ∨ r = wp + 14 ∨ r = wp ∨ (wp + 391 ≤ r ∧ r < wp + 407)) d5 d12 := (F6.wk (fun r p => Or.inl p)).tr (H6.wk (fun r p => Or.inr p))
  have H4 : Fr (fun r => r = wp + 11 ∨ r = wp + 12 ∨ r = wp + 13 ∨ r = wp + 14 ∨ r = wp ∨ (wp + 391 ≤ r ∧ r < wp + 407)) d4 d12 := (F5.wk (fun r p => Or.inl p)).tr (H5.wk (fun r p => Or.inr p))
  have H3 : Fr (fun r => r = wp + 23 ∨ r = wp + 11 ∨ r = wp + 12 ∨ r = wp + 13 ∨ r = wp + 14 ∨ r = wp ∨ (wp + 391 ≤ r ∧ r < wp + 407)) d3 d12 := (F4.wk (fun r p => Or.inl p)).tr (H4.wk (fun r p => Or.inr p))
  have H2 : Fr (fun r => r = wp + 21 ∨ r = wp + 23 ∨ r = wp + 11 ∨ r = wp + 12 ∨ r = wp + 13 ∨ r = wp + 14 ∨ r = wp ∨ (wp + 391 ≤ r ∧ r < wp + 407)) d2 d12 := (F3.wk (fun r p => Or.inl p)).tr (H3.wk (fun r p => Or.inr p))
  have H1 : Fr (fun r => r = wp + 18 ∨ r = wp + 21 ∨ r = wp + 23 ∨ r = wp + 11 ∨ r = wp + 12 ∨ r = wp + 13 ∨ r = wp + 14 ∨ r = wp ∨ (wp + 391 ≤ r ∧ r < wp + 407)) d1 d12 := (F2.wk (fun r p => Or.inl p)).tr (H2.wk (fun r p => Or.inr p))
  have G2 : Fr (fun r => wp ≤ r ∧ r < wp + 486) δ d2 := F1'.tr (F2.wk (fun r p => by omega))
  have G3 : Fr (fun r => wp ≤ r ∧ r < wp + 486) δ d3 := G2.tr (F3.wk (fun r p => by omega))
  refine ⟨d12, ?_, ⟨RS_of_Fr t1 H1 (fun r a b => by omega), ?_, fun z z0 z1 => ?_, ?_, ⟨?_, fun z z0 z1 => ?_⟩, fun z z0 z1 => ?_, ?_, fun j hj => ?_, t12, ?_⟩, fun z z0 z1 => ?_, G12⟩
  · have l5 : aln σ 102 (wp + 18 + 3) = some (ii (1600 : Nat)) := aln_kd wD3
    have l8 : aln σ 100 (wp + 18 + 5) = some (ii (8 : Nat)) := aln_kd wD5
    have l0 : aln σ 100 (wp + 11 + 1) = some (ii (7 : Nat)) := aln_kd xD
    have l14 : aln σ 100 (wp + 14) = some (ii (120 : Nat)) := aln_kd kD14
    have e7' : cpI σ d6 (w0 + 13) (0 : Int32) (wp + 13) (0 : Int32) (6 : Int32) = some d7 := e7
    unfold m_X10_copyFrom m_X6_copyFrom m_X2_copyFrom
    simp only [gR_ko k0 k2, gR_ko k0 k3, gR_ko k0 k4, gR_ko k0 k5, gR_ko k0 k6, gR_ko k0 k7, gR_ko j0 j2, gR_ko j0 j3, gR_ko j0 j4, gR_ko j0 j5, gR_ko j0 j6, gR_ko j0 j7, gR_ko w0' w5, gR_ko w0' w8, gR_ko v0 v5, gR_ko v0 v8, gR_ko x0 x1, gR_ko y0 y1, chk_ko kst.1, chk_ko w0', chk_ko x0, chk_ko p0, chk_ko pq4.1, hrl, hrl0, gR_ko p0 p4, gR_ko u0 u4, e1, g1, e2, l5, e3, l8, e4, g5, e5, l0, e6, e7', l14, e8, e9, e10, g11, e11, g12, e12, ob_some]
  · intro w o x w1 w2 o1 o2' x1' x2'
    rw [(H3 (wp + 18 + 3) (by omega)).2, t3 _ (by split <;> omega) (by split <;> omega), (G2 (w0 + 18 + 3) (by omega)).2]
    exact r2 w o x w1 w2 o1 o2' x1' x2'
  · rw [(H4 (wp + 18 + 5) (by omega)).1, t4 z z0 (by omega), (G3 (w0 + 18 + 5) (by omega)).1]
    exact r3 z z0 z1
  · rw [(H2 (wp + 18) (by omega)).1]; exact t2
  · rw [(H5 (wp + 11) (by omega)).1]; exact t5
  · rw [(H6 (wp + 11 + 1) (by omega)).1, t6 z z0 (by omega), (G5 (w0 + 11 + 1) (by omega)).1]
    exact r5' z z0 z1
  · rw [(H8 (wp + 14) (by omega)).1, t8 z z0 (by omega), (G7 (w0 + 14) (by omega)).1]
    exact r6 z z0 z1
  · have := RQ_of_Fr t10 H11 (fun r a b => by omega)
    rw [List.nil_append] at this
    exact this
  · by_cases c : j = 0
    · subst c
      rw [show wp + 390 + 24 * 0 = wp + 390 by omega]
      exact RLany_of_Fr ⟨⟨_, RQ_of_Fr a1 F10' (fun r a b => by omega)⟩, ⟨_, RQ_of_Fr a2 F10' (fun r a b => by omega)⟩, ⟨_, RQ_of_Fr a3 F10' (fun r a b => by omega)⟩, ⟨_, t10⟩, by obtain ⟨o, ho⟩ := a5; exact ⟨o, RQ_of_Fr ho F10' (fun r a b => by omega)⟩⟩ H11 (fun r a b => by omega)
    · exact RLany_of_Fr (RLany_of_Fr (s8 j hj) I8 (fun r a b => by omega)) H8 (fun r a b => by omega)
  · rw [o12 10 (by decide)]; exact t11
  · rw [(H7 (wp + 13) (by omega)).1, t7 z z0 (by omega), (G6 (w0 + 13) (by omega)).1]
end
