/-! THE STORE: makings, unions, ends -/
section
variable {σ : St} {δ : Dy} {st : Nat} {S : Sto} {ac : Int} {fl : Bool}
theorem t_mkvar (hK : KS σ st) (hR : RS δ st S ac fl) (hG : GS S) (hn : s_nv S < 60) : Ok (m_X8_makeVariable σ st δ) (fun r => r.1 = ii (s_nv S) ∧ RS r.2 st (mkvar S) ac fl ∧ Fr (blk st 10) δ r.2) := by
  obtain ⟨k0, ⟨k1, k2, k3, k4, k5, k6, k7, k8, k9⟩, d1, d2, d3, d4, d5, d6, d7, d8, d9⟩ := hK
  obtain ⟨r1, r2, r3, r4, r5, r6, r7, r8, r9, r10, r11, r12, r13, r14⟩ := hR
  obtain ⟨⟨g1, g2, g3, g4⟩, g5, g6, g7, g8, g9⟩ := hG
  unfold m_X8_makeVariable
  refine ⟨_, by simp (disch := omega) only [↓reduceIte, ii_lit, ii_add, ii_sub, ii_mul, ii_neg, ii_lt, ii_le, ii_eq, if_pos, if_neg, Option.bind_some, gI_ko k0, chk_ko k0, pI_ko k0, gR_ko k0 k1, gR_ko k0 k2, gR_ko k0 k3, gR_ko k0 k4, gR_ko k0 k5, gR_ko k0 k6, gR_ko k0 k7, gR_ko k0 k8, gR_ko k0 k9, rI_kd d1, rI_kd d2, rI_kd d3, rI_kd d4, rI_kd d5, rZ_kd d6, rZ_kd d7, rL_kd d8, rL_kd d9, r1, wI_kd d1, wI_kd d2, u2, and_self]; rfl, ?_, ?_, ?_⟩
  · show ii (s_nv S + 1 - 1) = _
    rw [show s_nv S + 1 - 1 = s_nv S by omega]
  · refine ⟨?_, ?_, fun z z0 z1 => ?_, fun z z0 z1 => ?_, fun z z0 z1 => ?_, fun z z0 z1 => ?_, fun z z0 z1 => ?_, fun z z0 z1 => ?_, fun z z0 z1 => ?_, fun z z0 z1 => ?_, ?_, ?_, fun k => ?_, fun k => ?_⟩
    case refine_1 =>
      show _ = ii (s_nv S + 1)
      simp only [u2, and_self, ↓reduceIte]
    case refine_3 =>
      show _ = ii (upf (s_cl S) (s_nv S) (s_nv S) z)
      by_cases hz : z = s_nv S
      · subst hz
        simp (disch := omega) only [u2, upf, if_neg, and_self, ↓reduceIte]
      · have z2 : z < s_nv S := by have : z < s_nv S + 1 := z1; omega
        simp (disch := omega) only [u2, upf, if_neg]
        exact r3 z z0 z2
    case refine_4 =>
      show _ = ii (upf (s_va S) (s_nv S) 100 z)
      by_cases hz : z = s_nv S
      · subst hz
        simp (disch := omega) only [u2, upf, if_neg, and_self, ↓reduceIte]
      · have z2 : z < s_nv S := by have : z < s_nv S + 1 := z1; omega
        simp (disch := omega) only [u2, upf, if_neg]
        exact r4 z z0 z2
    all_goals first | (first | exact r1 | exact r2 | exact r3 _ z0 z1 | exact r4 _ z0 z1 | exact r5 _ z0 z1 | exact r6 _ z0 z1 | exact r7 _ z0 z1 | exact r8 _ z0 z1 | exact r9 _ z0 z1 | exact r10 _ z0 z1 | exact r11 | exact r12 | exact r13 _ | exact r14 _) | (simp (disch := omega) only [u2, if_neg]; first | done | (first | exact r1 | exact r2 | exact r3 _ z0 z1 | exact r4 _ z0 z1 | exact r5 _ z0 z1 | exact r6 _ z0 z1 | exact r7 _ z0 z1 | exact r8 _ z0 z1 | exact r9 _ z0 z1 | exact r10 _ z0 z1 | exact r11 | exact r12 | exact r13 _ | exact r14 _))
  · intro r hr; unfold blk at hr; exact ⟨by simp (disch := omega) only [u2_ne], by simp (disch := omega) only [u2_ne]⟩
theorem t_mkvarF (hK : KS σ st) (hR : RS δ st S ac fl) (hn : s_nv S = 60) : Ok (m_X8_makeVariable σ st δ) (fun r => r.1 = ii (-1) ∧ RS r.2 st S ac true ∧ Fr (blk st 10) δ r.2) := by
  have hR' := hR
  obtain ⟨k0, ⟨k1, k2, k3, k4, k5, k6, k7, k8, k9⟩, d1, d2, d3, d4, d5, d6, d7, d8, d9⟩ := hK
  obtain ⟨r1, r2, r3, r4, r5, r6, r7, r8, r9, r10, r11, r12, r13, r14⟩ := hR
  unfold m_X8_makeVariable
  exact Ok_of (v := (ii (-1), (u2 δ.1 st 12 (bi true), δ.2))) (by simp (disch := omega) only [↓reduceIte, ii_lit, ii_add, ii_sub, ii_mul, ii_neg, ii_lt, ii_le, ii_eq, if_pos, if_neg, Option.bind_some, gI_ko k0, chk_ko k0, pI_ko k0, gR_ko k0 k1, gR_ko k0 k2, gR_ko k0 k3, gR_ko k0 k4, gR_ko k0 k5, gR_ko k0 k6, gR_ko k0 k7, gR_ko k0 k8, gR_ko k0 k9, rI_kd d1, rI_kd d2, rI_kd d3, rI_kd d4, rI_kd d5, rZ_kd d6, rZ_kd d7, rL_kd d8, rL_kd d9, r1, pZ_ko k0 (x := ii 1) (Or.inr rfl), bi_t]) ⟨rfl, RS_wfl hR', Fr_u2 (by unfold blk; omega)⟩
theorem t_addtok (hK : KS σ st) (hR : RS δ st S ac fl) (hG : GS S) (hn : s_nt S < 100) {so a b : Int} {la : Bool} {lo hi : Int64} {sl : Nat → Bool} (hb : B64 lo hi sl) : Ok (m_X8_addToken σ st (ii so) (ii a) (ii b) (bi la) lo hi δ) (fun r => r.1 = ii (s_nt S) ∧ RS r.2 st (addtok S so a b la sl) ac fl ∧ Fr (blk st 10) δ r.2) := by
  obtain ⟨k0, ⟨k1, k2, k3, k4, k5, k6, k7, k8, k9⟩, d1, d2, d3, d4, d5, d6, d7, d8, d9⟩ := hK
  obtain ⟨r1, r2, r3, r4, r5, r6, r7, r8, r9, r10, r11, r12, r13, r14⟩ := hR
  obtain ⟨⟨g1, g2, g3, g4⟩, g5, g6, g7, g8, g9⟩ := hG
  unfold m_X8_addToken
  refine ⟨_, by simp (disch := omega) only [↓reduceIte, ii_lit, ii_add, ii_sub, ii_mul, ii_neg, ii_lt, ii_le, ii_eq, if_pos, if_neg, Option.bind_some, gI_ko k0, chk_ko k0, pI_ko k0, gR_ko k0 k1, gR_ko k0 k2, gR_ko k0 k3, gR_ko k0 k4, gR_ko k0 k5, gR_ko k0 k6, gR_ko k0 k7, gR_ko k0 k8, gR_ko k0 k9, rI_kd d1, rI_kd d2, rI_kd d3, rI_kd d4, rI_kd d5, rZ_kd d6, rZ_kd d7, rL_kd d8, rL_kd d9, r2, wI_kd d3, wI_kd d4, wI_kd d5, wZ_kd d6 (bi_01 la), wZ_kd d7 (x := ii 1) (Or.inr rfl), wLo_kd d8, wLo_kd d9, u2, and_self]; rfl, ?_, ?_, ?_⟩
  · show ii (s_nt S + 1 - 1) = _
    rw [show s_nt S + 1 - 1 = s_nt S by omega]
  · refine ⟨?_, ?_, fun z z0 z1 => ?_, fun z z0 z1 => ?_, fun z z0 z1 => ?_, fun z z0 z1 => ?_, fun z z0 z1 => ?_, fun z z0 z1 => ?_, fun z z0 z1 => ?_, fun z z0 z1 => ?_, ?_, ?_, fun k => ?_, fun k => ?_⟩
    case refine_2 =>
      show _ = ii (s_nt S + 1)
      simp only [u2, and_self, ↓reduceIte]
    case refine_5 =>
      show _ = ii (upf (s_so S) (s_nt S) so z)
      by_cases hz : z = s_nt S
      · subst hz
        simp (disch := omega) only [u2, upf, if_neg, and_self, ↓reduceIte]
      · have z2 : z < s_nt S := by have : z < s_nt S + 1 := z1; omega
        simp (disch := omega) only [u2, upf, if_neg]
        exact r5 z z0 z2
    case refine_6 =>
      show _ = ii (upf (s_fi S) (s_nt S) a z)
      by_cases hz : z = s_nt S
      · subst hz
        simp (disch := omega) only [u2, upf, if_neg, and_self, ↓reduceIte]
      · have z2 : z < s_nt S := by have : z < s_nt S + 1 := z1; omega
        simp (disch := omega) only [u2, upf, if_neg]
        exact r6 z z0 z2
    case refine_7 =>
      show _ = ii (upf (s_se S) (s_nt S) b z)
      by_cases hz : z = s_nt S
      · subst hz
        simp (disch := omega) only [u2, upf, if_neg, and_self, ↓reduceIte]
      · have z2 : z < s_nt S := by have : z < s_nt S + 1 := z1; omega
        simp (disch := omega) only [u2, upf, if_neg]
        exact r7 z z0 z2
    case refine_8 =>
      show _ = bi (upf (s_la S) (s_nt S) la z)
      by_cases hz : z = s_nt S
      · subst hz
        simp (disch := omega) only [u2, upf, if_neg, and_self, ↓reduceIte]
      · have z2 : z < s_nt S := by have : z < s_nt S + 1 := z1; omega
        simp (disch := omega) only [u2, upf, if_neg]
        exact r8 z z0 z2
    case refine_9 =>
      show _ = bi (upf (s_sd S) (s_nt S) true z)
      by_cases hz : z = s_nt S
      · subst hz
        simp (disch := omega) only [u2, upf, if_neg, and_self, ↓reduceIte, bi_t]
      · have z2 : z < s_nt S := by have : z < s_nt S + 1 := z1; omega
        simp (disch := omega) only [u2, upf, if_neg]
        exact r9 z z0 z2
    case refine_10 =>
      show B64 _ _ (upf (s_sl S) (s_nt S) sl z)
      by_cases hz : z = s_nt S
      · subst hz
        simp (disch := omega) only [u2, upf, if_neg, and_self, ↓reduceIte]
        exact hb
      · have z2 : z < s_nt S := by have : z < s_nt S + 1 := z1; omega
        simp (disch := omega) only [u2, upf, if_neg]
        exact r10 z z0 z2
    case refine_13 =>
      by_cases hk : k = (s_nt S).toNat
      · subst hk
        simp (disch := omega) only [u2, if_neg, and_self, ↓reduceIte]
        exact bi_01 la
      · simp (disch := omega) only [u2, if_neg]
        exact r13 k
    case refine_14 =>
      by_cases hk : k = (s_nt S).toNat
      · subst hk
        simp (disch := omega) only [u2, if_neg, and_self, ↓reduceIte]
        exact Or.inr rfl
      · simp (disch := omega) only [u2, if_neg]
        exact r14 k
    all_goals first | (first | exact r1 | exact r2 | exact r3 _ z0 z1 | exact r4 _ z0 z1 | exact r5 _ z0 z1 | exact r6 _ z0 z1 | exact r7 _ z0 z1 | exact r8 _ z0 z1 | exact r9 _ z0 z1 | exact r10 _ z0 z1 | exact r11 | exact r12 | exact r13 _ | exact r14 _) | (simp (disch := omega) only [u2, if_neg]; first | done | (first | exact r1 | exact r2 | exact r3 _ z0 z1 | exact r4 _ z0 z1 | exact r5 _ z0 z1 | exact r6 _ z0 z1 | exact r7 _ z0 z1 | exact r8 _ z0 z1 | exact r9 _ z0 z1 | exact r10 _ z0 z1 | exact r11 | exact r12 | exact r13 _ | exact r14 _))
  · intro r hr; unfold blk at hr; exact ⟨by simp (disch := omega) only [u2_ne], by simp (disch := omega) only [u2_ne]⟩
theorem t_addtokF (hK : KS σ st) (hR : RS δ st S ac fl) (hn : s_nt S = 100) {so a b la : Int32} {lo hi : Int64} : Ok (m_X8_addToken σ st so a b la lo hi δ) (fun r => r.1 = ii (-1) ∧ RS r.2 st S ac true ∧ Fr (blk st 10) δ r.2) := by
  have hR' := hR
  obtain ⟨k0, ⟨k1, k2, k3, k4, k5, k6, k7, k8, k9⟩, d1, d2, d3, d4, d5, d6, d7, d8, d9⟩ := hK
  obtain ⟨r1, r2, r3, r4, r5, r6, r7, r8, r9, r10, r11, r12, r13, r14⟩ := hR
  unfold m_X8_addToken
  exact Ok_of (v := (ii (-1), (u2 δ.1 st 12 (bi true), δ.2))) (by simp (disch := omega) only [↓reduceIte, ii_lit, ii_add, ii_sub, ii_mul, ii_neg, ii_lt, ii_le, ii_eq, if_pos, if_neg, Option.bind_some, gI_ko k0, chk_ko k0, pI_ko k0, gR_ko k0 k1, gR_ko k0 k2, gR_ko k0 k3, gR_ko k0 k4, gR_ko k0 k5, gR_ko k0 k6, gR_ko k0 k7, gR_ko k0 k8, gR_ko k0 k9, rI_kd d1, rI_kd d2, rI_kd d3, rI_kd d4, rI_kd d5, rZ_kd d6, rZ_kd d7, rL_kd d8, rL_kd d9, r2, pZ_ko k0 (x := ii 1) (Or.inr rfl), bi_t]) ⟨rfl, RS_wfl hR', Fr_u2 (by unfold blk; omega)⟩
theorem RS_cl_ext {f : Int → Int} (hR : RS δ st S ac fl) (h : ∀ z, 0 ≤ z → z < s_nv S → f z = s_cl S z) : RS δ st (s_setcl S f) ac fl := by
  obtain ⟨r1, r2, r3, r4, r5, r6, r7, r8, r9, r10, r11, r12, r13, r14⟩ := hR
  exact ⟨r1, r2, fun z z0 z1 => (r3 z z0 z1).trans (congrArg ii (h z z0 z1).symm), r4, r5, r6, r7, r8, r9, r10, r11, r12, r13, r14⟩
theorem RS_sd_ext {f : Int → Bool} (hR : RS δ st S ac fl) (h : ∀ z, 0 ≤ z → z < s_nt S → f z = s_sd S z) : RS δ st (s_setsd S f) ac fl := by
  obtain ⟨r1, r2, r3, r4, r5, r6, r7, r8, r9, r10, r11, r12, r13, r14⟩ := hR
  exact ⟨r1, r2, r3, r4, r5, r6, r7, r8, fun z z0 z1 => (r9 z z0 z1).trans (congrArg bi (h z z0 z1).symm), r10, r11, r12, r13, r14⟩
theorem t_join (hK : KS σ st) (hR : RS δ st S ac fl) (hG : GS S) {root gone known : Int} (h0 : 0 ≤ root) (h1 : root < s_nv S) (h2 : 0 ≤ gone) (h3 : gone < s_nv S) : Ok (m_X8_join σ st (ii root) (ii gone) (ii known) δ) (fun r => r.1 = ii root ∧ RS r.2 st (joinv S root gone known) ac fl ∧ Fr (blk st 10) δ r.2) := by
  obtain ⟨k0, ⟨k1, k2, k3, k4, k5, k6, k7, k8, k9⟩, d1, d2, d3, d4, d5, d6, d7, d8, d9⟩ := hK
  obtain ⟨⟨g1, g2, g3, g4⟩, g5, g6, g7, g8, g9⟩ := hG
  unfold m_X8_join m_X8_join_b3
  refine Ok_for (fun z s => s.1 = ii z ∧ RS s.2 st (s_setcl S (fun v => if v < z ∧ s_cl S v = gone then root else s_cl S v)) ac fl ∧ Fr (blk st 10) δ s.2) 0 (s_nv S) g1 (by omega) ?_ ?_ ⟨rfl, RS_cl_ext hR (fun z z0 _ => if_neg (by omega)), Fr.rf⟩
  · rintro z ⟨s1, d⟩ z0 z1 ⟨hs, hR, hF⟩
    have hR' := hR
    dsimp only at hs hR hR' hF ⊢
    subst hs
    obtain ⟨r1, r2, r3, r4, r5, r6, r7, r8, r9, r10, r11, r12, r13, r14⟩ := hR
    have h5 := g5 z z0 z1
    have n1 : d.1 st 2 = ii (s_nv S) := r1
    have e3 : d.1 (st + 1) z.toNat = ii (s_cl S z) := (r3 z z0 z1).trans (congrArg ii (if_neg (by omega)))
    by_cases hg : s_cl S z = gone
    · refine Ok_inl (s' := (ii (z + 1), (u2 d.1 (st + 1) z.toNat (ii root), d.2))) (by simp (disch := omega) only [↓reduceIte, ii_lit, ii_add, ii_sub, ii_mul, ii_neg, ii_lt, ii_le, ii_eq, if_pos, if_neg, Option.bind_some, gI_ko k0, chk_ko k0, pI_ko k0, gR_ko k0 k1, gR_ko k0 k2, gR_ko k0 k3, gR_ko k0 k4, gR_ko k0 k5, gR_ko k0 k6, gR_ko k0 k7, gR_ko k0 k8, gR_ko k0 k9, rI_kd d1, rI_kd d2, rI_kd d3, rI_kd d4, rI_kd d5, rZ_kd d6, rZ_kd d7, rL_kd d8, rL_kd d9, n1, e3, wI_kd d1, m_X8_join_b31]) ⟨rfl, ?_, hF.tr (Fr_u2 (by unfold blk; omega))⟩
      refine RS_cl_ext (S := s_setcl (s_setcl S (fun v => if v < z ∧ s_cl S v = gone then root else s_cl S v)) (upf (fun v => if v < z ∧ s_cl S v = gone then root else s_cl S v) z root)) (f := fun v => if v < z + 1 ∧ s_cl S v = gone then root else s_cl S v) (RS_wcl hR' z0) (fun y y0 y1 => ?_)
      show (if y < z + 1 ∧ s_cl S y = gone then root else s_cl S y) = (if y = z then root else (if y < z ∧ s_cl S y = gone then root else s_cl S y))
      by_cases hy : y = z
      · rw [if_pos hy, if_pos ⟨by omega, hy ▸ hg⟩]
      · rw [if_neg hy]
        by_cases hq : y < z ∧ s_cl S y = gone
        · rw [if_pos hq, if_pos ⟨by omega, hq.2⟩]
        · rw [if_neg hq, if_neg (fun q => hq ⟨by omega, q.2⟩)]
    · refine Ok_inl (s' := (ii (z + 1), d)) (by simp (disch := omega) only [↓reduceIte, ii_lit, ii_add, ii_sub, ii_mul, ii_neg, ii_lt, ii_le, ii_eq, if_pos, if_neg, Option.bind_some, gI_ko k0, chk_ko k0, pI_ko k0, gR_ko k0 k1, gR_ko k0 k2, gR_ko k0 k3, gR_ko k0 k4, gR_ko k0 k5, gR_ko k0 k6, gR_ko k0 k7, gR_ko k0 k8, gR_ko k0 k9, rI_kd d1, rI_kd d2, rI_kd d3, rI_kd d4, rI_kd d5, rZ_kd d6, rZ_kd d7, rL_kd d8, rL_kd d9, n1, e3, m_X8_join_b31]) ⟨rfl, ?_, hF⟩
      refine RS_cl_ext (S := s_setcl S (fun v => if v < z ∧ s_cl S v = gone then root else s_cl S v)) (f := fun v => if v < z + 1 ∧ s_cl S v = gone then root else s_cl S v) hR' (fun y y0 y1 => ?_)
      show (if y < z + 1 ∧ s_cl S y = gone then root else s_cl S y) = (if y < z ∧ s_cl S y = gone then root else s_cl S y)
      by_cases hq : y < z ∧ s_cl S y = gone
      · rw [if_pos hq, if_pos ⟨by omega, hq.2⟩]
      · rw [if_neg hq, if_neg (fun q => hq ⟨by
          by_cases hy : y = z
          · exact absurd (hy ▸ q.2) hg
          · omega, q.2⟩)]
  · rintro ⟨s1, d⟩ ⟨hs, hR, hF⟩
    have hR' := hR
    dsimp only at hs hR hR' hF ⊢
    subst hs
    obtain ⟨r1, r2, r3, r4, r5, r6, r7, r8, r9, r10, r11, r12, r13, r14⟩ := hR
    have n1 : d.1 st 2 = ii (s_nv S) := r1
    refine Ok_inr (r := (ii root, (u2 d.1 (st + 2) root.toNat (ii known), d.2))) (by simp (disch := omega) only [↓reduceIte, ii_lit, ii_add, ii_sub, ii_mul, ii_neg, ii_lt, ii_le, ii_eq, if_pos, if_neg, Option.bind_some, gI_ko k0, chk_ko k0, pI_ko k0, gR_ko k0 k1, gR_ko k0 k2, gR_ko k0 k3, gR_ko k0 k4, gR_ko k0 k5, gR_ko k0 k6, gR_ko k0 k7, gR_ko k0 k8, gR_ko k0 k9, rI_kd d1, rI_kd d2, rI_kd d3, rI_kd d4, rI_kd d5, rZ_kd d6, rZ_kd d7, rL_kd d8, rL_kd d9, n1, wI_kd d2]) ⟨rfl, ?_, hF.tr (Fr_u2 (by unfold blk; omega))⟩
    exact RS_wva (y := root) (v := known) hR' h0
theorem mxi_ii {a b : Int} (h0 : -2 < a) (h1 : a < 100) (h2 : -2 < b) (h3 : b < 100) : (if ii a < ii b then ii b else ii a) = ii (mxi a b) := by
  unfold mxi
  by_cases h : a < b
  · simp (disch := omega) only [↓reduceIte, ii_lit, ii_add, ii_sub, ii_mul, ii_neg, ii_lt, ii_le, ii_eq, if_pos, if_neg, Option.bind_some]
  · simp (disch := omega) only [↓reduceIte, ii_lit, ii_add, ii_sub, ii_mul, ii_neg, ii_lt, ii_le, ii_eq, if_pos, if_neg, Option.bind_some]
theorem mni_ii {a b : Int} (h0 : -2 < a) (h1 : a < 100) (h2 : -2 < b) (h3 : b < 100) : (if ii b < ii a then ii b else ii a) = ii (mni a b) := by
  unfold mni
  by_cases h : b < a
  · simp (disch := omega) only [↓reduceIte, ii_lit, ii_add, ii_sub, ii_mul, ii_neg, ii_lt, ii_le, ii_eq, if_pos, if_neg, Option.bind_some]
  · simp (disch := omega) only [↓reduceIte, ii_lit, ii_add, ii_sub, ii_mul, ii_neg, ii_lt, ii_le, ii_eq, if_pos, if_neg, Option.bind_some]
theorem t_uniB (hK : KS σ st) (hR : RS δ st S ac fl) (hG : GS S) {one other known : Int} (h0 : -1 ≤ one) (h1 : one < s_nv S) (h2 : -1 ≤ other) (h3 : other < s_nv S) (h4 : ¬ one = other) : Ok (m_X8_unite_b125 σ st (ii one) (ii other) (ii known) δ) (fun x => x.1 = ii (uniB S (mxi one other) known).1 ∧ RS x.2 st (uniB S (mxi one other) known).2.2 ac (fl || (uniB S (mxi one other) known).2.1) ∧ Fr (blk st 10) δ x.2) := by
  have gn := hG.1.2.1
  have hm0 : 0 ≤ mxi one other ∧ mxi one other < s_nv S := by unfold mxi; split <;> omega
  unfold m_X8_unite_b125
  rw [mxi_ii (by omega) (by omega) (by omega) (by omega)]
  generalize mxi one other = mx at hm0 ⊢
  have h6 := hG.2.2.1 mx hm0.1 hm0.2
  have hR' := hR
  obtain ⟨k0, ⟨k1, k2, k3, k4, k5, k6, k7, k8, k9⟩, d1, d2, d3, d4, d5, d6, d7, d8, d9⟩ := hK
  obtain ⟨r1, r2, r3, r4, r5, r6, r7, r8, r9, r10, r11, r12, r13, r14⟩ := hR
  unfold uniB
  by_cases c3 : s_va S mx = 100
  · rw [if_pos c3]
    exact Ok_of (v := (ii mx, (u2 δ.1 (st + 2) mx.toNat (ii known), δ.2))) (by simp (disch := omega) only [↓reduceIte, ii_lit, ii_add, ii_sub, ii_mul, ii_neg, ii_lt, ii_le, ii_eq, if_pos, if_neg, Option.bind_some, gI_ko k0, chk_ko k0, pI_ko k0, gR_ko k0 k1, gR_ko k0 k2, gR_ko k0 k3, gR_ko k0 k4, gR_ko k0 k5, gR_ko k0 k6, gR_ko k0 k7, gR_ko k0 k8, gR_ko k0 k9, rI_kd d1, rI_kd d2, rI_kd d3, rI_kd d4, rI_kd d5, rZ_kd d6, rZ_kd d7, rL_kd d8, rL_kd d9, r4, wI_kd d2]) ⟨rfl, by rw [Bool.or_false]; exact RS_wva hR' hm0.1, Fr_u2 (by unfold blk; omega)⟩
  · rw [if_neg c3]
    exact Ok_of (v := (ii (-1), δ)) (by simp (disch := omega) only [↓reduceIte, ii_lit, ii_add, ii_sub, ii_mul, ii_neg, ii_lt, ii_le, ii_eq, if_pos, if_neg, Option.bind_some, gI_ko k0, chk_ko k0, pI_ko k0, gR_ko k0 k1, gR_ko k0 k2, gR_ko k0 k3, gR_ko k0 k4, gR_ko k0 k5, gR_ko k0 k6, gR_ko k0 k7, gR_ko k0 k8, gR_ko k0 k9, rI_kd d1, rI_kd d2, rI_kd d3, rI_kd d4, rI_kd d5, rZ_kd d6, rZ_kd d7, rL_kd d8, rL_kd d9, r4]) ⟨rfl, by rw [Bool.or_false]; exact hR', Fr.rf⟩
theorem t_uniA (hK : KS σ st) (hR : RS δ st S ac fl) (hG : GS S) {one other known : Int} (h0 : -1 ≤ one) (h1 : one < s_nv S) (h2 : -1 ≤ other) (h3 : other < s_nv S) (h4 : ¬ one = other) : Ok (m_X8_unite_b90 σ st (ii one) (ii other) (ii known) δ) (fun x => x.1 = ii (uniA S one other known).1 ∧ RS x.2 st (uniA S one other known).2.2 ac (fl || (uniA S one other known).2.1) ∧ Fr (blk st 10) δ x.2) := by
  have gn := hG.1.2.1
  have k0 := hK.1
  have hb := t_uniB hK hR hG (known := known) h0 h1 h2 h3 h4
  unfold m_X8_unite_b90 uniA
  by_cases c2 : ¬ one = -1 ∧ ¬ other = -1
  · rw [if_pos c2]
    obtain ⟨⟨x, d⟩, ej, hj1, hj2, hj3⟩ := t_join hK hR hG (root := mni one other) (gone := mxi one other) (known := known) (by unfold mni; split <;> omega) (by unfold mni; split <;> omega) (by unfold mxi; split <;> omega) (by unfold mxi; split <;> omega)
    dsimp only at hj1 hj2 hj3
    refine Ok_of (v := (x, d)) ?_ ⟨hj1, by rw [Bool.or_false]; exact hj2, hj3⟩
    rw [mxi_ii (by omega) (by omega) (by omega) (by omega), mni_ii (by omega) (by omega) (by omega) (by omega)]
    simp (disch := omega) only [↓reduceIte, ii_lit, ii_add, ii_sub, ii_mul, ii_neg, ii_lt, ii_le, ii_eq, if_pos, if_neg, Option.bind_some, chk_ko k0, ej]
  · rw [if_neg c2]
    by_cases c4 : one = -1
    · subst c4
      rw [show ((-1 : Int32)) = ii (-1) from rfl, if_pos rfl]
      exact hb
    · have c5 : other = -1 := by omega
      subst c5
      rw [show ((-1 : Int32)) = ii (-1) from rfl, if_neg (by rw [ii_eq (by omega) (by omega) (by omega) (by omega)]; exact c4), if_pos rfl]
      exact hb
theorem t_uni (hK : KS σ st) (hR : RS δ st S ac fl) (hG : GS S) {a b : Int} (h0 : -100000 ≤ a) (h1 : a ≤ 100000) (h2 : -100000 ≤ b) (h3 : b ≤ 100000) : Ok (m_X8_unite σ st (ii a) (ii b) δ) (fun r => r.1 = ii (uni S a b).1 ∧ RS r.2 st (uni S a b).2.2 ac (fl || (uni S a b).2.1) ∧ Fr (blk st 10) δ r.2) := by
  have e1 := t_form hK hR hG h0 h1
  have e2 := t_form hK hR hG h2 h3
  have q1 := form_rng hG h0 h1
  have q2 := form_rng hG h2 h3
  have e3 := t_rootOf hK hR hG h0 h1
  have e4 := t_rootOf hK hR hG h2 h3
  have q3 := rootOf_rng hG a
  have q4 := rootOf_rng hG b
  have k0 := hK.1
  have gn := hG.1.2.1
  have hA := fun h4 known => t_uniA hK hR hG (one := rootOf S a) (other := rootOf S b) (known := known) q3.1 q3.2 q4.1 q4.2 h4
  unfold m_X8_unite uni
  simp only [chk_ko k0, e1, e2, Option.bind_some]
  generalize form S a = l at q1 ⊢
  generalize form S b = r at q2 ⊢
  by_cases c0 : l < 400 ∧ r < 400 ∧ ¬ l = r
  · rw [if_pos c0]
    exact Ok_of (v := (ii (-1), (u2 δ.1 st 12 (bi true), δ.2))) (by simp (disch := omega) only [↓reduceIte, ii_lit, ii_add, ii_sub, ii_mul, ii_neg, ii_lt, ii_le, ii_eq, if_pos, if_neg, Option.bind_some, pZ_ko k0 (x := ii 1) (Or.inr rfl), bi_t]) ⟨rfl, by rw [Bool.or_true]; exact RS_wfl hR, Fr_u2 (by unfold blk; omega)⟩
  · rw [if_neg c0]
    have hgo : Ok (m_X8_unite_b41 σ st (ii a) (ii b) (ii l) (ii r) δ) (fun x => x.1 = ii (if rootOf S a = rootOf S b then (-1, false, S) else uniA S (rootOf S a) (rootOf S b) (knw l r) : Int × Bool × Sto).1 ∧ RS x.2 st (if rootOf S a = rootOf S b then (-1, false, S) else uniA S (rootOf S a) (rootOf S b) (knw l r) : Int × Bool × Sto).2.2 ac (fl || (if rootOf S a = rootOf S b then (-1, false, S) else uniA S (rootOf S a) (rootOf S b) (knw l r) : Int × Bool × Sto).2.1) ∧ Fr (blk st 10) δ x.2) := by
      unfold m_X8_unite_b41
      simp only [chk_ko k0, e3, e4, Option.bind_some]
      by_cases c1 : rootOf S a = rootOf S b
      · rw [if_pos c1, if_pos (congrArg ii c1)]
        exact Ok_of (v := (ii (-1), δ)) rfl ⟨rfl, by rw [Bool.or_false]; exact hR, Fr.rf⟩
      · rw [if_neg c1, if_neg (by rw [ii_eq (by omega) (by omega) (by omega) (by omega)]; exact c1)]
        have hk := hA c1 (knw l r)
        unfold knw at hk ⊢
        by_cases c6 : l < 400
        · rw [if_pos c6] at hk ⊢
          simp (disch := omega) only [↓reduceIte, ii_lit, ii_add, ii_sub, ii_mul, ii_neg, ii_lt, ii_le, ii_eq, if_pos, if_neg, Option.bind_some]
          exact hk
        · rw [if_neg c6] at hk ⊢
          by_cases c7 : r < 400
          · rw [if_pos c7] at hk ⊢
            simp (disch := omega) only [↓reduceIte, ii_lit, ii_add, ii_sub, ii_mul, ii_neg, ii_lt, ii_le, ii_eq, if_pos, if_neg, Option.bind_some]
            exact hk
          · rw [if_neg c7] at hk ⊢
            simp (disch := omega) only [↓reduceIte, ii_lit, ii_add, ii_sub, ii_mul, ii_neg, ii_lt, ii_le, ii_eq, if_pos, if_neg, Option.bind_some]
            exact hk
    by_cases c6 : l < 400
    · by_cases c7 : r < 400
      · have c8 : l = r := by omega
        simp (disch := omega) only [↓reduceIte, ii_lit, ii_add, ii_sub, ii_mul, ii_neg, ii_lt, ii_le, ii_eq, if_pos, if_neg, Option.bind_some]
        exact hgo
      · simp (disch := omega) only [↓reduceIte, ii_lit, ii_add, ii_sub, ii_mul, ii_neg, ii_lt, ii_le, ii_eq, if_pos, if_neg, Option.bind_some]
        exact hgo
    · simp (disch := omega) only [↓reduceIte, ii_lit, ii_add, ii_sub, ii_mul, ii_neg, ii_lt, ii_le, ii_eq, if_pos, if_neg, Option.bind_some]
      exact hgo
end
