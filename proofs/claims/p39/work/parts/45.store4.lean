/-! THE STORE: kept, put back, copied, cleared -/
abbrev Sav : Type := Int × Int × (Int → Int) × (Int → Int) × (Int → Bool)
def savS (S : Sto) : Sav := (s_nv S, s_nt S, s_cl S, s_va S, s_sd S)
def restS (S : Sto) (v : Sav) : Sto := (s_nv S, fun x => if x < v.1 then v.2.2.1 x else x, fun x => if x < v.1 then v.2.2.2.1 x else 100, s_nt S, s_so S, s_fi S, s_se S, fun t => decide (t < v.2.1) && v.2.2.2.2 t, s_la S, s_sl S)
def dropS (S : Sto) : Sto := s_setsd S (fun t => s_sd S t && s_la S t)
def S00 : Sto := (0, fun _ => 0, fun _ => 100, 0, fun _ => 0, fun _ => 0, fun _ => 0, fun _ => false, fun _ => false, fun _ _ => false)
/-- a level at the place lv -/
def KL (σ : St) (lv : Nat) : Prop := KO σ lv 4 ∧ (srv σ lv 0 = some (lv + 1) ∧ srv σ lv 1 = some (lv + 5) ∧ srv σ lv 2 = some (lv + 9) ∧ srv σ lv 3 = some (lv + 13) ∧ srv σ lv 4 = some (lv + 17) ∧ srv σ lv 5 = some (lv + 21) ∧ srv σ lv 6 = some (lv + 22) ∧ srv σ lv 7 = some (lv + 23)) ∧ KD σ (lv + 21) 100 60 ∧ KD σ (lv + 22) 100 60 ∧ KD σ (lv + 23) 101 100
def RV (δ : Dy) (lv : Nat) (v : Sav) : Prop := δ.1 lv 8 = ii v.1 ∧ δ.1 lv 9 = ii v.2.1 ∧ (∀ z : Int, 0 ≤ z → z < v.1 → δ.1 (lv + 21) z.toNat = ii (v.2.2.1 z)) ∧ (∀ z : Int, 0 ≤ z → z < v.1 → δ.1 (lv + 22) z.toNat = ii (v.2.2.2.1 z)) ∧ (∀ z : Int, 0 ≤ z → z < v.2.1 → δ.1 (lv + 23) z.toNat = bi (v.2.2.2.2 z))
section
variable {σ : St} {δ : Dy} {st lv : Nat} {S : Sto} {ac : Int} {fl : Bool}
theorem RS_of_Fr {δ' : Dy} {P : Nat → Prop} (hR : RS δ st S ac fl) (hF : Fr P δ δ') (hd : ∀ r, st ≤ r → r < st + 10 → ¬ P r) : RS δ' st S ac fl := by
  have h : ∀ k, k < 10 → δ'.1 (st + k) = δ.1 (st + k) ∧ δ'.2 (st + k) = δ.2 (st + k) := fun k hk => hF (st + k) (hd _ (by omega) (by omega))
  obtain ⟨r1, r2, r3, r4, r5, r6, r7, r8, r9, r10, r11, r12, r13, r14⟩ := hR
  unfold RS
  rw [show δ'.1 st = δ.1 st from (h 0 (by omega)).1, (h 1 (by omega)).1, (h 2 (by omega)).1, (h 3 (by omega)).1, (h 4 (by omega)).1, (h 5 (by omega)).1, (h 6 (by omega)).1, (h 7 (by omega)).1, (h 8 (by omega)).2, (h 9 (by omega)).2]
  exact ⟨r1, r2, r3, r4, r5, r6, r7, r8, r9, r10, r11, r12, r13, r14⟩
theorem RV_of_Fr {δ' : Dy} {P : Nat → Prop} {v : Sav} (hR : RV δ lv v) (hF : Fr P δ δ') (h0 : ¬ P lv) (h1 : ¬ P (lv + 21)) (h2 : ¬ P (lv + 22)) (h3 : ¬ P (lv + 23)) : RV δ' lv v := by
  unfold RV
  rw [(hF _ h0).1, (hF _ h1).1, (hF _ h2).1, (hF _ h3).1]
  exact hR
theorem t_drop (hK : KS σ st) (hR : RS δ st S ac fl) (hG : GS S) : Ok (m_X8_dropPassing σ st δ) (fun d => RS d st (dropS S) ac fl ∧ Fr (blk st 10) δ d) := by
  obtain ⟨k0, ⟨k1, k2, k3, k4, k5, k6, k7, k8, k9⟩, d1, d2, d3, d4, d5, d6, d7, d8, d9⟩ := hK
  obtain ⟨⟨g1, g2, g3, g4⟩, g5, g6, g7, g8, g9⟩ := hG
  unfold m_X8_dropPassing m_X8_dropPassing_b2
  refine Ok_for (fun z s => s.1 = ii z ∧ RS s.2 st (s_setsd S (fun t => if t < z then s_sd S t && s_la S t else s_sd S t)) ac fl ∧ Fr (blk st 10) δ s.2) 0 (s_nt S) g3 (by omega) ?_ ?_ ⟨rfl, RS_sd_ext hR (fun z z0 _ => if_neg (by omega)), Fr.rf⟩
  · rintro z ⟨s1, d⟩ z0 z1 ⟨hs, hR, hF⟩
    have hR' := hR
    dsimp only at hs hR hR' hF ⊢
    subst hs
    obtain ⟨r1, r2, r3, r4, r5, r6, r7, r8, r9, r10, r11, r12, r13, r14⟩ := hR
    have n2 : d.1 st 10 = ii (s_nt S) := r2
    have e8 : d.1 (st + 6) z.toNat = bi (s_la S z) := r8 z z0 z1
    have e9 : d.1 (st + 7) z.toNat = bi (s_sd S z) := (r9 z z0 z1).trans (congrArg bi (if_neg (by omega)))
    refine Ok_inl (s' := (ii (z + 1), (u2 d.1 (st + 7) z.toNat (bi (s_sd S z && s_la S z)), d.2))) ?_ ⟨rfl, ?_, hF.tr (Fr_u2 (by unfold blk; omega))⟩
    · cases ha : s_sd S z <;> cases hb : s_la S z <;> simp (disch := omega) only [↓reduceIte, ii_lit, ii_add, ii_sub, ii_mul, ii_neg, ii_lt, ii_le, ii_eq, if_pos, if_neg, Option.bind_some, gI_ko k0, chk_ko k0, pI_ko k0, gR_ko k0 k1, gR_ko k0 k2, gR_ko k0 k3, gR_ko k0 k4, gR_ko k0 k5, gR_ko k0 k6, gR_ko k0 k7, gR_ko k0 k8, gR_ko k0 k9, rI_kd d1, rI_kd d2, rI_kd d3, rI_kd d4, rI_kd d5, rZ_kd d6, rZ_kd d7, rL_kd d8, rL_kd d9, n2, e8, e9, ha, hb, bi_t, bi_f, m_X8_dropPassing_b37, m_X8_dropPassing_b38, wZ_kd d7 (x := ii 0) (Or.inl rfl), wZ_kd d7 (x := ii 1) (Or.inr rfl), Bool.and_self, Bool.and_false, Bool.false_and, Bool.and_true]
    · refine RS_sd_ext (S := s_setsd (s_setsd S (fun t => if t < z then s_sd S t && s_la S t else s_sd S t)) (upf (fun t => if t < z then s_sd S t && s_la S t else s_sd S t) z (s_sd S z && s_la S z))) (f := fun t => if t < z + 1 then s_sd S t && s_la S t else s_sd S t) (RS_wsd hR' z0) (fun y y0 y1 => ?_)
      show (if y < z + 1 then s_sd S y && s_la S y else s_sd S y) = (if y = z then s_sd S z && s_la S z else (if y < z then s_sd S y && s_la S y else s_sd S y))
      by_cases hy : y = z
      · rw [hy, if_pos rfl, if_pos (by omega)]
      · rw [if_neg hy]
        by_cases hq : y < z
        · rw [if_pos hq, if_pos (by omega)]
        · rw [if_neg hq, if_neg (by omega)]
  · rintro ⟨s1, d⟩ ⟨hs, hR, hF⟩
    have hR' := hR
    dsimp only at hs hR hR' hF ⊢
    subst hs
    obtain ⟨r1, r2, r3, r4, r5, r6, r7, r8, r9, r10, r11, r12, r13, r14⟩ := hR
    have n2 : d.1 st 10 = ii (s_nt S) := r2
    refine Ok_inr (r := d) (by simp (disch := omega) only [↓reduceIte, ii_lit, ii_add, ii_sub, ii_mul, ii_neg, ii_lt, ii_le, ii_eq, if_pos, if_neg, Option.bind_some, gI_ko k0, chk_ko k0, pI_ko k0, gR_ko k0 k1, gR_ko k0 k2, gR_ko k0 k3, gR_ko k0 k4, gR_ko k0 k5, gR_ko k0 k6, gR_ko k0 k7, gR_ko k0 k8, gR_ko k0 k9, rI_kd d1, rI_kd d2, rI_kd d3, rI_kd d4, rI_kd d5, rZ_kd d6, rZ_kd d7, rL_kd d8, rL_kd d9, n2]) ⟨?_, hF⟩
    exact RS_sd_ext (S := s_setsd S (fun t => if t < s_nt S then s_sd S t && s_la S t else s_sd S t)) (f := fun t => s_sd S t && s_la S t) hR' (fun y y0 y1 => (if_pos y1).symm)
theorem t_clear (hK : KS σ st) (hR : RS δ st S ac fl) : Ok (m_X8_clear σ st δ) (fun d => RS d st S00 0 false ∧ Fr (blk st 10) δ d) := by
  obtain ⟨k0, ⟨k1, k2, k3, k4, k5, k6, k7, k8, k9⟩, d1, d2, d3, d4, d5, d6, d7, d8, d9⟩ := hK
  obtain ⟨r1, r2, r3, r4, r5, r6, r7, r8, r9, r10, r11, r12, r13, r14⟩ := hR
  unfold m_X8_clear
  refine ⟨_, by simp (disch := omega) only [↓reduceIte, ii_lit, ii_add, ii_sub, ii_mul, ii_neg, ii_lt, ii_le, ii_eq, if_pos, if_neg, Option.bind_some, gI_ko k0, chk_ko k0, pI_ko k0, gR_ko k0 k1, gR_ko k0 k2, gR_ko k0 k3, gR_ko k0 k4, gR_ko k0 k5, gR_ko k0 k6, gR_ko k0 k7, gR_ko k0 k8, gR_ko k0 k9, rI_kd d1, rI_kd d2, rI_kd d3, rI_kd d4, rI_kd d5, rZ_kd d6, rZ_kd d7, rL_kd d8, rL_kd d9, pZ_ko k0 (x := ii 0) (Or.inl rfl)]; rfl, ?_, ?_⟩
  · refine ⟨?_, ?_, fun z z0 z1 => ?_, fun z z0 z1 => ?_, fun z z0 z1 => ?_, fun z z0 z1 => ?_, fun z z0 z1 => ?_, fun z z0 z1 => ?_, fun z z0 z1 => ?_, fun z z0 z1 => ?_, ?_, ?_, fun k => ?_, fun k => ?_⟩
    case refine_13 =>
      simp (disch := omega) only [u2, if_neg]
      exact r13 k
    case refine_14 =>
      simp (disch := omega) only [u2, if_neg]
      exact r14 k
    all_goals first | (exact absurd z1 (by show ¬ z < 0; omega)) | (simp (disch := omega) only [u2, if_neg, and_self, ↓reduceIte, and_true, true_and] <;> rfl)
  · intro r hr; unfold blk at hr; exact ⟨by simp (disch := omega) only [u2_ne], by simp (disch := omega) only [u2_ne]⟩
theorem t_save (hK : KS σ st) (hL : KL σ lv) (hR : RS δ st S ac fl) (hG : GS S) (hd : st + 10 ≤ lv ∨ lv + 24 ≤ st) : Ok (m_X8_save σ st lv δ) (fun d => RV d lv (savS S) ∧ Fr (fun r => r = lv ∨ lv + 21 ≤ r ∧ r < lv + 24) δ d) := by
  obtain ⟨k0, ⟨k1, k2, k3, k4, k5, k6, k7, k8, k9⟩, d1, d2, d3, d4, d5, d6, d7, d8, d9⟩ := hK
  obtain ⟨r1, r2, r3, r4, r5, r6, r7, r8, r9, r10, r11, r12, r13, r14⟩ := hR
  obtain ⟨⟨g1, g2, g3, g4⟩, g5, g6, g7, g8, g9⟩ := hG
  obtain ⟨q0, ⟨-, -, -, -, -, q5, q6, q7⟩, l1, l2, l3⟩ := hL
  unfold m_X8_save
  have hz : ∀ (d : Dy), d.1 (st + 7) = δ.1 (st + 7) → ∀ k, d.1 (st + 7) k = 0 ∨ d.1 (st + 7) k = 1 := fun d h k => by rw [h]; exact r14 k
  refine ⟨_, by simp (disch := omega) only [↓reduceIte, ii_lit, ii_add, ii_sub, ii_mul, ii_neg, ii_lt, ii_le, ii_eq, if_pos, if_neg, Option.bind_some, gI_ko k0, chk_ko k0, pI_ko k0, gR_ko k0 k1, gR_ko k0 k2, gR_ko k0 k3, gR_ko k0 k4, gR_ko k0 k5, gR_ko k0 k6, gR_ko k0 k7, gR_ko k0 k8, gR_ko k0 k9, rI_kd d1, rI_kd d2, rI_kd d3, rI_kd d4, rI_kd d5, rZ_kd d6, rZ_kd d7, rL_kd d8, rL_kd d9, r1, pI_ko q0, gR_ko q0 q5, gR_ko q0 q6, gR_ko q0 q7, u2, and_self, cpI_kd d1 l1, cpI_kd d2 l2]; rw [r2, cpZ_kd (x := 0) (y := 0) (c := 100) d7 l3 (by omega) (by omega) (by omega) (by omega) (by omega) (fun k => by simp (disch := omega) only [uR, u2, if_neg]; exact r14 k)]; rfl, ?_, ?_⟩
  · refine ⟨?_, ?_, fun z z0 z1 => ?_, fun z z0 z1 => ?_, fun z z0 z1 => ?_⟩
    · simp (disch := omega) only [uR, u2, if_neg, and_self, ↓reduceIte]
      rfl
    · simp (disch := omega) only [uR, u2, if_neg, and_self, ↓reduceIte]
      rfl
    · have z2 : z < s_nv S := z1
      simp (disch := omega) only [uR, u2, va_cpy, if_pos, if_neg, Int.toNat_zero, Nat.zero_add, Nat.sub_zero, ↓reduceIte]
      exact r3 z z0 z2
    · have z2 : z < s_nv S := z1
      simp (disch := omega) only [uR, u2, va_cpy, if_pos, if_neg, Int.toNat_zero, Nat.zero_add, Nat.sub_zero, ↓reduceIte]
      exact r4 z z0 z2
    · have z2 : z < s_nt S := z1
      simp (disch := omega) only [uR, u2, va_cpy, if_pos, if_neg, Int.toNat_zero, Nat.zero_add, Nat.sub_zero, ↓reduceIte]
      exact r9 z z0 z2
  · intro r hr
    refine ⟨?_, rfl⟩
    funext k
    simp (disch := omega) only [uR, u2, if_neg]
theorem RS_va_ext {f : Int → Int} (hR : RS δ st S ac fl) (h : ∀ z, 0 ≤ z → z < s_nv S → f z = s_va S z) : RS δ st (s_setva S f) ac fl := by
  obtain ⟨r1, r2, r3, r4, r5, r6, r7, r8, r9, r10, r11, r12, r13, r14⟩ := hR
  exact ⟨r1, r2, r3, fun z z0 z1 => (r4 z z0 z1).trans (congrArg ii (h z z0 z1).symm), r5, r6, r7, r8, r9, r10, r11, r12, r13, r14⟩
theorem t_rest2 (hK : KS σ st) (hL : KL σ lv) (hd : st + 10 ≤ lv ∨ lv + 24 ≤ st) {v : Sav} (hR : RS δ st S ac fl) (hV : RV δ lv v) (g3 : 0 ≤ s_nt S) (g4 : s_nt S ≤ 100) (hv0 : 0 ≤ v.2.1) (hv1 : v.2.1 ≤ 100) : Ok (m_X8_restore_b78 σ st lv (ii 0) δ) (fun d => RS d st (s_setsd S (fun t => decide (t < v.2.1) && v.2.2.2.2 t)) ac fl ∧ Fr (blk st 10) δ d) := by
  obtain ⟨k0, ⟨k1, k2, k3, k4, k5, k6, k7, k8, k9⟩, d1, d2, d3, d4, d5, d6, d7, d8, d9⟩ := hK
  obtain ⟨q0, ⟨-, -, -, -, -, q5, q6, q7⟩, l1, l2, l3⟩ := hL
  unfold m_X8_restore_b78
  refine Ok_for (fun z s => s.1 = ii z ∧ RS s.2 st (s_setsd S (fun t => if t < z then decide (t < v.2.1) && v.2.2.2.2 t else s_sd S t)) ac fl ∧ Fr (blk st 10) δ s.2) 0 (s_nt S) g3 (by omega) ?_ ?_ ⟨rfl, RS_sd_ext hR (fun z z0 _ => if_neg (by omega)), Fr.rf⟩
  · rintro z ⟨s1, d⟩ z0 z1 ⟨hs, hR, hF⟩
    have hR' := hR
    dsimp only at hs hR hR' hF ⊢
    subst hs
    obtain ⟨r1, r2, r3, r4, r5, r6, r7, r8, r9, r10, r11, r12, r13, r14⟩ := hR
    obtain ⟨v1, v2, v3, v4, v5⟩ := RV_of_Fr hV hF (by unfold blk; omega) (by unfold blk; omega) (by unfold blk; omega) (by unfold blk; omega)
    have n2 : d.1 st 10 = ii (s_nt S) := r2
    refine Ok_inl (s' := (ii (z + 1), (u2 d.1 (st + 7) z.toNat (bi (decide (z < v.2.1) && v.2.2.2.2 z)), d.2))) ?_ ⟨rfl, ?_, hF.tr (Fr_u2 (by unfold blk; omega))⟩
    · by_cases hv : z < v.2.1
      · have v6 := v5 z z0 hv
        cases hb : v.2.2.2.2 z <;> simp (disch := omega) only [↓reduceIte, ii_lit, ii_add, ii_sub, ii_mul, ii_neg, ii_lt, ii_le, ii_eq, if_pos, if_neg, Option.bind_some, gI_ko k0, chk_ko k0, pI_ko k0, gR_ko k0 k1, gR_ko k0 k2, gR_ko k0 k3, gR_ko k0 k4, gR_ko k0 k5, gR_ko k0 k6, gR_ko k0 k7, gR_ko k0 k8, gR_ko k0 k9, rI_kd d1, rI_kd d2, rI_kd d3, rI_kd d4, rI_kd d5, rZ_kd d6, rZ_kd d7, rL_kd d8, rL_kd d9, n2, gI_ko q0, v2, gR_ko q0 q7, rZ_kd l3, v6, hb, bi_t, bi_f, m_X8_restore_b112, m_X8_restore_b113, wZ_kd d7 (x := ii 0) (Or.inl rfl), wZ_kd d7 (x := ii 1) (Or.inr rfl), decide_eq_true hv, Bool.and_self, Bool.and_false, Bool.false_and, Bool.and_true]
      · simp (disch := omega) only [↓reduceIte, ii_lit, ii_add, ii_sub, ii_mul, ii_neg, ii_lt, ii_le, ii_eq, if_pos, if_neg, Option.bind_some, gI_ko k0, chk_ko k0, pI_ko k0, gR_ko k0 k1, gR_ko k0 k2, gR_ko k0 k3, gR_ko k0 k4, gR_ko k0 k5, gR_ko k0 k6, gR_ko k0 k7, gR_ko k0 k8, gR_ko k0 k9, rI_kd d1, rI_kd d2, rI_kd d3, rI_kd d4, rI_kd d5, rZ_kd d6, rZ_kd d7, rL_kd d8, rL_kd d9, n2, gI_ko q0, v2, bi_t, bi_f, m_X8_restore_b112, m_X8_restore_b113, wZ_kd d7 (x := ii 0) (Or.inl rfl), decide_eq_false hv, Bool.false_and]
    · refine RS_sd_ext (S := s_setsd (s_setsd S (fun t => if t < z then decide (t < v.2.1) && v.2.2.2.2 t else s_sd S t)) (upf (fun t => if t < z then decide (t < v.2.1) && v.2.2.2.2 t else s_sd S t) z (decide (z < v.2.1) && v.2.2.2.2 z))) (f := fun t => if t < z + 1 then decide (t < v.2.1) && v.2.2.2.2 t else s_sd S t) (RS_wsd hR' z0) (fun y y0 y1 => ?_)
      show (if y < z + 1 then decide (y < v.2.1) && v.2.2.2.2 y else s_sd S y) = (if y = z then decide (z < v.2.1) && v.2.2.2.2 z else (if y < z then decide (y < v.2.1) && v.2.2.2.2 y else s_sd S y))
      by_cases hy : y = z
      · rw [hy, if_pos rfl, if_pos (by omega)]
      · rw [if_neg hy]
        by_cases hq : y < z
        · rw [if_pos hq, if_pos (by omega)]
        · rw [if_neg hq, if_neg (by omega)]
  · rintro ⟨s1, d⟩ ⟨hs, hR, hF⟩
    have hR' := hR
    dsimp only at hs hR hR' hF ⊢
    subst hs
    obtain ⟨r1, r2, r3, r4, r5, r6, r7, r8, r9, r10, r11, r12, r13, r14⟩ := hR
    have n2 : d.1 st 10 = ii (s_nt S) := r2
    refine Ok_inr (r := d) (by simp (disch := omega) only [↓reduceIte, ii_lit, ii_add, ii_sub, ii_mul, ii_neg, ii_lt, ii_le, ii_eq, if_pos, if_neg, Option.bind_some, gI_ko k0, chk_ko k0, pI_ko k0, gR_ko k0 k1, gR_ko k0 k2, gR_ko k0 k3, gR_ko k0 k4, gR_ko k0 k5, gR_ko k0 k6, gR_ko k0 k7, gR_ko k0 k8, gR_ko k0 k9, rI_kd d1, rI_kd d2, rI_kd d3, rI_kd d4, rI_kd d5, rZ_kd d6, rZ_kd d7, rL_kd d8, rL_kd d9, n2]) ⟨?_, hF⟩
    exact RS_sd_ext (S := s_setsd S (fun t => if t < s_nt S then decide (t < v.2.1) && v.2.2.2.2 t else s_sd S t)) (f := fun t => decide (t < v.2.1) && v.2.2.2.2 t) hR' (fun y y0 y1 => (if_pos y1).symm)
end
