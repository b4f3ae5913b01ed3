/-! THE STORE: put back, copied -/
abbrev s_setcv (S : Sto) (f g : Int → Int) : Sto := (s_nv S, f, g, s_nt S, s_so S, s_fi S, s_se S, s_sd S, s_la S, s_sl S)
section
variable {σ : St} {δ : Dy} {st lv : Nat} {S : Sto} {ac : Int} {fl : Bool}
theorem RS_cv_ext {f g : Int → Int} (hR : RS δ st S ac fl) (h : ∀ z, 0 ≤ z → z < s_nv S → f z = s_cl S z) (k : ∀ z, 0 ≤ z → z < s_nv S → g z = s_va S z) : RS δ st (s_setcv S f g) ac fl := by
  obtain ⟨r1, r2, r3, r4, r5, r6, r7, r8, r9, r10, r11, r12, r13, r14⟩ := hR
  exact ⟨r1, r2, fun z z0 z1 => (r3 z z0 z1).trans (congrArg ii (h z z0 z1).symm), fun z z0 z1 => (r4 z z0 z1).trans (congrArg ii (k z z0 z1).symm), r5, r6, r7, r8, r9, r10, r11, r12, r13, r14⟩
theorem t_restore (hK : KS σ st) (hL : KL σ lv) (hd : st + 10 ≤ lv ∨ lv + 24 ≤ st) {v : Sav} (hR : RS δ st S ac fl) (hV : RV δ lv v) (hG : GS S) (hv0 : 0 ≤ v.2.1) (hv1 : v.2.1 ≤ 100) (hv2 : 0 ≤ v.1) (hv3 : v.1 ≤ 60) (hv4 : ∀ x, 0 ≤ x → x < v.1 → -100000 ≤ v.2.2.1 x ∧ v.2.2.1 x ≤ 100000) : Ok (m_X8_restore σ st lv δ) (fun d => RS d st (restS S v) ac false ∧ Fr (blk st 10) δ d) := by
  have k0 := hK.1
  unfold m_X8_restore
  rw [show (0 : Int32) = bi false from rfl, pZ_ko k0 (bi_01 false), Option.bind_some]
  have hR0 : RS (u2 δ.1 st 12 (bi false), δ.2) st S ac false := RS_wfl hR
  have hF0 : Fr (blk st 10) δ (u2 δ.1 st 12 (bi false), δ.2) := Fr_u2 (by unfold blk; omega)
  have hV0 := RV_of_Fr hV hF0 (by unfold blk; omega) (by unfold blk; omega) (by unfold blk; omega) (by unfold blk; omega)
  revert hR0 hF0 hV0
  generalize (u2 δ.1 st 12 (bi false), δ.2) = δ0
  intro hR0 hF0 hV0
  have hL' := hL
  have hK' := hK
  obtain ⟨k0, ⟨k1, k2, k3, k4, k5, k6, k7, k8, k9⟩, d1, d2, d3, d4, d5, d6, d7, d8, d9⟩ := hK
  obtain ⟨g1, g2⟩ := show 0 ≤ s_nv S ∧ s_nv S ≤ 60 from ⟨hG.1.1, hG.1.2.1⟩
  obtain ⟨q0, ⟨-, -, -, -, -, q5, q6, q7⟩, l1, l2, l3⟩ := hL
  unfold m_X8_restore_b7
  refine Ok_for (fun z s => s.1 = ii z ∧ RS s.2 st (s_setcv S (fun x => if x < z then (if x < v.1 then v.2.2.1 x else x) else s_cl S x) (fun x => if x < z then (if x < v.1 then v.2.2.2.1 x else 100) else s_va S x)) ac false ∧ Fr (blk st 10) δ s.2) 0 (s_nv S) g1 (by omega) ?_ ?_ ⟨rfl, RS_cv_ext hR0 (fun z z0 _ => if_neg (by omega)) (fun z z0 _ => if_neg (by omega)), hF0⟩
  · rintro z ⟨s1, d⟩ z0 z1 ⟨hs, hR, hF⟩
    have hR' := hR
    dsimp only at hs hR hR' hF ⊢
    subst hs
    obtain ⟨r1, r2, r3, r4, r5, r6, r7, r8, r9, r10, r11, r12, r13, r14⟩ := hR
    obtain ⟨v1, v2, v3, v4, v5⟩ := RV_of_Fr hV hF (by unfold blk; omega) (by unfold blk; omega) (by unfold blk; omega) (by unfold blk; omega)
    have n1 : d.1 st 2 = ii (s_nv S) := r1
    refine Ok_inl (s' := (ii (z + 1), (u2 (u2 d.1 (st + 1) z.toNat (ii (if z < v.1 then v.2.2.1 z else z))) (st + 2) z.toNat (ii (if z < v.1 then v.2.2.2.1 z else 100)), d.2))) ?_ ⟨rfl, ?_, hF.tr ?_⟩
    · by_cases hv : z < v.1
      · have v6 := v3 z z0 hv
        have v7 := v4 z z0 hv
        simp (disch := omega) only [↓reduceIte, ii_lit, ii_add, ii_sub, ii_mul, ii_neg, ii_lt, ii_le, ii_eq, if_pos, if_neg, Option.bind_some, gI_ko k0, chk_ko k0, pI_ko k0, gR_ko k0 k1, gR_ko k0 k2, gR_ko k0 k3, gR_ko k0 k4, gR_ko k0 k5, gR_ko k0 k6, gR_ko k0 k7, gR_ko k0 k8, gR_ko k0 k9, rI_kd d1, rI_kd d2, rI_kd d3, rI_kd d4, rI_kd d5, rZ_kd d6, rZ_kd d7, rL_kd d8, rL_kd d9, n1, gI_ko q0, v1, gR_ko q0 q5, gR_ko q0 q6, rI_kd l1, rI_kd l2, v6, v7, u2, m_X8_restore_b28, m_X8_restore_b48, m_X8_restore_b69, wI_kd d1, wI_kd d2]
      · simp (disch := omega) only [↓reduceIte, ii_lit, ii_add, ii_sub, ii_mul, ii_neg, ii_lt, ii_le, ii_eq, if_pos, if_neg, Option.bind_some, gI_ko k0, chk_ko k0, pI_ko k0, gR_ko k0 k1, gR_ko k0 k2, gR_ko k0 k3, gR_ko k0 k4, gR_ko k0 k5, gR_ko k0 k6, gR_ko k0 k7, gR_ko k0 k8, gR_ko k0 k9, rI_kd d1, rI_kd d2, rI_kd d3, rI_kd d4, rI_kd d5, rZ_kd d6, rZ_kd d7, rL_kd d8, rL_kd d9, n1, gI_ko q0, v1, m_X8_restore_b28, m_X8_restore_b48, m_X8_restore_b69, wI_kd d1, wI_kd d2]
    · have h1 := RS_wcl (y := z) (v := if z < v.1 then v.2.2.1 z else z) hR' z0
      have h2 := RS_wva (y := z) (v := if z < v.1 then v.2.2.2.1 z else 100) h1 z0
      refine RS_cv_ext (S := s_setcv S (upf (fun x => if x < z then (if x < v.1 then v.2.2.1 x else x) else s_cl S x) z (if z < v.1 then v.2.2.1 z else z)) (upf (fun x => if x < z then (if x < v.1 then v.2.2.2.1 x else 100) else s_va S x) z (if z < v.1 then v.2.2.2.1 z else 100))) (f := fun x => if x < z + 1 then (if x < v.1 then v.2.2.1 x else x) else s_cl S x) (g := fun x => if x < z + 1 then (if x < v.1 then v.2.2.2.1 x else 100) else s_va S x) h2 (fun y y0 y1 => ?_) (fun y y0 y1 => ?_)
      · show (if y < z + 1 then (if y < v.1 then v.2.2.1 y else y) else s_cl S y) = (if y = z then (if z < v.1 then v.2.2.1 z else z) else (if y < z then (if y < v.1 then v.2.2.1 y else y) else s_cl S y))
        by_cases hy : y = z
        · rw [hy, if_pos rfl, if_pos (by omega)]
        · rw [if_neg hy]
          by_cases hq : y < z
          · rw [if_pos hq, if_pos (by omega)]
          · rw [if_neg hq, if_neg (by omega)]
      · show (if y < z + 1 then (if y < v.1 then v.2.2.2.1 y else 100) else s_va S y) = (if y = z then (if z < v.1 then v.2.2.2.1 z else 100) else (if y < z then (if y < v.1 then v.2.2.2.1 y else 100) else s_va S y))
        by_cases hy : y = z
        · rw [hy, if_pos rfl, if_pos (by omega)]
        · rw [if_neg hy]
          by_cases hq : y < z
          · rw [if_pos hq, if_pos (by omega)]
          · rw [if_neg hq, if_neg (by omega)]
    · intro r hr
      unfold blk at hr
      exact ⟨by simp (disch := omega) only [u2_ne], rfl⟩
  · rintro ⟨s1, d⟩ ⟨hs, hR, hF⟩
    dsimp only at hs hR hF ⊢
    subst hs
    have n1 : d.1 st 2 = ii (s_nv S) := hR.1
    have hV1 := RV_of_Fr hV hF (by unfold blk; omega) (by unfold blk; omega) (by unfold blk; omega) (by unfold blk; omega)
    have hR1 : RS d st (s_setcv S (fun x => if x < v.1 then v.2.2.1 x else x) (fun x => if x < v.1 then v.2.2.2.1 x else 100)) ac false :=
      RS_cv_ext (S := s_setcv S (fun x => if x < s_nv S then (if x < v.1 then v.2.2.1 x else x) else s_cl S x) (fun x => if x < s_nv S then (if x < v.1 then v.2.2.2.1 x else 100) else s_va S x)) hR (fun y y0 y1 => (if_pos y1).symm) (fun y y0 y1 => (if_pos y1).symm)
    obtain ⟨dd2, e2, h2, f2⟩ := t_rest2 hK' hL' hd hR1 hV1 hG.1.2.2.1 hG.1.2.2.2 hv0 hv1
    refine Ok_inr (r := dd2) ?_ ⟨h2, hF.tr f2⟩
    simp (disch := omega) only [↓reduceIte, ii_lit, ii_add, ii_sub, ii_mul, ii_neg, ii_lt, ii_le, ii_eq, if_pos, if_neg, Option.bind_some, gI_ko k0, chk_ko k0, pI_ko k0, gR_ko k0 k1, gR_ko k0 k2, gR_ko k0 k3, gR_ko k0 k4, gR_ko k0 k5, gR_ko k0 k6, gR_ko k0 k7, gR_ko k0 k8, gR_ko k0 k9, rI_kd d1, rI_kd d2, rI_kd d3, rI_kd d4, rI_kd d5, rZ_kd d6, rZ_kd d7, rL_kd d8, rL_kd d9, n1]
    rw [e2]
    rfl
theorem cpI_ok {a b n m : Nat} {x y c : Int} (ha : KD σ a 100 n) (hb : KD σ b 100 m) (h0 : 0 ≤ x) (h1 : 0 ≤ y) (h2 : 0 ≤ c) (h3 : x + c ≤ n) (h4 : y + c ≤ m) : ∃ d, cpI σ δ a (ii x) b (ii y) (ii c) = some d ∧ (∀ z : Int, 0 ≤ z → z < c → d.1 b (y + z).toNat = δ.1 a (x + z).toNat) ∧ (∀ k : Nat, (k : Int) < y ∨ y + c ≤ k → d.1 b k = δ.1 b k) ∧ (∀ r : Nat, ¬ r = b → d.1 r = δ.1 r) ∧ d.2 = δ.2 := by
  refine ⟨_, cpI_kd ha hb h0 h1 h2 h3 h4, fun z z0 z1 => ?_, fun k hk => ?_, fun r hr => ?_, rfl⟩
  · simp (disch := omega) only [uR, va_cpy, if_pos, ↓reduceIte]
    exact congrArg (δ.1 a) (by omega)
  · simp (disch := omega) only [uR, va_cpy, if_neg, ↓reduceIte]
  · simp (disch := omega) only [uR, if_neg]
theorem cpZ_ok {a b n m : Nat} {x y c : Int} (ha : KD σ a 101 n) (hb : KD σ b 101 m) (h0 : 0 ≤ x) (h1 : 0 ≤ y) (h2 : 0 ≤ c) (h3 : x + c ≤ n) (h4 : y + c ≤ m) (h5 : ∀ k : Nat, δ.1 a k = 0 ∨ δ.1 a k = 1) : ∃ d, cpZ σ δ a (ii x) b (ii y) (ii c) = some d ∧ (∀ z : Int, 0 ≤ z → z < c → d.1 b (y + z).toNat = δ.1 a (x + z).toNat) ∧ (∀ k : Nat, (k : Int) < y ∨ y + c ≤ k → d.1 b k = δ.1 b k) ∧ (∀ r : Nat, ¬ r = b → d.1 r = δ.1 r) ∧ d.2 = δ.2 := by
  refine ⟨_, cpZ_kd ha hb h0 h1 h2 h3 h4 h5, fun z z0 z1 => ?_, fun k hk => ?_, fun r hr => ?_, rfl⟩
  · simp (disch := omega) only [uR, va_cpy, if_pos, ↓reduceIte]
    exact congrArg (δ.1 a) (by omega)
  · simp (disch := omega) only [uR, va_cpy, if_neg, ↓reduceIte]
  · simp (disch := omega) only [uR, if_neg]
theorem cpL_ok {a b n m : Nat} {x y c : Int} (ha : KD σ a 102 n) (hb : KD σ b 102 m) (h0 : 0 ≤ x) (h1 : 0 ≤ y) (h2 : 0 ≤ c) (h3 : x + c ≤ n) (h4 : y + c ≤ m) : ∃ d, cpL σ δ a (ii x) b (ii y) (ii c) = some d ∧ (∀ z : Int, 0 ≤ z → z < c → d.2 b (y + z).toNat = δ.2 a (x + z).toNat) ∧ (∀ k : Nat, (k : Int) < y ∨ y + c ≤ k → d.2 b k = δ.2 b k) ∧ (∀ r : Nat, ¬ r = b → d.2 r = δ.2 r) ∧ d.1 = δ.1 := by
  refine ⟨_, cpL_kd ha hb h0 h1 h2 h3 h4, fun z z0 z1 => ?_, fun k hk => ?_, fun r hr => ?_, rfl⟩
  · simp (disch := omega) only [uR, va_cpy, if_pos, ↓reduceIte]
    exact congrArg (δ.2 a) (by omega)
  · simp (disch := omega) only [uR, va_cpy, if_neg, ↓reduceIte]
  · simp (disch := omega) only [uR, if_neg]
theorem t_copyS {s0 : Nat} {S' : Sto} {ac' : Int} {fl' : Bool} (hK : KS σ st) (hK0 : KS σ s0) (hd : st + 10 ≤ s0 ∨ s0 + 10 ≤ st) (hR0 : RS δ st S' ac' fl') (hR : RS δ s0 S ac fl) (hG : GS S) : Ok (m_X8_copyFrom σ st s0 δ) (fun d => RS d st S ac fl ∧ Fr (blk st 10) δ d) := by
  obtain ⟨-, -, -, -, -, -, -, -, -, -, -, -, w13, w14⟩ := hR0
  obtain ⟨c0, ⟨c1, c2, c3, c4, c5, c6, c7, c8, c9⟩, b1, b2, b3, b4, b5, b6, b7, b8, b9⟩ := hK0
  obtain ⟨k0, ⟨k1, k2, k3, k4, k5, k6, k7, k8, k9⟩, d1, d2, d3, d4, d5, d6, d7, d8, d9⟩ := hK
  obtain ⟨r1, r2, r3, r4, r5, r6, r7, r8, r9, r10, r11, r12, r13, r14⟩ := hR
  obtain ⟨⟨g1, g2, g3, g4⟩, g5, g6, g7, g8, g9⟩ := hG
  unfold m_X8_copyFrom
  simp (disch := omega) only [ii_lit, gI_ko k0, gI_ko c0, pI_ko k0, u2, if_neg, Option.bind_some, r1, r2, r11, r12, pZ_ko k0 (bi_01 fl), gR_ko k0 k1, gR_ko k0 k2, gR_ko k0 k3, gR_ko k0 k4, gR_ko k0 k5, gR_ko k0 k6, gR_ko k0 k7, gR_ko k0 k8, gR_ko k0 k9, gR_ko c0 c1, gR_ko c0 c2, gR_ko c0 c3, gR_ko c0 c4, gR_ko c0 c5, gR_ko c0 c6, gR_ko c0 c7, gR_ko c0 c8, gR_ko c0 c9]
  generalize hD : ((u2 (u2 (u2 (u2 δ.1 st 2 (ii (s_nv S))) st 10 (ii (s_nt S))) st 11 (ii ac)) st 12 (bi fl), δ.2) : Dy) = D0
  have F0 : ∀ r, ¬ r = st → D0.1 r = δ.1 r := fun r hr => by rw [← hD]; simp (disch := omega) only [u2_ne]
  have F0' : D0.2 = δ.2 := by rw [← hD]
  have x2 : D0.1 st 2 = ii (s_nv S) := by rw [← hD]; simp (disch := omega) only [u2, if_neg, and_self, ↓reduceIte]
  have x10 : D0.1 st 10 = ii (s_nt S) := by rw [← hD]; simp (disch := omega) only [u2, if_neg, and_self, ↓reduceIte]
  have x11 : D0.1 st 11 = ii ac := by rw [← hD]; simp (disch := omega) only [u2, if_neg, and_self, ↓reduceIte]
  have x12 : D0.1 st 12 = bi fl := by rw [← hD]; simp (disch := omega) only [u2, if_neg, and_self, ↓reduceIte]
  clear hD
  obtain ⟨D1, e1, y1, -, F1, F1'⟩ := cpI_ok (δ := D0) (x := 0) (y := 0) (c := 60) b1 d1 (by omega) (by omega) (by omega) (by omega) (by omega)
  obtain ⟨D2, e2, y2, -, F2, F2'⟩ := cpI_ok (δ := D1) (x := 0) (y := 0) (c := 60) b2 d2 (by omega) (by omega) (by omega) (by omega) (by omega)
  obtain ⟨D3, e3, y3, -, F3, F3'⟩ := cpI_ok (δ := D2) (x := 0) (y := 0) (c := 100) b3 d3 (by omega) (by omega) (by omega) (by omega) (by omega)
  obtain ⟨D4, e4, y4, -, F4, F4'⟩ := cpI_ok (δ := D3) (x := 0) (y := 0) (c := 100) b4 d4 (by omega) (by omega) (by omega) (by omega) (by omega)
  obtain ⟨D5, e5, y5, -, F5, F5'⟩ := cpI_ok (δ := D4) (x := 0) (y := 0) (c := 100) b5 d5 (by omega) (by omega) (by omega) (by omega) (by omega)
  obtain ⟨D6, e6, y6, n6, F6, F6'⟩ := cpZ_ok (δ := D5) (x := 0) (y := 0) (c := 100) b6 d6 (by omega) (by omega) (by omega) (by omega) (by omega) (fun k => by simp (disch := omega) only [F5, F4, F3, F2, F1, F0]; exact r13 k)
  obtain ⟨D7, e7, y7, n7, F7, F7'⟩ := cpZ_ok (δ := D6) (x := 0) (y := 0) (c := 100) b7 d7 (by omega) (by omega) (by omega) (by omega) (by omega) (fun k => by simp (disch := omega) only [F6, F5, F4, F3, F2, F1, F0]; exact r14 k)
  obtain ⟨D8, e8, y8, -, F8, F8'⟩ := cpL_ok (δ := D7) (x := 0) (y := 0) (c := 100) b8 d8 (by omega) (by omega) (by omega) (by omega) (by omega)
  obtain ⟨D9, e9, y9, -, F9, F9'⟩ := cpL_ok (δ := D8) (x := 0) (y := 0) (c := 100) b9 d9 (by omega) (by omega) (by omega) (by omega) (by omega)
  refine Ok_of (v := D9) (by simp only [e1, e2, e3, e4, e5, e6, e7, e8, e9, Option.bind_some]) ⟨?_, ?_⟩
  · have hz : ∀ z : Int, 0 + z = z := Int.zero_add
    simp only [hz] at y1 y2 y3 y4 y5 y6 y7 y8 y9
    refine ⟨?_, ?_, fun z z0 z1 => ?_, fun z z0 z1 => ?_, fun z z0 z1 => ?_, fun z z0 z1 => ?_, fun z z0 z1 => ?_, fun z z0 z1 => ?_, fun z z0 z1 => ?_, fun z z0 z1 => ?_, ?_, ?_, fun k => ?_, fun k => ?_⟩
    · simp (disch := omega) only [F9', F8', F7, F6, F5, F4, F3, F2, F1, x2]
    · simp (disch := omega) only [F9', F8', F7, F6, F5, F4, F3, F2, F1, x10]
    · simp (disch := omega) only [F9', F8', F7, F6, F5, F4, F3, F2, y1, F0, r3]
    · simp (disch := omega) only [F9', F8', F7, F6, F5, F4, F3, y2, F1, F0, r4]
    · simp (disch := omega) only [F9', F8', F7, F6, F5, F4, y3, F2, F1, F0, r5]
    · simp (disch := omega) only [F9', F8', F7, F6, F5, y4, F3, F2, F1, F0, r6]
    · simp (disch := omega) only [F9', F8', F7, F6, y5, F4, F3, F2, F1, F0, r7]
    · simp (disch := omega) only [F9', F8', F7, y6, F5, F4, F3, F2, F1, F0, r8]
    · simp (disch := omega) only [F9', F8', y7, F6, F5, F4, F3, F2, F1, F0, r9]
    · simp (disch := omega) only [F9, y8, y9, F8, F7', F6', F5', F4', F3', F2', F1', F0']
      exact r10 z z0 z1
    · simp (disch := omega) only [F9', F8', F7, F6, F5, F4, F3, F2, F1, x11]
    · simp (disch := omega) only [F9', F8', F7, F6, F5, F4, F3, F2, F1, x12]
    · simp (disch := omega) only [F9', F8', F7]
      by_cases hk : k < 100
      · have h := y6 (k : Int) (by omega) (by omega)
        rw [show ((k : Int)).toNat = k from rfl] at h
        rw [h]
        simp (disch := omega) only [F5, F4, F3, F2, F1, F0]
        exact r13 k
      · rw [n6 k (Or.inr (by omega))]
        simp (disch := omega) only [F5, F4, F3, F2, F1, F0]
        exact w13 k
    · simp only [F9', F8']
      by_cases hk : k < 100
      · have h := y7 (k : Int) (by omega) (by omega)
        rw [show ((k : Int)).toNat = k from rfl] at h
        rw [h]
        simp (disch := omega) only [F6, F5, F4, F3, F2, F1, F0]
        exact r14 k
      · rw [n7 k (Or.inr (by omega))]
        simp (disch := omega) only [F6, F5, F4, F3, F2, F1, F0]
        exact w14 k
  · intro r hr
    unfold blk at hr
    refine ⟨?_, ?_⟩
    · simp (disch := omega) only [F9', F8', F7, F6, F5, F4, F3, F2, F1, F0]
    · simp (disch := omega) only [F9, F8, F7', F6', F5', F4', F3', F2', F1', F0']
end
