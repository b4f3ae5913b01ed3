/-! AGENTS and their lists -/
abbrev Ag : Type := Int × (Int → Int) × (Nat → Bool)
def KA (σ : St) (h : Nat) : Prop := KO σ h 0 ∧ srv σ h 0 = some (h + 1) ∧ KD σ (h + 1) 100 4
def RA (δ : Dy) (h : Nat) (a : Ag) : Prop := δ.1 h 1 = ii a.1 ∧ (∀ z : Int, 0 ≤ z → z < 4 → δ.1 (h + 1) z.toNat = ii (a.2.1 z)) ∧ B64 (δ.2 h 2) (δ.2 h 3) a.2.2
def KQ (σ : St) (q R : Nat) : Prop := KO σ q 1 ∧ (srv σ q 1 = some (q + 1) ∧ srv σ q 2 = some (q + 2) ∧ srv σ q 3 = some (q + 3)) ∧ KD σ (q + 1) 100 R ∧ KD σ (q + 2) 100 (4 * R) ∧ KD σ (q + 3) 102 (2 * R) ∧ R ≤ 200
def AgAt (δ : Dy) (q i : Nat) (a : Ag) : Prop := δ.1 (q + 1) i = ii a.1 ∧ (∀ z : Int, 0 ≤ z → z < 4 → δ.1 (q + 2) (4 * (i : Int) + z).toNat = ii (a.2.1 z)) ∧ B64 (δ.2 (q + 3) (2 * i)) (δ.2 (q + 3) (2 * i + 1)) a.2.2
def RQ (δ : Dy) (q R : Nat) (l : List Ag) : Prop := δ.1 q 0 = ii R ∧ δ.1 q 4 = ii l.length ∧ l.length ≤ R ∧ ∀ (i : Nat) (a : Ag), l[i]? = some a → AgAt δ q i a
theorem isSlot_ii {σ : St} {δ : Dy} {t : Int} (h0 : -100000 ≤ t) (h1 : t ≤ 100000) : m_X11_isSlot σ (ii t) δ = some (bi (decide (200 ≤ t ∧ t < 204))) := by
  unfold m_X11_isSlot
  by_cases ha : t < 200
  · rw [decide_eq_false (by omega)]
    simp (disch := omega) only [↓reduceIte, ii_lit, ii_add, ii_sub, ii_mul, ii_neg, ii_lt, ii_le, ii_eq, if_pos, if_neg, Option.bind_some, bi_f]
  · by_cases hb : t < 204
    · rw [decide_eq_true (by omega)]
      simp (disch := omega) only [↓reduceIte, ii_lit, ii_add, ii_sub, ii_mul, ii_neg, ii_lt, ii_le, ii_eq, if_pos, if_neg, Option.bind_some, bi_t]
    · rw [decide_eq_false (by omega)]
      simp (disch := omega) only [↓reduceIte, ii_lit, ii_add, ii_sub, ii_mul, ii_neg, ii_lt, ii_le, ii_eq, if_pos, if_neg, Option.bind_some, bi_f]
def lookA (a : Ag) (t : Int) : Int := if 200 ≤ t ∧ t < 204 then a.2.1 (t - 200) else t
section
variable {σ : St} {δ : Dy} {q h R : Nat} {l l2 : List Ag} {a : Ag}
theorem RA_of_Fr {δ' : Dy} {P : Nat → Prop} (hR : RA δ h a) (hF : Fr P δ δ') (h0 : ¬ P h) (h1 : ¬ P (h + 1)) : RA δ' h a := by
  unfold RA
  rw [(hF _ h0).1, (hF _ h0).2, (hF _ h1).1]
  exact hR
theorem RQ_of_Fr {δ' : Dy} {P : Nat → Prop} (hR : RQ δ q R l) (hF : Fr P δ δ') (hd : ∀ r, q ≤ r → r < q + 4 → ¬ P r) : RQ δ' q R l := by
  have h : ∀ k, k < 4 → δ'.1 (q + k) = δ.1 (q + k) ∧ δ'.2 (q + k) = δ.2 (q + k) := fun k hk => hF (q + k) (hd _ (by omega) (by omega))
  obtain ⟨r1, r2, r3, r4⟩ := hR
  refine ⟨by rw [show δ'.1 q = δ.1 q from (h 0 (by omega)).1]; exact r1, by rw [show δ'.1 q = δ.1 q from (h 0 (by omega)).1]; exact r2, r3, fun i b hb => ?_⟩
  unfold AgAt
  rw [(h 1 (by omega)).1, (h 2 (by omega)).1, (h 3 (by omega)).2]
  exact r4 i b hb
theorem t_look (hK : KA σ h) (hR : RA δ h a) {t : Int} (h0 : -100000 ≤ t) (h1 : t ≤ 100000) : m_X0_look σ h (ii t) δ = some (ii (lookA a t)) := by
  obtain ⟨k0, k1, k2⟩ := hK
  obtain ⟨r1, r2, r3⟩ := hR
  unfold m_X0_look lookA
  rw [isSlot_ii h0 h1]
  by_cases hs : 200 ≤ t ∧ t < 204
  · rw [decide_eq_true hs, if_pos hs]
    simp (disch := omega) only [↓reduceIte, ii_lit, ii_add, ii_sub, ii_mul, ii_neg, ii_lt, ii_le, ii_eq, if_pos, if_neg, Option.bind_some, bi_t, gR_ko k0 k1, rI_kd k2, r2]
  · rw [decide_eq_false hs, if_neg hs]
    simp (disch := omega) only [↓reduceIte, ii_lit, ii_add, ii_sub, ii_mul, ii_neg, ii_lt, ii_le, ii_eq, if_pos, if_neg, Option.bind_some, bi_f]
theorem t_take (hK : KA σ h) (hR : RA δ h a) {n x y : Int} : Ok (m_X0_take σ h (ii n) (ii x) (ii y) δ) (fun d => RA d h (n, fun z => if z = 0 then x else if z = 1 then y else 0, a.2.2) ∧ Fr (blk h 2) δ d) := by
  obtain ⟨k0, k1, k2⟩ := hK
  obtain ⟨r1, r2, r3⟩ := hR
  unfold m_X0_take
  refine ⟨_, by simp (disch := omega) only [↓reduceIte, ii_lit, ii_add, ii_sub, ii_mul, ii_neg, ii_lt, ii_le, ii_eq, if_pos, if_neg, Option.bind_some, pI_ko k0, gR_ko k0 k1, wI_kd k2]; rfl, ⟨?_, fun z z0 z1 => ?_, ?_⟩, ?_⟩
  · simp (disch := omega) only [u2, if_neg, and_self, ↓reduceIte]
  · rcases (show z = 0 ∨ z = 1 ∨ z = 2 ∨ z = 3 by omega) with rfl | rfl | rfl | rfl <;> simp (disch := omega) only [u2, if_neg, and_self, ↓reduceIte]
  · exact r3
  · intro r hr; unfold blk at hr; exact ⟨by simp (disch := omega) only [u2_ne], by simp (disch := omega) only [u2_ne]⟩
theorem t_qadd (hK : KQ σ q R) (hA : KA σ h) (hd : q + 4 ≤ h ∨ h + 2 ≤ q) (hR : RQ δ q R l) (hH : RA δ h a) (hr : l.length < R) {n : Int} : Ok (m_X1_add σ q (ii n) h δ) (fun d => RQ d q R (l ++ [(n, a.2)]) ∧ Fr (blk q 4) δ d) := by
  obtain ⟨k0, ⟨k1, k2, k3⟩, d1, d2, d3, kR⟩ := hK
  obtain ⟨a0, a1, a2⟩ := hA
  obtain ⟨r1, r2, r3, r4⟩ := hR
  obtain ⟨s1, s2, s3⟩ := hH
  unfold m_X1_add
  obtain ⟨D, e, y, nn, F, F'⟩ := cpI_ok (δ := (u2 δ.1 (q + 1) ((l.length : Int)).toNat (ii n), δ.2)) (x := 0) (y := 4 * (l.length : Int)) (c := 4) a2 d2 (by omega) (by omega) (by omega) (by omega) (by omega)
  simp (disch := omega) only [u2_ne] at y nn F
  have hsz : D.1 q 4 = ii l.length := by rw [F q (by omega)]; simp (disch := omega) only [u2_ne, r2]
  have hlo : D.2 h = δ.2 h := by rw [F']
  refine ⟨_, by
    simp (disch := omega) only [ii_lit, ii_mul, ii_add, ii_lt, if_pos, Option.bind_some, gI_ko k0, gL_ko a0, gR_ko k0 k1, gR_ko k0 k2, gR_ko k0 k3, gR_ko a0 a1, r1, r2, wI_kd d1, u2_ne, e, hsz, hlo, wLo_kd d3, pI_ko k0]
    rfl, ⟨?_, ?_, ?_, fun i b hb => ?_⟩, ?_⟩
  · simp (disch := omega) only [u2, if_neg]
    rw [F q (by omega)]
    simp (disch := omega) only [u2, if_neg]
    exact r1
  · simp only [u2, and_self, ↓reduceIte, List.length_append, List.length_cons, List.length_nil]
    rfl
  · simp only [List.length_append, List.length_cons, List.length_nil]
    omega
  · by_cases hi : i < l.length
    · rw [List.getElem?_append_left hi] at hb
      obtain ⟨t1, t2, t3⟩ := r4 i b hb
      refine ⟨?_, fun z z0 z1 => ?_, ?_⟩
      · simp (disch := omega) only [u2, if_neg]
        rw [F _ (by omega)]
        simp (disch := omega) only [u2, if_neg]
        exact t1
      · simp (disch := omega) only [u2, if_neg]
        rw [nn _ (Or.inl (by omega))]
        exact t2 z z0 z1
      · simp (disch := omega) only [u2, if_neg]
        rw [F']
        exact t3
    · rw [List.getElem?_append_right (by omega)] at hb
      have hi2 : i = l.length := by
        by_cases hz : i - l.length = 0
        · omega
        · rw [List.getElem?_eq_none (by simp only [List.length_cons, List.length_nil]; omega)] at hb
          cases hb
      subst hi2
      rw [Nat.sub_self] at hb
      cases hb
      refine ⟨?_, fun z z0 z1 => ?_, ?_⟩
      · simp (disch := omega) only [u2, if_neg]
        rw [F _ (by omega)]
        exact if_pos ⟨rfl, by omega⟩
      · simp (disch := omega) only [u2, if_neg]
        rw [y z z0 z1, Int.zero_add]
        exact s2 z z0 z1
      · simp (disch := omega) only [u2, if_neg, if_pos, true_and]
        exact s3
  · intro r hr
    unfold blk at hr
    refine ⟨?_, ?_⟩
    · simp (disch := omega) only [u2_ne, F]
    · simp (disch := omega) only [u2_ne, F']
theorem t_qread (hK : KQ σ q R) (hA : KA σ h) (hd : q + 4 ≤ h ∨ h + 2 ≤ q) (hR : RQ δ q R l) {i : Nat} (hi : l[i]? = some a) : Ok (m_X1_read σ q (ii i) h δ) (fun d => RA d h a ∧ Fr (blk h 2) δ d) := by
  obtain ⟨k0, ⟨k1, k2, k3⟩, d1, d2, d3, kR⟩ := hK
  obtain ⟨a0, a1, a2⟩ := hA
  obtain ⟨r1, r2, r3, r4⟩ := hR
  have hl : i < l.length := (List.getElem?_eq_some_iff.mp hi).1
  obtain ⟨t1, t2, t3⟩ := r4 i a hi
  unfold m_X1_read
  obtain ⟨D, e, y, nn, F, F'⟩ := cpI_ok (δ := (u2 δ.1 h 1 (ii a.1), δ.2)) (x := 4 * (i : Int)) (y := 0) (c := 4) d2 a2 (by omega) (by omega) (by omega) (by omega) (by omega)
  simp (disch := omega) only [u2_ne] at y nn F
  have t1' : δ.1 (q + 1) ((i : Int)).toNat = ii a.1 := t1
  have z1 : (2 * (i : Int)).toNat = 2 * i := by omega
  have z2 : (2 * (i : Int) + 1).toNat = 2 * i + 1 := by omega
  refine ⟨_, by
    simp (disch := omega) only [ii_lit, ii_mul, ii_add, ii_lt, if_pos, if_neg, Option.bind_some, gI_ko k0, gR_ko k0 k1, gR_ko k0 k2, gR_ko k0 k3, gR_ko a0 a1, r2, rI_kd d1, t1', pI_ko a0, pL_ko a0, e, rL_kd d3, u2_ne, F', z1, z2]
    rfl, ⟨?_, fun z z0 z1 => ?_, ?_⟩, ?_⟩
  · show D.1 h 1 = _
    rw [F h (by omega)]
    simp only [u2, and_self, ↓reduceIte]
  · show D.1 (h + 1) z.toNat = _
    have h9 := y z z0 z1
    rw [Int.zero_add] at h9
    rw [h9]
    exact t2 z z0 z1
  · simp (disch := omega) only [u2, if_neg, and_self, ↓reduceIte]
    exact t3
  · intro r hr
    unfold blk at hr
    refine ⟨?_, ?_⟩
    · show D.1 r = δ.1 r
      rw [F r (by omega)]
      simp (disch := omega) only [u2_ne]
    · simp (disch := omega) only [u2_ne, F']
theorem t_qclr (hK : KQ σ q R) (hR : RQ δ q R l) : pI σ δ 1 q 4 (ii 0) = some (u2 δ.1 q 4 (ii 0), δ.2) ∧ RQ (u2 δ.1 q 4 (ii 0), δ.2) q R [] ∧ Fr (blk q 4) δ (u2 δ.1 q 4 (ii 0), δ.2) := by
  refine ⟨pI_ko hK.1, ⟨?_, ?_, Nat.zero_le _, fun i b hb => by simp at hb⟩, Fr_u2 (by unfold blk; omega)⟩
  · simp (disch := omega) only [u2, if_neg]
    exact hR.1
  · simp only [u2, and_self, ↓reduceIte]
    rfl
theorem t_qdrop (hK : KQ σ q R) (hR : RQ δ q R l) {i : Nat} (hi : i < l.length) : Ok (m_X1_drop σ q (ii i) δ) (fun d => RQ d q R (l.eraseIdx i) ∧ Fr (blk q 4) δ d) := by
  obtain ⟨k0, ⟨k1, k2, k3⟩, d1, d2, d3, kR⟩ := hK
  obtain ⟨r1, r2, r3, r4⟩ := hR
  unfold m_X1_drop
  obtain ⟨D1, e1, y1, n1, F1, F1'⟩ := cpI_ok (δ := δ) (x := (i : Int) + 1) (y := i) (c := l.length - i - 1) d1 d1 (by omega) (by omega) (by omega) (by omega) (by omega)
  obtain ⟨D2, e2, y2, n2, F2, F2'⟩ := cpI_ok (δ := D1) (x := 4 * ((i : Int) + 1)) (y := 4 * (i : Int)) (c := 4 * (l.length - i - 1)) d2 d2 (by omega) (by omega) (by omega) (by omega) (by omega)
  obtain ⟨D3, e3, y3, n3, F3, F3'⟩ := cpL_ok (δ := D2) (x := 2 * ((i : Int) + 1)) (y := 2 * (i : Int)) (c := 2 * (l.length - i - 1)) d3 d3 (by omega) (by omega) (by omega) (by omega) (by omega)
  have hsz : D3.1 q 4 = ii l.length := by rw [F3', F2 q (by omega), F1 q (by omega), r2]
  have hlen : (l.eraseIdx i).length = l.length - 1 := List.length_eraseIdx_of_lt hi
  refine ⟨_, by
    simp (disch := omega) only [ii_lit, ii_mul, ii_add, ii_sub, ii_lt, if_pos, if_neg, Option.bind_some, gI_ko k0, gR_ko k0 k1, gR_ko k0 k2, gR_ko k0 k3, r2, e1, e2, e3, hsz, pI_ko k0]
    rfl, ⟨?_, ?_, ?_, fun j b hb => ?_⟩, ?_⟩
  · simp (disch := omega) only [u2, if_neg]
    rw [F3', F2 q (by omega), F1 q (by omega), r1]
  · simp only [u2, and_self, ↓reduceIte]
    rw [hlen]
    congr 1
    omega
  · rw [hlen]; omega
  · rw [List.getElem?_eraseIdx] at hb
    by_cases hj : j < i
    · rw [if_pos hj] at hb
      obtain ⟨t1, t2, t3⟩ := r4 j b hb
      refine ⟨?_, fun z z0 z1 => ?_, ?_⟩
      · simp (disch := omega) only [u2, if_neg]
        rw [F3', F2 _ (by omega), n1 j (Or.inl (by omega))]
        exact t1
      · simp (disch := omega) only [u2, if_neg]
        rw [F3', n2 _ (Or.inl (by omega)), F1 _ (by omega)]
        exact t2 z z0 z1
      · show B64 (D3.2 (q + 3) (2 * j)) (D3.2 (q + 3) (2 * j + 1)) _
        rw [n3 _ (Or.inl (by omega)), n3 _ (Or.inl (by omega)), F2', F1']
        exact t3
    · rw [if_neg hj] at hb
      have hj2 : j + 1 < l.length := (List.getElem?_eq_some_iff.mp hb).1
      obtain ⟨t1, t2, t3⟩ := r4 (j + 1) b hb
      refine ⟨?_, fun z z0 z1 => ?_, ?_⟩
      · simp (disch := omega) only [u2, if_neg]
        rw [F3', F2 _ (by omega)]
        have h := y1 ((j : Int) - i) (by omega) (by omega)
        rw [show ((i : Int) + ((j : Int) - i)).toNat = j by omega, show ((i : Int) + 1 + ((j : Int) - i)).toNat = j + 1 by omega] at h
        rw [h]
        exact t1
      · simp (disch := omega) only [u2, if_neg]
        rw [F3']
        have h := y2 (4 * ((j : Int) - i) + z) (by omega) (by omega)
        rw [show (4 * (i : Int) + (4 * ((j : Int) - i) + z)).toNat = (4 * (j : Int) + z).toNat by omega, show (4 * ((i : Int) + 1) + (4 * ((j : Int) - i) + z)).toNat = (4 * ((j + 1 : Nat) : Int) + z).toNat by omega] at h
        rw [h, F1 _ (by omega)]
        exact t2 z z0 z1
      · show B64 (D3.2 (q + 3) (2 * j)) (D3.2 (q + 3) (2 * j + 1)) _
        have h := y3 (2 * ((j : Int) - i)) (by omega) (by omega)
        have h' := y3 (2 * ((j : Int) - i) + 1) (by omega) (by omega)
        rw [show (2 * (i : Int) + 2 * ((j : Int) - i)).toNat = 2 * j by omega, show (2 * ((i : Int) + 1) + 2 * ((j : Int) - i)).toNat = 2 * (j + 1) by omega] at h
        rw [show (2 * (i : Int) + (2 * ((j : Int) - i) + 1)).toNat = 2 * j + 1 by omega, show (2 * ((i : Int) + 1) + (2 * ((j : Int) - i) + 1)).toNat = 2 * (j + 1) + 1 by omega] at h'
        rw [h, h', F2', F1']
        exact t3
  · intro r hr
    unfold blk at hr
    refine ⟨?_, ?_⟩
    · simp (disch := omega) only [u2_ne, F3', F2, F1]
    · show D3.2 r = _
      rw [F3 r (by omega), F2', F1']
theorem t_qaddAll {q2 R2 : Nat} (hK : KQ σ q R) (hK2 : KQ σ q2 R2) (hd : q + 4 ≤ q2 ∨ q2 + 4 ≤ q) (hR : RQ δ q R l) (hR2 : RQ δ q2 R2 l2) (hr : l.length + l2.length ≤ R) : Ok (m_X1_addAll σ q q2 δ) (fun d => RQ d q R (l ++ l2) ∧ Fr (blk q 4) δ d) := by
  obtain ⟨k0, ⟨k1, k2, k3⟩, d1, d2, d3, kR⟩ := hK
  obtain ⟨c0, ⟨c1, c2, c3⟩, b1, b2, b3, cR⟩ := hK2
  have hR' := hR
  obtain ⟨r1, r2, r3, r4⟩ := hR
  obtain ⟨s1, s2, s3, s4⟩ := hR2
  unfold m_X1_addAll
  have hm : (if ii ((R : Int) - l.length) < ii l2.length then ii ((R : Int) - l.length) else ii l2.length) = ii l2.length := by
    by_cases h : (R : Int) - l.length < l2.length
    · omega
    · simp (disch := omega) only [ii_lt, if_neg]
  by_cases hn : l2.length = 0
  · have hl2 : l2 = [] := List.length_eq_zero_iff.mp hn
    subst hl2
    refine Ok_of (v := δ) ?_ ⟨by rw [List.append_nil]; exact hR', Fr.rf⟩
    simp (disch := omega) only [gI_ko k0, gI_ko c0, r1, r2, s2, Option.bind_some, ii_sub, hm]
    rfl
  · obtain ⟨D1, e1, y1, n1, F1, F1'⟩ := cpI_ok (δ := δ) (x := 0) (y := l.length) (c := l2.length) b1 d1 (by omega) (by omega) (by omega) (by omega) (by omega)
    obtain ⟨D2, e2, y2, n2, F2, F2'⟩ := cpI_ok (δ := D1) (x := 0) (y := 4 * (l.length : Int)) (c := 4 * (l2.length : Int)) b2 d2 (by omega) (by omega) (by omega) (by omega) (by omega)
    obtain ⟨D3, e3, y3, n3, F3, F3'⟩ := cpL_ok (δ := D2) (x := 0) (y := 2 * (l.length : Int)) (c := 2 * (l2.length : Int)) b3 d3 (by omega) (by omega) (by omega) (by omega) (by omega)
    have z1 : D1.1 q 4 = ii l.length := by rw [F1 q (by omega), r2]
    have z2 : D2.1 q 4 = ii l.length := by rw [F2 q (by omega), z1]
    have z3 : D3.1 q 4 = ii l.length := by rw [F3', z2]
    refine ⟨_, by
      simp (disch := omega) only [gI_ko k0, gI_ko c0, r1, r2, s2, Option.bind_some, ii_sub, ii_lit, ii_lt, if_pos, if_neg, gR_ko k0 k1, gR_ko k0 k2, gR_ko k0 k3, gR_ko c0 c1, gR_ko c0 c2, gR_ko c0 c3, ii_mul, e1, e2, e3, z1, z2, z3, ii_add, pI_ko k0]
      rfl, ⟨?_, ?_, ?_, fun j b hb => ?_⟩, ?_⟩
    · simp (disch := omega) only [u2, if_neg]
      rw [F3', F2 q (by omega), F1 q (by omega), r1]
    · simp only [u2, and_self, ↓reduceIte, List.length_append]
      congr 1
    · rw [List.length_append]; omega
    · by_cases hj : j < l.length
      · rw [List.getElem?_append_left hj] at hb
        obtain ⟨t1, t2, t3⟩ := r4 j b hb
        refine ⟨?_, fun z z0 z1 => ?_, ?_⟩
        · simp (disch := omega) only [u2, if_neg]
          rw [F3', F2 _ (by omega), n1 j (Or.inl (by omega))]
          exact t1
        · simp (disch := omega) only [u2, if_neg]
          rw [F3', n2 _ (Or.inl (by omega)), F1 _ (by omega)]
          exact t2 z z0 z1
        · show B64 (D3.2 (q + 3) (2 * j)) (D3.2 (q + 3) (2 * j + 1)) _
          rw [n3 _ (Or.inl (by omega)), n3 _ (Or.inl (by omega)), F2', F1']
          exact t3
      · rw [List.getElem?_append_right (by omega)] at hb
        have hj2 : j - l.length < l2.length := (List.getElem?_eq_some_iff.mp hb).1
        obtain ⟨t1, t2, t3⟩ := s4 (j - l.length) b hb
        refine ⟨?_, fun z z0 z1 => ?_, ?_⟩
        · simp (disch := omega) only [u2, if_neg]
          rw [F3', F2 _ (by omega)]
          have h := y1 ((j : Int) - l.length) (by omega) (by omega)
          rw [show ((l.length : Int) + ((j : Int) - l.length)).toNat = j by omega, show (0 + ((j : Int) - l.length)).toNat = j - l.length by omega] at h
          rw [h]
          exact t1
        · simp (disch := omega) only [u2, if_neg]
          rw [F3']
          have h := y2 (4 * ((j : Int) - l.length) + z) (by omega) (by omega)
          rw [show (4 * (l.length : Int) + (4 * ((j : Int) - l.length) + z)).toNat = (4 * (j : Int) + z).toNat by omega, show (0 + (4 * ((j : Int) - l.length) + z)).toNat = (4 * ((j - l.length : Nat) : Int) + z).toNat by omega] at h
          rw [h, F1 _ (by omega)]
          exact t2 z z0 z1
        · show B64 (D3.2 (q + 3) (2 * j)) (D3.2 (q + 3) (2 * j + 1)) _
          have h := y3 (2 * ((j : Int) - l.length)) (by omega) (by omega)
          have h' := y3 (2 * ((j : Int) - l.length) + 1) (by omega) (by omega)
          rw [show (2 * (l.length : Int) + 2 * ((j : Int) - l.length)).toNat = 2 * j by omega, show (0 + 2 * ((j : Int) - l.length)).toNat = 2 * (j - l.length) by omega] at h
          rw [show (2 * (l.length : Int) + (2 * ((j : Int) - l.length) + 1)).toNat = 2 * j + 1 by omega, show (0 + (2 * ((j : Int) - l.length) + 1)).toNat = 2 * (j - l.length) + 1 by omega] at h'
          rw [h, h', F2', F1']
          exact t3
    · intro r hr
      unfold blk at hr
      refine ⟨?_, ?_⟩
      · simp (disch := omega) only [u2_ne, F3', F2, F1]
      · show D3.2 r = _
        rw [F3 r (by omega), F2', F1']
end
