/-! THE REFERENCE: the end of a step -/
/-- an agent kept for the next step -/
def RNx (c : Nat → Int32) (j : Nat) (a : Ag) : Prop := c (7042 + 9 * j) = ii a.1 ∧ (∀ z : Nat, z < 4 → c (7042 + 9 * j + 1 + z) = ii (a.2.1 z)) ∧ B32 (fun k => c (7042 + 9 * j + 5 + k)) a.2.2
/-- the reference between steps -/
def RIm (δ : Dy) (mo : Nat) (E : Ev) (I : Iw) : Prop := RSm δ mo (v_S (i_V I)) ∧ RMh δ mo (e_Rs E) (v_hi (i_V I)) ∧ (∀ w : Nat, w < 8 → δ.1 (mo + 1) (7023 + w) = ii (v_fi (i_V I) w)) ∧ RXm δ mo (i_x I) (i_pw I) (i_tk I) (i_ck I) ∧ δ.1 (mo + 1) 7040 = bi (v_fl (i_V I)) ∧ (δ.1 (mo + 1) 7041 = ii (i_nx I).length ∧ ∀ (j : Nat) (a : Ag), (i_nx I)[j]? = some a → RNx (δ.1 (mo + 1)) j a)
/-- what the end of a step makes of the last world -/
def finW (W : Wo) : Wo := if v_fl (w_V W) = true then (w_V W, w_x W, w_pw W, w_tk W, w_lv W, true, w_cs W, w_lg W) else (v_setS (w_V W) (dropS (v_S (w_V W))), w_x W, w_pw W, w_tk W, w_lv W, true, (w_ck W + 1, w_sp W), w_lg W)
section
variable {σ : St} {δ d : Dy} {mo g n i : Nat} {E : Ev} {W : Wo} {S : Sto} {a : Ag} {l : Lv} {ls : List Lv} {ch : Nat → Nat}
theorem RNx_eq {c c' : Nat → Int32} {j : Nat} (h : RNx c j a) (e : ∀ k, 7042 + 9 * j ≤ k → k < 7042 + 9 * j + 9 → c' k = c k) : RNx c' j a := ⟨by rw [e _ (by omega) (by omega)]; exact h.1, fun z hz => by rw [e _ (by omega) (by omega)]; exact h.2.1 z hz, B32_eq h.2.2 (fun k hk => e _ (by omega) (by omega))⟩
theorem m_fin28 (hK : KM σ mo) (hi : i < 60) (hg : g < 1990) (h24 : δ.1 (mo + 24) i = ii g) {A : Int32 × Dy → Prop} {B : Dy → Prop} (hq : ∀ d, (∀ k : Nat, k < 9 → d.1 (mo + 1) (7042 + 9 * i + k) = δ.1 (mo + 17) (9 * g + k)) → (∀ k, ¬ (7042 + 9 * i ≤ k ∧ k < 7042 + 9 * i + 9) → d.1 (mo + 1) k = δ.1 (mo + 1) k) → Fr (fun r => r = mo + 1) δ d → A (ii ((i : Int) + 1), d)) : Ok (m_X12_finish_b28 σ mo (ii i) (ii 0) δ) (PL A B) := by
  unfold m_X12_finish_b28
  refine Ok_for (fun y s => s.1 = ii y ∧ (∀ k : Nat, (k : Int) < y → s.2.1 (mo + 1) (7042 + 9 * i + k) = δ.1 (mo + 17) (9 * g + k)) ∧ (∀ k, ¬ (7042 + 9 * i ≤ k ∧ k < 7042 + 9 * i + 9) → s.2.1 (mo + 1) k = δ.1 (mo + 1) k) ∧ Fr (fun r => r = mo + 1) δ s.2) 0 9 (by omega) (by omega) ?_ ?_ ⟨rfl, fun k hk => by omega, fun _ _ => rfl, Fr.rf⟩
  · rintro y ⟨s1, d⟩ y0 y1 ⟨hs, hk, ho, hF⟩
    dsimp only at hs hk ho hF ⊢
    subst hs
    have un : ∀ r, ¬ r = mo + 1 → d.1 r = δ.1 r := fun r hr => (hF r hr).1
    have r1 : rI σ d (mo + 24) (ii i) = some (ii g) := rst (md29 hK) (by omega) (by omega) (show ((i : Int)).toNat = i by omega) (by rw [un _ (by omega)]; exact h24)
    have r2 : rI σ d (mo + 17) (ii (9 * g + y)) = some (δ.1 (mo + 17) (9 * g + y.toNat)) := rst (md21 hK) (by omega) (by omega) (show (9 * (g : Int) + y).toNat = 9 * g + y.toNat by omega) (by rw [un _ (by omega)])
    have w1 : wI σ d (mo + 1) (ii (7042 + 9 * i + y)) (δ.1 (mo + 17) (9 * g + y.toNat)) = some (u2 d.1 (mo + 1) (7042 + 9 * i + y.toNat) (δ.1 (mo + 17) (9 * g + y.toNat)), d.2) := by rw [wI_kd (md0 hK) (by omega) (by omega), show (7042 + 9 * (i : Int) + y).toNat = 7042 + 9 * i + y.toNat by omega]
    refine Ok_inl (s' := (ii (y + 1), (u2 d.1 (mo + 1) (7042 + 9 * i + y.toNat) (δ.1 (mo + 17) (9 * g + y.toNat)), d.2))) ?_ ⟨rfl, fun k hk2 => ?_, fun k hk2 => ?_, hF.tr (Fr_u2 rfl)⟩
    · rw [if_neg (show ¬ (9 : Int32) ≤ ii y by rw [show ((9 : Int32)) = ii 9 from rfl, ii_le (by omega) (by omega) (by omega) (by omega)]; omega), mg0 hK, ob_some, mg21 hK, ob_some, mg29 hK, ob_some, r1, ob_some, show ((9 : Int32)) = ii 9 from rfl, show ((7042 : Int32)) = ii 7042 from rfl, show ((1 : Int32)) = ii 1 from rfl, ii_mul, ii_add, r2, ob_some, ii_mul, ii_add, ii_add, w1, ob_some, ii_add]
    · dsimp only
      by_cases hkz : k = y.toNat
      · rw [hkz]
        simp only [u2, and_self, ↓reduceIte]
      · simp (disch := omega) only [u2, if_neg]
        exact hk k (by omega)
    · simp (disch := omega) only [u2, if_neg]
      exact ho k hk2
  · rintro ⟨s1, d⟩ ⟨hs, hk, ho, hF⟩
    dsimp only at hs hk ho hF ⊢
    subst hs
    refine Ok_inr (r := Sum.inl (ii ((i : Int) + 1), d)) ?_ (hq d (fun k k9 => hk k (by omega)) ho hF)
    rw [if_pos (show (9 : Int32) ≤ ii 9 by decide), show ((1 : Int32)) = ii 1 from rfl, ii_add]
/-- what does not last is dropped -/
theorem m_fin96 (hK : KM σ mo) (hS : RSm δ mo S) (hGS : GS S) {ck : Int} (hck : δ.1 (mo + 1) 7039 = ii ck) : Ok (m_X12_finish_b96 σ mo (0 : Int32) δ) (fun d => RSm d mo (dropS S) ∧ d.1 (mo + 1) 7039 = ii (ck + 1) ∧ (∀ k, ¬ (422 ≤ k ∧ k < 522) → ¬ k = 7039 → d.1 (mo + 1) k = δ.1 (mo + 1) k) ∧ Fr (fun r => r = mo + 1) δ d) := by
  have gn := hGS.1
  obtain ⟨r1, r2, r3, r4, r5, r6, r7, r8, r9, r10⟩ := hS
  unfold m_X12_finish_b96
  refine Ok_for (fun z s => s.1 = ii z ∧ (∀ t : Int, 0 ≤ t → t < s_nt S → s.2.1 (mo + 1) (422 + t).toNat = bi (if t < z then s_sd S t && s_la S t else s_sd S t)) ∧ (∀ k, ¬ (422 ≤ k ∧ k < 522) → s.2.1 (mo + 1) k = δ.1 (mo + 1) k) ∧ Fr (fun r => r = mo + 1) δ s.2) 0 (s_nt S) (by omega) (by omega) ?_ ?_ ⟨rfl, fun t t0 t1 => by rw [if_neg (by omega)]; exact r8 t t0 t1, fun _ _ => rfl, Fr.rf⟩
  · rintro z ⟨s1, d⟩ z0 z1 ⟨hs, hk, ho, hF⟩
    dsimp only at hs hk ho hF ⊢
    subst hs
    have x1 : rI σ d (mo + 1) (ii 121) = some (ii (s_nt S)) := rst (md0 hK) (by omega) (by omega) rfl (by rw [ho _ (by omega)]; exact r4)
    have x2 : rI σ d (mo + 1) (ii (522 + z)) = some (bi (s_la S z)) := rst (md0 hK) (by omega) (by omega) rfl (by rw [ho _ (by omega)]; exact r9 z z0 z1)
    have x3 : rI σ d (mo + 1) (ii (422 + z)) = some (bi (s_sd S z)) := rst (md0 hK) (by omega) (by omega) rfl (by rw [hk z z0 z1, if_neg (by omega)])
    have w1 : ∀ v, wI σ d (mo + 1) (ii (422 + z)) v = some (u2 d.1 (mo + 1) (422 + z).toNat v, d.2) := fun v => wI_kd (md0 hK) (by omega) (by omega)
    have step : ∀ v, v = bi (s_sd S z && s_la S z) → Ok (m_X12_finish_b144 σ mo (ii z) (mo + 1) (ii (422 + z)) v d) (PL (fun s : Int32 × Dy => s.1 = ii (z + 1) ∧ (∀ t : Int, 0 ≤ t → t < s_nt S → s.2.1 (mo + 1) (422 + t).toNat = bi (if t < z + 1 then s_sd S t && s_la S t else s_sd S t)) ∧ (∀ k, ¬ (422 ≤ k ∧ k < 522) → s.2.1 (mo + 1) k = δ.1 (mo + 1) k) ∧ Fr (fun r => r = mo + 1) δ s.2) (fun d => RSm d mo (dropS S) ∧ d.1 (mo + 1) 7039 = ii (ck + 1) ∧ (∀ k, ¬ (422 ≤ k ∧ k < 522) → ¬ k = 7039 → d.1 (mo + 1) k = δ.1 (mo + 1) k) ∧ Fr (fun r => r = mo + 1) δ d)) := by
      intro v hv
      refine Ok_inl (s' := (ii (z + 1), (u2 d.1 (mo + 1) (422 + z).toNat v, d.2))) ?_ ⟨rfl, fun t t0 t1 => ?_, fun k hk2 => ?_, hF.tr (Fr_u2 rfl)⟩
      · unfold m_X12_finish_b144
        rw [w1, ob_some, show ((1 : Int32)) = ii 1 from rfl, ii_add]
      · dsimp only
        by_cases htz : t = z
        · rw [htz, if_pos (by omega), ← hv]
          simp only [u2, and_self, ↓reduceIte]
        · simp (disch := omega) only [u2, if_neg]
          rw [hk t t0 t1]
          by_cases c : t < z
          · rw [if_pos c, if_pos (by omega)]
          · rw [if_neg c, if_neg (by omega)]
      · simp (disch := omega) only [u2, if_neg]
        exact ho k hk2
    rw [mg0 hK, ob_some, show ((121 : Int32)) = ii 121 from rfl, x1, ob_some, if_neg (show ¬ ii (s_nt S) ≤ ii z by rw [ii_le (by omega) (by omega) (by omega) (by omega)]; omega), ob_some, ob_some, show ((522 : Int32)) = ii 522 from rfl, show ((422 : Int32)) = ii 422 from rfl, ii_add, x2, ob_some, ii_add]
    cases hla : s_la S z with
    | true =>
      rw [if_pos (show bi true = 1 from rfl), ob_some, x3, ob_some]
      exact step _ (by rw [hla, Bool.and_true])
    | false =>
      rw [if_neg (show ¬ bi false = 1 by decide)]
      exact step _ (by rw [hla, Bool.and_false]; rfl)
  · rintro ⟨s1, d⟩ ⟨hs, hk, ho, hF⟩
    dsimp only at hs hk ho hF ⊢
    subst hs
    have x1 : rI σ d (mo + 1) (ii 121) = some (ii (s_nt S)) := rst (md0 hK) (by omega) (by omega) rfl (by rw [ho _ (by omega)]; exact r4)
    have x2 : rI σ d (mo + 1) (ii 7039) = some (ii ck) := rst (md0 hK) (by omega) (by omega) rfl (by rw [ho _ (by omega)]; exact hck)
    have w1 : wI σ d (mo + 1) (ii 7039) (ii (ck + 1)) = some (u2 d.1 (mo + 1) 7039 (ii (ck + 1)), d.2) := by rw [wI_kd (md0 hK) (by omega) (by omega)]; rfl
    have e1 : (u2 d.1 (mo + 1) 7039 (ii (ck + 1)), d.2).1 (mo + 1) 7039 = ii (ck + 1) := by simp only [u2, and_self, ↓reduceIte]
    have e2 : ∀ k, ¬ k = 7039 → (u2 d.1 (mo + 1) 7039 (ii (ck + 1)), d.2).1 (mo + 1) k = d.1 (mo + 1) k := fun k hk2 => by simp (disch := omega) only [u2, if_neg]
    have hF2 : Fr (fun r => r = mo + 1) δ (u2 d.1 (mo + 1) 7039 (ii (ck + 1)), d.2) := hF.tr (Fr_u2 rfl)
    refine Ok_inr (r := (u2 d.1 (mo + 1) 7039 (ii (ck + 1)), d.2)) ?_ ?_
    · rw [mg0 hK, ob_some, show ((121 : Int32)) = ii 121 from rfl, x1, ob_some, if_pos (show ii (s_nt S) ≤ ii (s_nt S) by rw [ii_le (by omega) (by omega) (by omega) (by omega)]; omega), ob_some, show ((7039 : Int32)) = ii 7039 from rfl, x2, ob_some, show ((1 : Int32)) = ii 1 from rfl, ii_add, w1, ob_some]
    generalize (u2 d.1 (mo + 1) 7039 (ii (ck + 1)), d.2) = e at e1 e2 hF2 ⊢
    have hx : ∀ k, ¬ (422 ≤ k ∧ k < 522) → ¬ k = 7039 → e.1 (mo + 1) k = δ.1 (mo + 1) k := fun k k1 k2 => by rw [e2 k k2, ho k k1]
    refine ⟨⟨by rw [hx _ (by omega) (by omega)]; exact r1, fun v v0 hv => ?_, fun v v0 hv => ?_, by rw [hx _ (by omega) (by omega)]; exact r4, fun t t0 ht => ?_, fun t t0 ht => ?_, fun t t0 ht => ?_, fun t t0 ht => ?_, fun t t0 ht => ?_, fun t t0 ht => ?_⟩, e1, hx, hF2⟩
    · have hv' : v < s_nv S := hv
      rw [hx _ (by omega) (by omega)]; exact r2 v v0 hv
    · have hv' : v < s_nv S := hv
      rw [hx _ (by omega) (by omega)]; exact r3 v v0 hv
    · have ht' : t < s_nt S := ht
      rw [hx _ (by omega) (by omega)]; exact r5 t t0 ht
    · have ht' : t < s_nt S := ht
      rw [hx _ (by omega) (by omega)]; exact r6 t t0 ht
    · have ht' : t < s_nt S := ht
      rw [hx _ (by omega) (by omega)]; exact r7 t t0 ht
    · have ht' : t < s_nt S := ht
      rw [e2 _ (by omega), hk t t0 ht', if_pos ht']
      rfl
    · have ht' : t < s_nt S := ht
      rw [hx _ (by omega) (by omega)]; exact r9 t t0 ht
    · have ht' : t < s_nt S := ht
      exact B32_eq (r10 t t0 ht) (fun k hk => hx _ (by omega) (by omega))
theorem m_finish (hK : KM σ mo) (h : RWm δ mo n E ch W) (hG : GS (v_S (w_V W))) (hh : (v_hi (w_V W)).length ≤ 1990) (hl : w_lv W = [l]) (hn : n ≤ 1900) (hx : (l_nx l).length ≤ 60) (h40 : δ.1 (mo + 1) 7040 = 0) : Ok (m_X12_finish σ mo δ) (fun d => RIm d mo E (endI (finW W)) ∧ d.1 (mo + 1) 9742 = δ.1 (mo + 1) 9742 ∧ Fr (fun r => r = mo + 1) δ d) := by
  obtain ⟨⟨hS, ⟨s2, s3, s4⟩, s5, s6, s7⟩, hRG, hRX, hRC⟩ := h
  rw [hl] at hRG
  have q4 : RQm δ mo (mo + 24) (mo + 25) n 0 (l_nx l) := hRG.2.2.1.2.2.2.1
  have r1 : rI σ δ (mo + 25) (ii 0) = some (ii (l_nx l).length) := rst (md30 hK) (by omega) (by omega) rfl q4.2.1
  have w1 : wI σ δ (mo + 1) (ii 7041) (ii (l_nx l).length) = some (u2 δ.1 (mo + 1) 7041 (ii (l_nx l).length), δ.2) := by rw [wI_kd (md0 hK) (by omega) (by omega)]; rfl
  have e1 : (u2 δ.1 (mo + 1) 7041 (ii (l_nx l).length), δ.2).1 (mo + 1) 7041 = ii (l_nx l).length := by simp only [u2, and_self, ↓reduceIte]
  have e2 : ∀ k, ¬ (7041 ≤ k ∧ k < 9742) → (u2 δ.1 (mo + 1) 7041 (ii (l_nx l).length), δ.2).1 (mo + 1) k = δ.1 (mo + 1) k := fun k hk => by simp (disch := omega) only [u2, if_neg]
  have hF0 : Fr (fun r => r = mo + 1) δ (u2 δ.1 (mo + 1) 7041 (ii (l_nx l).length), δ.2) := Fr_u2 rfl
  unfold m_X12_finish
  rw [mg0 hK, ob_some, mg30 hK, ob_some, show ((0 : Int32)) = ii 0 from rfl, r1, ob_some, show ((7041 : Int32)) = ii 7041 from rfl, w1, ob_some]
  generalize (u2 δ.1 (mo + 1) 7041 (ii (l_nx l).length), δ.2) = d0 at e1 e2 hF0 ⊢
  unfold m_X12_finish_b16
  refine Ok_for (fun z s => s.1 = ii z ∧ (∀ (j : Nat) (a : Ag), (j : Int) < z → (l_nx l)[j]? = some a → RNx (s.2.1 (mo + 1)) j a) ∧ s.2.1 (mo + 1) 7041 = ii (l_nx l).length ∧ (∀ k, ¬ (7041 ≤ k ∧ k < 9742) → s.2.1 (mo + 1) k = δ.1 (mo + 1) k) ∧ Fr (fun r => r = mo + 1) δ s.2) 0 (l_nx l).length (by omega) (by omega) ?_ ?_ ⟨rfl, fun j a hj => by omega, e1, e2, hF0⟩
  · rintro z ⟨s1, d⟩ z0 z1 ⟨hs, hk, h41, ho, hF⟩
    dsimp only at hs hk h41 ho hF ⊢
    subst hs
    obtain ⟨i, rfl⟩ := Int.eq_ofNat_of_zero_le z0
    obtain ⟨a, ha⟩ : ∃ a, (l_nx l)[i]? = some a := ⟨_, List.getElem?_eq_getElem (by omega)⟩
    obtain ⟨g, g1, g2, g3⟩ := q4.2.2 i a ha
    have un : ∀ r, ¬ r = mo + 1 → d.1 r = δ.1 r := fun r hr => (hF r hr).1
    have x1 : rI σ d (mo + 25) (ii 0) = some (ii (l_nx l).length) := rst (md30 hK) (by omega) (by omega) rfl (by rw [un _ (by omega)]; exact q4.2.1)
    rw [mg30 hK, ob_some, show ((0 : Int32)) = ii 0 from rfl, x1, ob_some, if_neg (show ¬ ii (l_nx l).length ≤ ii i by rw [ii_le (by omega) (by omega) (by omega) (by omega)]; omega)]
    refine m_fin28 hK (i := i) (g := g) (by omega) (by omega) (by rw [un _ (by omega), ← g2]; exact congrArg (δ.1 (mo + 24)) (by omega)) (fun D c1 c2 c3 => ⟨rfl, fun j b hj hb => ?_, ?_, fun k hk2 => ?_, hF.tr c3⟩)
    · dsimp only
      by_cases hji : j = i
      · subst hji
        rw [ha] at hb
        cases hb
        have g3d : RAm d mo g a := RAm_eq g3 (fun k _ _ => by rw [un _ (by omega)])
        refine ⟨?_, fun z hz => ?_, B32_eq g3d.2.2 (fun k hk4 => ?_)⟩
        · have c10 : D.1 (mo + 1) (7042 + 9 * j) = d.1 (mo + 17) (9 * g) := c1 0 (by omega)
          rw [c10]
          exact g3d.1
        · have := c1 (1 + z) (by omega)
          rw [← Nat.add_assoc, ← Nat.add_assoc] at this
          rw [this]
          exact g3d.2.1 z hz
        · have := c1 (5 + k) (by omega)
          rw [← Nat.add_assoc, ← Nat.add_assoc] at this
          exact this
      · exact RNx_eq (hk j b (by omega) hb) (fun k k1 k2 => c2 k (by omega))
    · dsimp only
      rw [c2 _ (by omega)]
      exact h41
    · rw [c2 _ (by omega)]
      exact ho k hk2
  · rintro ⟨s1, d⟩ ⟨hs, hk, h41, ho, hF⟩
    dsimp only at hs hk h41 ho hF ⊢
    subst hs
    have un : ∀ r, ¬ r = mo + 1 → d.1 r = δ.1 r := fun r hr => (hF r hr).1
    have x1 : rI σ d (mo + 25) (ii 0) = some (ii (l_nx l).length) := rst (md30 hK) (by omega) (by omega) rfl (by rw [un _ (by omega)]; exact q4.2.1)
    have gf : gI σ d 12 mo 35 = some (bi (v_fl (w_V W))) := by rw [gI_ko hK.1, un _ (by omega), s3]
    have hSd : RSm d mo (v_S (w_V W)) := RSm_eq hS hG (fun k _ => ho k (by omega))
    have hMd : RMh d mo (e_Rs E) (v_hi (w_V W)) := RMh_eq s6 (fun k _ _ => ho k (by omega)) (by omega)
    have hnx : topNx (w_lv W) = l_nx l := by rw [hl]; rfl
    have hXd : ∀ k, 7031 ≤ k → ¬ (7041 ≤ k ∧ k < 9742) → d.1 (mo + 1) k = δ.1 (mo + 1) k := fun k _ k2 => ho k k2
    have x0 := hRX.1
    have xp := hRX.2.1
    have xt := hRX.2.2.1
    have xc := hRX.2.2.2
    rw [mg30 hK, ob_some, show ((0 : Int32)) = ii 0 from rfl, x1, ob_some, if_pos (show ii (l_nx l).length ≤ ii (l_nx l).length by rw [ii_le (by omega) (by omega) (by omega) (by omega)]; omega), gf, ob_some]
    cases hfl : v_fl (w_V W) with
    | false =>
      obtain ⟨D, eD, t1, t2, t3, t4⟩ := m_fin96 (ck := w_ck W) hK hSd hG (by rw [ho _ (by omega)]; exact xc)
      have hfin : endI (finW W) = ((dropS (v_S (w_V W)), [], v_hi (w_V W), v_fi (w_V W), v_ac (w_V W), false), w_x W, w_pw W, w_tk W, l_nx l, w_ck W + 1, w_sp W) := by
        unfold finW
        rw [hfl, if_neg (by decide), ← hnx, ← hfl]
        rfl
      have eD' : m_X12_finish_b96 σ mo (ii 0) d = some D := eD
      refine Ok_inr (r := D) (by rw [if_pos (show bi false = ii 0 from rfl), eD', ob_some]) ⟨?_, by rw [t3 _ (by omega) (by omega), ho _ (by omega)], hF.tr t4⟩
      rw [hfin]
      refine ⟨t1, RMh_eq hMd (fun k k1 k2 => t3 k (by omega) (by omega)) (show (v_hi (w_V W)).length ≤ 2000 by omega), fun w hw => ?_, ⟨?_, fun k hk2 => ?_, fun z hz => ?_, t2⟩, ?_, ⟨?_, fun j a ha => RNx_eq (hk j a (by have h : j < (l_nx l).length := (List.getElem?_eq_some_iff.mp ha).1; omega) ha) (fun k k1 k2 => t3 k (by omega) (by omega))⟩⟩
      · rw [t3 _ (by omega) (by omega), ho _ (by omega)]; exact s7 w hw
      · rw [t3 _ (by omega) (by omega), ho _ (by omega)]; exact x0
      · rw [t3 _ (by omega) (by omega), ho _ (by omega)]; exact xp k hk2
      · rw [t3 _ (by omega) (by omega), ho _ (by omega)]; exact xt z hz
      · rw [t3 _ (by omega) (by omega), ho _ (by omega)]; exact h40
      · rw [t3 _ (by omega) (by omega)]; exact h41
    | true =>
      have w2 : wI σ d (mo + 1) (ii 7040) 1 = some (u2 d.1 (mo + 1) 7040 1, d.2) := by rw [wI_kd (md0 hK) (by omega) (by omega)]; rfl
      have f1 : (u2 d.1 (mo + 1) 7040 1, d.2).1 (mo + 1) 7040 = 1 := by simp only [u2, and_self, ↓reduceIte]
      have t3 : ∀ k, ¬ k = 7040 → (u2 d.1 (mo + 1) 7040 1, d.2).1 (mo + 1) k = d.1 (mo + 1) k := fun k hk2 => by simp (disch := omega) only [u2, if_neg]
      have t4 : Fr (fun r => r = mo + 1) d (u2 d.1 (mo + 1) 7040 1, d.2) := Fr_u2 rfl
      have hfin : endI (finW W) = ((v_S (w_V W), [], v_hi (w_V W), v_fi (w_V W), v_ac (w_V W), true), w_x W, w_pw W, w_tk W, l_nx l, w_ck W, w_sp W) := by
        unfold finW
        rw [hfl, if_pos rfl, ← hnx, ← hfl]
        rfl
      refine Ok_inr (r := (u2 d.1 (mo + 1) 7040 1, d.2)) (by rw [if_neg (show ¬ bi true = ii 0 by decide), mg0 hK, ob_some, show ((7040 : Int32)) = ii 7040 from rfl, w2, ob_some]) ?_
      generalize (u2 d.1 (mo + 1) 7040 1, d.2) = D at f1 t3 t4 ⊢
      refine ⟨?_, by rw [t3 _ (by omega), ho _ (by omega)], hF.tr t4⟩
      rw [hfin]
      refine ⟨RSm_eq hSd hG (fun k k1 => t3 k (by omega)), RMh_eq hMd (fun k k1 k2 => t3 k (by omega)) (show (v_hi (w_V W)).length ≤ 2000 by omega), fun w hw => ?_, ⟨?_, fun k hk2 => ?_, fun z hz => ?_, ?_⟩, f1, ⟨?_, fun j a ha => RNx_eq (hk j a (by have h : j < (l_nx l).length := (List.getElem?_eq_some_iff.mp ha).1; omega) ha) (fun k k1 k2 => t3 k (by omega))⟩⟩
      · rw [t3 _ (by omega), ho _ (by omega)]; exact s7 w hw
      · rw [t3 _ (by omega), ho _ (by omega)]; exact x0
      · rw [t3 _ (by omega), ho _ (by omega)]; exact xp k hk2
      · rw [t3 _ (by omega), ho _ (by omega)]; exact xt z hz
      · rw [t3 _ (by omega), ho _ (by omega)]; exact xc
      · rw [t3 _ (by omega)]; exact h41
end
