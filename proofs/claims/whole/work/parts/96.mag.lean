/-! THE REFERENCE: nodes, agents -/
def kM (k : Int) : Int := if k ≤ 1 then k else k - 1
/-- the nodes and the definitions of the reference -/
def RNm (δ : Dy) (mo : Nat) (E : Ev) : Prop := δ.1 mo 7 = ii (e_ct E) ∧ (∀ d : Nat, d < 6 → δ.1 (mo + 8) d = ii (e_df E d)) ∧ ∀ n : Int, gNode E n → δ.1 (mo + 3) n.toNat = ii (kM (e_kd E n)) ∧
  (e_kd E n = 0 → δ.1 (mo + 4) n.toNat = ii (e_a E n) ∧ δ.1 (mo + 5) n.toNat = ii (e_b E n)) ∧
  (e_kd E n = 1 ∨ e_kd E n = 2 → δ.1 (mo + 4) n.toNat = ii (e_wh E n) ∧ δ.1 (mo + 5) n.toNat = ii (e_a E n) ∧ δ.1 (mo + 6) n.toNat = ii (e_b E n) ∧ δ.1 (mo + 7) n.toNat = bi (decide (e_kd E n = 2))) ∧
  (e_kd E n = 3 ∨ e_kd E n = 13 → δ.1 (mo + 4) n.toNat = ii (e_on E n) ∧ δ.1 (mo + 5) n.toNat = ii (e_ot E n)) ∧
  (e_kd E n = 4 ∨ e_kd E n = 10 ∨ e_kd E n = 11 → δ.1 (mo + 4) n.toNat = ii (e_wh E n) ∧ δ.1 (mo + 5) n.toNat = ii (e_a E n) ∧ (¬ e_wh E n = 3 → δ.1 (mo + 6) n.toNat = ii (e_b E n)) ∧ δ.1 (mo + 7) n.toNat = ii (e_on E n)) ∧
  (e_kd E n = 5 → δ.1 (mo + 4) n.toNat = ii (e_on E n) ∧ δ.1 (mo + 5) n.toNat = ii (e_a E n) ∧ δ.1 (mo + 6) n.toNat = ii (e_ot E n) ∧ δ.1 (mo + 7) n.toNat = ii (e_b E n)) ∧
  (e_kd E n = 6 → δ.1 (mo + 4) n.toNat = ii (e_wh E n) ∧ δ.1 (mo + 5) n.toNat = ii (e_on E n)) ∧
  (e_kd E n = 7 → δ.1 (mo + 4) n.toNat = ii (e_wh E n) ∧ δ.1 (mo + 5) n.toNat = ii (e_a E n) ∧ δ.1 (mo + 6) n.toNat = ii (e_b E n)) ∧
  (e_kd E n = 8 ∨ e_kd E n = 9 → δ.1 (mo + 4) n.toNat = ii (e_on E n)) ∧
  (e_kd E n = 12 → δ.1 (mo + 4) n.toNat = ii (e_a E n) ∧ δ.1 (mo + 5) n.toNat = ii (e_on E n) ∧ δ.1 (mo + 6) n.toNat = ii (e_b E n) ∧ δ.1 (mo + 7) n.toNat = ii (e_ot E n))
def REm (δ : Dy) (mo : Nat) (E : Ev) : Prop := RRm δ mo (e_md E) (e_Rs E) ∧ RNm δ mo E
theorem RNm_eq {δ d : Dy} {mo : Nat} {E : Ev} (h : RNm δ mo E) (h7 : d.1 mo 7 = δ.1 mo 7) (e : ∀ r, mo + 3 ≤ r → r ≤ mo + 8 → d.1 r = δ.1 r) : RNm d mo E := by
  unfold RNm
  rw [h7, e (mo + 3) (by omega) (by omega), e (mo + 4) (by omega) (by omega), e (mo + 5) (by omega) (by omega), e (mo + 6) (by omega) (by omega), e (mo + 7) (by omega) (by omega), e (mo + 8) (by omega) (by omega)]
  exact h
theorem REm_eq {δ d : Dy} {mo : Nat} {E : Ev} (h : REm δ mo E) (h7 : d.1 mo 7 = δ.1 mo 7) (h14 : d.1 mo 14 = δ.1 mo 14) (e : ∀ r, mo + 3 ≤ r → r ≤ mo + 13 → d.1 r = δ.1 r) : REm d mo E := ⟨RRm_eq h.1 h14 (fun r a b => e r (by omega) b), RNm_eq h.2 h7 (fun r a b => e r a (by omega))⟩
def RAm (δ : Dy) (mo g : Nat) (a : Ag) : Prop := δ.1 (mo + 17) (9 * g) = ii a.1 ∧ (∀ z : Nat, z < 4 → δ.1 (mo + 17) (9 * g + 1 + z) = ii (a.2.1 z)) ∧ B32 (fun k => δ.1 (mo + 17) (9 * g + 5 + k)) a.2.2
theorem RAm_eq {δ d : Dy} {mo g : Nat} {a : Ag} (h : RAm δ mo g a) (e : ∀ k, 9 * g ≤ k → k < 9 * g + 9 → d.1 (mo + 17) k = δ.1 (mo + 17) k) : RAm d mo g a := ⟨by rw [e _ (by omega) (by omega)]; exact h.1, fun z hz => by rw [e _ (by omega) (by omega)]; exact h.2.1 z hz, B32_eq h.2.2 (fun k hk => e _ (by omega) (by omega))⟩
/-- what making an agent writes -/
def AF (mo n : Nat) (δ d : Dy) : Prop := Fr (fun r => r = mo ∨ r = mo + 17) δ d ∧ (∀ k, ¬ k = 22 → d.1 mo k = δ.1 mo k) ∧ ∀ k, ¬ (9 * n ≤ k ∧ k < 9 * n + 9) → d.1 (mo + 17) k = δ.1 (mo + 17) k
section
variable {σ : St} {δ : Dy} {mo g : Nat} {E : Ev} {S : Sto} {a : Ag} {t m : Int}
theorem m_look (hK : KM σ mo) (hA : RAm δ mo g a) (hg : g < 1990) (ht : gTm t) : m_X12_look σ mo (ii g) (ii t) δ = some (ii (lookA a t)) := by
  have hr : -99 ≤ t ∧ t ≤ 203 := by
    rcases ht with h | h
    · have : -99 ≤ t ∧ t ≤ 99 := h
      omega
    · have : 200 ≤ t ∧ t < 204 := h
      omega
  unfold m_X12_look lookA
  rw [show ((200 : Int32)) = ii 200 from rfl, show ((203 : Int32)) = ii 203 from rfl, m_in (by omega) (by omega) (by omega) (by omega) (by omega) (by omega), ob_some]
  by_cases c : 200 ≤ t ∧ t < 204
  · rw [if_pos c, decide_eq_true (show 200 ≤ t ∧ t ≤ 203 by omega), if_neg (by decide)]
    have e := hA.2.1 (t - 200).toNat (by omega)
    rw [show (((t - 200).toNat : Nat) : Int) = t - 200 by omega] at e
    have r := rst (σ := σ) (md21 hK) (z := 9 * g + 1 + t - 200) (by omega) (by omega) (show (9 * (g : Int) + 1 + t - 200).toNat = 9 * g + 1 + (t - 200).toNat by omega) e
    simp (disch := omega) only [mg21 hK, ob_some, ii_lit, ii_mul, ii_add, ii_sub, r]
  · rw [if_neg c, decide_eq_false (show ¬ (200 ≤ t ∧ t ≤ 203) by omega), if_pos (show bi false = 0 from rfl)]
theorem m_nk (hK : KM σ mo) (hN : RNm δ mo E) (hc : e_ct E ≤ 60) (hm : gNode E m) : rI σ δ (mo + 3) (ii m) = some (ii (kM (e_kd E m))) := by
  have hm' : 0 ≤ m ∧ m < e_ct E := hm
  exact rst (md2 hK) (by omega) (by omega) rfl (hN.2.2 m hm).1
theorem m_n1 (hK : KM σ mo) (hc : e_ct E ≤ 60) (hm : gNode E m) {v : Int32} (h : δ.1 (mo + 4) m.toNat = v) : rI σ δ (mo + 4) (ii m) = some v := by
  have hm' : 0 ≤ m ∧ m < e_ct E := hm
  exact rst (md3 hK) (by omega) (by omega) rfl h
theorem m_n2 (hK : KM σ mo) (hc : e_ct E ≤ 60) (hm : gNode E m) {v : Int32} (h : δ.1 (mo + 5) m.toNat = v) : rI σ δ (mo + 5) (ii m) = some v := by
  have hm' : 0 ≤ m ∧ m < e_ct E := hm
  exact rst (md4 hK) (by omega) (by omega) rfl h
theorem m_n3 (hK : KM σ mo) (hc : e_ct E ≤ 60) (hm : gNode E m) {v : Int32} (h : δ.1 (mo + 6) m.toNat = v) : rI σ δ (mo + 6) (ii m) = some v := by
  have hm' : 0 ≤ m ∧ m < e_ct E := hm
  exact rst (md5 hK) (by omega) (by omega) rfl h
theorem m_n4 (hK : KM σ mo) (hc : e_ct E ≤ 60) (hm : gNode E m) {v : Int32} (h : δ.1 (mo + 7) m.toNat = v) : rI σ δ (mo + 7) (ii m) = some v := by
  have hm' : 0 ≤ m ∧ m < e_ct E := hm
  exact rst (md6 hK) (by omega) (by omega) rfl h
theorem entl_3 {x y : Int} : entl S 3 x 0 = entl S 3 x y := by
  unfold entl
  rw [if_pos (show (3 : Int) < 10 by decide), if_pos (show (3 : Int) < 10 by decide), if_neg (show ¬ (3 : Int) = 0 by decide), if_neg (show ¬ (3 : Int) = 0 by decide), if_neg (show ¬ (3 : Int) = 1 by decide), if_neg (show ¬ (3 : Int) = 1 by decide), if_neg (show ¬ (3 : Int) = 2 by decide), if_neg (show ¬ (3 : Int) = 2 by decide)]
theorem zo_bi (b : Bool) : zo (bi b) = some () := by cases b <;> rfl
theorem m_holds (hK : KM σ mo) (hN : RNm δ mo E) (gE : GE E) (hS : RSm δ mo S) (hGS : GS S) (hA : RAm δ mo g a) (hg : g < 1990) (ha : ∀ z, 0 ≤ z → z < 4 → tm (s_nv S) (a.2.1 z)) (hm : gNode E m) (hk : e_kd E m = 4 ∨ e_kd E m = 10 ∨ e_kd E m = 11) : m_X12_holds σ mo (ii g) (ii m) δ = some (bi (entA E S a m)) := by
  have hc := gE.1.2
  obtain ⟨-, ⟨ta, tb⟩, -, -, cd, -⟩ := gE.2.2.2.2 m hm
  obtain ⟨q1, q2, q3, q4⟩ := (hN.2.2 m hm).2.2.2.2.1 hk
  have r1 := m_n1 (σ := σ) hK hc hm q1
  have r2 := m_n2 (σ := σ) hK hc hm q2
  have la := m_look (δ := δ) hK hA hg ta
  have lb := m_look (δ := δ) hK hA hg tb
  have cc := cd hk
  have ga := look_tm ha ta
  have gb := look_tm ha tb
  unfold m_X12_holds entA
  rw [mg3 hK, ob_some, r1, ob_some, mg4 hK, ob_some, r2, ob_some, chk_ko hK.1, ob_some, la, ob_some]
  have hcr : -1 ≤ e_wh E m ∧ e_wh E m ≤ 15 := by unfold gCond at cc; omega
  by_cases c3 : e_wh E m = 3
  · rw [if_pos (show ii (e_wh E m) = 3 by rw [c3]; rfl)]
    unfold m_X12_holds_b40
    rw [show ((0 : Int32)) = ii 0 from rfl, chk_ko hK.1, ob_some, m_entails hK hS hGS ga (Or.inl (by omega)) cc, ob_some, zo_bi, ob_some]
    rw [c3, entl_3]
  · rw [if_neg (show ¬ ii (e_wh E m) = 3 by rw [show ((3 : Int32)) = ii 3 from rfl, ii_eq (by omega) (by omega) (by omega) (by omega)]; exact c3)]
    have r3 := m_n3 (σ := σ) hK hc hm (q3 c3)
    rw [mg5 hK, ob_some, r3, ob_some, ob_some, lb, ob_some]
    unfold m_X12_holds_b40
    rw [chk_ko hK.1, ob_some, m_entails hK hS hGS ga gb cc, ob_some, zo_bi, ob_some]
theorem m_wayOf (hK : KM σ mo) (hN : RNm δ mo E) (gE : GE E) (hS : RSm δ mo S) (hGS : GS S) (hA : RAm δ mo g a) (hg : g < 1990) (ha : ∀ z, 0 ≤ z → z < 4 → tm (s_nv S) (a.2.1 z)) (hm : gNode E m) (hk : e_kd E m = 5) {tk : Int → Int} (htk : ∀ z : Nat, z < 120 → δ.1 (mo + 1) (9743 + z) = ii (tk z)) (htr : ∀ z, 0 ≤ tk z ∧ tk z ≤ 100000) : m_X12_wayOf σ mo (ii g) (ii m) δ = some (ii (sideA E S tk a m)) := by
  have hc := gE.1.2
  have hm' : 0 ≤ m ∧ m < e_ct E := hm
  obtain ⟨-, -, -, -, -, k5, -, -, -, on, ot⟩ := gE.2.2.2.2 m hm
  obtain ⟨⟨k1, k2⟩, va, vb⟩ := k5 hk
  have gon := on (Or.inr (Or.inr (Or.inl hk)))
  have got := ot (Or.inr (Or.inl hk))
  obtain ⟨q1, q2, q3, q4⟩ := (hN.2.2 m hm).2.2.2.2.2.1 hk
  have r1 := m_n1 (σ := σ) hK hc hm q1
  have r2 := m_n2 (σ := σ) hK hc hm q2
  have r3 := m_n3 (σ := σ) hK hc hm q3
  have r4 := m_n4 (σ := σ) hK hc hm q4
  have h1 := m_holds hK hN gE hS hGS hA hg ha gon (Or.inl k1)
  have h2 := m_holds hK hN gE hS hGS hA hg ha got (Or.inl k2)
  have ra : -99 ≤ e_a E m ∧ e_a E m ≤ 99 := va
  have rb : -99 ≤ e_b E m ∧ e_b E m ≤ 99 := vb
  unfold m_X12_wayOf sideA
  rw [if_neg (by omega), if_pos hk, mg3 hK, ob_some, r1, ob_some, chk_ko hK.1, ob_some, h1, ob_some, mg5 hK, ob_some, r3, ob_some, ob_some, h2, ob_some]
  cases entA E S a (e_on E m) with
  | false =>
    rw [if_pos (show bi false = 0 from rfl), if_neg (show ¬ false = true by decide)]
    unfold m_X12_wayOf_b34
    cases entA E S a (e_ot E m) with
    | false => rfl
    | true => rfl
  | true =>
    rw [if_neg (show ¬ bi true = 0 by decide), if_pos (show true = true from rfl)]
    cases entA E S a (e_ot E m) with
    | false => rfl
    | true =>
      rw [if_neg (show ¬ bi true = 0 by decide), if_pos (show true = true from rfl), mg4 hK, ob_some, r2, ob_some, mg6 hK, ob_some, r4, ob_some]
      by_cases c : e_a E m = e_b E m
      · rw [if_pos (congrArg ii c), if_pos c]
        have t1 : rI σ δ (mo + 1) (ii (9743 + 2 * m + 1)) = some (ii (tk (2 * m + 1))) := rst (md0 hK) (by omega) (by omega) (show (9743 + 2 * m + 1).toNat = 9743 + (2 * m + 1).toNat by omega) (by have := htk (2 * m + 1).toNat (by omega); rw [show (((2 * m + 1).toNat : Nat) : Int) = 2 * m + 1 by omega] at this; exact this)
        have t2 : rI σ δ (mo + 1) (ii (9743 + 2 * m)) = some (ii (tk (2 * m))) := rst (md0 hK) (by omega) (by omega) (show (9743 + 2 * m).toNat = 9743 + (2 * m).toNat by omega) (by have := htk (2 * m).toNat (by omega); rw [show (((2 * m).toNat : Nat) : Int) = 2 * m by omega] at this; exact this)
        have b1 := htr (2 * m)
        have b2 := htr (2 * m + 1)
        by_cases c2 : tk (2 * m + 1) < tk (2 * m)
        · rw [if_pos c2]
          simp (disch := omega) only [mg0 hK, ob_some, ii_lit, ii_mul, ii_add, t1, t2, ii_le, if_neg]
        · rw [if_neg c2]
          simp (disch := omega) only [mg0 hK, ob_some, ii_lit, ii_mul, ii_add, t1, t2, ii_le, if_pos]
      · rw [if_neg (show ¬ ii (e_a E m) = ii (e_b E m) by rw [ii_eq (by omega) (by omega) (by omega) (by omega)]; exact c), if_neg c]
        by_cases c2 : e_b E m < e_a E m
        · rw [if_pos c2, ob_some, r2, ob_some, ob_some, r4, ob_some, if_neg (show ¬ ii (e_a E m) ≤ ii (e_b E m) by rw [ii_le (by omega) (by omega) (by omega) (by omega)]; omega)]
          rfl
        · rw [if_neg c2, ob_some, r2, ob_some, ob_some, r4, ob_some, if_pos (show ii (e_a E m) ≤ ii (e_b E m) by rw [ii_le (by omega) (by omega) (by omega) (by omega)]; omega)]
          rfl
theorem m_another (hK : KM σ mo) (hA : RAm δ mo g a) {n : Nat} (hg : g < n) (hn : n < 1990) (h22 : δ.1 mo 22 = ii n) : Ok (m_X12_another σ mo (ii g) (ii m) δ) (fun r => r.1 = ii n ∧ RAm r.2 mo n (m, a.2) ∧ r.2.1 mo 22 = ii ((n : Int) + 1) ∧ AF mo n δ r.2) := by
  unfold m_X12_another
  refine Ok_bind (gI_ko hK.1) (Ok_bind (gI_ko hK.1) (Ok_bind (pI_ko hK.1) ?_))
  rw [h22, show ((1 : Int32)) = ii 1 from rfl, ii_add]
  have hF0 : AF mo n δ (u2 δ.1 mo 22 (ii ((n : Int) + 1)), δ.2) := ⟨Fr_u2 (Or.inl rfl), fun k hk => by simp (disch := omega) only [u2, if_neg], fun k hk => by dsimp only; rw [u2_ne (by omega)]⟩
  have h0 : (u2 δ.1 mo 22 (ii ((n : Int) + 1)), δ.2).1 mo 22 = ii ((n : Int) + 1) := by simp only [u2, and_self, ↓reduceIte]
  generalize (u2 δ.1 mo 22 (ii ((n : Int) + 1)), δ.2) = d0 at hF0 h0 ⊢
  have hA0 : ∀ k : Nat, 9 * g ≤ k → k < 9 * g + 9 → d0.1 (mo + 17) k = δ.1 (mo + 17) k := fun k k0 k1 => hF0.2.2 k (by omega)
  unfold m_X12_another_b18
  refine Ok_for (fun z s => s.1 = ii z ∧ (∀ k : Nat, 1 ≤ k → (k : Int) < z → s.2.1 (mo + 17) (9 * n + k) = δ.1 (mo + 17) (9 * g + k)) ∧ (∀ k, ¬ (9 * n ≤ k ∧ k < 9 * n + 9) → s.2.1 (mo + 17) k = d0.1 (mo + 17) k) ∧ Fr (fun r => r = mo + 17) d0 s.2) 1 9 (by omega) (by omega) ?_ ?_ ⟨rfl, fun k k0 k1 => by omega, fun k hk => rfl, Fr.rf⟩
  · rintro z ⟨s1, d⟩ z0 z1 ⟨hs, h1, h2, hF⟩
    dsimp only at hs h1 h2 hF ⊢
    subst hs
    have r1 : rI σ d (mo + 17) (ii (9 * g + z)) = some (δ.1 (mo + 17) (9 * g + z.toNat)) := rst (md21 hK) (by omega) (by omega) (show (9 * (g : Int) + z).toNat = 9 * g + z.toNat by omega) (by rw [h2 _ (by omega), hA0 _ (by omega) (by omega)])
    have w1 : wI σ d (mo + 17) (ii (9 * n + z)) (δ.1 (mo + 17) (9 * g + z.toNat)) = some (u2 d.1 (mo + 17) (9 * (n : Int) + z).toNat (δ.1 (mo + 17) (9 * g + z.toNat)), d.2) := wI_kd (md21 hK) (by omega) (by omega)
    refine Ok_inl (s' := (ii (z + 1), (u2 d.1 (mo + 17) (9 * (n : Int) + z).toNat (δ.1 (mo + 17) (9 * g + z.toNat)), d.2))) ?_ ⟨rfl, fun k k0 k1 => ?_, fun k hk => ?_, hF.tr (Fr_u2 rfl)⟩
    · simp (disch := omega) only [ii_lit, ii_le, if_neg, mg21 hK, ob_some, ii_mul, ii_add, r1, w1]
    · dsimp only
      by_cases hkz : k = z.toNat
      · rw [hkz, show (9 * (n : Int) + z).toNat = 9 * n + z.toNat by omega]
        simp only [u2, and_self, ↓reduceIte]
      · simp (disch := omega) only [u2, if_neg]
        exact h1 k k0 (by omega)
    · simp (disch := omega) only [u2, if_neg]
      exact h2 k hk
  · rintro ⟨s1, d⟩ ⟨hs, h1, h2, hF⟩
    dsimp only at hs h1 h2 hF ⊢
    subst hs
    have w1 : wI σ d (mo + 17) (ii (9 * n)) (ii m) = some (u2 d.1 (mo + 17) (9 * (n : Int)).toNat (ii m), d.2) := wI_kd (md21 hK) (by omega) (by omega)
    have hk : ∀ k : Nat, 1 ≤ k → k < 9 → u2 d.1 (mo + 17) (9 * (n : Int)).toNat (ii m) (mo + 17) (9 * n + k) = δ.1 (mo + 17) (9 * g + k) := fun k k0 k1 => by
      simp (disch := omega) only [u2, if_neg]
      exact h1 k k0 (by omega)
    refine Ok_inr (r := (ii n, (u2 d.1 (mo + 17) (9 * (n : Int)).toNat (ii m), d.2))) ?_ ⟨rfl, ⟨?_, fun z hz => ?_, ?_⟩, ?_, ?_⟩
    · simp (disch := omega) only [ii_lit, ii_le, if_pos, mg21 hK, ob_some, ii_mul, w1]
    · dsimp only
      rw [show (9 * (n : Int)).toNat = 9 * n by omega]
      simp only [u2, and_self, ↓reduceIte]
    · dsimp only
      rw [show 9 * n + 1 + z = 9 * n + (1 + z) by omega, hk _ (by omega) (by omega)]
      have := hA.2.1 z hz
      rw [show 9 * g + 1 + z = 9 * g + (1 + z) by omega] at this
      exact this
    · refine B32_eq hA.2.2 (fun k hk4 => ?_)
      dsimp only
      rw [show 9 * n + 5 + k = 9 * n + (5 + k) by omega, hk _ (by omega) (by omega), show 9 * g + (5 + k) = 9 * g + 5 + k by omega]
    · dsimp only
      rw [u2_ne (by omega), (hF mo (by omega)).1]
      exact h0
    · refine ⟨hF0.1.tr ((hF.wk (fun r p => Or.inr p)).tr (Fr_u2 (Or.inr rfl))), fun k hk2 => ?_, fun k hk2 => ?_⟩
      · dsimp only
        rw [u2_ne (by omega), (hF mo (by omega)).1]
        exact hF0.2.1 k hk2
      · simp (disch := omega) only [u2, if_neg]
        rw [h2 k hk2]
        exact hF0.2.2 k hk2
end
