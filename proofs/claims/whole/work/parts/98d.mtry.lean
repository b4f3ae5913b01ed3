/-! THE REFERENCE: tries -/
theorem Ok_eq_of {α : Type} {m m' : Option α} {Q : α → Prop} (e : m' = m) (h : Ok m Q) : Ok m' Q := by
  rw [e]
  exact h
def tryTail (σ : St) (p0 : Nat) (p1 p2 : Int32) (δ : Dy) : Option ((Int32 × Dy) ⊕ Dy) :=
    (gI σ δ 12 p0 33).bind fun v19 =>
    (pI σ δ 12 p0 33 (v19 + (1 : Int32))).bind fun d20 =>
    (gR σ 12 p0 24).bind fun v21 =>
    (gI σ d20 12 p0 33).bind fun v22 =>
    (wI σ d20 v21 v22 (0 : Int32)).bind fun d23 =>
    (gR σ 12 p0 26).bind fun v24 =>
    (gI σ d23 12 p0 33).bind fun v25 =>
    (wI σ d23 v24 v25 (0 : Int32)).bind fun d26 =>
    (gR σ 12 p0 28).bind fun v27 =>
    (gI σ d26 12 p0 33).bind fun v28 =>
    (wI σ d26 v27 v28 (0 : Int32)).bind fun d29 =>
    (gR σ 12 p0 30).bind fun v30 =>
    (gI σ d29 12 p0 33).bind fun v31 =>
    (wI σ d29 v30 v31 (0 : Int32)).bind fun d32 =>
    (gR σ 12 p0 31).bind fun v33 =>
    (gI σ d32 12 p0 33).bind fun v34 =>
    (wI σ d32 v33 v34 p1).bind fun d35 =>
    (gR σ 12 p0 3).bind fun v36 =>
    (rI σ d35 v36 p2).bind fun v37 =>
    (chk σ 12 p0).bind fun _ => (m_X12_another σ p0 p1 v37 d35).bind fun v38 =>
    (chk σ 12 p0).bind fun _ => (m_X12_enqueue σ p0 v38.1 v38.2).bind fun v39 =>
    some (Sum.inr v39)
section
variable {σ : St} {δ : Dy} {mo g n L : Nat} {E : Ev} {W : Wo} {a : Ag} {l : Lv} {ls : List Lv} {ch : Nat → Nat} {S : Sto}
/-- what the saving writes -/
def SVm (δ d : Dy) (mo L : Nat) (S : Sto) (h : Nat) : Prop := (d.1 (mo + 27) (225 * L) = ii (s_nv S) ∧ d.1 (mo + 27) (225 * L + 1) = ii (s_nt S) ∧ d.1 (mo + 27) (225 * L + 2) = ii h) ∧ (∀ v : Nat, v < 60 → (v : Int) < s_nv S → d.1 (mo + 27) (225 * L + 3 + v) = ii (s_cl S v) ∧ d.1 (mo + 27) (225 * L + 63 + v) = ii (s_va S v)) ∧ (∀ t : Nat, t < 100 → (t : Int) < s_nt S → d.1 (mo + 27) (225 * L + 123 + t) = bi (s_sd S t)) ∧ (∀ k, ¬ (225 * L ≤ k ∧ k < 225 * L + 225) → d.1 (mo + 27) k = δ.1 (mo + 27) k) ∧ Fr (fun r => r = mo + 27) δ d
theorem m_tryTail (hK : KM σ mo) (hN : RNm δ mo E) (gE : GE E) (h : RGm δ mo n E (l :: ls)) (hJ : ls.length < 3) (hg : g < n) (hn : n < 1980) (hA : RAm δ mo g a) (hm : gNode E a.1) (hk : e_kd E a.1 = 13) {δ0 : Dy} {hl : Nat} (hsv : SVm δ0 δ mo ls.length S hl) {one other : Int} (h1 : one = e_on E a.1) (h2 : other = e_ot E a.1) : ∃ D, tryTail σ mo (ii g) (ii a.1) δ = some (.inr D) ∧ RGm D mo (n + 1) E (([(one, a.2)], [], [], [], (savS S, hl), (other, a.2)) :: l :: ls) ∧ GFm mo δ D := by
  subst h1
  subst h2
  have hc := gE.1.2
  obtain ⟨q1, q2⟩ := (hN.2.2 a.1 hm).2.2.2.1 (Or.inr hk)
  obtain ⟨h33, h22, hls⟩ := h
  have h33' : δ.1 mo 33 = ii ls.length := by rw [h33, List.length_cons]; exact congrArg ii (by omega)
  have hj : (ls.length : Int) + 1 < (4 : Nat) := by omega
  have t0 : (((ls.length : Int) + 1)).toNat = ls.length + 1 := by omega
  have W4 : ∀ {x : Dy} {r : Nat} {v : Int32}, KD σ r 100 4 → wI σ x r (ii ((ls.length : Int) + 1)) v = some (u2 x.1 r (ls.length + 1) v, x.2) := fun {x r v} hd => by rw [wI_kd hd (by omega) hj, t0]
  have L0 : ∀ {x : Dy} {r k : Nat} {v : Int32}, ¬ r = mo → u2 x.1 r k v mo 33 = x.1 mo 33 := fun {x r k v} hr => by rw [u2_ne (fun e => hr e.symm)]
  -- step by step
  have s1 : pI σ δ 12 mo 33 (ii ((ls.length : Int) + 1)) = some (u2 δ.1 mo 33 (ii ((ls.length : Int) + 1)), δ.2) := pI_ko hK.1
  have v1 : (u2 δ.1 mo 33 (ii ((ls.length : Int) + 1)), δ.2).1 mo 33 = ii ((ls.length : Int) + 1) := by simp only [u2, and_self, ↓reduceIte]
  have o1 : ∀ k, ¬ k = 33 → (u2 δ.1 mo 33 (ii ((ls.length : Int) + 1)), δ.2).1 mo k = δ.1 mo k := fun k hk => by simp (disch := omega) only [u2, if_neg]
  have f1 : Fr (fun r => r = mo) δ (u2 δ.1 mo 33 (ii ((ls.length : Int) + 1)), δ.2) := Fr_u2 rfl
  generalize (u2 δ.1 mo 33 (ii ((ls.length : Int) + 1)), δ.2) = d1 at s1 v1 o1 f1
  have fin : ∃ D, D = (u2 (u2 (u2 (u2 (u2 d1.1 (mo + 19) (ls.length + 1) (ii 0)) (mo + 21) (ls.length + 1) (ii 0)) (mo + 23) (ls.length + 1) (ii 0)) (mo + 25) (ls.length + 1) (ii 0)) (mo + 26) (ls.length + 1) (ii g), d1.2) ∧ (∀ k, ¬ k = ls.length + 1 → D.1 (mo + 19) k = δ.1 (mo + 19) k ∧ D.1 (mo + 21) k = δ.1 (mo + 21) k ∧ D.1 (mo + 23) k = δ.1 (mo + 23) k ∧ D.1 (mo + 25) k = δ.1 (mo + 25) k ∧ D.1 (mo + 26) k = δ.1 (mo + 26) k) ∧ (D.1 (mo + 19) (ls.length + 1) = ii 0 ∧ D.1 (mo + 21) (ls.length + 1) = ii 0 ∧ D.1 (mo + 23) (ls.length + 1) = ii 0 ∧ D.1 (mo + 25) (ls.length + 1) = ii 0 ∧ D.1 (mo + 26) (ls.length + 1) = ii g) ∧ (∀ r, ¬ (r = mo + 19 ∨ r = mo + 21 ∨ r = mo + 23 ∨ r = mo + 25 ∨ r = mo + 26) → D.1 r = d1.1 r ∧ D.2 r = d1.2 r) := by
    have e1 : d1.1 (mo + 19) = δ.1 (mo + 19) := (f1 _ (by omega)).1
    have e2 : d1.1 (mo + 21) = δ.1 (mo + 21) := (f1 _ (by omega)).1
    have e3 : d1.1 (mo + 23) = δ.1 (mo + 23) := (f1 _ (by omega)).1
    have e4 : d1.1 (mo + 25) = δ.1 (mo + 25) := (f1 _ (by omega)).1
    have e5 : d1.1 (mo + 26) = δ.1 (mo + 26) := (f1 _ (by omega)).1
    refine ⟨_, rfl, fun k hk => ?_, ?_, fun r hr => ⟨?_, rfl⟩⟩
    · dsimp only
      rw [← e1, ← e2, ← e3, ← e4, ← e5]
      refine ⟨?_, ?_, ?_, ?_, ?_⟩ <;> simp (disch := omega) only [u2, if_neg]
    · dsimp only
      refine ⟨?_, ?_, ?_, ?_, ?_⟩ <;> simp (disch := omega) only [u2, if_neg, and_self, ↓reduceIte]
    · dsimp only
      rw [u2_ne (by omega), u2_ne (by omega), u2_ne (by omega), u2_ne (by omega), u2_ne (by omega)]
  obtain ⟨D, eD, g1, ⟨z1, z2, z3, z4, z5⟩, g3⟩ := fin
  have e0 : D.1 mo = d1.1 mo := (g3 mo (by omega)).1
  have un : ∀ r, ¬ (r = mo ∨ r = mo + 19 ∨ r = mo + 21 ∨ r = mo + 23 ∨ r = mo + 25 ∨ r = mo + 26) → D.1 r = δ.1 r ∧ D.2 r = δ.2 r := fun r hr => ⟨(g3 r (by omega)).1.trans (f1 r (by omega)).1, (g3 r (by omega)).2.trans (f1 r (by omega)).2⟩
  have hGF : GFm mo δ D := ⟨fun r hr => un r (by omega), fun k hk => by rw [e0]; exact o1 k (by omega)⟩
  have hlow : LOW mo (ls.length + 1) n δ D := by
    refine ⟨fun k _ => ?_, fun k hk2 => g1 k (by omega), fun k _ => by rw [(un _ (by omega)).1], fun k _ => by rw [(un _ (by omega)).1]⟩
    rw [(un (mo + 18) (by omega)).1, (un (mo + 20) (by omega)).1, (un (mo + 22) (by omega)).1, (un (mo + 24) (by omega)).1]
    exact ⟨rfl, rfl, rfl, rfl⟩
  have hAD : RAm D mo g a := RAm_eq hA (fun k _ _ => by rw [(un _ (by omega)).1])
  obtain ⟨⟨k1, k2, k3⟩, k4, k5, k6, k7⟩ := hsv
  have e27 : D.1 (mo + 27) = δ.1 (mo + 27) := (un _ (by omega)).1
  have nil : ∀ {arr cnt : Nat}, D.1 cnt (ls.length + 1) = ii 0 → RQm D mo arr cnt n (ls.length + 1) [] := fun {arr cnt} hc0 => ⟨by decide, hc0, fun j x hx => (by cases hx)⟩
  have hRG : RGm D mo n E (([], [], [], [], (savS S, hl), (e_ot E a.1, a.2)) :: l :: ls) := by
    refine ⟨?_, ?_, ⟨nil z1, nil z2, nil z3, nil z4, fun _ => ?_⟩, RLsm_low hls (Nat.le_refl _) hlow⟩
    · rw [e0, v1, List.length_cons, List.length_cons]; exact congrArg ii (by omega)
    · rw [e0, o1 22 (by decide)]; exact h22
    · refine ⟨?_, ?_, ?_, g, a, hg, z5, hAD, hm, hk, rfl⟩
      · rw [e27]; exact ⟨k1, k2, k3⟩
      · rw [e27]; exact k4
      · rw [e27]; exact k5
  obtain ⟨d2, D2, y1, y2, y3, y4, -⟩ := m_newq2 hK (m := e_on E a.1) hRG (show (l :: ls).length < 4 by rw [List.length_cons]; omega) hg (by omega) hAD (show ([] : List Ag).length < 400 by decide)
  refine ⟨D2, ?_, y3, hGF.tr y4⟩
  have p1 := m_n1 (σ := σ) (δ := D) hK hc hm (v := ii (e_on E a.1)) (by rw [(un (mo + 4) (by omega)).1]; exact q1)
  unfold tryTail
  rw [show ((1 : Int32)) = ii 1 from rfl, show ((0 : Int32)) = ii 0 from rfl, gI_ko hK.1, ob_some, h33', ii_add, s1, ob_some, mg24 hK, ob_some, gI_ko hK.1, ob_some, v1, W4 (md24 hK), ob_some, mg26 hK, ob_some, gI_ko hK.1, ob_some]
  dsimp only
  rw [L0 (x := d1) (by omega), v1, W4 (md26 hK), ob_some, mg28 hK, ob_some, gI_ko hK.1, ob_some]
  dsimp only
  rw [u2_ne (show ¬ mo = mo + 21 by omega), L0 (x := d1) (by omega), v1, W4 (md28 hK), ob_some, mg30 hK, ob_some, gI_ko hK.1, ob_some]
  dsimp only
  rw [u2_ne (show ¬ mo = mo + 23 by omega), u2_ne (show ¬ mo = mo + 21 by omega), L0 (x := d1) (by omega), v1, W4 (md30 hK), ob_some, mg31 hK, ob_some, gI_ko hK.1, ob_some]
  dsimp only
  rw [u2_ne (show ¬ mo = mo + 25 by omega), u2_ne (show ¬ mo = mo + 23 by omega), u2_ne (show ¬ mo = mo + 21 by omega), L0 (x := d1) (by omega), v1, W4 (md31 hK), ob_some]
  dsimp only
  rw [← eD, mg3 hK, ob_some, p1, ob_some, chk_ko hK.1, ob_some, y1, ob_some, ob_some, y2, ob_some]
theorem m_try137 (hK : KM σ mo) (hS : RSm δ mo S) (hG : GS S) (hJ : L < 3) {d0 : Dy} {hl : Nat} (hF0 : Fr (fun r => r = mo + 27) δ d0) (a1 : d0.1 (mo + 27) (225 * L) = ii (s_nv S) ∧ d0.1 (mo + 27) (225 * L + 1) = ii (s_nt S) ∧ d0.1 (mo + 27) (225 * L + 2) = ii hl) (a2 : ∀ v : Nat, v < 60 → (v : Int) < s_nv S → d0.1 (mo + 27) (225 * L + 3 + v) = ii (s_cl S v) ∧ d0.1 (mo + 27) (225 * L + 63 + v) = ii (s_va S v)) (a3 : ∀ k, ¬ (225 * L ≤ k ∧ k < 225 * L + 225) → d0.1 (mo + 27) k = δ.1 (mo + 27) k) {x y : Int32} {Q : Dy → Prop} (hq : ∀ d, SVm δ d mo L S hl → ∃ D, tryTail σ mo x y d = some (.inr D) ∧ Q D) : Ok (m_X12_actTry_b137 σ mo x y (ii (225 * L)) (ii 0) d0) Q := by
  have gn := hG.1
  obtain ⟨-, -, -, -, -, -, -, r8, -⟩ := hS
  unfold m_X12_actTry_b137
  refine Ok_for (fun z s => s.1 = ii z ∧ (∀ t : Nat, (t : Int) < z → s.2.1 (mo + 27) (225 * L + 123 + t) = δ.1 (mo + 1) (422 + t)) ∧ (∀ k, ¬ (225 * L + 123 ≤ k ∧ k < 225 * L + 223) → s.2.1 (mo + 27) k = d0.1 (mo + 27) k) ∧ Fr (fun r => r = mo + 27) δ s.2) 0 100 (by omega) (by omega) ?_ ?_ ⟨rfl, fun t ht => by omega, fun k _ => rfl, hF0⟩
  · rintro z ⟨s1, d⟩ z0 z1 ⟨hs, hk, ho, hF⟩
    dsimp only at hs hk ho hF ⊢
    subst hs
    have r1 : rI σ d (mo + 1) (ii (422 + z)) = some (δ.1 (mo + 1) (422 + z.toNat)) := rst (md0 hK) (by omega) (by omega) (show (422 + z).toNat = 422 + z.toNat by omega) (by rw [(hF _ (by omega)).1])
    have w1 : wI σ d (mo + 27) (ii (225 * L + 123 + z)) (δ.1 (mo + 1) (422 + z.toNat)) = some (u2 d.1 (mo + 27) (225 * L + 123 + z.toNat) (δ.1 (mo + 1) (422 + z.toNat)), d.2) := by rw [wI_kd (md32 hK) (by omega) (by omega), show (225 * (L : Int) + 123 + z).toNat = 225 * L + 123 + z.toNat by omega]
    refine Ok_inl (s' := (ii (z + 1), (u2 d.1 (mo + 27) (225 * L + 123 + z.toNat) (δ.1 (mo + 1) (422 + z.toNat)), d.2))) ?_ ⟨rfl, fun t ht => ?_, fun k hk2 => ?_, hF.tr (Fr_u2 rfl)⟩
    · simp (disch := omega) only [ii_lit, ii_le, if_neg, mg32 hK, mg0 hK, ob_some, ii_add, r1, w1]
    · dsimp only
      by_cases htz : t = z.toNat
      · rw [htz]
        simp only [u2, and_self, ↓reduceIte]
      · simp (disch := omega) only [u2, if_neg]
        exact hk t (by omega)
    · simp (disch := omega) only [u2, if_neg]
      exact ho k hk2
  · rintro ⟨s1, d⟩ ⟨hs, hk, ho, hF⟩
    dsimp only at hs hk ho hF ⊢
    subst hs
    obtain ⟨D, eD, hD⟩ := hq d ⟨by rw [ho _ (by omega), ho _ (by omega), ho _ (by omega)]; exact a1, fun v v60 hv => by rw [ho _ (by omega), ho _ (by omega)]; exact a2 v v60 hv, fun t t100 ht => by
      rw [hk t (by omega)]
      have := r8 t (by omega) ht
      rw [show (422 + (t : Int)).toNat = 422 + t by omega] at this
      exact this, fun k hk2 => by rw [ho _ (by omega)]; exact a3 k hk2, hF⟩
    refine Ok_inr (r := D) ?_ hD
    rw [if_pos (show (100 : Int32) ≤ ii 100 by decide)]
    exact eD
theorem m_aTry (hK : KM σ mo) (hN : RNm δ mo E) (gE : GE E) (h : RWm δ mo n E ch (w_setlv W (l :: ls))) (hG : GS (v_S (w_V W))) (hh : (v_hi (w_V W)).length ≤ 2000) (hJ : ls.length < 4) (hg : g < n) (hn : n < 1980) (hA : RAm δ mo g a) (ha : gAg E (v_S (w_V W)) a) (hk13 : e_kd E a.1 = 13) (hq : (l_q l).length < 390) : Ok (m_X12_actTry σ mo (ii g) (ii a.1) δ) (fun d => ActW δ d mo n E ch (w_setlv W (l :: ls)) (if 3 ≤ ls.length then w_setlv W (qAdd l (e_ot E a.1, a.2) :: ls) else w_setlv W (daredL (w_V W) (e_on E a.1) (e_ot E a.1) a :: l :: ls))) := by
  have hc := gE.1.2
  have gn := hG.1
  obtain ⟨q1, q2⟩ := (hN.2.2 a.1 ha.1).2.2.2.1 (Or.inr hk13)
  have h33 : δ.1 mo 33 = ii ls.length := by
    rw [h.2.1.1]
    show ii (((l :: ls).length : Int) - 1) = _
    rw [List.length_cons]; exact congrArg ii (by omega)
  have hS : RSm δ mo (v_S (w_V W)) := h.1.1
  unfold m_X12_actTry
  rw [gI_ko hK.1, ob_some, h33]
  by_cases c : 3 ≤ ls.length
  · have c3 : ls.length = 3 := by omega
    have r2 := m_n2 (σ := σ) (δ := δ) hK hc ha.1 q2
    obtain ⟨d2, D2, y1, y2, y3, y4, -⟩ := m_newq2 hK (m := e_ot E a.1) h.2.1 hJ hg (by omega) hA (by omega)
    refine ⟨D2, ?_, ?_⟩
    · rw [if_pos (show ii (ls.length : Int) = 3 by rw [c3]; rfl), mg4 hK, ob_some, r2, ob_some, chk_ko hK.1, ob_some, y1, ob_some, ob_some, y2, ob_some]
    · rw [if_pos c]
      refine ActW_G (n' := n + 1) (ls' := qAdd l (e_ot E a.1, a.2) :: ls) h hG hh y4 y3 ?_
      show n + 1 + (wL ls + (l_w l).length) + (ls.length + 1) ≤ n + (wL ls + (l_w l).length) + (ls.length + 1) + 2
      omega
  · rw [if_neg (show ¬ ii (ls.length : Int) = 3 by rw [show ((3 : Int32)) = ii 3 from rfl, ii_eq (by omega) (by omega) (by omega) (by omega)]; omega), if_neg c]
    have hhist : δ.1 (mo + 1) 1022 = ii ((v_hi (w_V W)).length : Int) := h.1.2.2.2.1.1
    obtain ⟨n1, n2⟩ := m_n hK hS
    have l0 : ∀ {x : Dy} {z : Int} {k : Nat} {v : Int32}, 0 ≤ z → z < 225 → (225 * (ls.length : Int) + z).toNat = k → wI σ x (mo + 27) (ii (225 * ls.length + z)) v = some (u2 x.1 (mo + 27) k v, x.2) := fun {x z k v} z0 z1 hz => by rw [wI_kd (md32 hK) (by omega) (by omega), hz]
    have w1 := l0 (x := δ) (z := 0) (k := 225 * ls.length) (v := ii (s_nv (v_S (w_V W)))) (by omega) (by omega) (by omega)
    rw [Int.add_zero] at w1
    have hF1 : Fr (fun r => r = mo + 27) δ (u2 δ.1 (mo + 27) (225 * ls.length) (ii (s_nv (v_S (w_V W)))), δ.2) := Fr_u2 rfl
    have a1 : (u2 δ.1 (mo + 27) (225 * ls.length) (ii (s_nv (v_S (w_V W)))), δ.2).1 (mo + 27) (225 * ls.length) = ii (s_nv (v_S (w_V W))) := by simp only [u2, and_self, ↓reduceIte]
    have b1 : ∀ k, ¬ k = 225 * ls.length → (u2 δ.1 (mo + 27) (225 * ls.length) (ii (s_nv (v_S (w_V W)))), δ.2).1 (mo + 27) k = δ.1 (mo + 27) k := fun k hk => by simp (disch := omega) only [u2, if_neg]
    generalize (u2 δ.1 (mo + 27) (225 * ls.length) (ii (s_nv (v_S (w_V W)))), δ.2) = d1 at w1 hF1 a1 b1
    have w2 := l0 (x := d1) (z := 1) (k := 225 * ls.length + 1) (v := ii (s_nt (v_S (w_V W)))) (by omega) (by omega) (by omega)
    have hF2 : Fr (fun r => r = mo + 27) d1 (u2 d1.1 (mo + 27) (225 * ls.length + 1) (ii (s_nt (v_S (w_V W)))), d1.2) := Fr_u2 rfl
    have a2 : (u2 d1.1 (mo + 27) (225 * ls.length + 1) (ii (s_nt (v_S (w_V W)))), d1.2).1 (mo + 27) (225 * ls.length + 1) = ii (s_nt (v_S (w_V W))) := by simp only [u2, and_self, ↓reduceIte]
    have b2 : ∀ k, ¬ k = 225 * ls.length + 1 → (u2 d1.1 (mo + 27) (225 * ls.length + 1) (ii (s_nt (v_S (w_V W)))), d1.2).1 (mo + 27) k = d1.1 (mo + 27) k := fun k hk => by simp (disch := omega) only [u2, if_neg]
    generalize (u2 d1.1 (mo + 27) (225 * ls.length + 1) (ii (s_nt (v_S (w_V W)))), d1.2) = d2 at w2 hF2 a2 b2
    have w3 := l0 (x := d2) (z := 2) (k := 225 * ls.length + 2) (v := ii ((v_hi (w_V W)).length : Int)) (by omega) (by omega) (by omega)
    have hF3 : Fr (fun r => r = mo + 27) d2 (u2 d2.1 (mo + 27) (225 * ls.length + 2) (ii ((v_hi (w_V W)).length : Int)), d2.2) := Fr_u2 rfl
    have a3 : (u2 d2.1 (mo + 27) (225 * ls.length + 2) (ii ((v_hi (w_V W)).length : Int)), d2.2).1 (mo + 27) (225 * ls.length + 2) = ii ((v_hi (w_V W)).length : Int) := by simp only [u2, and_self, ↓reduceIte]
    have b3 : ∀ k, ¬ k = 225 * ls.length + 2 → (u2 d2.1 (mo + 27) (225 * ls.length + 2) (ii ((v_hi (w_V W)).length : Int)), d2.2).1 (mo + 27) k = d2.1 (mo + 27) k := fun k hk => by simp (disch := omega) only [u2, if_neg]
    generalize (u2 d2.1 (mo + 27) (225 * ls.length + 2) (ii ((v_hi (w_V W)).length : Int)), d2.2) = d3 at w3 hF3 a3 b3
    have F3 := hF1.tr (hF2.tr hF3)
    have n2' : rI σ d1 (mo + 1) (ii 121) = some (ii (s_nt (v_S (w_V W)))) := rst (md0 hK) (by omega) (by omega) rfl (by rw [(hF1 (mo + 1) (by omega)).1]; exact hS.2.2.2.1)
    have n3' : rI σ d2 (mo + 1) (ii 1022) = some (ii ((v_hi (w_V W)).length : Int)) := rst (md0 hK) (by omega) (by omega) rfl (by rw [((hF1.tr hF2) (mo + 1) (by omega)).1]; exact hhist)
    have A3 : d3.1 (mo + 27) (225 * ls.length) = ii (s_nv (v_S (w_V W))) ∧ d3.1 (mo + 27) (225 * ls.length + 1) = ii (s_nt (v_S (w_V W))) ∧ d3.1 (mo + 27) (225 * ls.length + 2) = ii ((v_hi (w_V W)).length : Int) := ⟨by rw [b3 _ (by omega), b2 _ (by omega)]; exact a1, by rw [b3 _ (by omega)]; exact a2, a3⟩
    have B3 : ∀ k, ¬ (225 * ls.length ≤ k ∧ k < 225 * ls.length + 225) → d3.1 (mo + 27) k = δ.1 (mo + 27) k := fun k hk => by rw [b3 _ (by omega), b2 _ (by omega), b1 _ (by omega)]
    refine Ok_eq_of (m := m_X12_actTry_b79 σ mo (ii g) (ii a.1) (ii (225 * ls.length)) (ii 0) d3) ?_ ?_
    · rw [show ((225 : Int32)) = ii 225 from rfl, show ((0 : Int32)) = ii 0 from rfl, show ((1 : Int32)) = ii 1 from rfl, show ((2 : Int32)) = ii 2 from rfl, show ((121 : Int32)) = ii 121 from rfl, show ((1022 : Int32)) = ii 1022 from rfl, ob_some, mg32 hK, ob_some, mg0 hK, ob_some, n1, ob_some, ii_mul, ii_add, ii_add, w1, ob_some, ob_some, ob_some, n2', ob_some, w2, ob_some, ob_some, ob_some, n3', ob_some, w3, ob_some]
    · unfold m_X12_actTry_b79
      refine Ok_for (fun z s => s.1 = ii z ∧ (∀ v : Nat, (v : Int) < z → s.2.1 (mo + 27) (225 * ls.length + 3 + v) = δ.1 (mo + 1) (1 + v) ∧ s.2.1 (mo + 27) (225 * ls.length + 63 + v) = δ.1 (mo + 1) (61 + v)) ∧ (∀ k, ¬ (225 * ls.length + 3 ≤ k ∧ k < 225 * ls.length + 123) → s.2.1 (mo + 27) k = d3.1 (mo + 27) k) ∧ Fr (fun r => r = mo + 27) δ s.2) 0 60 (by omega) (by omega) ?_ ?_ ⟨rfl, fun t ht => by omega, fun k _ => rfl, F3⟩
      · rintro z ⟨s1, d⟩ z0 z1 ⟨hs, hk, ho, hF⟩
        dsimp only at hs hk ho hF ⊢
        subst hs
        have r1 : rI σ d (mo + 1) (ii (1 + z)) = some (δ.1 (mo + 1) (1 + z.toNat)) := rst (md0 hK) (by omega) (by omega) (show (1 + z).toNat = 1 + z.toNat by omega) (by rw [(hF _ (by omega)).1])
        have w1 := l0 (x := d) (z := 3 + z) (k := 225 * ls.length + 3 + z.toNat) (v := δ.1 (mo + 1) (1 + z.toNat)) (by omega) (by omega) (by omega)
        rw [← Int.add_assoc] at w1
        have hF4 : Fr (fun r => r = mo + 27) d (u2 d.1 (mo + 27) (225 * ls.length + 3 + z.toNat) (δ.1 (mo + 1) (1 + z.toNat)), d.2) := Fr_u2 rfl
        have a4 : (u2 d.1 (mo + 27) (225 * ls.length + 3 + z.toNat) (δ.1 (mo + 1) (1 + z.toNat)), d.2).1 (mo + 27) (225 * ls.length + 3 + z.toNat) = δ.1 (mo + 1) (1 + z.toNat) := by simp only [u2, and_self, ↓reduceIte]
        have b4 : ∀ k, ¬ k = 225 * ls.length + 3 + z.toNat → (u2 d.1 (mo + 27) (225 * ls.length + 3 + z.toNat) (δ.1 (mo + 1) (1 + z.toNat)), d.2).1 (mo + 27) k = d.1 (mo + 27) k := fun k hk => by simp (disch := omega) only [u2, if_neg]
        generalize (u2 d.1 (mo + 27) (225 * ls.length + 3 + z.toNat) (δ.1 (mo + 1) (1 + z.toNat)), d.2) = d4 at w1 hF4 a4 b4
        have r2 : rI σ d4 (mo + 1) (ii (61 + z)) = some (δ.1 (mo + 1) (61 + z.toNat)) := rst (md0 hK) (by omega) (by omega) (show (61 + z).toNat = 61 + z.toNat by omega) (by rw [((hF.tr hF4) _ (by omega)).1])
        have w2 := l0 (x := d4) (z := 63 + z) (k := 225 * ls.length + 63 + z.toNat) (v := δ.1 (mo + 1) (61 + z.toNat)) (by omega) (by omega) (by omega)
        rw [← Int.add_assoc] at w2
        refine Ok_inl (s' := (ii (z + 1), (u2 d4.1 (mo + 27) (225 * ls.length + 63 + z.toNat) (δ.1 (mo + 1) (61 + z.toNat)), d4.2))) ?_ ⟨rfl, fun v hv => ?_, fun k hk2 => ?_, (hF.tr hF4).tr (Fr_u2 rfl)⟩
        · simp (disch := omega) only [ii_lit, ii_le, if_neg, mg32 hK, mg0 hK, ob_some, ii_add, r1, w1, r2, w2]
        · dsimp only
          by_cases hvz : v = z.toNat
          · rw [hvz]
            refine ⟨?_, ?_⟩
            · simp (disch := omega) only [u2, if_neg]
              exact a4
            · simp only [u2, and_self, ↓reduceIte]
          · have hv' := hk v (by omega)
            refine ⟨?_, ?_⟩
            · simp (disch := omega) only [u2, if_neg]
              rw [b4 _ (by omega)]
              exact hv'.1
            · simp (disch := omega) only [u2, if_neg]
              rw [b4 _ (by omega)]
              exact hv'.2
        · simp (disch := omega) only [u2, if_neg]
          rw [b4 _ (by omega)]
          exact ho k hk2
      · rintro ⟨s1, d⟩ ⟨hs, hk, ho, hF⟩
        dsimp only at hs hk ho hF ⊢
        subst hs
        have hloop := m_try137 (x := ii g) (y := ii a.1) (Q := fun D => ActW δ D mo n E ch (w_setlv W (l :: ls)) (w_setlv W (daredL (w_V W) (e_on E a.1) (e_ot E a.1) a :: l :: ls))) hK hS hG (show ls.length < 3 by omega) (hl := (v_hi (w_V W)).length) hF (by rw [ho _ (by omega), ho _ (by omega), ho _ (by omega)]; exact A3) (fun v v60 hv => by
          obtain ⟨e1, e2⟩ := hk v (by omega)
          have f1 := hS.2.1 v (by omega) hv
          have f2 := hS.2.2.1 v (by omega) hv
          rw [show (1 + (v : Int)).toNat = 1 + v by omega] at f1
          rw [show (61 + (v : Int)).toNat = 61 + v by omega] at f2
          exact ⟨e1.trans f1, e2.trans f2⟩) (fun k hk2 => by rw [ho _ (by omega)]; exact B3 k hk2) (fun d5 hsv => by
          have h27 := hsv.2.2.2.2
          have hN5 : RNm d5 mo E := RNm_eq hN (by rw [(h27 mo (by omega)).1]) (fun r _ _ => (h27 r (by omega)).1)
          have hlow : LOW mo (ls.length + 1) n δ d5 := by
            refine ⟨fun k _ => ?_, fun k _ => ?_, fun k hk3 => hsv.2.2.2.1 k (by omega), fun k _ => by rw [(h27 _ (by omega)).1]⟩
            · rw [(h27 (mo + 18) (by omega)).1, (h27 (mo + 20) (by omega)).1, (h27 (mo + 22) (by omega)).1, (h27 (mo + 24) (by omega)).1]
              exact ⟨rfl, rfl, rfl, rfl⟩
            · rw [(h27 (mo + 19) (by omega)).1, (h27 (mo + 21) (by omega)).1, (h27 (mo + 23) (by omega)).1, (h27 (mo + 25) (by omega)).1, (h27 (mo + 26) (by omega)).1]
              exact ⟨rfl, rfl, rfl, rfl, rfl⟩
          have hg5 : RGm d5 mo n E (l :: ls) := ⟨by rw [(h27 mo (by omega)).1]; exact h.2.1.1, by rw [(h27 mo (by omega)).1]; exact h.2.1.2.1, RLsm_low h.2.1.2.2 (Nat.le_refl _) hlow⟩
          have hA5 : RAm d5 mo g a := RAm_eq hA (fun k _ _ => by rw [(h27 _ (by omega)).1])
          obtain ⟨D, eD, k1, k2⟩ := m_tryTail hK hN5 gE hg5 (by omega) hg hn hA5 ha.1 hk13 hsv rfl rfl
          have hGF : GFm mo δ D := (GFm_of (h27.wk (fun r p => by omega))).tr k2
          refine ⟨D, eD, ?_⟩
          refine ActW_G (n' := n + 1) (ls' := daredL (w_V W) (e_on E a.1) (e_ot E a.1) a :: l :: ls) h hG hh hGF k1 ?_
          show n + 1 + (wL ls + (l_w l).length + 0) + (ls.length + 1 + 1) ≤ n + (wL ls + (l_w l).length) + (ls.length + 1) + 2
          omega)
        obtain ⟨D, eD, hD⟩ := hloop
        refine Ok_inr (r := D) ?_ hD
        rw [if_pos (show (60 : Int32) ≤ ii 60 by decide)]
        have eD' : m_X12_actTry_b137 σ mo (ii g) (ii a.1) (ii (225 * ls.length)) 0 d = some D := eD
        rw [eD', ob_some]
end
