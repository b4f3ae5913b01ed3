/-! THE LAW: a node is made -/
def HasN (E : Ev) (k w a b on ot : Int) : Prop := e_kd E (e_ct E) = k ∧ e_wh E (e_ct E) = w ∧ e_a E (e_ct E) = a ∧ e_b E (e_ct E) = b ∧ e_on E (e_ct E) = on ∧ e_ot E (e_ct E) = ot
def bumpN (E : Ev) : Ev := ((e_ct E + 1, E.1.2), E.2)
def GN (E : Ev) (n : Int) : Prop := (0 ≤ e_kd E n ∧ e_kd E n ≤ 13) ∧ (gTm (e_a E n) ∧ gTm (e_b E n)) ∧ (0 ≤ e_wh E n ∧ e_wh E n ≤ 15) ∧
    (e_kd E n = 1 ∨ e_kd E n = 2 → e_wh E n ≤ 5) ∧
    (e_kd E n = 4 ∨ e_kd E n = 10 ∨ e_kd E n = 11 → gCond (e_wh E n)) ∧
    (e_kd E n = 5 → (e_kd E (e_on E n) = 4 ∧ e_kd E (e_ot E n) = 4) ∧ valu (e_a E n) ∧ valu (e_b E n)) ∧
    (e_kd E n = 6 → e_wh E n ≤ 3) ∧ (e_kd E n = 7 → e_wh E n ≤ 5) ∧
    (e_kd E n = 12 → (1 ≤ e_a E n ∧ e_a E n ≤ 9) ∧ 1 ≤ e_b E n ∧ e_b E n ≤ 9) ∧
    (e_kd E n = 3 ∨ e_kd E n = 4 ∨ e_kd E n = 5 ∨ e_kd E n = 6 ∨ (8 ≤ e_kd E n ∧ e_kd E n ≤ 13) → gNode E (e_on E n)) ∧
    (e_kd E n = 3 ∨ e_kd E n = 5 ∨ e_kd E n = 12 ∨ e_kd E n = 13 → gNode E (e_ot E n))
/-- a node, as the reference has it -/
def RN1 (δ : Dy) (mo : Nat) (E : Ev) (n : Int) : Prop := δ.1 (mo + 3) n.toNat = ii (kM (e_kd E n)) ∧
  (e_kd E n = 0 → δ.1 (mo + 4) n.toNat = ii (e_a E n) ∧ δ.1 (mo + 5) n.toNat = ii (e_b E n)) ∧
  (e_kd E n = 1 ∨ e_kd E n = 2 → δ.1 (mo + 4) n.toNat = ii (e_wh E n) ∧ δ.1 (mo + 5) n.toNat = ii (e_a E n) ∧ δ.1 (mo + 6) n.toNat = ii (e_b E n) ∧ δ.1 (mo + 7) n.toNat = bi (decide (e_kd E n = 2))) ∧
  (e_kd E n = 3 ∨ e_kd E n = 13 → δ.1 (mo + 4) n.toNat = ii (e_on E n) ∧ δ.1 (mo + 5) n.toNat = ii (e_ot E n)) ∧
  (e_kd E n = 4 ∨ e_kd E n = 10 ∨ e_kd E n = 11 → δ.1 (mo + 4) n.toNat = ii (e_wh E n) ∧ δ.1 (mo + 5) n.toNat = ii (e_a E n) ∧ (¬ e_wh E n = 3 → δ.1 (mo + 6) n.toNat = ii (e_b E n)) ∧ δ.1 (mo + 7) n.toNat = ii (e_on E n)) ∧
  (e_kd E n = 5 → δ.1 (mo + 4) n.toNat = ii (e_on E n) ∧ δ.1 (mo + 5) n.toNat = ii (e_a E n) ∧ δ.1 (mo + 6) n.toNat = ii (e_ot E n) ∧ δ.1 (mo + 7) n.toNat = ii (e_b E n)) ∧
  (e_kd E n = 6 → δ.1 (mo + 4) n.toNat = ii (e_wh E n) ∧ δ.1 (mo + 5) n.toNat = ii (e_on E n)) ∧
  (e_kd E n = 7 → δ.1 (mo + 4) n.toNat = ii (e_wh E n) ∧ δ.1 (mo + 5) n.toNat = ii (e_a E n) ∧ δ.1 (mo + 6) n.toNat = ii (e_b E n)) ∧
  (e_kd E n = 8 ∨ e_kd E n = 9 → δ.1 (mo + 4) n.toNat = ii (e_on E n)) ∧
  (e_kd E n = 12 → δ.1 (mo + 4) n.toNat = ii (e_a E n) ∧ δ.1 (mo + 5) n.toNat = ii (e_on E n) ∧ δ.1 (mo + 6) n.toNat = ii (e_b E n) ∧ δ.1 (mo + 7) n.toNat = ii (e_ot E n))
def Ctx (σ : St) (δ : Dy) (mo p3 k : Nat) (E : Ev) (bd : Bool) (R : Rl) (I : Iw) (jr : List Jn) : Prop := (KT σ ∧ KM σ mo ∧ KD σ p3 102 1 ∧ (1040 ≤ mo ∧ mo + 37 ≤ p3)) ∧ Core δ mo k E bd R I jr
theorem xel_l {α ρ : Type} {x : α} {g : α → Option ρ} {k : Nat → ρ} : xel (.inl x) g k = g x := rfl
theorem xel_r {α ρ : Type} {e : Nat} {g : α → Option ρ} {k : Nat → ρ} : xel (.inr e) g k = some (k e) := rfl
theorem xhw_l {α ρ : Type} {x : α} {d : Dy} {g : Dy → α → Option ρ} {k : Dy → Nat → Option ρ} : xhw (.inl x, d) g k = g d x := rfl
theorem xhw_r {α ρ : Type} {e : Nat} {d : Dy} {g : Dy → α → Option ρ} {k : Dy → Nat → Option ρ} : xhw (.inr e, d) g k = k d e := rfl
section
variable {σ : St} {δ d : Dy} {mo p3 k : Nat} {E : Ev} {bd : Bool} {R : Rl} {I : Iw} {jr : List Jn} {z kk w a b on ot : Int}
theorem GE_bump (gE : GE E) (hc : e_ct E < 60) (hn : GN (bumpN E) (e_ct E)) : GE (bumpN E) := by
  obtain ⟨g1, g2, g3, g4, g5⟩ := gE
  have gn : ∀ n, gNode E n → gNode (bumpN E) n := fun n h => ⟨h.1, by show n < e_ct E + 1; have := h.2; omega⟩
  refine ⟨⟨by show 0 ≤ e_ct E + 1; omega, by show e_ct E + 1 ≤ 60; omega⟩, g2, g3, fun d d0 d1 => (g4 d d0 d1).imp id (gn _), fun n hnode => ?_⟩
  have hnode' : 0 ≤ n ∧ n < e_ct E + 1 := hnode
  by_cases c : n = e_ct E
  · rw [c]; exact hn
  · obtain ⟨q1, q2, q3, q4, q5, q6, q7, q8, q9, q10, q11⟩ := g5 n ⟨hnode'.1, by omega⟩
    exact ⟨q1, q2, q3, q4, q5, q6, q7, q8, q9, fun h => gn _ (q10 h), fun h => gn _ (q11 h)⟩
theorem Good_bump (h : Good E bd R I) (hg : GE (bumpN E)) : Good (bumpN E) bd R I := by
  obtain ⟨-, ⟨h1, h2, h3, h4, h5, h6, h7, h8⟩, h9, h10, h11⟩ := h
  refine ⟨hg, ⟨h1, h2, h3, h4, fun a ha => ?_, h6, h7, h8⟩, h9, h10, h11⟩
  obtain ⟨⟨g1, g2⟩, g3⟩ := h5 a ha
  exact ⟨⟨g1, by show a.1 < e_ct E + 1; omega⟩, g3⟩
theorem t_add {nd : Nat} (hN : KN σ nd) (hR : RN δ nd E) (hc : 0 ≤ e_ct E ∧ e_ct E < 60) (hx : HasN E kk w a b on ot) : Ok (m_X5_add σ nd (ii kk) (ii w) (ii a) (ii b) (ii on) (ii ot) δ) (fun r => r.1 = ii (e_ct E) ∧ RN r.2 nd (bumpN E) ∧ Fr (fun r => nd ≤ r ∧ r < nd + 7) δ r.2) := by
  obtain ⟨k0, ⟨k1, k2, k3, k4, k5, k6⟩, c1, c2, c3, c4, c5, c6⟩ := hN
  obtain ⟨h1, h2⟩ := hR
  obtain ⟨x1, x2, x3, x4, x5, x6⟩ := hx
  obtain ⟨d1, e1, v1, o1, F1⟩ := wI_ex (δ := δ) (r := nd + 1) (z := e_ct E) (k := (e_ct E).toNat) (x := ii kk) c1 hc.1 (by omega) rfl
  obtain ⟨d2, e2, v2, o2, F2⟩ := wI_ex (δ := d1) (r := nd + 2) (z := e_ct E) (k := (e_ct E).toNat) (x := ii w) c2 hc.1 (by omega) rfl
  obtain ⟨d3, e3, v3, o3, F3⟩ := wI_ex (δ := d2) (r := nd + 3) (z := e_ct E) (k := (e_ct E).toNat) (x := ii a) c3 hc.1 (by omega) rfl
  obtain ⟨d4, e4, v4, o4, F4⟩ := wI_ex (δ := d3) (r := nd + 4) (z := e_ct E) (k := (e_ct E).toNat) (x := ii b) c4 hc.1 (by omega) rfl
  obtain ⟨d5, e5, v5, o5, F5⟩ := wI_ex (δ := d4) (r := nd + 5) (z := e_ct E) (k := (e_ct E).toNat) (x := ii on) c5 hc.1 (by omega) rfl
  obtain ⟨d6, e6, v6, o6, F6⟩ := wI_ex (δ := d5) (r := nd + 6) (z := e_ct E) (k := (e_ct E).toNat) (x := ii ot) c6 hc.1 (by omega) rfl
  obtain ⟨d7, e7, v7, o7, F7⟩ := pI_ex (δ := d6) (k := 6) (x := ii (e_ct E + 1)) k0
  have g0 : gI σ δ 5 nd 6 = some (ii (e_ct E)) := by rw [gI_ko k0, h1]
  have g1 : gI σ d1 5 nd 6 = some (ii (e_ct E)) := by rw [gI_ko k0, (F1 nd (by omega)).1, h1]
  have g2 : gI σ d2 5 nd 6 = some (ii (e_ct E)) := by rw [gI_ko k0, (F2 nd (by omega)).1, (F1 nd (by omega)).1, h1]
  have g3 : gI σ d3 5 nd 6 = some (ii (e_ct E)) := by rw [gI_ko k0, (F3 nd (by omega)).1, (F2 nd (by omega)).1, (F1 nd (by omega)).1, h1]
  have g4 : gI σ d4 5 nd 6 = some (ii (e_ct E)) := by rw [gI_ko k0, (F4 nd (by omega)).1, (F3 nd (by omega)).1, (F2 nd (by omega)).1, (F1 nd (by omega)).1, h1]
  have g5 : gI σ d5 5 nd 6 = some (ii (e_ct E)) := by rw [gI_ko k0, (F5 nd (by omega)).1, (F4 nd (by omega)).1, (F3 nd (by omega)).1, (F2 nd (by omega)).1, (F1 nd (by omega)).1, h1]
  have g6 : gI σ d6 5 nd 6 = some (ii (e_ct E)) := by rw [gI_ko k0, (F6 nd (by omega)).1, (F5 nd (by omega)).1, (F4 nd (by omega)).1, (F3 nd (by omega)).1, (F2 nd (by omega)).1, (F1 nd (by omega)).1, h1]
  have g7 : gI σ d7 5 nd 6 = some (ii (e_ct E + 1)) := by rw [gI_ko k0, v7]
  refine ⟨(ii (e_ct E), d7), ?_, rfl, ⟨v7, fun n hn => ?_⟩, (F1.wk (fun r p => by omega)).tr ((F2.wk (fun r p => by omega)).tr ((F3.wk (fun r p => by omega)).tr ((F4.wk (fun r p => by omega)).tr ((F5.wk (fun r p => by omega)).tr ((F6.wk (fun r p => by omega)).tr (F7.wk (fun r p => by omega)))))))⟩
  · unfold m_X5_add
    rw [g0, ob_some, if_pos (show ii (e_ct E) < 60 by rw [show ((60 : Int32)) = ii 60 from rfl, ii_lt (by omega) (by omega) (by omega) (by omega)]; omega), gR_ko k0 k1, ob_some, ob_some, e1, ob_some, gR_ko k0 k2, ob_some, g1, ob_some, e2, ob_some, gR_ko k0 k3, ob_some, g2, ob_some, e3, ob_some, gR_ko k0 k4, ob_some, g3, ob_some, e4, ob_some, gR_ko k0 k5, ob_some, g4, ob_some, e5, ob_some, gR_ko k0 k6, ob_some, g5, ob_some, e6, ob_some, g6, ob_some, show ((1 : Int32)) = ii 1 from rfl, ii_add, e7, ob_some, g7, ob_some, ii_sub, show e_ct E + 1 - 1 = e_ct E by omega]
  · have hn' : 0 ≤ n ∧ n < e_ct E + 1 := hn
    have t1 : ∀ j, d7.1 (nd + 1) j = d1.1 (nd + 1) j := fun j => by rw [(F7 _ (by omega)).1, (F6 _ (by omega)).1, (F5 _ (by omega)).1, (F4 _ (by omega)).1, (F3 _ (by omega)).1, (F2 _ (by omega)).1]
    have t2 : ∀ j, d7.1 (nd + 2) j = d2.1 (nd + 2) j := fun j => by rw [(F7 _ (by omega)).1, (F6 _ (by omega)).1, (F5 _ (by omega)).1, (F4 _ (by omega)).1, (F3 _ (by omega)).1]
    have t3 : ∀ j, d7.1 (nd + 3) j = d3.1 (nd + 3) j := fun j => by rw [(F7 _ (by omega)).1, (F6 _ (by omega)).1, (F5 _ (by omega)).1, (F4 _ (by omega)).1]
    have t4 : ∀ j, d7.1 (nd + 4) j = d4.1 (nd + 4) j := fun j => by rw [(F7 _ (by omega)).1, (F6 _ (by omega)).1, (F5 _ (by omega)).1]
    have t5 : ∀ j, d7.1 (nd + 5) j = d5.1 (nd + 5) j := fun j => by rw [(F7 _ (by omega)).1, (F6 _ (by omega)).1]
    have t6 : ∀ j, d7.1 (nd + 6) j = d6.1 (nd + 6) j := fun j => by rw [(F7 _ (by omega)).1]
    rw [t1, t2, t3, t4, t5, t6]
    by_cases c : n = e_ct E
    · rw [c, v1, v2, v3, v4, v5, v6]
      exact ⟨congrArg ii x1.symm, congrArg ii x2.symm, congrArg ii x3.symm, congrArg ii x4.symm, congrArg ii x5.symm, congrArg ii x6.symm⟩
    · have hne : ¬ n.toNat = (e_ct E).toNat := by omega
      obtain ⟨y1, y2, y3, y4, y5, y6⟩ := h2 n ⟨hn'.1, by omega⟩
      rw [o1 _ hne, o2 _ hne, o3 _ hne, o4 _ hne, o5 _ hne, o6 _ hne, (F1 (nd + 2) (by omega)).1, (F2 (nd + 3) (by omega)).1, (F1 (nd + 3) (by omega)).1, (F3 (nd + 4) (by omega)).1, (F2 (nd + 4) (by omega)).1, (F1 (nd + 4) (by omega)).1, (F4 (nd + 5) (by omega)).1, (F3 (nd + 5) (by omega)).1, (F2 (nd + 5) (by omega)).1, (F1 (nd + 5) (by omega)).1, (F5 (nd + 6) (by omega)).1, (F4 (nd + 6) (by omega)).1, (F3 (nd + 6) (by omega)).1, (F2 (nd + 6) (by omega)).1, (F1 (nd + 6) (by omega)).1]
      exact ⟨y1, y2, y3, y4, y5, y6⟩
theorem m_makeN (hK : KM σ mo) (hR : RNm δ mo E) (hc : 0 ≤ e_ct E ∧ e_ct E < 60) {x0 x1 x2 x3 x4 : Int32} (hx : ∀ D : Dy, D.1 (mo + 3) (e_ct E).toNat = x0 → D.1 (mo + 4) (e_ct E).toNat = x1 → D.1 (mo + 5) (e_ct E).toNat = x2 → D.1 (mo + 6) (e_ct E).toNat = x3 → D.1 (mo + 7) (e_ct E).toNat = x4 → RN1 D mo E (e_ct E)) : Ok (m_X12_makeNode σ mo x0 x1 x2 x3 x4 δ) (fun r => r.1 = ii (e_ct E) ∧ RNm r.2 mo (bumpN E) ∧ Fr (fun r => r = mo ∨ (mo + 3 ≤ r ∧ r ≤ mo + 7)) δ r.2 ∧ ∀ j, ¬ j = 7 → r.2.1 mo j = δ.1 mo j) := by
  obtain ⟨h1, hdf, h2⟩ := hR
  obtain ⟨d1, e1, v1, o1, F1⟩ := wI_ex (δ := δ) (r := mo + 3) (z := e_ct E) (k := (e_ct E).toNat) (x := x0) (md2 hK) hc.1 (by omega) rfl
  obtain ⟨d2, e2, v2, o2, F2⟩ := wI_ex (δ := d1) (r := mo + 4) (z := e_ct E) (k := (e_ct E).toNat) (x := x1) (md3 hK) hc.1 (by omega) rfl
  obtain ⟨d3, e3, v3, o3, F3⟩ := wI_ex (δ := d2) (r := mo + 5) (z := e_ct E) (k := (e_ct E).toNat) (x := x2) (md4 hK) hc.1 (by omega) rfl
  obtain ⟨d4, e4, v4, o4, F4⟩ := wI_ex (δ := d3) (r := mo + 6) (z := e_ct E) (k := (e_ct E).toNat) (x := x3) (md5 hK) hc.1 (by omega) rfl
  obtain ⟨d5, e5, v5, o5, F5⟩ := wI_ex (δ := d4) (r := mo + 7) (z := e_ct E) (k := (e_ct E).toNat) (x := x4) (md6 hK) hc.1 (by omega) rfl
  obtain ⟨d6, e6, v6, o6, F6⟩ := pI_ex (δ := d5) (k := 7) (x := ii (e_ct E + 1)) hK.1
  have g0 : gI σ δ 12 mo 7 = some (ii (e_ct E)) := by rw [gI_ko hK.1, h1]
  have g1 : gI σ d1 12 mo 7 = some (ii (e_ct E)) := by rw [gI_ko hK.1, (F1 mo (by omega)).1, h1]
  have g2 : gI σ d2 12 mo 7 = some (ii (e_ct E)) := by rw [gI_ko hK.1, (F2 mo (by omega)).1, (F1 mo (by omega)).1, h1]
  have g3 : gI σ d3 12 mo 7 = some (ii (e_ct E)) := by rw [gI_ko hK.1, (F3 mo (by omega)).1, (F2 mo (by omega)).1, (F1 mo (by omega)).1, h1]
  have g4 : gI σ d4 12 mo 7 = some (ii (e_ct E)) := by rw [gI_ko hK.1, (F4 mo (by omega)).1, (F3 mo (by omega)).1, (F2 mo (by omega)).1, (F1 mo (by omega)).1, h1]
  have g5 : gI σ d5 12 mo 7 = some (ii (e_ct E)) := by rw [gI_ko hK.1, (F5 mo (by omega)).1, (F4 mo (by omega)).1, (F3 mo (by omega)).1, (F2 mo (by omega)).1, (F1 mo (by omega)).1, h1]
  have g6 : gI σ d6 12 mo 7 = some (ii (e_ct E + 1)) := by rw [gI_ko hK.1, v6]
  have t3 : ∀ j, d6.1 (mo + 3) j = d1.1 (mo + 3) j := fun j => by rw [(F6 _ (by omega)).1, (F5 _ (by omega)).1, (F4 _ (by omega)).1, (F3 _ (by omega)).1, (F2 _ (by omega)).1]
  have t4 : ∀ j, d6.1 (mo + 4) j = d2.1 (mo + 4) j := fun j => by rw [(F6 _ (by omega)).1, (F5 _ (by omega)).1, (F4 _ (by omega)).1, (F3 _ (by omega)).1]
  have t5 : ∀ j, d6.1 (mo + 5) j = d3.1 (mo + 5) j := fun j => by rw [(F6 _ (by omega)).1, (F5 _ (by omega)).1, (F4 _ (by omega)).1]
  have t6 : ∀ j, d6.1 (mo + 6) j = d4.1 (mo + 6) j := fun j => by rw [(F6 _ (by omega)).1, (F5 _ (by omega)).1]
  have t7 : ∀ j, d6.1 (mo + 7) j = d5.1 (mo + 7) j := fun j => by rw [(F6 _ (by omega)).1]
  have s3 : ∀ j, ¬ j = (e_ct E).toNat → d6.1 (mo + 3) j = δ.1 (mo + 3) j := fun j hj => by rw [t3, o1 j hj]
  have s4 : ∀ j, ¬ j = (e_ct E).toNat → d6.1 (mo + 4) j = δ.1 (mo + 4) j := fun j hj => by rw [t4, o2 j hj, (F1 _ (by omega)).1]
  have s5 : ∀ j, ¬ j = (e_ct E).toNat → d6.1 (mo + 5) j = δ.1 (mo + 5) j := fun j hj => by rw [t5, o3 j hj, (F2 _ (by omega)).1, (F1 _ (by omega)).1]
  have s6 : ∀ j, ¬ j = (e_ct E).toNat → d6.1 (mo + 6) j = δ.1 (mo + 6) j := fun j hj => by rw [t6, o4 j hj, (F3 _ (by omega)).1, (F2 _ (by omega)).1, (F1 _ (by omega)).1]
  have s7 : ∀ j, ¬ j = (e_ct E).toNat → d6.1 (mo + 7) j = δ.1 (mo + 7) j := fun j hj => by rw [t7, o5 j hj, (F4 _ (by omega)).1, (F3 _ (by omega)).1, (F2 _ (by omega)).1, (F1 _ (by omega)).1]
  have FF : Fr (fun r => r = mo ∨ (mo + 3 ≤ r ∧ r ≤ mo + 7)) δ d6 := (F1.wk (fun r p => by omega)).tr ((F2.wk (fun r p => by omega)).tr ((F3.wk (fun r p => by omega)).tr ((F4.wk (fun r p => by omega)).tr ((F5.wk (fun r p => by omega)).tr (F6.wk (fun r p => by omega))))))
  refine ⟨(ii (e_ct E), d6), ?_, rfl, ⟨v6, fun i hi => by rw [(FF _ (by omega)).1]; exact hdf i hi, fun n hn => ?_⟩, FF, fun j hj => by rw [o6 j hj, (F5 _ (by omega)).1, (F4 _ (by omega)).1, (F3 _ (by omega)).1, (F2 _ (by omega)).1, (F1 _ (by omega)).1]⟩
  · unfold m_X12_makeNode
    rw [g0, ob_some, if_neg (show ¬ ii (e_ct E) = 60 by rw [show ((60 : Int32)) = ii 60 from rfl, ii_eq (by omega) (by omega) (by omega) (by omega)]; omega), mg2 hK, ob_some, ob_some, e1, ob_some, mg3 hK, ob_some, g1, ob_some, e2, ob_some, mg4 hK, ob_some, g2, ob_some, e3, ob_some, mg5 hK, ob_some, g3, ob_some, e4, ob_some, mg6 hK, ob_some, g4, ob_some, e5, ob_some, g5, ob_some, show ((1 : Int32)) = ii 1 from rfl, ii_add, e6, ob_some, g6, ob_some, ii_sub, show e_ct E + 1 - 1 = e_ct E by omega]
  · have hn' : 0 ≤ n ∧ n < e_ct E + 1 := hn
    show RN1 d6 mo E n
    by_cases c : n = e_ct E
    · rw [c]
      exact hx d6 (by rw [t3, v1]) (by rw [t4, v2]) (by rw [t5, v3]) (by rw [t6, v4]) (by rw [t7, v5])
    · have hne : ¬ n.toNat = (e_ct E).toNat := by omega
      have h3 : RN1 δ mo E n := h2 n ⟨hn'.1, by omega⟩
      unfold RN1 at h3 ⊢
      rw [s3 _ hne, s4 _ hne, s5 _ hne, s6 _ hne, s7 _ hne]
      exact h3
/-- a call that makes a node -/
theorem LX_node (h : Ctx σ δ mo p3 k E bd R I jr) (hc : e_ct E < 60) (hx : HasN E kk w a b on ot) (hn : GN (bumpN E) (e_ct E)) {x1 x2 x3 x4 : Int32} (hm : ∀ D : Dy, D.1 (mo + 3) (e_ct E).toNat = ii (kM kk) → D.1 (mo + 4) (e_ct E).toNat = x1 → D.1 (mo + 5) (e_ct E).toNat = x2 → D.1 (mo + 6) (e_ct E).toNat = x3 → D.1 (mo + 7) (e_ct E).toNat = x4 → RN1 D mo E (e_ct E)) {mL : Option (Int32 × Dy)} {mX : Dy → Option (Int32 × Dy)}
    (e1 : ∀ D, m_X5_add σ 1 (ii kk) (ii w) (ii a) (ii b) (ii on) (ii ot) δ = some (ii (e_ct E), D) → mL = (wLo σ D p3 (0 : Int32) (ii (e_ct E)).toInt64).bind fun d4 => some ((0 : Int32), d4))
    (e2 : ∀ d d1 D, pI σ d 12 mo 50 (0 : Int32) = some d1 → RNm d1 mo E → m_X12_makeNode σ mo (ii (kM kk)) x1 x2 x3 x4 d1 = some (ii (e_ct E), D) → ¬ ii (e_ct E) = -1 → mX d = some (ii (e_ct E), D)) : LX mo p3 mL mX (fun d => Core d mo k (bumpN E) bd R I jr) := by
  obtain ⟨⟨hT, hK, h3, hmo⟩, hGood, hRT, ⟨hE, hIm, hbg, hMb⟩, hlen, hRep⟩ := h
  have gE := hGood.1
  have hc0 := gE.1
  obtain ⟨hREn, hRId, hRBg, hRJ, md, I', hScr⟩ := hRT
  have hKN : KN σ 1 := hT.2.2.2.2.1.2.2.2.1
  obtain ⟨⟨r1, D1⟩, t1, t2, t3, t4⟩ := t_add hKN hREn.1 ⟨hc0.1, hc⟩ hx
  dsimp only at t2 t3 t4
  subst t2
  have hw : wLo σ D1 p3 (0 : Int32) (ii (e_ct E)).toInt64 = some (D1.1, u2 D1.2 p3 0 (ii (e_ct E)).toInt64) := wLo_kd (z := 0) h3 (by omega) (by omega)
  have hFw : Fr (fun r => r = p3) D1 (D1.1, u2 D1.2 p3 0 (ii (e_ct E)).toInt64) := Fr_u2L rfl
  have hv : (D1.1, u2 D1.2 p3 0 (ii (e_ct E)).toInt64).2 p3 0 = (ii (e_ct E)).toInt64 := by simp only [u2, and_self, ↓reduceIte]
  have e1' := e1 D1 t1
  rw [hw, ob_some] at e1'
  generalize (D1.1, u2 D1.2 p3 0 (ii (e_ct E)).toInt64) = D2 at hFw hv e1'
  have F02 : Fr (fun r => (1 ≤ r ∧ r < 8) ∨ r = p3) δ D2 := (t4.wk (fun r p => by omega)).tr (hFw.wk (fun r p => by omega))
  obtain ⟨D3, p1, v1, o1, F1⟩ := pI_ex (δ := D2) (k := 50) (x := 0) hK.1
  have F03 : Fr (fun r => (1 ≤ r ∧ r < 8) ∨ r = p3 ∨ r = mo) δ D3 := (F02.wk (fun r p => by omega)).tr (F1.wk (fun r p => by omega))
  have um : ∀ r, mo + 1 ≤ r → r ≤ mo + 36 → D3.1 r = δ.1 r := fun r a b => (F03 r (by omega)).1
  have umo : ∀ j, ¬ j = 50 → D3.1 mo j = δ.1 mo j := fun j hj => by rw [o1 j hj, (F02 mo (by omega)).1]
  have hN3 : RNm D3 mo E := RNm_eq hE.2 (umo 7 (by decide)) (fun r a b => um r (by omega) (by omega))
  obtain ⟨⟨r4, D4⟩, m1, m2, m3, m4, m5⟩ := m_makeN hK hN3 ⟨hc0.1, hc⟩ hm
  dsimp only at m2 m3 m4 m5
  subst m2
  have hneg : ¬ ii (e_ct E) = -1 := by
    rw [show ((-1 : Int32)) = ii (-1) from rfl, ii_eq (by omega) (by omega) (by omega) (by omega)]
    omega
  have F04 : Fr (fun r => (1 ≤ r ∧ r < 8) ∨ r = p3 ∨ r = mo ∨ (mo + 3 ≤ r ∧ r ≤ mo + 7)) δ D4 := (F03.wk (fun r p => by omega)).tr (m4.wk (fun r p => by omega))
  have e4o : ∀ j, ¬ j = 50 → ¬ j = 7 → D4.1 mo j = δ.1 mo j := fun j h1 h2 => by rw [m5 j h2, umo j h1]
  refine ⟨0, D2, ii (e_ct E), D4, e1', e2 D2 D3 D4 p1 hN3 m1 hneg, by rw [m5 50 (by decide)]; exact v1, fun _ => ?_, Good_bump hGood (GE_bump gE hc hn), ⟨⟨?_, ?_, ?_⟩, RId_of_Fr hRId F04 (fun r a b => by omega), ?_, ?_, md, I', RId_of_Fr hScr F04 (fun r a b => by omega)⟩, ⟨⟨?_, m3⟩, RIm_eq hIm (F04 _ (by omega)).1, by rw [(F04 _ (by omega)).1]; exact hbg, ?_⟩, hlen, Rep_mono (E' := bumpN E) hRep rfl rfl (by show e_ct E ≤ e_ct E + 1; omega) (Int.le_refl _)⟩
  · rw [(m4 p3 (by omega)).2, (F1 p3 (by omega)).2]
    exact hv
  · have FX : Fr (fun r => r = p3 ∨ r = mo ∨ (mo + 3 ≤ r ∧ r ≤ mo + 7)) D1 D4 := (hFw.wk (fun r p => Or.inl p)).tr ((F1.wk (fun r p => Or.inr (Or.inl p))).tr (m4.wk (fun r p => by omega)))
    exact RN_of_Fr t3 FX (fun r a b => by omega)
  · exact RRs_of_Fr hREn.2.1 gE.2.1.2 F04 (fun r a b => by omega)
  · intro dd a b
    rw [(F04 (68 + 13) (by omega)).1]
    exact hREn.2.2 dd a b
  · obtain ⟨q1, q2⟩ := hRBg
    have hmd := gE.2.1
    refine ⟨by rw [(F04 0 (by omega)).1]; exact q1, fun hb => ⟨RRu_of_Fr (q2 hb).1 F04 (fun r a b => ?_), ?_⟩⟩
    · have ha : 14 + 6 * (e_md E).toNat ≤ r := a
      have hb' : r < 14 + 6 * (e_md E).toNat + 6 := b
      omega
    · show RMk (D4.1 (14 + 6 * (e_md E).toNat) 7) R
      rw [(F04 (14 + 6 * (e_md E).toNat) (by omega)).1]; exact (q2 hb).2
  · obtain ⟨q1, q2⟩ := hRJ
    exact ⟨by rw [(F04 0 (by omega)).1]; exact q1, by rw [(F04 13 (by omega)).1]; exact q2⟩
  · exact RRm_eq hE.1 (e4o 14 (by decide) (by decide)) (fun r a b => (F04 r (by omega)).1)
  · unfold RMb at hMb ⊢
    rw [e4o 20 (by decide) (by decide), e4o 18 (by decide) (by decide), e4o 19 (by decide) (by decide), (F04 (mo + 14) (by omega)).1, (F04 (mo + 15) (by omega)).1, (F04 (mo + 16) (by omega)).1]
    exact hMb
end
