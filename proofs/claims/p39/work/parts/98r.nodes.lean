def HasN (E : Ev) (k w a b on ot : Int) : Prop := e_kd E (e_ct E) = k ∧ e_wh E (e_ct E) = w ∧ e_a E (e_ct E) = a ∧ e_b E (e_ct E) = b ∧ e_on E (e_ct E) = on ∧ e_ot E (e_ct E) = ot
def bumpN (E : Ev) : Ev := ((e_ct E + 1, E.1.2), E.2)
def GN (E : Ev) (n : Int) : Prop := (0 ≤ e_kd E n ∧ e_kd E n ≤ 13) ∧ (gTm (e_a E n) ∧ gTm (e_b E n)) ∧ (0 ≤ e_wh E n ∧ e_wh E n ≤ 15) ∧
    (e_kd E n = 1 ∨ e_kd E n = 2 → e_wh E n ≤ 5) ∧
    (e_kd E n = 4 ∨ e_kd E n = 10 ∨ e_kd E n = 11 → gCond (e_wh E n)) ∧
    (e_kd E n = 5 → (e_kd E (e_on E n) = 4 ∧ e_kd E (e_ot E n) = 4) ∧ valu (e_a E n) ∧ valu (e_b E n)) ∧
    (e_kd E n = 6 → e_wh E n ≤ 3) ∧ (e_kd E n = 7 → e_wh E n ≤ 5) ∧
    (e_kd E n = 12 → (1 ≤ e_a E n ∧ e_a E n ≤ 9) ∧ 1 ≤ e_b E n ∧ e_b E n ≤ 9) ∧
    (e_kd E n = 3 ∨ e_kd E n = 4 ∨ e_kd E n = 5 ∨ e_kd E n = 6 ∨ (8 ≤ e_kd E n ∧ e_kd E n ≤ 13) → gNode E (e_on E n)) ∧
    (e_kd E n = 3 ∨ e_kd E n = 5 ∨ e_kd E n = 12 ∨ e_kd E n = 13 → gNode E (e_ot E n))
theorem xel_l {α ρ : Type} {x : α} {g : α → Option ρ} {k : Nat → ρ} : xel (.inl x) g k = g x := rfl
theorem xel_r {α ρ : Type} {e : Nat} {g : α → Option ρ} {k : Nat → ρ} : xel (.inr e) g k = some (k e) := rfl
section
variable {σ : St} {δ d : Dy} {mo p3 k : Nat} {E : Ev} {bd : Bool} {R : Rl} {I : Iw} {jr : List Jn} {z kk w a b on ot : Int}
theorem GE_bump (gE : GE E) (hc : e_ct E < 60) (hn : GN (bumpN E) (e_ct E)) : GE (bumpN E) := by
  obtain ⟨g1, g2, g3, g4, g5⟩ := gE
  have gn : ∀ n, gNode E n → gNode (bumpN E) n := fun n h => ⟨h.1, by show n < e_ct E + 1; have := h.2; omega⟩
  refine ⟨⟨by show 0 ≤ e_ct E + 1; omega, by show e_ct E + 1 ≤ 60; omega⟩, g2, g3, fun d d0 d1 => (g4 d d0 d1).imp id (gn _), fun n hnode => ?_⟩
  have hnode' : 0 ≤ n ∧ n < e_ct E + 1 := hnode
  by_cases c : n = e_ct E
  · rw [c]; exact hn
  · obtain ⟨q1, q2, q3, q4, q5, q6, q7, q8, q9, q10, q11⟩ := g5 n ⟨hnode'.1, by omega⟩
    exact ⟨q1, q2, q3, q4, q5, q6, q7, q8, q9, fun h => gn _ (q10 h), fun h => gn _ (q11 h)⟩
theorem Good_bump (h : Good E bd R I) (hg : GE (bumpN E)) : Good (bumpN E) bd R I := by
  obtain ⟨-, ⟨h1, h2, h3, h4, h5, h6, h7, h8⟩, h9, h10, h11⟩ := h
  refine ⟨hg, ⟨h1, h2, h3, h4, fun a ha => ?_, h6, h7, h8⟩, h9, h10, h11⟩
  obtain ⟨⟨g1, g2⟩, g3⟩ := h5 a ha
  exact ⟨⟨g1, by show a.1 < e_ct E + 1; omega⟩, g3⟩
theorem t_add {nd : Nat} (hN : KN σ nd) (hR : RN δ nd E) (hc : 0 ≤ e_ct E ∧ e_ct E < 60) (hx : HasN E kk w a b on ot) : Ok (m_X5_add σ nd (ii kk) (ii w) (ii a) (ii b) (ii on) (ii ot) δ) (fun r => r.1 = ii (e_ct E) ∧ RN r.2 nd (bumpN E) ∧ Fr (fun r => nd ≤ r ∧ r < nd + 7) δ r.2) := by
  obtain ⟨k0, ⟨k1, k2, k3, k4, k5, k6⟩, c1, c2, c3, c4, c5, c6⟩ := hN
  obtain ⟨h1, h2⟩ := hR
  obtain ⟨x1, x2, x3, x4, x5, x6⟩ := hx
  obtain ⟨d1, e1, v1, o1, F1⟩ := wI_ex (δ := δ) (r := nd + 1) (z := e_ct E) (k := (e_ct E).toNat) (x := ii kk) c1 hc.1 (by omega) rfl
  obtain ⟨d2, e2, v2, o2, F2⟩ := wI_ex (δ := d1) (r := nd + 2) (z := e_ct E) (k := (e_ct E).toNat) (x := ii w) c2 hc.1 (by omega) rfl
  obtain ⟨d3, e3, v3, o3, F3⟩ := wI_ex (δ := d2) (r := nd + 3) (z := e_ct E) (k := (e_ct E).toNat) (x := ii a) c3 hc.1 (by omega) rfl
  obtain ⟨d4, e4, v4, o4, F4⟩ := wI_ex (δ := d3) (r := nd + 4) (z := e_ct E) (k := (e_ct E).toNat) (x := ii b) c4 hc.1 (by omega) rfl
  obtain ⟨d5, e5, v5, o5, F5⟩ := wI_ex (δ := d4) (r := nd + 5) (z := e_ct E) (k := (e_ct E).toNat) (x := ii on) c5 hc.1 (by omega) rfl
  obtain ⟨d6, e6, v6, o6, F6⟩ := wI_ex (δ := d5) (r := nd + 6) (z := e_ct E) (k := (e_ct E).toNat) (x := ii ot) c6 hc.1 (by omega) rfl
  obtain ⟨d7, e7, v7, o7, F7⟩ := pI_ex (δ := d6) (k := 6) (x := ii (e_ct E + 1)) k0
  have g0 : gI σ δ 5 nd 6 = some (ii (e_ct E)) := by rw [gI_ko k0, h1]
  have g1 : gI σ d1 5 nd 6 = some (ii (e_ct E)) := by rw [gI_ko k0, (F1 nd (by omega)).1, h1]
  have g2 : gI σ d2 5 nd 6 = some (ii (e_ct E)) := by rw [gI_ko k0, (F2 nd (by omega)).1, (F1 nd (by omega)).1, h1]
  have g3 : gI σ d3 5 nd 6 = some (ii (e_ct E)) := by rw [gI_ko k0, (F3 nd (by omega)).1, (F2 nd (by omega)).1, (F1 nd (by omega)).1, h1]
  have g4 : gI σ d4 5 nd 6 = some (ii (e_ct E)) := by rw [gI_ko k0, (F4 nd (by omega)).1, (F3 nd (by omega)).1, (F2 nd (by omega)).1, (F1 nd (by omega)).1, h1]
  have g5 : gI σ d5 5 nd 6 = some (ii (e_ct E)) := by rw [gI_ko k0, (F5 nd (by omega)).1, (F4 nd (by omega)).1, (F3 nd (by omega)).1, (F2 nd (by omega)).1, (F1 nd (by omega)).1, h1]
  have g6 : gI σ d6 5 nd 6 = some (ii (e_ct E)) := by rw [gI_ko k0, (F6 nd (by omega)).1, (F5 nd (by omega)).1, (F4 nd (by omega)).1, (F3 nd (by omega)).1, (F2 nd (by omega)).1, (F1 nd (by omega)).1, h1]
  have g7 : gI σ d7 5 nd 6 = some (ii (e_ct E + 1)) := by rw [gI_ko k0, v7]
  refine ⟨(ii (e_ct E), d7), ?_, rfl, ⟨v7, fun n hn => ?_⟩, (F1.wk (fun r p => by omega)).tr ((F2.wk (fun r p => by omega)).tr ((F3.wk (fun r p => by omega)).tr ((F4.wk (fun r p => by omega)).tr ((F5.wk (fun r p => by omega)).tr ((F6.wk (fun r p => by omega)).tr (F7.wk (fun r p => by omega)))))))⟩
  · unfold m_X5_add
    rw [g0, ob_some, if_pos (show ii (e_ct E) < 60 by rw [show ((60 : Int32)) = ii 60 from rfl, ii_lt (by omega) (by omega) (by omega) (by omega)]; omega), gR_ko k0 k1, ob_some, ob_some, e1, ob_some, gR_ko k0 k2, ob_some, g1, ob_some, e2, ob_some, gR_ko k0 k3, ob_some, g2, ob_some, e3, ob_some, gR_ko k0 k4, ob_some, g3, ob_some, e4, ob_some, gR_ko k0 k5, ob_some, g4, ob_some, e5, ob_some, gR_ko k0 k6, ob_some, g5, ob_some, e6, ob_some, g6, ob_some, show ((1 : Int32)) = ii 1 from rfl, ii_add, e7, ob_some, g7, ob_some, ii_sub, show e_ct E + 1 - 1 = e_ct E by omega]
  · have hn' : 0 ≤ n ∧ n < e_ct E + 1 := hn
    have t1 : ∀ j, d7.1 (nd + 1) j = d1.1 (nd + 1) j := fun j => by rw [(F7 _ (by omega)).1, (F6 _ (by omega)).1, (F5 _ (by omega)).1, (F4 _ (by omega)).1, (F3 _ (by omega)).1, (F2 _ (by omega)).1]
    have t2 : ∀ j, d7.1 (nd + 2) j = d2.1 (nd + 2) j := fun j => by rw [(F7 _ (by omega)).1, (F6 _ (by omega)).1, (F5 _ (by omega)).1, (F4 _ (by omega)).1, (F3 _ (by omega)).1]
    have t3 : ∀ j, d7.1 (nd + 3) j = d3.1 (nd + 3) j := fun j => by rw [(F7 _ (by omega)).1, (F6 _ (by omega)).1, (F5 _ (by omega)).1, (F4 _ (by omega)).1]
    have t4 : ∀ j, d7.1 (nd + 4) j = d4.1 (nd + 4) j := fun j => by rw [(F7 _ (by omega)).1, (F6 _ (by omega)).1, (F5 _ (by omega)).1]
    have t5 : ∀ j, d7.1 (nd + 5) j = d5.1 (nd + 5) j := fun j => by rw [(F7 _ (by omega)).1, (F6 _ (by omega)).1]
    have t6 : ∀ j, d7.1 (nd + 6) j = d6.1 (nd + 6) j := fun j => by rw [(F7 _ (by omega)).1]
    rw [t1, t2, t3, t4, t5, t6]
    by_cases c : n = e_ct E
    · rw [c, v1, v2, v3, v4, v5, v6]
      exact ⟨congrArg ii x1.symm, congrArg ii x2.symm, congrArg ii x3.symm, congrArg ii x4.symm, congrArg ii x5.symm, congrArg ii x6.symm⟩
    · have hne : ¬ n.toNat = (e_ct E).toNat := by omega
      obtain ⟨y1, y2, y3, y4, y5, y6⟩ := h2 n ⟨hn'.1, by omega⟩
      rw [o1 _ hne, o2 _ hne, o3 _ hne, o4 _ hne, o5 _ hne, o6 _ hne, (F1 (nd + 2) (by omega)).1, (F2 (nd + 3) (by omega)).1, (F1 (nd + 3) (by omega)).1, (F3 (nd + 4) (by omega)).1, (F2 (nd + 4) (by omega)).1, (F1 (nd + 4) (by omega)).1, (F4 (nd + 5) (by omega)).1, (F3 (nd + 5) (by omega)).1, (F2 (nd + 5) (by omega)).1, (F1 (nd + 5) (by omega)).1, (F5 (nd + 6) (by omega)).1, (F4 (nd + 6) (by omega)).1, (F3 (nd + 6) (by omega)).1, (F2 (nd + 6) (by omega)).1, (F1 (nd + 6) (by omega)).1]
      exact ⟨y1, y2, y3, y4, y5, y6⟩
end
