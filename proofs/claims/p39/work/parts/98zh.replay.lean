/-- what stays good while the journal is read -/
def StG (E : Ev) (s : Stg) : Prop := GE (stE E s.1 s.2.1) ∧ GI (stE E s.1 s.2.1) (60 * i_st s.2.2) s.2.2 ∧ XI (stE E s.1 s.2.1) (60 * i_st s.2.2) s.2.2 ∧ (0 ≤ i_st s.2.2 ∧ i_st s.2.2 ≤ 30)
def StR (d : Dy) (s : Stg) : Prop := RId d 554 s.2.1 s.2.2 ∧ ∀ z : Int, 0 ≤ z → z < 6 → d.1 567 z.toNat = ii (s.1 z)
section
variable {σ : St} {δ d : Dy} {mo p3 k : Nat} {E : Ev} {bd : Bool} {R : Rl} {I : Iw} {jr : List Jn} {s s' : Stg} {e : Jn}
theorem RId_df {wp : Nat} {md : Int} (h : RId δ wp md I) (F2 : Fr (fun r => r = wp + 13) δ d) : RId d wp md I := by
  obtain ⟨r1, r2, r3, r4, ⟨r5, r5'⟩, r6, r7, r8, r9, r10⟩ := h
  refine ⟨RS_of_Fr r1 F2 (fun r a b => by omega), ?_, by rw [(F2 (wp + 23) (by omega)).1]; exact r3, by rw [(F2 (wp + 18) (by omega)).1]; exact r4, ⟨by rw [(F2 (wp + 11) (by omega)).1]; exact r5, ?_⟩, ?_, RQ_of_Fr r7 F2 (fun r a b => by omega), fun j hj => RLany_of_Fr (r8 j hj) F2 (fun r a b => by omega), by rw [(F2 wp (by omega)).1]; exact r9, by rw [(F2 wp (by omega)).1]; exact r10⟩
  · unfold HiR; rw [(F2 (wp + 21) (by omega)).2]; exact r2
  · unfold RPw; rw [(F2 (wp + 12) (by omega)).1]; exact r5'
  · unfold RTk; rw [(F2 (wp + 14) (by omega)).1]; exact r6
theorem rep_good (gE : GE E) (h : RepS E e s s') (g : StG E s) (hm : s.2.1 ≤ e_md E) : StG E s' ∧ s'.2.1 ≤ e_md E := by
  obtain ⟨df, md, I⟩ := s
  obtain ⟨g1, g2, g3, g4⟩ := g
  dsimp only at g1 g2 g3 g4 hm
  have hmd : 0 ≤ md ∧ md ≤ 8 := g1.2.1
  have hE8 := gE.2.1.2
  rcases h with ⟨a0, a1, a2, a3⟩ | ⟨a0, a1, a2, a3⟩ | ⟨a0, a1, a2⟩ | ⟨a0, a1, a2, a3, a4, a5, a6⟩ | ⟨a0, a1, a2, Wf, a3, a4⟩ | ⟨a0, a1, a2⟩
  · subst a3
    exact ⟨⟨g1, GI_var g2 a1, g3, g4⟩, hm⟩
  · subst a3
    refine ⟨⟨⟨g1.1, g1.2.1, g1.2.2.1, fun z z0 z1 => ?_, g1.2.2.2.2⟩, g2, g3, g4⟩, hm⟩
    show upf df e.2.1 e.2.2.1 z = -1 ∨ gNode E (upf df e.2.1 e.2.2.1 z)
    unfold upf
    by_cases c : z = e.2.1
    · rw [if_pos c]; exact Or.inr a2
    · rw [if_neg c]; exact g1.2.2.2.1 z z0 z1
  · subst a2
    dsimp only at a1
    refine ⟨⟨⟨g1.1, ?_, fun w w0 w1 => gE.2.2.1 w w0 ?_, g1.2.2.2.1, g1.2.2.2.2⟩, ⟨g2.1, ⟨g2.2.1.1, fun x hx => ?_⟩, g2.2.2⟩, g3, g4⟩, ?_⟩
    · show 0 ≤ md + 1 ∧ md + 1 ≤ 8
      omega
    · have : w < md + 1 := w1
      omega
    · obtain ⟨b1, b2⟩ := g2.2.1.2 x hx
      have b1' : 0 ≤ x.1 ∧ x.1 < md := b1
      exact ⟨⟨b1'.1, by show x.1 < md + 1; omega⟩, b2⟩
    · show md + 1 ≤ e_md E
      omega
  · subst a6
    exact ⟨⟨g1, GI_adm g2 a1 a2 a3 (by omega), g3, g4⟩, hm⟩
  · subst a4
    obtain ⟨b1, b2, b3, -⟩ := run_good g1 g2 g3 (fun n => okCh_0) a3
    have e' : 60 * i_st (endI Wf) = 60 * i_st I + 60 := by
      show 60 * w_sp Wf = _
      omega
    refine ⟨⟨g1, ?_, ?_, ?_⟩, hm⟩
    · show GI _ (60 * i_st (endI Wf)) (endI Wf)
      rw [e']; exact b1
    · show XI _ (60 * i_st (endI Wf)) (endI Wf)
      rw [e']; exact b2
    · show 0 ≤ w_sp Wf ∧ w_sp Wf ≤ 30
      dsimp only at a2
      omega
  · subst a2
    exact ⟨⟨g1, GI_seed g2 a1, g3, g4⟩, hm⟩
theorem st0_good (gE : GE E) : StG E ((fun _ => -1), 0, I0) ∧ (0 : Int) ≤ e_md E := by
  refine ⟨⟨⟨gE.1, ⟨by show (0 : Int) ≤ 0; omega, by show (0 : Int) ≤ 8; omega⟩, fun w w0 w1 => ?_, fun _ _ _ => Or.inl rfl, gE.2.2.2.2⟩, ⟨⟨by show (0 : Int) ≤ 0 ∧ (0 : Int) ≤ 60 ∧ (0 : Int) ≤ 0 ∧ (0 : Int) ≤ 100; omega, ?_, ?_, ?_, ?_, ?_⟩, ⟨List.nodup_nil, fun x hx => (by cases hx)⟩, by show (0 : Int) ≤ 1 ∧ (1 : Int) < 65537; omega, fun z => by show (0 : Int) ≤ 0 ∧ (0 : Int) ≤ 60 * 0; omega, fun a ha => (by cases ha), Nat.zero_le _, fun i => by show -(4 * (60 * 0)) ≤ (0 : Int) ∧ (0 : Int) ≤ 4 * (60 * 0); omega, by show (0 : Int) ≤ 0 ∧ (0 : Int) ≤ 60; omega⟩, ⟨fun x hx => (by cases hx), by show ((0 : Nat) : Int) ≤ 60 * 0; omega⟩, by show (0 : Int) ≤ 0 ∧ (0 : Int) ≤ 30; omega⟩, gE.2.1.1⟩
  · have : w < 0 := w1
    omega
  · intro v v0 v1
    have : v < 0 := v1
    omega
  · intro v v0 v1
    have : v < 0 := v1
    omega
  · intro v v0 v1
    have : v < 0 := v1
    omega
  · intro v v0 v1
    have : v < 0 := v1
    omega
  · intro v v0 v1
    have : v < 0 := v1
    omega
def PSc : Nat → Prop := fun r => (554 ≤ r ∧ r < 1040) ∨ (9 ≤ r ∧ r < 12)
/-- an entry of the journal is done again -/
theorem t_again (hT : KT σ) (gE : GE E) (hN : RN d 1 E) (hRs : RRs d 8 (e_md E) (e_Rs E)) {z : Int} (hz : 0 ≤ z ∧ z < 512) (hl : d.1 0 6 = ii jr.length) (hl2 : jr.length ≤ 512) (hzl : z < jr.length) (hJ : d.1 13 (4 * z.toNat) = ii e.1 ∧ d.1 13 (4 * z.toNat + 1) = ii e.2.1 ∧ d.1 13 (4 * z.toNat + 2) = ii e.2.2.1 ∧ d.1 13 (4 * z.toNat + 3) = ii e.2.2.2) (h : RepS E e s s') (g : StG E s) (hm : s.2.1 ≤ e_md E) (hR : StR d s) {A : Int32 → Dy → Option ((Int32 × Dy) ⊕ (Int32 × Dy))} (hA : A = fun k D => some (Sum.inl (k + 1, D))) :
   ∃ D, StR D s' ∧ Fr PSc d D ∧ ((rI σ d 13 ((4 : Int32) * ii z)).bind fun v8 =>
    if v8 = (0 : Int32) then
      (m_X8_makeVariable σ 555 d).bind fun v12 => A (ii z) v12.2
    else if v8 = (1 : Int32) then
      (rI σ d 13 (((4 : Int32) * ii z) + (1 : Int32))).bind fun v16 => (rI σ d 13 (((4 : Int32) * ii z) + (2 : Int32))).bind fun v18 => (wI σ d 567 v16 v18).bind fun d19 => A (ii z) d19
    else if v8 = (2 : Int32) then
      (gI σ d 6 572 9).bind fun v22 => (pI σ d 6 572 9 (v22 + (1 : Int32))).bind fun d23 => A (ii z) d23
    else if v8 = (3 : Int32) then
      (rI σ d 13 (((4 : Int32) * ii z) + (1 : Int32))).bind fun v26 => (rI σ d 13 (((4 : Int32) * ii z) + (2 : Int32))).bind fun v28 => (rI σ d 13 (((4 : Int32) * ii z) + (3 : Int32))).bind fun v30 => (m_X10_admit σ 554 v26 v28 v30 d).bind fun v31 => A (ii z) v31
    else if v8 = (4 : Int32) then
      (m_X9_restart σ 9 d).bind fun v33 => (m_X10_doStep σ 554 9 v33).bind fun v36 => A (ii z) v36
    else
      (rI σ d 13 (((4 : Int32) * ii z) + (1 : Int32))).bind fun v40 => (pI σ d 2 565 1 v40).bind fun d41 => A (ii z) d41) = some (Sum.inl (ii z + 1, D)) := by
  obtain ⟨df, md, I⟩ := s
  obtain ⟨g1, g2, g3, g4⟩ := g
  obtain ⟨hR1, hR2⟩ := hR
  obtain ⟨j0, j1, j2, j3⟩ := hJ
  dsimp only at g1 g2 g3 g4 hm hR1 hR2
  have hmd : 0 ≤ md ∧ md ≤ 8 := g1.2.1
  have h13 := hT.2.2.1
  have kWo := hT.2.2.2.2.2
  have kSu := hT.2.2.2.1
  have l4 : (4 : Int32) * ii z = ii (4 * z) := by rw [show ((4 : Int32)) = ii 4 from rfl, ii_mul]
  have x0 : rI σ d 13 (ii (4 * z)) = some (ii e.1) := rst (z := 4 * z) (k := 4 * z.toNat) h13 (by omega) (by omega) (by omega) j0
  have x1 : rI σ d 13 (ii (4 * z) + (1 : Int32)) = some (ii e.2.1) := by
    rw [show ((1 : Int32)) = ii 1 from rfl, ii_add]
    exact rst (z := 4 * z + 1) (k := 4 * z.toNat + 1) h13 (by omega) (by omega) (by omega) j1
  have x2 : rI σ d 13 (ii (4 * z) + (2 : Int32)) = some (ii e.2.2.1) := by
    rw [show ((2 : Int32)) = ii 2 from rfl, ii_add]
    exact rst (z := 4 * z + 2) (k := 4 * z.toNat + 2) h13 (by omega) (by omega) (by omega) j2
  have x3 : rI σ d 13 (ii (4 * z) + (3 : Int32)) = some (ii e.2.2.2) := by
    rw [show ((3 : Int32)) = ii 3 from rfl, ii_add]
    exact rst (z := 4 * z + 3) (k := 4 * z.toNat + 3) h13 (by omega) (by omega) (by omega) j3
  rw [l4]
  have c00 : (ii 0 = (0 : Int32)) = True := eq_true rfl
  have c10 : (ii 1 = (0 : Int32)) = False := eq_false (by decide)
  have c11 : (ii 1 = (1 : Int32)) = True := eq_true rfl
  have c20 : (ii 2 = (0 : Int32)) = False := eq_false (by decide)
  have c21 : (ii 2 = (1 : Int32)) = False := eq_false (by decide)
  have c22 : (ii 2 = (2 : Int32)) = True := eq_true rfl
  have c30 : (ii 3 = (0 : Int32)) = False := eq_false (by decide)
  have c31 : (ii 3 = (1 : Int32)) = False := eq_false (by decide)
  have c32 : (ii 3 = (2 : Int32)) = False := eq_false (by decide)
  have c33 : (ii 3 = (3 : Int32)) = True := eq_true rfl
  have c40 : (ii 4 = (0 : Int32)) = False := eq_false (by decide)
  have c41 : (ii 4 = (1 : Int32)) = False := eq_false (by decide)
  have c42 : (ii 4 = (2 : Int32)) = False := eq_false (by decide)
  have c43 : (ii 4 = (3 : Int32)) = False := eq_false (by decide)
  have c44 : (ii 4 = (4 : Int32)) = True := eq_true rfl
  have c50 : (ii 5 = (0 : Int32)) = False := eq_false (by decide)
  have c51 : (ii 5 = (1 : Int32)) = False := eq_false (by decide)
  have c52 : (ii 5 = (2 : Int32)) = False := eq_false (by decide)
  have c53 : (ii 5 = (3 : Int32)) = False := eq_false (by decide)
  have c54 : (ii 5 = (4 : Int32)) = False := eq_false (by decide)
  have kst : KS σ 555 := kWo.2.2.2.2.2.1
  have kW : KO σ 572 6 := kWo.2.2.2.2.2.2.1.1
  have kDr : KDr σ 565 := kWo.2.2.2.2.2.2.2.1
  have k13 : KD σ 567 100 6 := kWo.2.2.2.2.2.2.2.2.1
  rcases h with ⟨a0, a1, a2, a3⟩ | ⟨a0, a1, a2, a3⟩ | ⟨a0, a1, a2⟩ | ⟨a0, a1, a2, a3, a4, a5, a6⟩ | ⟨a0, a1, a2, Wf, a3, a4⟩ | ⟨a0, a1, a2⟩
  · subst a3
    rw [a0] at x0
    obtain ⟨⟨v, D⟩, e1, t1, t2, t3⟩ := t_varI kst hR1 g2.1 a1
    refine ⟨D, ⟨t2, fun z z0 z1 => by rw [(t3 567 (by omega)).1]; exact hR2 z z0 z1⟩, t3.wk (fun r p => by unfold PSc; omega), ?_⟩
    simp only [x0, ob_some, c00, ↓reduceIte, e1, hA]
  · subst a3
    rw [a0] at x0
    obtain ⟨D, e1, v1, o1, F1⟩ := wI_ex (δ := d) (r := 567) (z := e.2.1) (k := e.2.1.toNat) (x := ii e.2.2.1) k13 a1.1 (by omega) rfl
    refine ⟨D, ⟨RId_df hR1 F1, fun w z0 z1 => ?_⟩, F1.wk (fun r p => by unfold PSc; omega), ?_⟩
    · show D.1 567 w.toNat = ii (upf df e.2.1 e.2.2.1 w)
      unfold upf
      by_cases c : w = e.2.1
      · rw [if_pos c, c]; exact v1
      · rw [if_neg c, o1 _ (by omega)]; exact hR2 w z0 z1
    · simp only [x0, ob_some, c10, c11, ↓reduceIte, x1, x2, e1, hA]
  · subst a2
    rw [a0] at x0
    obtain ⟨D, e1, t1, F1⟩ := t_madeI (n := md + 1) kW hR1
    refine ⟨D, ⟨t1, fun z z0 z1 => by rw [(F1 567 (by omega)).1]; exact hR2 z z0 z1⟩, F1.wk (fun r p => by unfold PSc; omega), ?_⟩
    have y : gI σ d 6 572 9 = some (ii md) := by rw [gI_ko kW]; exact congrArg some hR1.2.2.2.1
    have e1' : pI σ d 6 572 9 (ii md + (1 : Int32)) = some D := by
      rw [show ((1 : Int32)) = ii 1 from rfl, ii_add]; exact e1
    simp only [x0, ob_some, c20, c21, c22, ↓reduceIte, y, e1', hA]
  · subst a6
    rw [a0] at x0
    obtain ⟨D, e1, t1, F1⟩ := t_admit (n := e.2.1) (a := e.2.2.1) (b := e.2.2.2) kWo hR1 (by dsimp only at a5; omega)
    refine ⟨D, ⟨t1, fun z z0 z1 => by rw [(F1 567 (by omega)).1]; exact hR2 z z0 z1⟩, F1.wk (fun r p => by unfold PSc; omega), ?_⟩
    simp only [x0, ob_some, c30, c31, c32, c33, ↓reduceIte, x1, x2, x3, e1, hA]
  · subst a4
    rw [a0] at x0
    have hE1 : REn d 1 8 554 (stE E df md) := ⟨hN, fun w w0 w1 => hRs w w0 (by have : w < md := w1; omega), fun z z0 z1 => hR2 z z0 z1⟩
    obtain ⟨d1, D, e1, e2, ⟨Wg, y1, y2⟩, F1⟩ := t_stepI kWo kSu g1 hE1 g2 (by omega) hR1 (by omega)
    have hWg : Wg = Wf := RunEnd_uni y1 a3
    subst hWg
    refine ⟨D, ⟨y2, fun z z0 z1 => by rw [(F1 567 (by omega)).1]; exact hR2 z z0 z1⟩, F1.wk (fun r p => by unfold PSc; omega), ?_⟩
    simp only [x0, ob_some, c40, c41, c42, c43, c44, ↓reduceIte, e1, e2, hA]
  · subst a2
    rw [a0] at x0
    obtain ⟨D, e1, t1, F1⟩ := t_seedI (x := e.2.1) kDr hR1
    refine ⟨D, ⟨t1, fun z z0 z1 => by rw [(F1 567 (by omega)).1]; exact hR2 z z0 z1⟩, F1.wk (fun r p => by unfold PSc; omega), ?_⟩
    have e1' : pI σ d 2 565 1 (ii e.2.1) = some D := e1
    simp only [x0, ob_some, c50, c51, c52, c53, c54, ↓reduceIte, x1, e1', hA]
theorem rep_chain (gE : GE E) {c : Nat → Stg} (c0 : c 0 = ((fun _ => -1), 0, I0)) (c1 : ∀ (j : Nat) (e : Jn), jr[j]? = some e → RepS E e (c j) (c (j + 1))) : ∀ j : Nat, j ≤ jr.length → StG E (c j) ∧ (c j).2.1 ≤ e_md E := by
  intro j
  induction j with
  | zero => intro _; rw [c0]; exact st0_good gE
  | succ j ih =>
    intro hj
    obtain ⟨g, hm⟩ := ih (by omega)
    exact rep_good gE (c1 j _ (List.getElem?_eq_getElem (show j < jr.length by omega))) g hm
end
