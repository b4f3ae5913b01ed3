/-! THE LAW: all ends of a step, in the class -/
def Rnds (E : Ev) (I : Iw) (n0 : Nat) : Nat → (Nat → Nat) → List ERc → Prop
  | 0, ch, es => ch = (fun _ => 0) ∧ es = []
  | r + 1, ch, es => ∃ ch0 es0 Wf i, Rnds E I n0 r ch0 es0 ∧ RunEnd E ch0 (startW I) Wf ∧ Nx (w_lg Wf) ch0 i ∧ ch = bumpC ch0 i ∧ es = addEnd es0 (erecE n0 (w_V Wf))
def Done (E : Ev) (I : Iw) (n0 r : Nat) (es : List ERc) : Prop := ∃ r0 ch0 es0 Wf, r = r0 + 1 ∧ Rnds E I n0 r0 ch0 es0 ∧ RunEnd E ch0 (startW I) Wf ∧ NoNx (w_lg Wf) ch0 ∧ es = addEnd es0 (erecE n0 (w_V Wf))
section
variable {σ : St} {δ d : Dy} {E : Ev} {I : Iw} {n0 r r' : Nat} {ch ch' : Nat → Nat} {es es' : List ERc} {st B : Int} {Wf : Wo}
theorem Rnds_uni : ∀ {r : Nat} {ch ch' : Nat → Nat} {es es' : List ERc}, Rnds E I n0 r ch es → Rnds E I n0 r ch' es' → ch = ch' ∧ es = es' := by
  intro r
  induction r with
  | zero =>
    intro ch ch' es es' h k
    exact ⟨h.1.trans k.1.symm, h.2.trans k.2.symm⟩
  | succ r ih =>
    intro ch ch' es es' h k
    obtain ⟨c0, e0, Wf, i, h1, h2, h3, h4, h5⟩ := h
    obtain ⟨c0', e0', Wf', i', k1, k2, k3, k4, k5⟩ := k
    obtain ⟨q1, q2⟩ := ih h1 k1
    subst q1
    subst q2
    have q3 := RunEnd_uni h2 k2
    subst q3
    have q4 := Nx_uni h3 k3
    subst q4
    exact ⟨h4.trans k4.symm, h5.trans k5.symm⟩
theorem Rnds_down : ∀ (k : Nat) {ch : Nat → Nat} {es : List ERc}, Rnds E I n0 (r + 1 + k) ch es → ∃ ch0 es0 Wf i, Rnds E I n0 r ch0 es0 ∧ RunEnd E ch0 (startW I) Wf ∧ Nx (w_lg Wf) ch0 i := by
  intro k
  induction k with
  | zero =>
    intro ch es h
    obtain ⟨c0, e0, Wf, i, h1, h2, h3, -, -⟩ := h
    exact ⟨c0, e0, Wf, i, h1, h2, h3⟩
  | succ k ih =>
    intro ch es h
    obtain ⟨c0, e0, Wf, i, h1, -⟩ := h
    exact ih h1
theorem Done_Rnds (h : Done E I n0 r es) (k : Rnds E I n0 r' ch' es') (hr : r ≤ r') : False := by
  obtain ⟨r0, c0, e0, Wf, h0, h1, h2, h3, -⟩ := h
  obtain ⟨j, rfl⟩ : ∃ j, r' = r0 + 1 + j := ⟨r' - (r0 + 1), by omega⟩
  obtain ⟨c1, e1, Wg, i, k1, k2, k3⟩ := Rnds_down j k
  obtain ⟨q1, -⟩ := Rnds_uni h1 k1
  subst q1
  have q3 := RunEnd_uni h2 k2
  subst q3
  exact Nx_No k3 h3
theorem Done_uni (h : Done E I n0 r es) (k : Done E I n0 r' es') : es = es' := by
  obtain ⟨r0, c0, e0, Wf, h0, h1, h2, h3, h4⟩ := id h
  obtain ⟨r1, c1, e1, Wg, k0, k1, k2, k3, k4⟩ := id k
  rcases Nat.lt_trichotomy r0 r1 with c | c | c
  · exact (Done_Rnds h k1 (by omega)).elim
  · subst c
    obtain ⟨q1, q2⟩ := Rnds_uni h1 k1
    subst q1
    subst q2
    have q3 := RunEnd_uni h2 k2
    subst q3
    exact h4.trans k4.symm
  · exact (Done_Rnds k h1 (by omega)).elim
theorem addEnd_len {e : ERc} : (addEnd es e).length ≤ es.length + 1 := by
  unfold addEnd
  split
  · omega
  · rw [List.length_append, List.length_singleton]
    omega
/-- what is good at every schedule -/
theorem Rnds_good : ∀ {r : Nat} {ch : Nat → Nat} {es : List ERc}, Rnds E I n0 r ch es → (∀ n, okCh ch (turns E ch (startW I) n)) ∧ (∀ Wg, RunEnd E ch (startW I) Wg → ∀ k, (w_lg Wg).length ≤ k → ch k = 0) ∧ es.length ≤ r := by
  intro r
  induction r with
  | zero =>
    intro ch es h
    obtain ⟨h1, h2⟩ := h
    subst h1
    subst h2
    exact ⟨fun n => okCh_0, fun Wg _ k _ => rfl, Nat.le_refl _⟩
  | succ r ih =>
    intro ch es h
    obtain ⟨c0, e0, Wf, i, h1, h2, h3, h4, h5⟩ := h
    obtain ⟨g1, g2, g3⟩ := ih h1
    subst h4
    subst h5
    refine ⟨bump_ok h2 g1 h3, fun Wg hg => bump_tail h2 h3 hg, ?_⟩
    have := addEnd_len (es := e0) (e := erecE n0 (w_V Wf))
    omega
theorem RSu_5 {pl : Nat} {cs : Nat → Nat} {lg : List Int} (h : RSu δ 9 pl cs ch lg) (e : ∀ j, ¬ j = 5 → d.1 9 j = δ.1 9 j) (F : Fr (fun q => q = 9 ∨ q = 12) δ d) : RSu d 9 pl cs ch lg := by
  unfold RSu at h ⊢
  rw [e 2 (by decide), e 3 (by decide), (F (9 + 1) (by omega)).1, (F (9 + 2) (by omega)).1]
  exact h
theorem RSu_cs {sp pl : Nat} {cs cs' : Nat → Nat} {lg : List Int} (h : RSu δ sp pl cs ch lg) (e : ∀ j, j < 61 → cs' j = cs j) : RSu δ sp pl cs' ch lg := by
  obtain ⟨q1, q2, q3, q4⟩ := h
  exact ⟨q1, q2, q3, fun j h1 h2 => by rw [e j (by omega)]; exact q4 j h1 h2⟩
theorem okPl_cs {pl : Nat} {cs cs' : Nat → Nat} {W : Wo} (h : okPl pl cs ch W) (hp : pl ≤ 61) (e : ∀ j, j < 61 → cs' j = cs j) : okPl pl cs' ch W := by
  intro l a1 a2 a3 a4 a5
  rw [h l a1 a2 a3 a4 a5]
  by_cases c : (bz (w_lg W)).length < pl
  · rw [if_pos c, if_pos c, e _ (by omega)]
  · rw [if_neg c, if_neg c]
def PSv : Nat → Prop := fun r => (554 ≤ r ∧ r < 1040) ∨ (9 ≤ r ∧ r < 13)
def TEnd (E : Ev) (I : Iw) (n0 : Nat) (d : Dy) (es : List ERc) : Prop := (∃ md I', RId d 554 md I') ∧ d.1 9 5 = ii es.length ∧ ∀ (r : Nat) (x : ERc), es[r]? = some x → RTr d r x ∧ gER n0 x
def TMore (E : Ev) (I : Iw) (n0 : Nat) (d : Dy) (r : Nat) (es : List ERc) : Prop := ∃ ch pl cs, Rnds E I n0 r ch es ∧ RSu d 9 pl cs ch [] ∧ ∀ n, okPl pl cs ch (turns E ch (startW I) n)
/-- one round of the class -/
theorem t_round (hT : KT σ) (gE : GE E) (hE : REn δ 1 8 68 E) (hG : GI E st I) (hst : 0 ≤ st ∧ st ≤ 90000) (hX : XI E B I) (hR : RId δ 68 (e_md E) I) (hn : (n0 : Int) = s_nv (v_S (i_V I))) (hr : r < 8) (h1 : TEnd E I n0 δ es) (h2 : TMore E I n0 δ r es) : ∃ d1 d2 d3 d4 fl es', m_X10_copyFrom σ 554 68 δ = some d1 ∧ m_X10_doStep σ 554 9 d1 = some d2 ∧ m_X9_record σ 9 555 (ii (n0 : Int)) d2 = some d3 ∧ m_X9_turn σ 9 d3 = some (fl, d4) ∧ d2.1 69 2 = ii (n0 : Int) ∧ TEnd E I n0 d4 es' ∧ ((fl = 0 ∧ Done E I n0 (r + 1) es') ∨ (fl = 1 ∧ TMore E I n0 d4 (r + 1) es')) ∧ Fr PSv δ d4 := by
  obtain ⟨⟨md, I', hS⟩, h5, hrec⟩ := h1
  obtain ⟨ch, pl, cs, hRn, hQ, hpl⟩ := h2
  obtain ⟨hc, htail, hlen⟩ := Rnds_good hRn
  have kWo := hT.2.2.2.2.2
  have kW0 := hT.2.2.2.2.1
  have kSu := hT.2.2.2.1
  have kst : KS σ 555 := kWo.2.2.2.2.2.1
  have gn := hG.1.1
  obtain ⟨d1, e1, t1, t2, F1⟩ := t_copyI kWo kW0 (by omega) hR hS hG.1 hG.2.2.2.2.2.1
  have hE1 : REn d1 1 8 554 E := ⟨RN_of_Fr hE.1 F1 (fun r a b => by omega), RRs_of_Fr hE.2.1 gE.2.1.2 F1 (fun r a b => by omega), fun z z0 z1 => by rw [t2 z z0 z1]; exact hE.2.2 z z0 z1⟩
  have hcs : ∀ j, j < 61 → (fun j => if j = 61 then es.length else cs j) j = cs j := fun j hj => if_neg (by omega)
  have hQ1 : RSv d1 9 pl (fun j => if j = 61 then es.length else cs j) ch [] := ⟨RSu_cs (RSu_of_Fr hQ F1 (fun r a b => by omega)) hcs, by rw [(F1 9 (by omega)).1]; exact h5⟩
  obtain ⟨d2, e2, Wf, y1, y2, y3, y4, y5⟩ := t_doStep5 kWo kSu gE hE1 hG hst.2 t1 hQ1 hc (fun n => okPl_cs (hpl n) hQ.1.2 hcs)
  have F2 : Fr (fun r => (554 ≤ r ∧ r < 1040) ∨ (9 ≤ r ∧ r < 12)) δ d2 := (F1.wk (fun r p => by omega)).tr (y5.wk (fun r p => by unfold PT PWo at p; omega))
  have hGf : GS (v_S (w_V Wf)) := y2.1.1
  have hnv : (n0 : Int) ≤ s_nv (v_S (w_V Wf)) := by
    obtain ⟨n, hn', -⟩ := y1
    have := nv_turns (E := E) (ch := ch) (W := startW I) n
    rw [hn'] at this
    have h' : s_nv (v_S (i_V I)) ≤ s_nv (v_S (w_V Wf)) := this
    omega
  have h52 : d2.1 9 5 = ii es.length := y4.2
  have hrec2 : ∀ (r : Nat) (x : ERc), es[r]? = some x → RTr d2 r x ∧ gER n0 x := by
    intro r x hx
    obtain ⟨b1, b2⟩ := hrec r x hx
    refine ⟨?_, b2⟩
    unfold RTr at b1 ⊢
    rw [(F2 12 (by omega)).1]
    exact b1
  obtain ⟨d3, e3, z1, z2, z3, z4⟩ := t_record kSu kst (by omega) y3.1 hGf (by omega) hnv (by omega) h52 hrec2
  have hQ3 := RSu_5 y4.1 z3 z4
  have hlg : (w_lg Wf).length ≤ 61 := by
    have a := y2.2.2.2.2.2.2.2.2.2.1
    have b := y2.1.2.1.2
    split at a <;> omega
  have hlr : ∀ (j : Nat) (s : Int), (w_lg Wf)[j]? = some s → 1 ≤ s ∧ s ≤ 121 ∧ (ch j : Int) < s := by
    obtain ⟨n, hn', -⟩ := y1
    rw [← hn']
    exact lg_rng gE (GW_start gE hG) hc rfl n
  obtain ⟨⟨fl, d4⟩, e4, hh⟩ := t_sturn kSu hQ3 hlg hlr
  dsimp only at hh
  have F3 : Fr PSv δ d3 := (F2.wk (fun r p => by unfold PSv; omega)).tr (z4.wk (fun r p => by unfold PSv; omega))
  have x69 : d2.1 69 2 = ii (n0 : Int) := by
    rw [(F2 69 (by omega)).1, hn]
    exact hR.1.1
  have hE3 : TEnd E I n0 d3 (addEnd es (erecE n0 (w_V Wf))) := ⟨⟨_, _, RId_of_Fr y3 z4 (fun r a b => by omega)⟩, z1, z2⟩
  rcases hh with ⟨a1, a2, a3⟩ | ⟨a1, i, a2, a3, a4, a5⟩
  · subst a2
    exact ⟨d1, d2, d4, d4, fl, _, e1, e2, e3, e4, x69, hE3, Or.inl ⟨a1, r, ch, es, Wf, rfl, hRn, y1, a3, rfl⟩, F3⟩
  · refine ⟨d1, d2, d3, d4, fl, _, e1, e2, e3, e4, x69, ⟨?_, by rw [a4]; exact hE3.2.1, fun r x hx => ?_⟩, Or.inr ⟨a1, bumpC ch i, _, _, ⟨ch, es, Wf, i, hRn, y1, a2, rfl, rfl⟩, a3, bump_pl y1 a2⟩, F3.tr (a5.wk (fun r p => by unfold PSv; omega))⟩
    · obtain ⟨m, J, hJ⟩ := hE3.1
      exact ⟨m, J, RId_of_Fr hJ a5 (fun r a b => by omega)⟩
    · obtain ⟨b1, b2⟩ := hE3.2.2 r x hx
      refine ⟨?_, b2⟩
      unfold RTr at b1 ⊢
      rw [(a5 12 (by omega)).1]
      exact b1
theorem t_endsL (hT : KT σ) (gE : GE E) (hE : REn δ 1 8 68 E) (hG : GI E st I) (hst : 0 ≤ st ∧ st ≤ 90000) (hX : XI E B I) (hR : RId δ 68 (e_md E) I) (hn : (n0 : Int) = s_nv (v_S (i_V I))) (h1 : TEnd E I n0 δ []) (h2 : TMore E I n0 δ 0 []) : Ok (m_X11_ends_b34 σ 0 (1 : Int32) (ii 0) δ) (fun x => ∃ v d, x = (Sum.inl (ii v), d) ∧ ((∃ r es, r ≤ 8 ∧ Done E I n0 r es ∧ v = es.length) ∨ (v = -1 ∧ ∃ ch es, Rnds E I n0 8 ch es)) ∧ (∃ md I', RId d 554 md I') ∧ Fr PSv δ d) := by
  have kWo := hT.2.2.2.2.2
  have kW0 := hT.2.2.2.2.1
  have kSu := hT.2.2.2.1
  have kst : KS σ 555 := kWo.2.2.2.2.2.1
  have kO := kWo.2.1
  have s1 : srv σ 554 1 = some 555 := kWo.2.2.1.2.1
  have kO0 := kW0.2.1
  have s01 : srv σ 68 1 = some 69 := kW0.2.2.1.2.1
  have kst0 : KS σ 69 := kW0.2.2.2.2.2.1
  unfold m_X11_ends_b34
  refine Ok_lpi (fun n s => ∃ r es, n + r = 8 ∧ s.2.1 = ii (r : Int) ∧ TEnd E I n0 s.2.2 es ∧ Fr PSv δ s.2.2 ∧ ((s.1 = 0 ∧ Done E I n0 r es) ∨ (s.1 = 1 ∧ TMore E I n0 s.2.2 r es))) ?_ (n := 8) ⟨0, [], rfl, rfl, h1, Fr.rf, Or.inr ⟨rfl, h2⟩⟩ (by omega)
  rintro n ⟨f, s2, d⟩ ⟨r, es, hnr, hs2, hT1, hF, hcase⟩
  dsimp only at hs2 hT1 hF hcase ⊢
  subst hs2
  have c8 : ((8 : Int32) ≤ ii (r : Int)) = (8 ≤ r) := by
    rw [show ((8 : Int32)) = ii 8 from rfl, ii_le (by omega) (by omega) (by omega) (by omega)]
    exact propext ⟨fun h => by omega, fun h => by omega⟩
  have x5 : gI σ d 9 9 5 = some (ii (es.length : Int)) := by rw [gI_ko kSu.2.1, hT1.2.1]
  have g4 := gR_ko hT.1 hT.2.1.2.2.2.2.1
  have g3 := gR_ko hT.1 hT.2.1.2.2.2.1
  have g2 := gR_ko hT.1 hT.2.1.2.2.1
  rcases hcase with ⟨hf, hD⟩ | ⟨hf, hM⟩
  · subst hf
    refine Ok_inr (r := (Sum.inl (ii (es.length : Int)), d)) ?_ ⟨_, d, rfl, Or.inl ⟨r, es, by omega, hD, rfl⟩, hT1.1, hF⟩
    simp only [c8, ↓reduceIte, m_X11_ends_b104, g4, ob_some, x5, ite_self]
  · subst hf
    by_cases h8 : 8 ≤ r
    · have hr8 : r = 8 := by omega
      subst hr8
      obtain ⟨ch, pl, cs, hRn, -⟩ := hM
      refine Ok_inr (r := (Sum.inl (ii (-1)), d)) ?_ ⟨-1, d, rfl, Or.inr ⟨rfl, ch, es, hRn⟩, hT1.1, hF⟩
      simp only [c8, h8, ↓reduceIte, m_X11_ends_b104, i10, ob_some]
      rfl
    · have hEd : REn d 1 8 68 E := REn_of_Fr hE gE.2.1.2 hF (fun r a b p => by unfold PSv at p; omega) (fun r a b p => by unfold PSv at p; omega) (fun p => by unfold PSv at p; omega)
      have hRd : RId d 68 (e_md E) I := RId_of_Fr hR hF (fun r a b p => by unfold PSv at p; omega)
      obtain ⟨d1, d2, d3, d4, fl, es', e1, e2, e3, e4, x69, t1, t2, t3⟩ := t_round hT gE hEd hG hst hX hRd hn (by omega) hT1 hM
      have x2 : gI σ d2 8 69 2 = some (ii (n0 : Int)) := by rw [gI_ko kst0.1, x69]
      have a1 : ii (r : Int) + (1 : Int32) = ii (((r + 1 : Nat)) : Int) := by
        rw [show ((1 : Int32)) = ii 1 from rfl, ii_add]
        exact congrArg ii (by omega)
      refine Ok_inl (s' := (fl, ii (((r + 1 : Nat)) : Int), d4)) ?_ ⟨n - 1, by omega, r + 1, es', by omega, rfl, t1, hF.tr t3, t2⟩
      simp only [c8, h8, ↓reduceIte, i10, g3, g2, ob_some, chk_ko kO, e1, g4, e2, gR_ko kO s1, gR_ko kO0 s01, x2, chk_ko kSu.2.1, e3, e4, a1]
end
