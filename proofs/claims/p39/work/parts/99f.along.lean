/-! THE CALLS, WHATEVER IS STILL TO COME -/
section
variable {σ : St} {δ d : Dy} {k : Nat} {E F : Ev} {I : Iw} {jr : List Jn} {kk w a b on ot p q s c n x z u v : Int} {Wf : Wo}
def CoA (σ : St) (δ : Dy) (k : Nat) (E : Ev) (I : Iw) (jr : List Jn) : Prop := ∀ F, AgE E F → CoT σ δ k F I jr
theorem CoA.t (h : CoA σ δ k E I jr) : CoT σ δ k E I jr := h E AgE_rf
theorem CoA_all {m : Option ((Int32 ⊕ Nat) × Dy)} {y : Int32 ⊕ Nat} {k' : Nat} {E' : Ev} {I' : Iw} {jr' : List Jn} (h : ∀ F, AgE E' F → ∃ D, m = some (y, D) ∧ CoT σ D k' F I' jr') : ∃ D, m = some (y, D) ∧ CoA σ D k' E' I' jr' := by
  obtain ⟨D, e, -⟩ := h E' AgE_rf
  refine ⟨D, e, fun F hF => ?_⟩
  obtain ⟨D', e', c⟩ := h F hF
  have h1 : (y, D) = (y, D') := Option.some.inj (e.symm.trans e')
  have h2 : D = D' := (Prod.mk.inj h1).2
  subst h2
  exact c
theorem CoA.c0 (h : CoA σ δ k E I jr) : 0 ≤ e_ct E := h.t.2.1.1.1.1
theorem A_equate (h : CoA σ δ k E I jr) (hp : rng p) (hq : rng q) (g1 : (gTm p ∧ gTm q)) (hrm : e_ct E < 60) : ∃ D, m_X11_equate σ 0 (ii p) (ii q) δ = some (.inl (ii (e_ct E)), D) ∧ CoA σ D k (newE E 0 0 p q (-1) (-1)) I jr :=
  CoA_all (fun F hF => by
    obtain ⟨a1, a2, a3⟩ := newE_back h.c0 hF
    obtain ⟨D, e, c⟩ := T_equate (h _ a1) hp hq g1 hrm a2
    rw [a3] at c
    exact ⟨D, e, c⟩)
theorem A_both (h : CoA σ δ k E I jr) (hp : rng p) (hq : rng q) (g1 : gNode E p) (g2 : gNode E q) (hrm : e_ct E < 60) : ∃ D, m_X11_both σ 0 (ii p) (ii q) δ = some (.inl (ii (e_ct E)), D) ∧ CoA σ D k (newE E 3 0 0 0 p q) I jr :=
  CoA_all (fun F hF => by
    obtain ⟨a1, a2, a3⟩ := newE_back h.c0 hF
    obtain ⟨D, e, c⟩ := T_both (h _ a1) hp hq ((gNode_ag a1).mpr g1) ((gNode_ag a1).mpr g2) hrm a2
    rw [a3] at c
    exact ⟨D, e, c⟩)
theorem A_attempt (h : CoA σ δ k E I jr) (hp : rng p) (hq : rng q) (g1 : gNode E p) (g2 : gNode E q) (hrm : e_ct E < 60) : ∃ D, m_X11_attempt σ 0 (ii p) (ii q) δ = some (.inl (ii (e_ct E)), D) ∧ CoA σ D k (newE E 13 0 0 0 p q) I jr :=
  CoA_all (fun F hF => by
    obtain ⟨a1, a2, a3⟩ := newE_back h.c0 hF
    obtain ⟨D, e, c⟩ := T_attempt (h _ a1) hp hq ((gNode_ag a1).mpr g1) ((gNode_ag a1).mpr g2) hrm a2
    rw [a3] at c
    exact ⟨D, e, c⟩)
theorem A_when (h : CoA σ δ k E I jr) (hc : rng c) (ha : rng a) (hb : rng b) (hp : rng p) (g1 : gNode E p) (g2 : gAsk c a b) (hrm : e_ct E < 60) : ∃ D, m_X11_when σ 0 (ii c) (ii a) (ii b) (ii p) δ = some (.inl (ii (e_ct E)), D) ∧ CoA σ D k (newE E 4 c a (if c = 3 then 0 else b) p (-1)) I jr :=
  CoA_all (fun F hF => by
    obtain ⟨a1, a2, a3⟩ := newE_back h.c0 hF
    obtain ⟨D, e, c⟩ := T_when (h _ a1) hc ha hb hp ((gNode_ag a1).mpr g1) g2 hrm a2
    rw [a3] at c
    exact ⟨D, e, c⟩)
theorem A_token (h : CoA σ δ k E I jr) (hs : rng s) (hp : rng p) (hq : rng q) (g1 : (0 ≤ s ∧ s ≤ 5)) (g2 : (gTm p ∧ gTm q)) (hrm : e_ct E < 60) : ∃ D, m_X11_token σ 0 (ii s) (ii p) (ii q) (1 : Int32) δ = some (.inl (ii (e_ct E)), D) ∧ CoA σ D k (newE E 2 s p q (-1) (-1)) I jr :=
  CoA_all (fun F hF => by
    obtain ⟨a1, a2, a3⟩ := newE_back h.c0 hF
    obtain ⟨D, e, c⟩ := T_token (h _ a1) hs hp hq g1 g2 hrm a2
    rw [a3] at c
    exact ⟨D, e, c⟩)
theorem A_lot (h : CoA σ δ k E I jr) (ha : rng a) (hp : rng p) (hb : rng b) (hq : rng q) (g1 : gNode E p) (g2 : gNode E q) (g3 : (1 ≤ a ∧ a ≤ 9)) (g4 : (1 ≤ b ∧ b ≤ 9)) (hrm : e_ct E < 60) : ∃ D, m_X11_lot σ 0 (ii a) (ii p) (ii b) (ii q) δ = some (.inl (ii (e_ct E)), D) ∧ CoA σ D k (newE E 12 0 a b p q) I jr :=
  CoA_all (fun F hF => by
    obtain ⟨a1, a2, a3⟩ := newE_back h.c0 hF
    obtain ⟨D, e, c⟩ := T_lot (h _ a1) ha hp hb hq ((gNode_ag a1).mpr g1) ((gNode_ag a1).mpr g2) g3 g4 hrm a2
    rw [a3] at c
    exact ⟨D, e, c⟩)
theorem A_variable (h : CoA σ δ k E I jr) (hk : k < 512) (g1 : s_nv (v_S (i_V I)) < 60) (g2 : v_fl (i_V I) = false) : ∃ D, m_X11_variable σ 0 δ = some (.inl (ii (s_nv (v_S (i_V I)))), D) ∧ CoA σ D (k + 1) E (varI I) (jr ++ [(0, 0, 0, 0)]) :=
  CoA_all (fun F hF => T_variable (h F hF) hk g1 g2)
theorem A_begin (h : CoA σ δ k E I jr) (hk : k < 512) (hn : rng n) (ha : rng a) (hb : rng b) (g : begOk E I n a b) : ∃ D, m_X11_begin σ 0 (ii n) (ii a) (ii b) δ = some (.inl (ii (((i_nx I).length : Int) + 1)), D) ∧ CoA σ D (k + 1) E (admI I n a b) (jr ++ [(3, n, a, b)]) :=
  CoA_all (fun F hF => T_begin (h F hF) hk hn ha hb ⟨(gNode_ag hF).mpr g.1, g.2⟩)
theorem A_seed (h : CoA σ δ k E I jr) (hk : k < 512) (hx : rng x) (g : 0 ≤ x ∧ x ≤ 65536) : ∃ D, m_X11_seed σ 0 (ii x) δ = some (.inl (ii (i_x I)), D) ∧ CoA σ D (k + 1) E (seedI I x) (jr ++ [(5, x, 0, 0)]) :=
  CoA_all (fun F hF => T_seed (h F hF) hk hx g)
theorem A_step (h : CoA σ δ k E I jr) (hk : k < 512) (g1 : v_fl (i_V I) = false) (g2 : i_st I < 30) (hr : ∀ F, AgE E F → RunEnd F (fun _ => 0) (startW I) Wf) : ∃ D, m_X11_step σ 0 δ = some (.inl (ii (v_ac (w_V Wf))), D) ∧ CoA σ D (k + 1) E (endI Wf) (jr ++ [(4, 0, 0, 0)]) :=
  CoA_all (fun F hF => by
    obtain ⟨D, Wg, e1, e2, e3⟩ := T_step (h F hF) hk g1 g2
    have e := RunEnd_uni e1 (hr F hF)
    subst e
    exact ⟨D, e2, e3⟩)
theorem A_anew (h : CoA σ δ k E I jr) (hk : k ≤ 512) : ∃ D, m_X11_standingAnew σ 0 δ = some (ii (cnt (s_sd (v_S (i_V I))) (s_nt (v_S (i_V I))).toNat), D) ∧ CoA σ D k E I jr := by
  obtain ⟨D, e, -⟩ := T_anew h.t hk
  refine ⟨D, e, fun F hF => ?_⟩
  obtain ⟨D', e', c⟩ := T_anew (h F hF) hk
  have h2 : D = D' := (Prod.mk.inj (Option.some.inj (e.symm.trans e'))).2
  subst h2
  exact c
theorem addEnd_1 {es : List ERc} {e : ERc} : 1 ≤ (addEnd es e).length := by
  unfold addEnd
  split
  · rename_i h
    exact List.length_pos_of_mem h
  · rw [List.length_append, List.length_singleton]
    omega
/-- how many ends: never none -/
theorem A_ends (h : CoA σ δ k E I jr) (g1 : v_fl (i_V I) = false) : ∃ D v, m_X11_ends σ 0 δ = some (.inl (ii v), D) ∧ CoA σ D k E I jr ∧ (v = -1 ∨ (1 ≤ v ∧ v ≤ 8)) := by
  have hnv := h.t.2.1.2.1.1.1.1
  have hn : ((s_nv (v_S (i_V I))).toNat : Int) = s_nv (v_S (i_V I)) := by omega
  obtain ⟨D, v, e, -, hv⟩ := T_ends h.t g1 hn
  refine ⟨D, v, e, fun F hF => ?_, ?_⟩
  · obtain ⟨D', v', e', c, -⟩ := T_ends (h F hF) g1 hn
    have h2 : D = D' := (Prod.mk.inj (Option.some.inj (e.symm.trans e'))).2
    subst h2
    exact c
  · rcases hv with ⟨r, es, h8, ⟨r0, ch0, es0, Wg, a1, a2, a3, a4, a5⟩, hv⟩ | ⟨hv, -⟩
    · refine Or.inr ?_
      have b1 := (Rnds_good a2).2.2
      have b2 := addEnd_len (es := es0) (e := erecE (s_nv (v_S (i_V I))).toNat (w_V Wg))
      have b3 := addEnd_1 (es := es0) (e := erecE (s_nv (v_S (i_V I))).toNat (w_V Wg))
      rw [← a5] at b2 b3
      omega
    · exact Or.inl hv
/-- one schedule alone: one end -/
theorem A_ends1 (h : CoA σ δ k E I jr) (g1 : v_fl (i_V I) = false) (hr : RunEnd E (fun _ => 0) (startW I) Wf) (hl : w_lg Wf = [1, 1]) : ∃ D, m_X11_ends σ 0 δ = some (.inl (ii 1), D) ∧ CoA σ D k E I jr := by
  have hnv := h.t.2.1.2.1.1.1.1
  have hn : ((s_nv (v_S (i_V I))).toNat : Int) = s_nv (v_S (i_V I)) := by omega
  obtain ⟨D, v, e, c0, hv⟩ := A_ends h g1
  obtain ⟨D', v', e', -, hv'⟩ := T_ends h.t g1 hn
  have h3 := Option.some.inj (e.symm.trans e')
  have hD : Done E I (s_nv (v_S (i_V I))).toNat 1 (addEnd [] (erecE (s_nv (v_S (i_V I))).toNat (w_V Wf))) := by
    refine ⟨0, fun _ => 0, [], Wf, rfl, ⟨rfl, rfl⟩, hr, fun j s hs => ?_, rfl⟩
    rw [hl] at hs
    have hs1 : s = 1 := by
      match j with
      | 0 => exact (Option.some.inj hs).symm
      | 1 => exact (Option.some.inj hs).symm
      | j + 2 => cases hs
    show ¬ ((0 : Nat) : Int) + 1 < s
    omega
  have h1 : v' = 1 := by
    rcases hv' with ⟨r, es, h8, hE, hv'⟩ | ⟨-, ch, es, hE⟩
    · rw [hv', Done_uni hE hD]
      rfl
    · exact (Done_Rnds hD hE (by omega)).elim
  rw [e', h1] at e
  have h4 := Option.some.inj e
  refine ⟨D', by rw [e', h1], ?_⟩
  rw [(Prod.mk.inj h4).2]
  exact c0
/-! the nodes, and what is made behind them -/
theorem Nds_ag (h : Nds E) (h6 : 6 ≤ e_ct E) (hF : AgE E F) : Nds F := by
  obtain ⟨f1, f2, f3, f4, f5⟩ := hF
  have g : ∀ n : Int, 0 ≤ n → n < 6 → e_kd F n = e_kd E n ∧ e_wh F n = e_wh E n ∧ e_a F n = e_a E n ∧ e_b F n = e_b E n ∧ e_on F n = e_on E n ∧ e_ot F n = e_ot E n := fun n n0 n1 => f4 n ⟨n0, by omega⟩
  have tk : ∀ n w : Int, 0 ≤ n → n < 6 → TkN E n w → TkN F n w := fun n w n0 n1 ⟨q1, q2, q3, q4⟩ => by
    obtain ⟨a1, a2, a3, a4, a5, a6⟩ := g n n0 n1
    exact ⟨a1.trans q1, a2.trans q2, a3.trans q3, a4.trans q4⟩
  obtain ⟨h1, h2, h3, ⟨h4, h5, h6'⟩, ⟨h7, h8, h9⟩, h10, h11, h12, h13, h14, h15⟩ := h
  obtain ⟨b1, b2, b3, b4, b5, b6⟩ := g 2 (by omega) (by omega)
  obtain ⟨c1, c2, c3, c4, c5, c6⟩ := g 3 (by omega) (by omega)
  obtain ⟨d1, d2, d3, d4, d5, d6⟩ := g 5 (by omega) (by omega)
  exact ⟨f2.trans h1, tk 0 0 (by omega) (by omega) h2, tk 1 1 (by omega) (by omega) h3, ⟨b1.trans h4, b3.trans h5, b4.trans h6'⟩, ⟨c1.trans h7, c5.trans h8, c6.trans h9⟩, tk 4 2 (by omega) (by omega) h10, d1.trans h11, d2.trans h12, d3.trans h13, d4.trans h14, d5.trans h15⟩
/-- a node is made: the earlier ones stay -/
theorem newE_old {n : Int} (h : n < e_ct E) : e_kd (newE E kk w a b on ot) n = e_kd E n ∧ e_wh (newE E kk w a b on ot) n = e_wh E n ∧ e_a (newE E kk w a b on ot) n = e_a E n ∧ e_b (newE E kk w a b on ot) n = e_b E n ∧ e_on (newE E kk w a b on ot) n = e_on E n ∧ e_ot (newE E kk w a b on ot) n = e_ot E n := by
  have hne : ¬ n = e_ct E := by omega
  exact ⟨upf_ne hne, upf_ne hne, upf_ne hne, upf_ne hne, upf_ne hne, upf_ne hne⟩
theorem newE_new : e_kd (newE E kk w a b on ot) (e_ct E) = kk ∧ e_wh (newE E kk w a b on ot) (e_ct E) = w ∧ e_a (newE E kk w a b on ot) (e_ct E) = a ∧ e_b (newE E kk w a b on ot) (e_ct E) = b ∧ e_on (newE E kk w a b on ot) (e_ct E) = on ∧ e_ot (newE E kk w a b on ot) (e_ct E) = ot := ⟨upf_at, upf_at, upf_at, upf_at, upf_at, upf_at⟩
theorem newE_ct : e_ct (newE E kk w a b on ot) = e_ct E + 1 := rfl
theorem Nds_new (h : Nds E) (h6 : 6 ≤ e_ct E) : Nds (newE E kk w a b on ot) := by
  have g : ∀ n : Int, n < 6 → _ := fun n n1 => newE_old (E := E) (kk := kk) (w := w) (a := a) (b := b) (on := on) (ot := ot) (n := n) (by omega)
  have tk : ∀ n w' : Int, n < 6 → TkN E n w' → TkN (newE E kk w a b on ot) n w' := fun n w' n1 ⟨q1, q2, q3, q4⟩ => by
    obtain ⟨a1, a2, a3, a4, a5, a6⟩ := g n n1
    exact ⟨a1.trans q1, a2.trans q2, a3.trans q3, a4.trans q4⟩
  obtain ⟨h1, h2, h3, ⟨h4, h5, h6'⟩, ⟨h7, h8, h9⟩, h10, h11, h12, h13, h14, h15⟩ := h
  obtain ⟨b1, b2, b3, b4, b5, b6⟩ := g 2 (by omega)
  obtain ⟨c1, c2, c3, c4, c5, c6⟩ := g 3 (by omega)
  obtain ⟨d1, d2, d3, d4, d5, d6⟩ := g 5 (by omega)
  exact ⟨h1, tk 0 0 (by omega) h2, tk 1 1 (by omega) h3, ⟨b1.trans h4, b3.trans h5, b4.trans h6'⟩, ⟨c1.trans h7, c5.trans h8, c6.trans h9⟩, tk 4 2 (by omega) h10, d1.trans h11, d2.trans h12, d3.trans h13, d4.trans h14, d5.trans h15⟩
theorem LotN_ag (h : LotN E n u v) (hn : gNode E n) (hF : AgE E F) : LotN F n u v := by
  obtain ⟨a1, a2, a3, a4, a5, a6⟩ := hF.2.2.2.1 n hn
  obtain ⟨h1, h2, h3, h4, h5⟩ := h
  exact ⟨a1.trans h1, a3.trans h2, a4.trans h3, a5.trans h4, a6.trans h5⟩
theorem LotN_new (h : LotN E n u v) (hn : n < e_ct E) : LotN (newE E kk w a b on ot) n u v := by
  obtain ⟨a1, a2, a3, a4, a5, a6⟩ := newE_old (E := E) (kk := kk) (w := w) (a := a) (b := b) (on := on) (ot := ot) hn
  obtain ⟨h1, h2, h3, h4, h5⟩ := h
  exact ⟨a1.trans h1, a3.trans h2, a4.trans h3, a5.trans h4, a6.trans h5⟩
def TwoN (E : Ev) (n k p q : Int) : Prop := e_kd E n = k ∧ e_on E n = p ∧ e_ot E n = q
theorem TwoN_ag (h : TwoN E n kk p q) (hn : gNode E n) (hF : AgE E F) : TwoN F n kk p q := by
  obtain ⟨a1, a2, a3, a4, a5, a6⟩ := hF.2.2.2.1 n hn
  exact ⟨a1.trans h.1, a5.trans h.2.1, a6.trans h.2.2⟩
theorem TwoN_new {k' : Int} (h : TwoN E n k' p q) (hn : n < e_ct E) : TwoN (newE E kk w a b on ot) n k' p q := by
  obtain ⟨a1, a2, a3, a4, a5, a6⟩ := newE_old (E := E) (kk := kk) (w := w) (a := a) (b := b) (on := on) (ot := ot) hn
  exact ⟨a1.trans h.1, a5.trans h.2.1, a6.trans h.2.2⟩
end
