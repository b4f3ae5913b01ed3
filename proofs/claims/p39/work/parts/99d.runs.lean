/-! THE RUNS OF THE THREE AGENTS -/
section
variable {E : Ev} {S : Sto} {hi : Hst} {fi : Int → Int} {x : Int} {pw tk : Int → Int} {cs : Int × Int} {n b at' u v : Int} {f : Int → Int} {sl : Nat → Bool} {t : Int}
def Nds (E : Ev) : Prop := e_md E = 0 ∧ TkN E 0 0 ∧ TkN E 1 1 ∧ (e_kd E 2 = 0 ∧ e_a E 2 = 1 ∧ e_b E 2 = 2) ∧ (e_kd E 3 = 3 ∧ e_on E 3 = 2 ∧ e_ot E 3 = 2) ∧ TkN E 4 2 ∧ (e_kd E 5 = 4 ∧ e_wh E 5 = 10 ∧ e_a E 5 = 200 ∧ e_b E 5 = 201 ∧ e_on E 5 = 4)
def LotN (E : Ev) (n u v : Int) : Prop := e_kd E n = 12 ∧ e_a E n = u ∧ e_b E n = v ∧ e_on E n = 0 ∧ e_ot E n = 1
def wOf (x u v : Int) : Int := if isFi x u v = true then 0 else 1
theorem wOf_tk (hN : Nds E) : TkN E (wOf x u v) (wOf x u v) := by
  unfold wOf
  split
  · exact hN.2.1
  · exact hN.2.2.1
theorem lot_w (hL : LotN E n u v) : (if isFi x (e_a E n) (e_b E n) = true then e_on E n else e_ot E n) = wOf x u v ∧ lotP x (e_a E n) (e_b E n) pw = lotP x u v pw := by
  obtain ⟨h1, h2, h3, h4, h5⟩ := hL
  rw [h2, h3, h4, h5]
  exact ⟨rfl, rfl⟩
theorem nt_add {so a b : Int} {la : Bool} : s_nt (addtok S so a b la sl) = s_nt S + 1 := rfl
/-- the lot alone -/
theorem run0 (hN : Nds E) (hL : LotN E n u v) (hS : s_nt S < 90) : RunEnd E (fun _ => 0) ((S, [], hi, fi, 0, false), x, pw, tk, [lv0 [(n, f, sl)]], false, cs, []) ((dropS (addtok S (wOf x u v) (f 0) (f 1) true sl), [], hi, fi, 2, false), nextX x, lotP x u v pw, tk, [lv0 []], true, (cs.1 + 1, cs.2), [1, 1]) := by
  obtain ⟨hw, hp⟩ := lot_w (x := x) (pw := pw) hL
  refine RunEnd_step (s_lot0 (q := []) hL.1 (by decide) rfl) ?_
  rw [hw, hp]
  refine RunEnd_step (s_tok0 (q := []) (wOf_tk hN) (by decide) rfl (by omega)) ?_
  refine RunEnd_step (u_adv hN.1) ?_
  refine RunEnd_step (s_end (Or.inl rfl)) ?_
  exact RunEnd_end rfl
/-- the answer of the ask -/
theorem ent5 (hN : Nds E) : entA E S (5, f, sl) 5 = decide (¬ lowest S 0 (f 0) (f 1) = -1) := by
  obtain ⟨h1, h2, h3, h4, h5⟩ := hN.2.2.2.2.2.2
  unfold entA
  rw [h2, look0 h3, look1 h4]
  rfl
theorem go5 (hN : Nds E) (hl : lowest S 0 (f 0) (f 1) = t) (h0 : 0 ≤ t) (h1 : t < s_nt S) : goA E S (5, f, sl) 5 = (4, f, fun k => sl k || (decide (k = t.toNat) || s_sl S t k)) := by
  obtain ⟨k1, k2, k3, k4, k5⟩ := hN.2.2.2.2.2.2
  unfold goA
  rw [k2, look0 k3, look1 k4, k5, if_neg (by decide)]
  show (4, (inclA S (5, f, sl) (lowest S 0 (f 0) (f 1))).2) = _
  rw [hl]
  unfold inclA
  rw [if_pos ⟨h0, h1⟩]
/-- the ask and the lot: first, yes is told, the ask goes on -/
theorem run1y (hN : Nds E) (hL : LotN E n u v) (hB : e_kd E b = 3 ∧ e_on E b = 5 ∧ e_ot E b = n) (hS : s_nt S < 90) (h0 : lowest S 0 (f 0) (f 1) = -1) (t0 : 0 ≤ s_nt S) (h1 : lowest (addtok S (wOf x u v) (f 0) (f 1) true sl) 0 (f 0) (f 1) = s_nt S) : RunEnd E (fun _ => 0) ((S, [], hi, fi, 0, false), x, pw, tk, [lv0 [(b, f, sl)]], false, cs, []) ((dropS (addtok (addtok S (wOf x u v) (f 0) (f 1) true sl) 2 (f 0) (f 1) true (fun k => sl k || (decide (k = (s_nt S).toNat) || s_sl (addtok S (wOf x u v) (f 0) (f 1) true sl) (s_nt S) k))), [], hi, fi, 6, false), nextX x, lotP x u v pw, tk, [lv0 []], true, (cs.1 + 1, cs.2), [1, 2, 1, 1, 1, 1]) := by
  obtain ⟨hw, hp⟩ := lot_w (x := x) (pw := pw) hL
  obtain ⟨b1, b2, b3⟩ := hB
  have k5 := hN.2.2.2.2.2.2.1
  have w0 : entA E S (5, f, sl) 5 = false := by rw [ent5 hN, h0]; rfl
  have w1 : entA E (addtok S (wOf x u v) (f 0) (f 1) true sl) (5, f, sl) 5 = true := by rw [ent5 hN, h1]; exact decide_eq_true (by omega)
  have hg := go5 (sl := sl) hN h1 t0 (by rw [nt_add]; omega)
  refine RunEnd_step (s_both0 (q := []) b1 (by decide) rfl) ?_
  rw [b2, b3]
  refine RunEnd_step (s_ask_w (q := [(n, f, sl)]) (ws := []) k5 (by decide) rfl w0) ?_
  refine RunEnd_step (s_lot0 (q := []) hL.1 (by decide) rfl) ?_
  rw [hw, hp]
  refine RunEnd_step (s_tok0 (q := []) (wOf_tk hN) (by decide) rfl (by omega)) ?_
  refine RunEnd_step (u_adv hN.1) ?_
  refine RunEnd_step (s_go (b := (5, f, sl)) ((can_when k5).trans w1)) ?_
  refine RunEnd_step (s_ask_g (q := []) k5 (by decide) rfl w1) ?_
  rw [hg]
  refine RunEnd_step (s_tok0 (q := []) (w := 2) hN.2.2.2.2.2.1 (by decide) rfl (by rw [nt_add]; omega)) ?_
  refine RunEnd_step (u_adv hN.1) ?_
  refine RunEnd_step (s_end (Or.inl rfl)) ?_
  exact RunEnd_end rfl
/-- no is told, the ask waits to the end -/
theorem run1n (hN : Nds E) (hL : LotN E n u v) (hB : e_kd E b = 3 ∧ e_on E b = 5 ∧ e_ot E b = n) (hS : s_nt S < 90) (h0 : lowest S 0 (f 0) (f 1) = -1) (h1 : lowest (addtok S (wOf x u v) (f 0) (f 1) true sl) 0 (f 0) (f 1) = -1) : RunEnd E (fun _ => 0) ((S, [], hi, fi, 0, false), x, pw, tk, [lv0 [(b, f, sl)]], false, cs, []) ((dropS (addtok S (wOf x u v) (f 0) (f 1) true sl), [], hi, fi, 4, false), nextX x, lotP x u v pw, tk, [([], [(5, f, sl)], (lv0 []).2.2)], true, (cs.1 + 1, cs.2), [1, 2, 1, 1]) := by
  obtain ⟨hw, hp⟩ := lot_w (x := x) (pw := pw) hL
  obtain ⟨b1, b2, b3⟩ := hB
  have k5 := hN.2.2.2.2.2.2.1
  have w0 : entA E S (5, f, sl) 5 = false := by rw [ent5 hN, h0]; rfl
  have w1 : entA E (addtok S (wOf x u v) (f 0) (f 1) true sl) (5, f, sl) 5 = false := by rw [ent5 hN, h1]; rfl
  refine RunEnd_step (s_both0 (q := []) b1 (by decide) rfl) ?_
  rw [b2, b3]
  refine RunEnd_step (s_ask_w (q := [(n, f, sl)]) (ws := []) k5 (by decide) rfl w0) ?_
  refine RunEnd_step (s_lot0 (q := []) hL.1 (by decide) rfl) ?_
  rw [hw, hp]
  refine RunEnd_step (s_tok0 (q := []) (wOf_tk hN) (by decide) rfl (by omega)) ?_
  refine RunEnd_step (u_adv hN.1) ?_
  refine RunEnd_step (s_end (ws := [(5, f, sl)]) (Or.inr ⟨_, rfl, k5, (can_when k5).trans w1⟩)) ?_
  exact RunEnd_end rfl
/-- the try: the lot is drawn, its token told, the clash kills it; heard is told by what comes otherwise -/
theorem run2 (hN : Nds E) (hL : LotN E n u v) (hB : e_kd E b = 3 ∧ e_on E b = n ∧ e_ot E b = 3) (hA : e_kd E at' = 13 ∧ e_on E at' = b ∧ e_ot E at' = 4) (hS : s_nt S < 90) : RunEnd E (fun _ => 0) ((S, [], hi, fi, 0, false), x, pw, tk, [lv0 [(at', f, sl)]], false, cs, []) ((dropS (addtok (restS (addtok S (wOf x u v) (f 0) (f 1) true sl) (savS S)) 2 (f 0) (f 1) true sl), [], hi, fi, 7, false), nextX x, lotP x u v pw, tk, [lv0 []], true, (cs.1 + 1, cs.2), [1, 1]) := by
  obtain ⟨hw, hp⟩ := lot_w (x := x) (pw := pw) hL
  obtain ⟨b1, b2, b3⟩ := hB
  obtain ⟨a1, a2, a3⟩ := hA
  obtain ⟨-, -, -, ⟨c1, c2, c3⟩, ⟨d1, d2, d3⟩, h4, -⟩ := id hN
  refine RunEnd_step (s_try0 (q := []) a1 (by decide) rfl) ?_
  rw [a2, a3]
  refine RunEnd_step (s_both1 (q := []) b1 (by decide)) ?_
  rw [b2, b3]
  refine RunEnd_step (s_lot1 (q := [(3, f, sl)]) hL.1 (by decide)) ?_
  rw [hw, hp]
  refine RunEnd_step (s_both1 (q := [(wOf x u v, f, sl)]) d1 (by decide)) ?_
  rw [d2, d3]
  refine RunEnd_step (s_tok1 (q := [(2, f, sl), (2, f, sl)]) (wOf_tk hN) (by decide) (by omega)) ?_
  refine RunEnd_step (u_adv hN.1) ?_
  refine RunEnd_step (s_clash1 (q := [(2, f, sl)]) c1 c2 c3 (by decide)) ?_
  refine RunEnd_step (s_give (List.take_length)) ?_
  refine RunEnd_step (s_tok0 (q := []) (w := 2) h4 (by decide) rfl (by show s_nt S + 1 < 100; omega)) ?_
  refine RunEnd_step (u_adv hN.1) ?_
  refine RunEnd_step (s_end (Or.inl rfl)) ?_
  exact RunEnd_end rfl
end
