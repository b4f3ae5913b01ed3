/-! THE REFERENCE: an act, kind by kind, to its end -/
section
variable {σ : St} {δ d : Dy} {mo g n : Nat} {E : Ev} {W : Wo} {a : Ag} {l : Lv} {ls : List Lv} {ch : Nat → Nat} {base : Nat} {st B : Int}
theorem k_both (H : AcH σ δ d mo n g E ch base st B W l ls a) (k : e_kd E a.1 = 3) : Ok (actKind σ mo (ii g) (ii a.1) (ii 2) d) (fun D => ActE δ D mo n E ch B (n + wL (l :: ls) + (ls.length + 1) + 2) (actK E W l ls a)) := by
  obtain ⟨gE, hG, hh, hfr, hfl, ha, hJ, ⟨b1, b2, b3, b4⟩, hx, htk, hGA, hac⟩ := AcH_more H
  obtain ⟨hK, hE, h, hA0, hst, hX, hB, hg, hn, hA, hRF⟩ := H
  obtain ⟨D, e, h1, h2⟩ := m_aBoth hK hE.2 gE h.2.1 hJ hg (by omega) hA ha.1 k b1
  unfold actKind
  rw [if_neg (show ¬ ii 2 = 0 by decide), if_neg (show ¬ ii 2 = 1 by decide), if_pos (show ii 2 = 2 from rfl)]
  refine ⟨D, e, ActE_of (ActW_G (W := w_setlv W (l :: ls)) h hG (show (v_hi (w_V W)).length ≤ 2000 by omega) h2 h1 ?_) (aK3 k) hfr hX hGA hRF⟩
  show n + 2 + (wL ls + (l_w l).length) + (ls.length + 1) ≤ n + (wL ls + (l_w l).length) + (ls.length + 1) + 2
  omega
theorem k_when (H : AcH σ δ d mo n g E ch base st B W l ls a) (k : e_kd E a.1 = 4) : Ok (actKind σ mo (ii g) (ii a.1) (ii 3) d) (fun D => ActE δ D mo n E ch B (n + wL (l :: ls) + (ls.length + 1) + 2) (actK E W l ls a)) := by
  obtain ⟨gE, hG, hh, hfr, hfl, ha, hJ, ⟨b1, b2, b3, b4⟩, hx, htk, hGA, hac⟩ := AcH_more H
  obtain ⟨hK, hE, h, hA0, hst, hX, hB, hg, hn, hA, hRF⟩ := H
  obtain ⟨D, e, h1⟩ := m_aWhen hK hE.2 gE h hG (by omega) hJ hg (by omega) hA ha k b1 b2
  unfold actKind
  rw [if_neg (show ¬ ii 3 = 0 by decide), if_neg (show ¬ ii 3 = 1 by decide), if_neg (show ¬ ii 3 = 2 by decide), if_pos (show ii 3 = 3 from rfl)]
  refine ⟨D, e, ActE_of h1 (aK45 (Or.inl k)) ?_ hX hGA hRF⟩
  unfold askW
  by_cases c : sideA E (v_S (w_V W)) (w_tk W) a a.1 = -1
  · rw [if_pos c]; exact hfr
  · rw [if_neg c]; exact hfr
theorem k_either (H : AcH σ δ d mo n g E ch base st B W l ls a) (k : e_kd E a.1 = 5) : Ok (actKind σ mo (ii g) (ii a.1) (ii 4) d) (fun D => ActE δ D mo n E ch B (n + wL (l :: ls) + (ls.length + 1) + 2) (actK E W l ls a)) := by
  obtain ⟨gE, hG, hh, hfr, hfl, ha, hJ, ⟨b1, b2, b3, b4⟩, hx, htk, hGA, hac⟩ := AcH_more H
  obtain ⟨hK, hE, h, hA0, hst, hX, hB, hg, hn, hA, hRF⟩ := H
  obtain ⟨D, e, h1⟩ := m_aEither hK hE.2 gE h hG (by omega) hJ hg (by omega) hA ha k htk b1 b2
  unfold actKind
  rw [if_neg (show ¬ ii 4 = 0 by decide), if_neg (show ¬ ii 4 = 1 by decide), if_neg (show ¬ ii 4 = 2 by decide), if_neg (show ¬ ii 4 = 3 by decide), if_pos (show ii 4 = 4 from rfl), chk_ko hK.1, ob_some, e, ob_some]
  refine ⟨D, rfl, ActE_of h1 (aK45 (Or.inr k)) ?_ hX hGA hRF⟩
  unfold askW
  by_cases c : sideA E (v_S (w_V W)) (w_tk W) a a.1 = -1
  · rw [if_pos c]; exact hfr
  · rw [if_neg c]; exact hfr
theorem k_hide (H : AcH σ δ d mo n g E ch base st B W l ls a) (k : e_kd E a.1 = 6) : Ok (actKind σ mo (ii g) (ii a.1) (ii 5) d) (fun D => ActE δ D mo n E ch B (n + wL (l :: ls) + (ls.length + 1) + 2) (actK E W l ls a)) := by
  obtain ⟨gE, hG, hh, hfr, hfl, ha, hJ, ⟨b1, b2, b3, b4⟩, hx, htk, hGA, hac⟩ := AcH_more H
  obtain ⟨hK, hE, h, hA0, hst, hX, hB, hg, hn, hA, hRF⟩ := H
  obtain ⟨D, e, h1⟩ := m_aHide hK hE.2 gE h hG (by omega) hfl hJ hg (by omega) hA ha k b1
  unfold actKind
  rw [if_neg (show ¬ ii 5 = 0 by decide), if_neg (show ¬ ii 5 = 1 by decide), if_neg (show ¬ ii 5 = 2 by decide), if_neg (show ¬ ii 5 = 3 by decide), if_neg (show ¬ ii 5 = 4 by decide), if_pos (show ii 5 = 5 from rfl)]
  refine ⟨D, e, ActE_of h1 (aK6 k) ?_ hX hGA hRF⟩
  by_cases c : s_nv (v_S (w_V W)) = 60
  · rw [if_pos c]; exact hfr
  · rw [if_neg c]; exact hfr
theorem k_call (H : AcH σ δ d mo n g E ch base st B W l ls a) (k : e_kd E a.1 = 7) : Ok (actKind σ mo (ii g) (ii a.1) (ii 6) d) (fun D => ActE δ D mo n E ch B (n + wL (l :: ls) + (ls.length + 1) + 2) (actK E W l ls a)) := by
  obtain ⟨gE, hG, hh, hfr, hfl, ha, hJ, ⟨b1, b2, b3, b4⟩, hx, htk, hGA, hac⟩ := AcH_more H
  obtain ⟨hK, hE, h, hA0, hst, hX, hB, hg, hn, hA, hRF⟩ := H
  obtain ⟨D, e, n', hn', h1, h2⟩ := m_aCall hK hE.2 gE h.2.1 hJ hg (by omega) hA ha.1 k b1
  unfold actKind
  rw [if_neg (show ¬ ii 6 = 0 by decide), if_neg (show ¬ ii 6 = 1 by decide), if_neg (show ¬ ii 6 = 2 by decide), if_neg (show ¬ ii 6 = 3 by decide), if_neg (show ¬ ii 6 = 4 by decide), if_neg (show ¬ ii 6 = 5 by decide), if_pos (show ii 6 = 6 from rfl)]
  refine ⟨D, e, ActE_of (ActW_G (W := w_setlv W (l :: ls)) h hG (show (v_hi (w_V W)).length ≤ 2000 by omega) h2 h1 ?_) (aK7 k) hfr hX hGA hRF⟩
  have hw : ∀ (c : Prop) [Decidable c] (x : Ag), l_w (if c then l else qAdd l x) = l_w l := fun c _ x => by split <;> rfl
  show n' + (wL ls + (l_w (if e_df E (e_wh E a.1) = -1 then l else qAdd l _)).length) + (ls.length + 1) ≤ n + (wL ls + (l_w l).length) + (ls.length + 1) + 2
  rw [hw]
  omega
theorem k_next (H : AcH σ δ d mo n g E ch base st B W l ls a) (k : e_kd E a.1 = 8) : Ok (actKind σ mo (ii g) (ii a.1) (ii 7) d) (fun D => ActE δ D mo n E ch B (n + wL (l :: ls) + (ls.length + 1) + 2) (actK E W l ls a)) := by
  obtain ⟨gE, hG, hh, hfr, hfl, ha, hJ, ⟨b1, b2, b3, b4⟩, hx, htk, hGA, hac⟩ := AcH_more H
  obtain ⟨hK, hE, h, hA0, hst, hX, hB, hg, hn, hA, hRF⟩ := H
  obtain ⟨D, e, h1, h2⟩ := m_aNext hK hE.2 gE h.2.1 hJ hg (by omega) hA ha.1 k b4
  unfold actKind
  rw [if_neg (show ¬ ii 7 = 0 by decide), if_neg (show ¬ ii 7 = 1 by decide), if_neg (show ¬ ii 7 = 2 by decide), if_neg (show ¬ ii 7 = 3 by decide), if_neg (show ¬ ii 7 = 4 by decide), if_neg (show ¬ ii 7 = 5 by decide), if_neg (show ¬ ii 7 = 6 by decide), if_pos (show ii 7 = 7 from rfl)]
  refine ⟨D, e, ActE_of (ActW_G (W := w_setlv W (l :: ls)) h hG (show (v_hi (w_V W)).length ≤ 2000 by omega) h2 h1 ?_) (aK8 k) hfr hX hGA hRF⟩
  show n + 1 + (wL ls + (l_w l).length) + (ls.length + 1) ≤ n + (wL ls + (l_w l).length) + (ls.length + 1) + 2
  omega
theorem k_each (H : AcH σ δ d mo n g E ch base st B W l ls a) (k : e_kd E a.1 = 9) : Ok (actKind σ mo (ii g) (ii a.1) (ii 8) d) (fun D => ActE δ D mo n E ch B (n + wL (l :: ls) + (ls.length + 1) + 2) (actK E W l ls a)) := by
  obtain ⟨gE, hG, hh, hfr, hfl, ha, hJ, ⟨b1, b2, b3, b4⟩, hx, htk, hGA, hac⟩ := AcH_more H
  obtain ⟨hK, hE, h, hA0, hst, hX, hB, hg, hn, hA, hRF⟩ := H
  obtain ⟨D, e, h1, h2⟩ := m_aEach hK hE.2 gE h.2.1 hJ hg (by omega) hA ha.1 k b1 b4
  unfold actKind
  rw [if_neg (show ¬ ii 8 = 0 by decide), if_neg (show ¬ ii 8 = 1 by decide), if_neg (show ¬ ii 8 = 2 by decide), if_neg (show ¬ ii 8 = 3 by decide), if_neg (show ¬ ii 8 = 4 by decide), if_neg (show ¬ ii 8 = 5 by decide), if_neg (show ¬ ii 8 = 6 by decide), if_neg (show ¬ ii 8 = 7 by decide), if_pos (show ii 8 = 8 from rfl)]
  refine ⟨D, e, ActE_of (ActW_G (W := w_setlv W (l :: ls)) h hG (show (v_hi (w_V W)).length ≤ 2000 by omega) h2 h1 ?_) (aK9 k) hfr hX hGA hRF⟩
  show n + 1 + (wL ls + (l_w l).length) + (ls.length + 1) ≤ n + (wL ls + (l_w l).length) + (ls.length + 1) + 2
  omega
theorem k_wait (H : AcH σ δ d mo n g E ch base st B W l ls a) (k : e_kd E a.1 = 10 ∨ e_kd E a.1 = 11) : Ok (actKind σ mo (ii g) (ii a.1) (ii (kM (e_kd E a.1))) d) (fun D => ActE δ D mo n E ch B (n + wL (l :: ls) + (ls.length + 1) + 2) (actK E W l ls a)) := by
  obtain ⟨gE, hG, hh, hfr, hfl, ha, hJ, ⟨b1, b2, b3, b4⟩, hx, htk, hGA, hac⟩ := AcH_more H
  obtain ⟨hK, hE, h, hA0, hst, hX, hB, hg, hn, hA, hRF⟩ := H
  obtain ⟨D, e, h1, h2, -⟩ := (m_push hK h.2.1 hJ hg hA).2.1 (by omega)
  have hkm : kM (e_kd E a.1) = 9 ∨ kM (e_kd E a.1) = 10 := by unfold kM; split <;> omega
  have key : actKind σ mo (ii g) (ii a.1) (ii (kM (e_kd E a.1))) d = some D := by
    unfold actKind
    rcases hkm with q | q <;> rw [q]
    · rw [if_neg (show ¬ ii 9 = 0 by decide), if_neg (show ¬ ii 9 = 1 by decide), if_neg (show ¬ ii 9 = 2 by decide), if_neg (show ¬ ii 9 = 3 by decide), if_neg (show ¬ ii 9 = 4 by decide), if_neg (show ¬ ii 9 = 5 by decide), if_neg (show ¬ ii 9 = 6 by decide), if_neg (show ¬ ii 9 = 7 by decide), if_neg (show ¬ ii 9 = 8 by decide), if_neg (show ¬ (11 : Int32) ≤ ii 9 by decide), chk_ko hK.1, ob_some, e, ob_some]
    · rw [if_neg (show ¬ ii 10 = 0 by decide), if_neg (show ¬ ii 10 = 1 by decide), if_neg (show ¬ ii 10 = 2 by decide), if_neg (show ¬ ii 10 = 3 by decide), if_neg (show ¬ ii 10 = 4 by decide), if_neg (show ¬ ii 10 = 5 by decide), if_neg (show ¬ ii 10 = 6 by decide), if_neg (show ¬ ii 10 = 7 by decide), if_neg (show ¬ ii 10 = 8 by decide), if_neg (show ¬ (11 : Int32) ≤ ii 10 by decide), chk_ko hK.1, ob_some, e, ob_some]
  refine ⟨D, key, ActE_of (ActW_G (W := w_setlv W (l :: ls)) h hG (show (v_hi (w_V W)).length ≤ 2000 by omega) h2 h1 ?_) (aK10 k) hfr hX hGA hRF⟩
  show n + (wL ls + (l_w l ++ [a]).length) + (ls.length + 1) ≤ n + (wL ls + (l_w l).length) + (ls.length + 1) + 2
  rw [List.length_append, List.length_singleton]
  omega
theorem k_lot (H : AcH σ δ d mo n g E ch base st B W l ls a) (k : e_kd E a.1 = 12) : Ok (actKind σ mo (ii g) (ii a.1) (ii 11) d) (fun D => ActE δ D mo n E ch B (n + wL (l :: ls) + (ls.length + 1) + 2) (actK E W l ls a)) := by
  obtain ⟨gE, hG, hh, hfr, hfl, ha, hJ, ⟨b1, b2, b3, b4⟩, hx, htk, hGA, hac⟩ := AcH_more H
  obtain ⟨hK, hE, h, hA0, hst, hX, hB, hg, hn, hA, hRF⟩ := H
  obtain ⟨D, e, h1⟩ := m_aLot hK hE.2 gE h hG (by omega) hJ hg (by omega) hA ha.1 k hx b1
  unfold actKind
  rw [if_neg (show ¬ ii 11 = 0 by decide), if_neg (show ¬ ii 11 = 1 by decide), if_neg (show ¬ ii 11 = 2 by decide), if_neg (show ¬ ii 11 = 3 by decide), if_neg (show ¬ ii 11 = 4 by decide), if_neg (show ¬ ii 11 = 5 by decide), if_neg (show ¬ ii 11 = 6 by decide), if_neg (show ¬ ii 11 = 7 by decide), if_neg (show ¬ ii 11 = 8 by decide), if_pos (show (11 : Int32) ≤ ii 11 by decide), if_pos (show ii 11 = 11 from rfl), chk_ko hK.1, ob_some, e, ob_some]
  exact ⟨D, rfl, ActE_of h1 (aK12 k) hfr hX hGA hRF⟩
theorem k_try (H : AcH σ δ d mo n g E ch base st B W l ls a) (k : e_kd E a.1 = 13) : Ok (actKind σ mo (ii g) (ii a.1) (ii 12) d) (fun D => ActE δ D mo n E ch B (n + wL (l :: ls) + (ls.length + 1) + 2) (actK E W l ls a)) := by
  obtain ⟨gE, hG, hh, hfr, hfl, ha, hJ, ⟨b1, b2, b3, b4⟩, hx, htk, hGA, hac⟩ := AcH_more H
  obtain ⟨hK, hE, h, hA0, hst, hX, hB, hg, hn, hA, hRF⟩ := H
  obtain ⟨D, e, h1⟩ := m_aTry hK hE.2 gE h hG (by omega) hJ hg (by omega) hA ha k b1
  unfold actKind
  rw [if_neg (show ¬ ii 12 = 0 by decide), if_neg (show ¬ ii 12 = 1 by decide), if_neg (show ¬ ii 12 = 2 by decide), if_neg (show ¬ ii 12 = 3 by decide), if_neg (show ¬ ii 12 = 4 by decide), if_neg (show ¬ ii 12 = 5 by decide), if_neg (show ¬ ii 12 = 6 by decide), if_neg (show ¬ ii 12 = 7 by decide), if_neg (show ¬ ii 12 = 8 by decide), if_pos (show (11 : Int32) ≤ ii 12 by decide), if_neg (show ¬ ii 12 = 11 by decide), chk_ko hK.1, ob_some, e, ob_some]
  refine ⟨D, rfl, ActE_of h1 (aK13 k) ?_ hX hGA hRF⟩
  by_cases c : 3 ≤ ls.length
  · rw [if_pos c]; exact hfr
  · rw [if_neg c]; exact hfr
theorem aK0 (k : e_kd E a.1 = 0) : actK E W l ls a = w_setlv (w_setV W (tellEq (w_V W) (lookA a (e_a E a.1)) (lookA a (e_b E a.1)))) (l :: ls) := by
  unfold actK
  rw [if_pos k]
theorem aK1 (k : e_kd E a.1 = 1 ∨ e_kd E a.1 = 2) : actK E W l ls a = w_setlv (w_setV W (tellTok (w_V W) (e_wh E a.1) (lookA a (e_a E a.1)) (lookA a (e_b E a.1)) (decide (e_kd E a.1 = 2)) a.2.2)) (l :: ls) := by
  unfold actK
  rw [if_neg (show ¬ e_kd E a.1 = 0 by omega), if_pos k]
theorem k_eq (H : AcH σ δ d mo n g E ch base st B W l ls a) (k : e_kd E a.1 = 0) : Ok (actKind σ mo (ii g) (ii a.1) (ii 0) d) (fun D => ActE δ D mo n E ch B (n + wL (l :: ls) + (ls.length + 1) + 2) (actK E W l ls a)) := by
  obtain ⟨gE, hG, hh, hfr, hfl, ha, hJ, -, -, -, hGA, hac⟩ := AcH_more H
  obtain ⟨hK, hE, h, hA0, hst, hX, hB, hg, hn, hA, hRF⟩ := H
  have hc := gE.1.2
  obtain ⟨-, ⟨ta, tb⟩, -⟩ := gE.2.2.2.2 a.1 ha.1
  obtain ⟨q1, q2⟩ := (hE.2.2.2 a.1 ha.1).2.1 k
  have r1 := m_n1 (σ := σ) hK hc ha.1 q1
  have r2 := m_n2 (σ := σ) hK hc ha.1 q2
  have la := m_look (σ := σ) (δ := d) hK hA (by omega) ta
  have lb := m_look (σ := σ) (δ := d) hK hA (by omega) tb
  have hlen : (v_fr (w_V W)).length ≤ 183 := by rw [hfr]; decide
  obtain ⟨D, e, k1, k2⟩ := m_tellEq hK (V := w_V W) h.1 hG hlen (by omega) (look_tm ha.2 ta) (look_tm ha.2 tb)
  have hXA := actK_X hX hGA
  rw [aK0 k] at hXA
  have hmu : muV (tellEq (w_V W) (lookA a (e_a E a.1)) (lookA a (e_b E a.1))) ≤ 100000 := by
    have := muV_tellEq (V := w_V W) (a := lookA a (e_a E a.1)) (b := lookA a (e_b E a.1)) hfr
    omega
  obtain ⟨D2, e2, hD2⟩ := ActE_tell hK hE h k1 k2 hXA hB hmu (aK0 k) hRF
  refine ⟨D2, ?_, hD2⟩
  unfold actKind
  rw [if_pos (show ii 0 = 0 from rfl), mg3 hK, ob_some, r1, ob_some, chk_ko hK.1, ob_some, la, ob_some, mg4 hK, ob_some, r2, ob_some, ob_some, lb, ob_some, ob_some, e, ob_some, ob_some, e2, ob_some]
theorem k_tok (H : AcH σ δ d mo n g E ch base st B W l ls a) (k : e_kd E a.1 = 1 ∨ e_kd E a.1 = 2) : Ok (actKind σ mo (ii g) (ii a.1) (ii 1) d) (fun D => ActE δ D mo n E ch B (n + wL (l :: ls) + (ls.length + 1) + 2) (actK E W l ls a)) := by
  obtain ⟨gE, hG, hh, hfr, hfl, ha, hJ, -, -, -, hGA, hac⟩ := AcH_more H
  obtain ⟨hK, hE, h, hA0, hst, hX, hB, hg, hn, hA, hRF⟩ := H
  have hc := gE.1.2
  obtain ⟨-, ⟨ta, tb⟩, -⟩ := gE.2.2.2.2 a.1 ha.1
  obtain ⟨q1, q2, q3, q4⟩ := (hE.2.2.2 a.1 ha.1).2.2.1 k
  have hlen : (v_fr (w_V W)).length ≤ 183 := by rw [hfr]; decide
  have hXA := actK_X hX hGA
  rw [aK1 k] at hXA
  have hmu : muV (tellTok (w_V W) (e_wh E a.1) (lookA a (e_a E a.1)) (lookA a (e_b E a.1)) (decide (e_kd E a.1 = 2)) a.2.2) ≤ 100000 := by
    have := muV_tellTok (V := w_V W) (so := e_wh E a.1) (a := lookA a (e_a E a.1)) (b := lookA a (e_b E a.1)) (la := decide (e_kd E a.1 = 2)) (sl := a.2.2) hfr
    omega
  unfold actKind
  rw [if_neg (show ¬ ii 1 = 0 by decide), if_pos (show ii 1 = 1 from rfl)]
  unfold m_X12_act_b87
  refine Ok_for (fun z s => s.1 = ii z ∧ (∀ y : Nat, (y : Int) < z → s.2.1 (mo + 30) y = d.1 (mo + 17) (9 * g + 5 + y)) ∧ Fr (fun r => r = mo + 30) d s.2) 0 4 (by omega) (by omega) ?_ ?_ ⟨rfl, fun y hy => by omega, Fr.rf⟩
  · rintro z ⟨s1, x⟩ z0 z1 ⟨hs, h1, hF⟩
    dsimp only at hs h1 hF ⊢
    subst hs
    have r1 : rI σ x (mo + 17) (ii (9 * g + 5 + z)) = some (d.1 (mo + 17) (9 * g + 5 + z.toNat)) := rst (md21 hK) (by omega) (by omega) (show (9 * (g : Int) + 5 + z).toNat = 9 * g + 5 + z.toNat by omega) (by rw [(hF _ (by omega)).1])
    have w1 : wI σ x (mo + 30) (ii z) (d.1 (mo + 17) (9 * g + 5 + z.toNat)) = some (u2 x.1 (mo + 30) z.toNat (d.1 (mo + 17) (9 * g + 5 + z.toNat)), x.2) := wI_kd (md39 hK) z0 (by omega)
    refine Ok_inl (s' := (ii (z + 1), (u2 x.1 (mo + 30) z.toNat (d.1 (mo + 17) (9 * g + 5 + z.toNat)), x.2))) ?_ ⟨rfl, fun y hy => ?_, hF.tr (Fr_u2 rfl)⟩
    · simp (disch := omega) only [ii_lit, ii_le, if_neg, mg39 hK, mg21 hK, ob_some, ii_mul, ii_add, r1, w1]
    · dsimp only
      by_cases hyz : y = z.toNat
      · rw [hyz]
        simp only [u2, and_self, ↓reduceIte]
      · simp (disch := omega) only [u2, if_neg]
        exact h1 y (by omega)
  · rintro ⟨s1, x⟩ ⟨hs, h1, hF⟩
    dsimp only at hs h1 hF ⊢
    subst hs
    have un : ∀ r, ¬ r = mo + 30 → x.1 r = d.1 r := fun r hr => (hF r hr).1
    have hFx : FM mo d x := ⟨fun r hr => hF r (by omega), fun i _ => by rw [un _ (by omega)], fun i _ => by rw [un _ (by omega)]⟩
    have hVx : RVm x mo (e_Rs E) (w_V W) := RVm_cg h.1 hG (show (v_hi (w_V W)).length ≤ 2000 by omega) hF (by omega) (by omega) (by omega)
    have hAx : RAm x mo g a := RAm_eq hA (fun k _ _ => by rw [un _ (by omega)])
    have hSl : B32 (fun y => x.1 (mo + 30) y) a.2.2 := B32_eq hA.2.2 (fun y hy => h1 y (by omega))
    have r1 := m_n1 (σ := σ) (δ := x) hK hc ha.1 (v := ii (e_wh E a.1)) (by rw [un _ (by omega)]; exact q1)
    have r2 := m_n2 (σ := σ) (δ := x) hK hc ha.1 (v := ii (e_a E a.1)) (by rw [un _ (by omega)]; exact q2)
    have r3 := m_n3 (σ := σ) (δ := x) hK hc ha.1 (v := ii (e_b E a.1)) (by rw [un _ (by omega)]; exact q3)
    have r4 := m_n4 (σ := σ) (δ := x) hK hc ha.1 (v := bi (decide (e_kd E a.1 = 2))) (by rw [un _ (by omega)]; exact q4)
    have la := m_look (σ := σ) (δ := x) hK hAx (by omega) ta
    have lb := m_look (σ := σ) (δ := x) hK hAx (by omega) tb
    obtain ⟨D, e, k1, k2⟩ := m_tellTok hK (V := w_V W) hVx hG hlen (by omega) (so := e_wh E a.1) (a := lookA a (e_a E a.1)) (b := lookA a (e_b E a.1)) (la := decide (e_kd E a.1 = 2)) hSl
    obtain ⟨D2, e2, hD2⟩ := ActE_tell hK hE h k1 (hFx.tr k2) hXA hB hmu (aK1 k) hRF
    refine Ok_inr (r := D2) ?_ hD2
    rw [if_pos (show (4 : Int32) ≤ ii 4 by decide), mg3 hK, ob_some, r1, ob_some, mg4 hK, ob_some, r2, ob_some, chk_ko hK.1, ob_some, la, ob_some, mg5 hK, ob_some, r3, ob_some, ob_some, lb, ob_some, mg6 hK, ob_some, r4, ob_some]
    cases hb : decide (e_kd E a.1 = 2) with
    | true =>
      rw [hb] at e
      have e' : m_X12_tellToken σ mo (ii (e_wh E a.1)) (ii (lookA a (e_a E a.1))) (ii (lookA a (e_b E a.1))) 1 x = some D := e
      rw [if_pos (show bi true = 1 from rfl)]
      unfold m_X12_act_b164
      rw [chk_ko hK.1, ob_some, e', ob_some, ob_some, e2, ob_some, ob_some]
    | false =>
      rw [hb] at e
      have e' : m_X12_tellToken σ mo (ii (e_wh E a.1)) (ii (lookA a (e_a E a.1))) (ii (lookA a (e_b E a.1))) 0 x = some D := e
      rw [if_neg (show ¬ bi false = 1 by decide)]
      unfold m_X12_act_b164
      rw [chk_ko hK.1, ob_some, e', ob_some, ob_some, e2, ob_some, ob_some]
theorem m_act (hK : KM σ mo) (hE : REm δ mo E) (h : RWm δ mo n E ch (w_setlv W (l :: ls))) (h60 : v_ac (w_V W) < 60) (hA0 : HA E base st (w_setV W (v_setac (w_V W) (v_ac (w_V W) + 1))) l ls a) (hst : st ≤ 90000) (hX : XV (e_Rs E) (e_md E) B (w_V (w_setV W (v_setac (w_V W) (v_ac (w_V W) + 1))))) (hB : B ≤ 1830) (h0 : 0 ≤ v_ac (w_V W)) (hg : g < n) (hn : n < 1900) (hA : RAm δ mo g a) : Ok (m_X12_act σ mo (ii g) δ) (fun d => ActE δ d mo n E ch B (n + wL (l :: ls) + (ls.length + 1) + 2) (actK E (w_setV W (v_setac (w_V W) (v_ac (w_V W) + 1))) l ls a)) := by
  have ha := hA0.2.2.2.2.2.2.2.2.1
  have gE := hA0.1.1
  have hG : GS (v_S (w_V W)) := hA0.2.1.1
  have hh : ((v_hi (w_V W)).length : Int) ≤ B + (v_ac (w_V W) + 1) := hX.2.2.1
  obtain ⟨d, e, h1, h2, h3⟩ := m_actStart (W := w_setlv W (l :: ls)) hK h hG (show (v_hi (w_V W)).length ≤ 2000 by omega) h0 h60 hA hg hn gE hE ha.1
  have H : AcH σ δ d mo n g E ch base st B (w_setV W (v_setac (w_V W) (v_ac (w_V W) + 1))) l ls a := ⟨hK, REm_RF hE h3, h1, hA0, hst, hX, hB, hg, hn, h2, h3⟩
  rw [e]
  obtain ⟨⟨kd0, kd13⟩, -⟩ := gE.2.2.2.2 a.1 ha.1
  have km : ∀ c c' : Int, e_kd E a.1 = c → kM c = c' → kM (e_kd E a.1) = c' := fun c c' h1 h2 => by rw [h1]; exact h2
  rcases (show e_kd E a.1 = 0 ∨ e_kd E a.1 = 1 ∨ e_kd E a.1 = 2 ∨ e_kd E a.1 = 3 ∨ e_kd E a.1 = 4 ∨ e_kd E a.1 = 5 ∨ e_kd E a.1 = 6 ∨ e_kd E a.1 = 7 ∨ e_kd E a.1 = 8 ∨ e_kd E a.1 = 9 ∨ e_kd E a.1 = 10 ∨ e_kd E a.1 = 11 ∨ e_kd E a.1 = 12 ∨ e_kd E a.1 = 13 by omega) with k | k | k | k | k | k | k | k | k | k | k | k | k | k
  · rw [km _ 0 k rfl]; exact k_eq H k
  · rw [km _ 1 k rfl]; exact k_tok H (Or.inl k)
  · rw [km _ 1 k rfl]; exact k_tok H (Or.inr k)
  · rw [km _ 2 k rfl]; exact k_both H k
  · rw [km _ 3 k rfl]; exact k_when H k
  · rw [km _ 4 k rfl]; exact k_either H k
  · rw [km _ 5 k rfl]; exact k_hide H k
  · rw [km _ 6 k rfl]; exact k_call H k
  · rw [km _ 7 k rfl]; exact k_next H k
  · rw [km _ 8 k rfl]; exact k_each H k
  · exact k_wait H (Or.inl k)
  · exact k_wait H (Or.inr k)
  · rw [km _ 11 k rfl]; exact k_lot H k
  · rw [km _ 12 k rfl]; exact k_try H k
end
