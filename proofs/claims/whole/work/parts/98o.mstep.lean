/-! A STEP in the reference, from step to step -/
/-- what more stays good between steps -/
def XI (E : Ev) (B : Int) (I : Iw) : Prop := (∀ e ∈ v_hi (i_V I), l_hd (e_Rs E e.1) < 2 → e.2.2 = 0) ∧ ((v_hi (i_V I)).length : Int) ≤ B
section
variable {σ : St} {δ d : Dy} {mo n base : Nat} {E : Ev} {W Wf : Wo} {I : Iw} {ch : Nat → Nat} {st B : Int}
theorem GI_end (hG : GW E base st Wf) (ho : w_ov Wf = true) : GI E (st + 60) (endI Wf) := by
  obtain ⟨g1, g2, g3, g4, g5, g6, g7, g8, g9, g10, g11⟩ := hG
  rw [if_pos ho] at g9
  have hac := g1.2.1
  have hnx : gAs E (v_S (w_V Wf)) (topNx (w_lv Wf)) ∧ ((topNx (w_lv Wf)).length : Int) ≤ 60 := by
    obtain ⟨h1, h2⟩ := g9
    revert h1 h2 g5
    match w_lv Wf with
    | [] => intro _ h _; exact absurd h (by decide)
    | [l] =>
      intro h5 _ h
      refine ⟨(h5 l List.mem_cons_self).2.2.2.1, ?_⟩
      have := h l List.mem_cons_self
      show ((l_nx l).length : Int) ≤ 60
      omega
    | _ :: _ :: _ => intro _ h _; rw [List.length_cons, List.length_cons] at h; omega
  refine ⟨g1.1, g1.2.2.2.2.2.2.2, g3, fun z => ?_, hnx.1, by have := hnx.2; show (topNx (w_lv Wf)).length ≤ 60; omega, fun i => ?_, hac⟩
  · have := g4 z
    show 0 ≤ w_tk Wf z ∧ w_tk Wf z ≤ st + 60
    omega
  · have := g11 i
    show -(4 * (st + 60)) ≤ w_pw Wf i ∧ w_pw Wf i ≤ 4 * (st + 60)
    omega
theorem XV_start (gE : GE E) (hG : GI E st I) (hX : XI E B I) : XV (e_Rs E) (e_md E) B (w_V (startW I)) := ⟨(GW_start gE hG).1, hX.1, by have := hX.2; show ((v_hi (i_V I)).length : Int) ≤ B + 0; omega, fun t p h => (by cases h), fun a m h => (by cases h)⟩
theorem XI_end (hX : XV (e_Rs E) (e_md E) B (w_V Wf)) : XI E (B + 60) (endI Wf) := ⟨hX.2.1, by
  have h1 := hX.2.2.1
  have h2 := hX.1.2.1.2
  show ((v_hi (w_V Wf)).length : Int) ≤ B + 60
  omega⟩
/-- the run from a world between steps -/
theorem m_runI (hK : KM σ mo) (gE : GE E) (hE : REm δ mo E) (hR : RIm δ mo E I) (hG : GI E st I) (hst : st ≤ 90000) (hX : XI E B I) (hB : B ≤ 1830) (hfl : v_fl (i_V I) = false) (hC : RC0 δ mo ch) (hc : ∀ n, okCh ch (turns E ch (startW I) n)) : Ok (m_X12_run σ mo δ) (fun D => ∃ Wf, RunEnd E ch (startW I) Wf ∧ RIm D mo E (endI Wf) ∧ D.1 mo 34 = ii (v_ac (w_V Wf)) ∧ RCm D mo ch (w_lg Wf) ∧ D.1 (mo + 1) 9742 = δ.1 (mo + 1) 9742 ∧ Fr (fun r => r = mo ∨ r = mo + 1 ∨ (mo + 17 ≤ r ∧ r ≤ mo + 30) ∨ r = mo + 33) δ D ∧ ∀ k, ¬ (k = 22 ∨ (33 ≤ k ∧ k ≤ 35) ∨ k = 37 ∨ k = 44) → D.1 mo k = δ.1 mo k) := by
  have h6 := hG.2.2.2.2.2.1
  refine m_runStart hK hR hG (by have := hX.2; omega) hfl hC (fun d hW hF => ?_)
  refine m_loop hK gE hE (GW_start gE hG) hst hc (XV_start gE hG hX) hB (by have := muW_start hG; omega) (by rw [hR.2.2.2.2.1, hfl]; rfl) (n := (i_nx I).length) ⟨rfl, Or.inl rfl, hW, ?_⟩ hF
  show ((i_nx I).length : Int) + ((0 + 0 : Nat) : Int) + 1 ≤ 61 + 2 * 0
  omega
theorem okCh_0 : okCh (fun _ => 0) W := fun l _ _ _ _ h => Nat.pos_of_ne_zero h
/-- a step that may not be -/
theorem m_stepNo (hK : KM σ mo) (hR : RIm δ mo E I) (hbg : δ.1 (mo + 1) 9742 = ii (i_st I)) (h : v_fl (i_V I) = true ∨ i_st I = 30) : Ok (m_X12_step σ mo δ) (fun r => r.1 = 0 ∧ r.2.1 mo 50 = 1 ∧ Fr (fun q => q = mo) δ r.2 ∧ ∀ k, ¬ k = 50 → r.2.1 mo k = δ.1 mo k) := by
  obtain ⟨d1, e1, v1, o1, F1⟩ := pI_ex (δ := δ) (k := 50) (x := 0) hK.1
  have x40 : rI σ d1 (mo + 1) (ii 7040) = some (bi (v_fl (i_V I))) := rst (md0 hK) (by omega) (by omega) rfl (by rw [(F1 _ (by omega)).1]; exact hR.2.2.2.2.1)
  have x42 : rI σ d1 (mo + 1) (ii 9742) = some (ii (i_st I)) := rst (md0 hK) (by omega) (by omega) rfl (by rw [(F1 _ (by omega)).1]; exact hbg)
  have stop : Ok (m_X12_step_b30 σ mo d1) (fun r => r.1 = 0 ∧ r.2.1 mo 50 = 1 ∧ Fr (fun q => q = mo) δ r.2 ∧ ∀ k, ¬ k = 50 → r.2.1 mo k = δ.1 mo k) := by
    obtain ⟨d2, e2, v2, o2, F2⟩ := pI_ex (δ := d1) (k := 50) (x := 1) hK.1
    refine ⟨(0, d2), ?_, rfl, v2, F1.tr F2, fun k hk => by rw [o2 k hk, o1 k hk]⟩
    unfold m_X12_step_b30 m_X12_stop
    rw [chk_ko hK.1, ob_some, e2, ob_some, ob_some]
  unfold m_X12_step
  rw [e1, ob_some, mg0 hK, ob_some, show ((7040 : Int32)) = ii 7040 from rfl, x40, ob_some]
  cases hfl : v_fl (i_V I) with
  | true =>
    rw [if_pos (show bi true = 1 from rfl)]
    exact stop
  | false =>
    have c : i_st I = 30 := h.resolve_left (by rw [hfl]; decide)
    rw [if_neg (show ¬ bi false = 1 by decide), ob_some, show ((9742 : Int32)) = ii 9742 from rfl, x42, ob_some, if_pos (show ii (i_st I) = 30 by rw [c]; rfl)]
    exact stop
/-- a step, as it is called -/
theorem m_step (hK : KM σ mo) (gE : GE E) (hE : REm δ mo E) (hR : RIm δ mo E I) (hbg : δ.1 (mo + 1) 9742 = ii (i_st I)) (hG : GI E st I) (hst : st ≤ 90000) (hX : XI E B I) (hB : B ≤ 1830) (h30 : 0 ≤ i_st I ∧ i_st I ≤ 30) (hfl : v_fl (i_V I) = false) (c : ¬ i_st I = 30) : Ok (m_X12_step σ mo δ) (fun r => r.2.1 mo 50 = 0 ∧ ∃ Wf, RunEnd E (fun _ => 0) (startW I) Wf ∧ r.1 = ii (v_ac (w_V Wf)) ∧ RIm r.2 mo E (endI Wf) ∧ r.2.1 (mo + 1) 9742 = ii (i_st (endI Wf)) ∧ Fr (fun r => r = mo ∨ r = mo + 1 ∨ (mo + 17 ≤ r ∧ r ≤ mo + 30) ∨ r = mo + 33) δ r.2 ∧ r.2.1 mo 41 = 0 ∧ ∀ k, ¬ (k = 22 ∨ (33 ≤ k ∧ k ≤ 35) ∨ k = 37 ∨ k = 41 ∨ k = 44 ∨ k = 50) → r.2.1 mo k = δ.1 mo k) := by
  obtain ⟨d1, e1, v1, o1, F1⟩ := pI_ex (δ := δ) (k := 50) (x := 0) hK.1
  have x40 : rI σ d1 (mo + 1) (ii 7040) = some (bi (v_fl (i_V I))) := rst (md0 hK) (by omega) (by omega) rfl (by rw [(F1 _ (by omega)).1]; exact hR.2.2.2.2.1)
  have x42 : rI σ d1 (mo + 1) (ii 9742) = some (ii (i_st I)) := rst (md0 hK) (by omega) (by omega) rfl (by rw [(F1 _ (by omega)).1]; exact hbg)
  obtain ⟨d2, e2, v2, o2, F2⟩ := wI_ex (δ := d1) (r := mo + 1) (z := 9742) (k := 9742) (x := ii (i_st I + 1)) (md0 hK) (by omega) (by omega) rfl
  obtain ⟨d3, e3, v3, o3, F3⟩ := pZ_ex (δ := d2) (k := 41) (x := 0) hK.1 (Or.inl rfl)
  have F13 : Fr (fun q => q = mo ∨ q = mo + 1) δ d3 := (F1.wk (fun r p => Or.inl p)).tr ((F2.wk (fun r p => Or.inr p)).tr (F3.wk (fun r p => Or.inl p)))
  have est : ∀ k, ¬ k = 9742 → d3.1 (mo + 1) k = δ.1 (mo + 1) k := fun k hk => by rw [(F3 _ (by omega)).1, o2 k hk, (F1 _ (by omega)).1]
  have em : ∀ k, ¬ k = 41 → ¬ k = 50 → d3.1 mo k = δ.1 mo k := fun k h1 h2 => by rw [o3 k h1, (F2 _ (by omega)).1, o1 k h2]
  have hE3 : REm d3 mo E := REm_eq hE (em 7 (by decide) (by decide)) (em 14 (by decide) (by decide)) (fun r _ _ => (F13 r (by omega)).1)
  have hh : (v_hi (i_V I)).length ≤ 2000 := by have := hX.2; omega
  have hR3 : RIm d3 mo E I := by
    obtain ⟨a1, a2, a3, ⟨b1, b2, b3, b4⟩, a5, a6, a7⟩ := hR
    have hn := hG.2.2.2.2.2.1
    refine ⟨RSm_eq a1 hG.1 (fun k _ => est k (by omega)), RMh_eq a2 (fun k _ _ => est k (by omega)) hh, fun w hw => by rw [est _ (by omega)]; exact a3 w hw, ⟨by rw [est _ (by omega)]; exact b1, fun k hk => by rw [est _ (by omega)]; exact b2 k hk, fun z hz => by rw [est _ (by omega)]; exact b3 z hz, by rw [est _ (by omega)]; exact b4⟩, by rw [est _ (by omega)]; exact a5, by rw [est _ (by omega)]; exact a6, fun j a ha => RNx_eq (a7 j a ha) (fun k k1 k2 => est k (by have := (List.getElem?_eq_some_iff.mp ha).1; omega))⟩
  obtain ⟨D, eD, Wf, y1, y2, y3, y4, y5, y6, y7⟩ := m_runI (ch := fun _ => 0) hK gE hE3 hR3 hG hst hX hB hfl (Or.inl ⟨v3, fun _ => rfl⟩) (fun n => okCh_0)
  refine ⟨(ii (v_ac (w_V Wf)), D), ?_, ?_, Wf, y1, rfl, y2, ?_, (F13.wk (fun r p => by omega)).tr y6, ?_, fun k hk => ?_⟩
  · unfold m_X12_step
    rw [e1, ob_some, mg0 hK, ob_some, show ((7040 : Int32)) = ii 7040 from rfl, x40, ob_some, hfl, if_neg (show ¬ bi false = 1 by decide), ob_some, show ((9742 : Int32)) = ii 9742 from rfl, x42, ob_some, if_neg (show ¬ ii (i_st I) = 30 by rw [show ((30 : Int32)) = ii 30 from rfl, ii_eq (by omega) (by omega) (by omega) (by omega)]; exact c), ob_some, x42, ob_some, show ((1 : Int32)) = ii 1 from rfl, ii_add, e2, ob_some, e3, ob_some, chk_ko hK.1, ob_some, eD, ob_some, gI_ko hK.1, ob_some, y3]
  · rw [y7 50 (by decide), o3 50 (by decide), (F2 _ (by omega)).1]
    exact v1
  · show D.1 (mo + 1) 9742 = ii (w_sp Wf)
    rw [y5, (F3 _ (by omega)).1, v2]
    obtain ⟨n, hn, -⟩ := y1
    rw [← hn, turns_sp]
    rfl
  · show D.1 mo 41 = 0
    rw [y7 41 (by decide)]
    exact v3
  · show D.1 mo k = δ.1 mo k
    rw [y7 k (by omega), em k (by omega) (by omega)]
end
