/-! THE LAW: all ends of a step, in the reference -/
section
variable {σ : St} {δ d : Dy} {mo n0 r : Nat} {E : Ev} {I : Iw} {es : List ERc} {ch : Nat → Nat} {st B : Int}
def PMe (mo : Nat) : Nat → Prop := fun r => r = mo ∨ r = mo + 1 ∨ r = mo + 2 ∨ (mo + 17 ≤ r ∧ r ≤ mo + 30) ∨ (mo + 32 ≤ r ∧ r ≤ mo + 36)
def kMe (k : Nat) : Prop := k = 22 ∨ (33 ≤ k ∧ k ≤ 35) ∨ k = 37 ∨ k = 41 ∨ k = 44 ∨ k = 47 ∨ k = 49
/-- what stands between two rounds -/
def MEnd (δ d : Dy) (mo n0 : Nat) (es : List ERc) : Prop := (∀ k, k < 9863 → d.1 (mo + 1) k = δ.1 (mo + 1) k) ∧ (∀ k, k < 9863 → d.1 (mo + 2) k = δ.1 (mo + 1) k) ∧ d.1 mo 41 = 1 ∧ d.1 mo 49 = ii n0 ∧ d.1 mo 47 = ii es.length ∧ (∀ (r : Nat) (x : ERc), es[r]? = some x → RMr d mo r x ∧ gER n0 x) ∧ Fr (PMe mo) δ d ∧ ∀ k, ¬ kMe k → d.1 mo k = δ.1 mo k
def MMore (E : Ev) (I : Iw) (n0 : Nat) (d : Dy) (mo r : Nat) (es : List ERc) : Prop := ∃ ch, Rnds E I n0 r ch es ∧ ∀ k, k < 70 → d.1 (mo + 32) k = ii (ch k)
theorem m_roundE (hK : KM σ mo) (gE : GE E) (hE : REm δ mo E) (hR : RIm δ mo E I) (hG : GI E st I) (hst : st ≤ 90000) (hX : XI E B I) (hB : B ≤ 1830) (hfl : v_fl (i_V I) = false) (hn : (n0 : Int) = s_nv (v_S (i_V I))) (hr : r < 8) (h1 : MEnd δ d mo n0 es) (h2 : MMore E I n0 d mo r es) : ∃ d1 d2 d3 d4 d5 fl es', m_X12_run σ mo d = some d1 ∧ m_X12_layEnd σ mo d1 = some d2 ∧ m_X12_keepEnd σ mo d2 = some d3 ∧ m_X12_restore σ mo d3 = some d4 ∧ m_X12_nextSchedule σ mo d4 = some (fl, d5) ∧ MEnd δ d5 mo n0 es' ∧ ((fl = 0 ∧ Done E I n0 (r + 1) es') ∨ (fl = 1 ∧ MMore E I n0 d5 mo (r + 1) es')) := by
  obtain ⟨hs1, hs2, h41, h49, h47, hrec, hF, hk⟩ := h1
  obtain ⟨ch, hRn, hch⟩ := h2
  obtain ⟨hc, htail, hlen⟩ := Rnds_good hRn
  have gnv := hG.1.1
  have hh : (v_hi (i_V I)).length ≤ 2000 := by have := hX.2; omega
  have hEd : REm d mo E := REm_eq hE (hk 7 (by unfold kMe; omega)) (hk 14 (by unfold kMe; omega)) (fun r a b => (hF r (fun p => by unfold PMe at p; omega)).1)
  have hRd : RIm d mo E I := RIm_lt hR hG.1 hh hG.2.2.2.2.2.1 hs1
  obtain ⟨d1, e1, Wf, y1, y2, y3, y4, y5, y6, y7⟩ := m_runI hK gE hEd hRd hG hst hX hB hfl (Or.inr ⟨h41, hch⟩) hc
  obtain ⟨-, -, -, gW⟩ := run_good gE hG hX hc y1
  have hGf : GS (v_S (w_V Wf)) := gW.1.1
  have hnv : (n0 : Int) ≤ s_nv (v_S (w_V Wf)) := by
    obtain ⟨n, hn', -⟩ := y1
    have := nv_turns (E := E) (ch := ch) (W := startW I) n
    rw [hn'] at this
    have h' : s_nv (v_S (i_V I)) ≤ s_nv (v_S (w_V Wf)) := this
    omega
  obtain ⟨d2, e2, z1, F2⟩ := m_layE hK y2.1 hGf y2.2.2.2.2.1 (by rw [y7 49 (by decide)]; exact h49) (by omega) hnv
  have h47' : d2.1 mo 47 = ii es.length := by rw [(F2 mo (by omega)).1, y7 47 (by decide)]; exact h47
  have hrec2 : ∀ (r : Nat) (x : ERc), es[r]? = some x → RMr d2 mo r x ∧ gER n0 x := by
    intro r x hx
    obtain ⟨b1, b2⟩ := hrec r x hx
    exact ⟨fun j hj => by rw [(F2 _ (by omega)).1, (y6 _ (by omega)).1]; exact b1 j hj, b2⟩
  obtain ⟨d3, e3, w1, w2, w3, F3⟩ := m_keepE hK (by omega) h47' z1 hrec2 (gER_mk hGf (by omega) hnv)
  obtain ⟨d4, e4, u1, F4⟩ := m_restore (δ := d3) hK
  have hlg : (w_lg Wf).length ≤ 61 := by
    have a := gW.2.2.2.2.2.2.2.2.2.1
    have b := gW.1.2.1.2
    split at a <;> omega
  have hlr : ∀ (j : Nat) (s : Int), (w_lg Wf)[j]? = some s → 1 ≤ s ∧ s ≤ 121 ∧ (ch j : Int) < s := by
    obtain ⟨n, hn', -⟩ := y1
    rw [← hn']
    exact lg_rng gE (GW_start gE hG) hc rfl n
  have k41 : d1.1 mo 41 = 1 := by rw [y7 41 (by decide)]; exact h41
  have hrc : d1.1 mo 44 = ii (w_lg Wf).length ∧ (∀ k : Nat, k < 70 → d1.1 (mo + 32) k = ii (ch k)) ∧ ∀ (k : Nat) (x : Int), (w_lg Wf)[k]? = some x → d1.1 (mo + 33) k = ii x := by
    rcases y4 with ⟨q, -⟩ | ⟨-, q⟩
    · rw [k41] at q
      exact absurd q (by decide)
    · exact q
  have F24 : Fr (fun q => q = mo ∨ q = mo + 1 ∨ q = mo + 34 ∨ q = mo + 36) d1 d4 := (F2.wk (fun q p => by omega)).tr ((F3.wk (fun q p => by omega)).tr (F4.wk (fun q p => by omega)))
  have m4 : ∀ k, ¬ k = 47 → d4.1 mo k = d1.1 mo k := fun k hk => by rw [(F4 mo (by omega)).1, w3 k hk, (F2 mo (by omega)).1]
  obtain ⟨⟨fl, d5⟩, e5, hcase, F5⟩ := m_nextS hK (δ := d4) (lg := w_lg Wf) (ch := ch) (by omega) (by rw [m4 44 (by decide)]; exact hrc.1) (fun k hk => by rw [(F24 _ (by omega)).1]; exact hrc.2.1 k hk) (fun k x hx => by rw [(F24 _ (by omega)).1]; exact hrc.2.2 k x hx) hlr (htail Wf y1)
  dsimp only at hcase F5
  have F15 : Fr (fun q => q = mo ∨ q = mo + 1 ∨ (mo + 17 ≤ q ∧ q ≤ mo + 30) ∨ (mo + 32 ≤ q ∧ q ≤ mo + 36)) d d5 := (y6.wk (fun q p => by omega)).tr ((F24.wk (fun q p => by omega)).tr (F5.wk (fun q p => by omega)))
  have m5 : ∀ k, ¬ k = 47 → d5.1 mo k = d1.1 mo k := fun k hk => by rw [(F5 mo (by omega)).1, m4 k hk]
  have hM : MEnd δ d5 mo n0 (addEnd es (erecE n0 (w_V Wf))) := by
    refine ⟨fun k hk => ?_, fun k hk => by rw [(F15 _ (by omega)).1]; exact hs2 k hk, by rw [m5 41 (by decide)]; exact k41, by rw [m5 49 (by decide), y7 49 (by decide)]; exact h49, by rw [(F5 mo (by omega)).1, (F4 mo (by omega)).1]; exact w1, fun r x hx => ?_, hF.tr (F15.wk (fun q p => by unfold PMe; omega)), fun k hk2 => ?_⟩
    · rw [(F5 _ (by omega)).1, u1 k hk, (F3 _ (by omega)).1, (F2 _ (by omega)).1, (y6 _ (by omega)).1]
      exact hs2 k hk
    · obtain ⟨b1, b2⟩ := w2 r x hx
      exact ⟨fun j hj => by rw [(F5 _ (by omega)).1, (F4 _ (by omega)).1]; exact b1 j hj, b2⟩
    · have hk3 : ¬ k = 47 := fun h => hk2 (by unfold kMe; omega)
      rw [m5 k hk3, y7 k (fun h => hk2 (by unfold kMe; omega))]
      exact hk k hk2
  rcases hcase with ⟨a1, a2⟩ | ⟨a1, i, a2, a3⟩
  · exact ⟨d1, d2, d3, d4, d5, fl, _, e1, e2, e3, e4, e5, hM, Or.inl ⟨a1, r, ch, es, Wf, rfl, hRn, y1, a2, rfl⟩⟩
  · exact ⟨d1, d2, d3, d4, d5, fl, _, e1, e2, e3, e4, e5, hM, Or.inr ⟨a1, bumpC ch i, ⟨ch, es, Wf, i, hRn, y1, a2, rfl, rfl⟩, a3⟩⟩
/-- what is answered, and what stands after it -/
def MAns (E : Ev) (I : Iw) (n0 : Nat) (δ : Dy) (mo : Nat) (x : Int32 × Dy) : Prop := ((∃ r es, r ≤ 8 ∧ Done E I n0 r es ∧ x.1 = ii (es.length : Nat)) ∨ (x.1 = ii (-1) ∧ ∃ ch es, Rnds E I n0 8 ch es)) ∧ (∀ k, k < 9863 → x.2.1 (mo + 1) k = δ.1 (mo + 1) k) ∧ Fr (PMe mo) δ x.2 ∧ ∀ k, ¬ kMe k → x.2.1 mo k = δ.1 mo k
theorem m_endsL (hK : KM σ mo) (gE : GE E) (hE : REm δ mo E) (hR : RIm δ mo E I) (hG : GI E st I) (hst : st ≤ 90000) (hX : XI E B I) (hB : B ≤ 1830) (hfl : v_fl (i_V I) = false) (hn : (n0 : Int) = s_nv (v_S (i_V I))) (h1 : MEnd δ d mo n0 []) (h2 : MMore E I n0 d mo 0 []) : Ok (m_X12_ends_b95 σ mo (ii 0) (1 : Int32) d) (MAns E I n0 δ mo) := by
  unfold m_X12_ends_b95
  refine Ok_lpi (fun n s => ∃ (r : Nat) (es : List ERc), s.1 = ii (r : Int) ∧ MEnd δ s.2.2 mo n0 es ∧ ((s.2.1 = 0 ∧ ((r ≤ 8 ∧ Done E I n0 r es) ∨ (r = 9 ∧ ∃ ch es, Rnds E I n0 8 ch es)) ∧ n + r = 9) ∨ (s.2.1 = 1 ∧ r ≤ 8 ∧ MMore E I n0 s.2.2 mo r es ∧ n + r = 10))) ?_ (n := 10) ⟨0, [], rfl, h1, Or.inr ⟨rfl, by omega, h2, rfl⟩⟩ (by omega)
  rintro n ⟨s1, f, d⟩ ⟨r, es, hs1, hM, hcase⟩
  dsimp only at hs1 hM hcase ⊢
  subst hs1
  rcases hcase with ⟨hf, hD, hnr⟩ | ⟨hf, hr8, hMo, hnr⟩
  · subst hf
    obtain ⟨q1, q2, q3, q4, q5, q6, q7, q8⟩ := hM
    obtain ⟨d1, w1, v1, o1, F1⟩ := pZ_ex (δ := d) (r := mo) (k := 41) (x := 0) hK.1 (Or.inl rfl)
    have x47 : gI σ d1 12 mo 47 = some (ii (es.length : Int)) := by rw [gI_ko hK.1, o1 47 (by decide), q5]
    have fr : ∀ k, k < 9863 → d1.1 (mo + 1) k = δ.1 (mo + 1) k := fun k hk => by rw [(F1 _ (by omega)).1]; exact q1 k hk
    have fF : Fr (PMe mo) δ d1 := q7.tr (F1.wk (fun q p => by unfold PMe; omega))
    have fk : ∀ k, ¬ kMe k → d1.1 mo k = δ.1 mo k := fun k hk => by rw [o1 k (fun h => hk (by unfold kMe; omega))]; exact q8 k hk
    rcases hD with ⟨h8, hD⟩ | ⟨h9, hD⟩
    · have c8 : (ii (r : Int) ≤ (8 : Int32)) = True := by
        rw [show ((8 : Int32)) = ii 8 from rfl, ii_le (by omega) (by omega) (by omega) (by omega)]
        exact eq_true (by omega)
      refine Ok_inr (r := (ii (es.length : Int), d1)) ?_ ⟨Or.inl ⟨r, es, h8, hD, rfl⟩, fr, fF, fk⟩
      simp only [↓reduceIte, w1, ob_some, c8, x47]
    · have c8 : (ii (r : Int) ≤ (8 : Int32)) = False := by
        rw [show ((8 : Int32)) = ii 8 from rfl, ii_le (by omega) (by omega) (by omega) (by omega)]
        exact eq_false (by omega)
      refine Ok_inr (r := (ii (-1), d1)) ?_ ⟨Or.inr ⟨rfl, hD⟩, fr, fF, fk⟩
      simp only [↓reduceIte, w1, ob_some, c8]
      rfl
  · subst hf
    have a1 : ii (r : Int) + (1 : Int32) = ii (((r + 1 : Nat)) : Int) := by
      rw [show ((1 : Int32)) = ii 1 from rfl, ii_add]
      exact congrArg ii (by omega)
    by_cases h8 : r < 8
    · have c8 : ((8 : Int32) < ii (((r + 1 : Nat)) : Int)) = False := by
        rw [show ((8 : Int32)) = ii 8 from rfl, ii_lt (by omega) (by omega) (by omega) (by omega)]
        exact eq_false (by omega)
      obtain ⟨d1, d2, d3, d4, d5, fl, es', e1, e2, e3, e4, e5, hM5, hc5⟩ := m_roundE hK gE hE hR hG hst hX hB hfl hn h8 hM hMo
      refine Ok_inl (s' := (ii (((r + 1 : Nat)) : Int), fl, d5)) ?_ ?_
      · simp only [i10, ↓reduceIte, a1, c8, chk_ko hK.1, ob_some, e1, e2, e3, e4, e5]
      · rcases hc5 with ⟨b1, b2⟩ | ⟨b1, b2⟩
        · exact ⟨8 - r, by omega, r + 1, es', rfl, hM5, Or.inl ⟨b1, Or.inl ⟨by omega, b2⟩, by omega⟩⟩
        · exact ⟨9 - r, by omega, r + 1, es', rfl, hM5, Or.inr ⟨b1, by omega, b2, by omega⟩⟩
    · have hr : r = 8 := by omega
      subst hr
      have c8 : ((8 : Int32) < ii (((8 + 1 : Nat)) : Int)) = True := eq_true (by decide)
      obtain ⟨ch, hRn, -⟩ := hMo
      refine Ok_inl (s' := (ii (((8 + 1 : Nat)) : Int), (0 : Int32), d)) ?_ ⟨0, by omega, 9, es, rfl, hM, Or.inl ⟨rfl, Or.inr ⟨rfl, ch, es, hRn⟩, rfl⟩⟩
      simp only [i10, ↓reduceIte, a1, c8]
/-- from the call on -/
theorem m_endsW (hK : KM σ mo) (gE : GE E) (hE : REm δ mo E) (hR : RIm δ mo E I) (hG : GI E st I) (hst : st ≤ 90000) (hX : XI E B I) (hB : B ≤ 1830) (hfl : v_fl (i_V I) = false) (hn : (n0 : Int) = s_nv (v_S (i_V I))) : Ok (m_X12_ends_b25 σ mo (ii 0) δ) (MAns E I n0 δ mo) := by
  unfold m_X12_ends_b25
  refine Ok_for (fun z s => s.1 = ii z ∧ (∀ k : Nat, (k : Int) < z → s.2.1 (mo + 2) k = δ.1 (mo + 1) k) ∧ Fr (fun r => r = mo + 2) δ s.2) 0 9863 (by omega) (by omega) ?_ ?_ ⟨rfl, fun k hk => absurd hk (by omega), Fr.rf⟩
  · rintro z ⟨s1, d⟩ z0 z1 ⟨hs, hv, hF⟩
    dsimp only at hs hv hF ⊢
    subst hs
    have c1 : ((9863 : Int32) ≤ ii z) = False := by
      rw [show ((9863 : Int32)) = ii 9863 from rfl, ii_le (by omega) (by omega) (by omega) (by omega)]
      exact eq_false (by omega)
    have a1 : ii z + (1 : Int32) = ii (z + 1) := by rw [show ((1 : Int32)) = ii 1 from rfl, ii_add]
    have y : rI σ d (mo + 1) (ii z) = some (δ.1 (mo + 1) z.toNat) := rst (md0 hK) z0 (by omega) rfl (by rw [(hF _ (by omega)).1])
    obtain ⟨d1, w1, v1, o1, F1⟩ := wI_ex (δ := d) (r := mo + 2) (z := z) (k := z.toNat) (x := δ.1 (mo + 1) z.toNat) (md1 hK) z0 (by omega) rfl
    refine Ok_inl (s' := (ii (z + 1), d1)) (by simp only [c1, ↓reduceIte, mg0 hK, mg1 hK, ob_some, y, w1, a1]) ⟨rfl, fun k hk => ?_, hF.tr F1⟩
    by_cases ck : k = z.toNat
    · rw [ck]; exact v1
    · rw [o1 k ck]; exact hv k (by omega)
  · rintro ⟨s1, d⟩ ⟨hs, hv, hF⟩
    dsimp only at hs hv hF ⊢
    subst hs
    have c1 : ((9863 : Int32) ≤ ii 9863) = True := eq_true (by decide)
    have hz : Ok (m_X12_ends_b52 σ mo (ii 0) d) (MAns E I n0 δ mo) := by
      unfold m_X12_ends_b52
      refine Ok_for (fun z s => s.1 = ii z ∧ (∀ k : Nat, (k : Int) < z → s.2.1 (mo + 32) k = 0) ∧ Fr (fun r => r = mo + 32) d s.2) 0 70 (by omega) (by omega) ?_ ?_ ⟨rfl, fun k hk => absurd hk (by omega), Fr.rf⟩
      · rintro z ⟨s1, x⟩ z0 z1 ⟨hs, hv2, hF2⟩
        dsimp only at hs hv2 hF2 ⊢
        subst hs
        have c2 : ((70 : Int32) ≤ ii z) = False := by
          rw [show ((70 : Int32)) = ii 70 from rfl, ii_le (by omega) (by omega) (by omega) (by omega)]
          exact eq_false (by omega)
        have a1 : ii z + (1 : Int32) = ii (z + 1) := by rw [show ((1 : Int32)) = ii 1 from rfl, ii_add]
        obtain ⟨x1, w1, v1, o1, F1⟩ := wI_ex (δ := x) (r := mo + 32) (z := z) (k := z.toNat) (x := 0) (md42 hK) z0 (by omega) rfl
        refine Ok_inl (s' := (ii (z + 1), x1)) (by simp only [c2, ↓reduceIte, mg42 hK, ob_some, w1, a1]) ⟨rfl, fun k hk => ?_, hF2.tr F1⟩
        by_cases ck : k = z.toNat
        · rw [ck]; exact v1
        · rw [o1 k ck]; exact hv2 k (by omega)
      · rintro ⟨s1, x⟩ ⟨hs, hv2, hF2⟩
        dsimp only at hs hv2 hF2 ⊢
        subst hs
        have c2 : ((70 : Int32) ≤ ii 70) = True := eq_true (by decide)
        have FF : Fr (fun r => r = mo + 2 ∨ r = mo + 32) δ x := (hF.wk (fun q p => Or.inl p)).tr (hF2.wk (fun q p => Or.inr p))
        have y0 : rI σ x (mo + 1) (0 : Int32) = some (ii (n0 : Int)) := rst (z := 0) (k := 0) (md0 hK) (by omega) (by omega) (by omega) (by rw [(FF _ (by omega)).1, hn]; exact hR.1.1)
        obtain ⟨x1, w1, v1, o1, F1⟩ := pI_ex (δ := x) (r := mo) (k := 49) (x := ii (n0 : Int)) hK.1
        obtain ⟨x2, w2, v2, o2, F2⟩ := pI_ex (δ := x1) (r := mo) (k := 47) (x := 0) hK.1
        obtain ⟨x3, w3, v3, o3, F3⟩ := pZ_ex (δ := x2) (r := mo) (k := 41) (x := 1) hK.1 (Or.inr rfl)
        have F13 : Fr (fun r => r = mo) x x3 := F1.tr (F2.tr F3)
        have hME : MEnd δ x3 mo n0 [] := by
          refine ⟨fun k hk => by rw [(F13 _ (by omega)).1, (FF _ (by omega)).1], fun k hk => by rw [(F13 _ (by omega)).1, (hF2 _ (by omega)).1]; exact hv k (by omega), v3, by rw [o3 49 (by decide), o2 49 (by decide)]; exact v1, by rw [o3 47 (by decide)]; exact v2, fun r y hy => (by cases hy), (FF.wk (fun q p => by unfold PMe; omega)).tr (F13.wk (fun q p => by unfold PMe; omega)), fun k hk => ?_⟩
          rw [o3 k (fun h => hk (by unfold kMe; omega)), o2 k (fun h => hk (by unfold kMe; omega)), o1 k (fun h => hk (by unfold kMe; omega)), (FF mo (by omega)).1]
        obtain ⟨r, er, hr⟩ := m_endsL hK gE hE hR hG hst hX hB hfl hn hME ⟨fun _ => 0, ⟨rfl, rfl⟩, fun k hk => by rw [(F13 _ (by omega)).1, hv2 k (by omega)]; rfl⟩
        have er' : m_X12_ends_b95 σ mo (0 : Int32) (1 : Int32) x3 = some r := er
        exact Ok_inr (r := r) (by simp only [c2, ↓reduceIte, mg0 hK, ob_some, y0, w1, w2, w3, er']) hr
    obtain ⟨r, er, hr⟩ := hz
    have er' : m_X12_ends_b52 σ mo (0 : Int32) d = some r := er
    exact Ok_inr (r := r) (by simp only [c1, ↓reduceIte, er', ob_some]) hr
end
