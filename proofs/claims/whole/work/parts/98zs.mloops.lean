/-! THE LAW: all ends of a step in the reference: its loops -/
def cellM (e : ERc) (j : Nat) : Int32 := if j = 0 then bi e.1 else if j < 61 then ii (e.2.1.getD (j - 1) 0) else if j = 61 then ii e.2.2.length else ii (e.2.2.getD (j - 62) 0)
/-- the end that is laid -/
def RMl (δ : Dy) (mo : Nat) (e : ERc) : Prop := ∀ j, j < 62 + e.2.2.length → δ.1 (mo + 36) j = cellM e j
/-- an end that is kept -/
def RMr (δ : Dy) (mo r : Nat) (e : ERc) : Prop := ∀ j, j < 62 + e.2.2.length → δ.1 (mo + 34) (170 * r + j) = cellM e j
section
variable {σ : St} {δ d : Dy} {mo n0 r : Nat} {E : Ev} {I : Iw} {e e' : ERc} {es : List ERc} {ch : Nat → Nat} {lg : List Int}
theorem RIm_lt (h : RIm δ mo E I) (hG : GS (v_S (i_V I))) (hh : (v_hi (i_V I)).length ≤ 2000) (hn : (i_nx I).length ≤ 60) (est : ∀ k, k < 9863 → d.1 (mo + 1) k = δ.1 (mo + 1) k) : RIm d mo E I := by
  obtain ⟨a1, a2, a3, ⟨b1, b2, b3, b4⟩, a5, a6, a7⟩ := h
  exact ⟨RSm_eq a1 hG (fun k k1 => est k (by omega)), RMh_eq a2 (fun k k1 k2 => est k (by omega)) hh, fun w hw => by rw [est _ (by omega)]; exact a3 w hw, ⟨by rw [est _ (by omega)]; exact b1, fun k hk => by rw [est _ (by omega)]; exact b2 k hk, fun z hz => by rw [est _ (by omega)]; exact b3 z hz, by rw [est _ (by omega)]; exact b4⟩, by rw [est _ (by omega)]; exact a5, by rw [est _ (by omega)]; exact a6, fun j a ha => RNx_eq (a7 j a ha) (fun k k1 k2 => est k (by have := (List.getElem?_eq_some_iff.mp ha).1; omega))⟩
/-- the state is put back -/
theorem m_restore (hK : KM σ mo) : Ok (m_X12_restore σ mo δ) (fun d => (∀ k, k < 9863 → d.1 (mo + 1) k = δ.1 (mo + 2) k) ∧ Fr (fun r => r = mo + 1) δ d) := by
  unfold m_X12_restore m_X12_restore_b2
  refine Ok_for (fun z s => s.1 = ii z ∧ (∀ k : Nat, (k : Int) < z → s.2.1 (mo + 1) k = δ.1 (mo + 2) k) ∧ Fr (fun r => r = mo + 1) δ s.2) 0 9863 (by omega) (by omega) ?_ ?_ ⟨rfl, fun k hk => absurd hk (by omega), Fr.rf⟩
  · rintro z ⟨s1, d⟩ z0 z1 ⟨hs, hv, hF⟩
    dsimp only at hs hv hF ⊢
    subst hs
    have c1 : ((9863 : Int32) ≤ ii z) = False := by
      rw [show ((9863 : Int32)) = ii 9863 from rfl, ii_le (by omega) (by omega) (by omega) (by omega)]
      exact eq_false (by omega)
    have a1 : ii z + (1 : Int32) = ii (z + 1) := by rw [show ((1 : Int32)) = ii 1 from rfl, ii_add]
    have y : rI σ d (mo + 2) (ii z) = some (δ.1 (mo + 2) z.toNat) := rst (md1 hK) z0 (by omega) rfl (by rw [(hF _ (by omega)).1])
    obtain ⟨d1, w1, v1, o1, F1⟩ := wI_ex (δ := d) (r := mo + 1) (z := z) (k := z.toNat) (x := δ.1 (mo + 2) z.toNat) (md0 hK) z0 (by omega) rfl
    refine Ok_inl (s' := (ii (z + 1), d1)) (by simp only [c1, ↓reduceIte, mg0 hK, mg1 hK, ob_some, y, w1, a1]) ⟨rfl, fun k hk => ?_, hF.tr F1⟩
    by_cases ck : k = z.toNat
    · rw [ck]; exact v1
    · rw [o1 k ck]; exact hv k (by omega)
  · rintro ⟨s1, d⟩ ⟨hs, hv, hF⟩
    dsimp only at hs hv hF ⊢
    subst hs
    have c1 : ((9863 : Int32) ≤ ii 9863) = True := eq_true (by decide)
    exact Ok_inr (r := d) (by simp only [c1, ↓reduceIte]) ⟨fun k hk => hv k (by omega), hF⟩
/-- the next schedule -/
theorem m_nextS (hK : KM σ mo) (hl : lg.length ≤ 69) (h44 : δ.1 mo 44 = ii lg.length) (hc : ∀ k, k < 70 → δ.1 (mo + 32) k = ii (ch k)) (hs : ∀ (k : Nat) (x : Int), lg[k]? = some x → δ.1 (mo + 33) k = ii x) (hr : ∀ (j : Nat) (s : Int), lg[j]? = some s → 1 ≤ s ∧ s ≤ 121 ∧ (ch j : Int) < s) (ht : ∀ k, lg.length ≤ k → ch k = 0) : Ok (m_X12_nextSchedule σ mo δ) (fun x => ((x.1 = 0 ∧ NoNx lg ch) ∨ (x.1 = 1 ∧ ∃ i, Nx lg ch i ∧ ∀ k, k < 70 → x.2.1 (mo + 32) k = ii (bumpC ch i k))) ∧ Fr (fun r => r = mo + 32) δ x.2) := by
  have x44 : gI σ δ 12 mo 44 = some (ii (lg.length : Int)) := by rw [gI_ko hK.1, h44]
  have e0 : ii (lg.length : Int) - (1 : Int32) = ii ((lg.length : Int) - 1) := by rw [show ((1 : Int32)) = ii 1 from rfl, ii_sub]
  unfold m_X12_nextSchedule m_X12_nextSchedule_b7
  rw [x44, ob_some, e0]
  refine Ok_lpi (fun n s => s.1 = ii ((n : Int) - 1) ∧ n ≤ lg.length ∧ (∀ k, k < 70 → s.2.1 (mo + 32) k = ii (if k < n then ch k else 0 : Nat)) ∧ (∀ (j : Nat) (s : Int), n ≤ j → lg[j]? = some s → ¬ (ch j : Int) + 1 < s) ∧ Fr (fun r => r = mo + 32) δ s.2) ?_ (n := lg.length) ⟨rfl, Nat.le_refl _, fun k hk => ?_, fun j s hj hj2 => absurd (List.getElem?_eq_some_iff.mp hj2).1 (by omega), Fr.rf⟩ (by omega)
  · rintro n ⟨s1, d⟩ ⟨hs1, hn, hv, hno, hF⟩
    dsimp only at hs1 hv hno hF ⊢
    subst hs1
    match n with
    | 0 =>
      have c0 : (ii (((0 : Nat) : Int) - 1) < (0 : Int32)) = True := eq_true (by decide)
      have c1 : ((0 : Int32) ≤ ii (((0 : Nat) : Int) - 1)) = False := eq_false (by decide)
      exact Ok_inr (r := ((0 : Int32), d)) (by simp only [c0, ↓reduceIte, m_X12_nextSchedule_b41, c1, ob_some]) ⟨Or.inl ⟨rfl, fun j s hj => hno j s (Nat.zero_le _) hj⟩, hF⟩
    | n + 1 =>
      rw [show (((n + 1 : Nat) : Int) - 1) = (n : Int) by omega]
      obtain ⟨s, hsn⟩ : ∃ s, lg[n]? = some s := ⟨_, List.getElem?_eq_getElem (show n < lg.length by omega)⟩
      obtain ⟨r1, r2, r3⟩ := hr _ _ hsn
      have c0 : (ii (n : Int) < (0 : Int32)) = False := by
        rw [show ((0 : Int32)) = ii 0 from rfl, ii_lt (by omega) (by omega) (by omega) (by omega)]
        exact eq_false (by omega)
      have c0' : ((0 : Int32) ≤ ii (n : Int)) = True := by
        rw [show ((0 : Int32)) = ii 0 from rfl, ii_le (by omega) (by omega) (by omega) (by omega)]
        exact eq_true (by omega)
      have hvn : d.1 (mo + 32) n = ii (ch n : Nat) := by rw [hv n (by omega), if_pos (by omega)]
      have y1 : rI σ d (mo + 32) (ii n) = some (ii (ch n : Nat)) := rst (z := n) (k := n) (md42 hK) (by omega) (by omega) (by omega) hvn
      have y2 : rI σ d (mo + 33) (ii n) = some (ii s) := rst (z := n) (k := n) (md43 hK) (by omega) (by omega) (by omega) (by rw [(hF _ (by omega)).1]; exact hs n s hsn)
      have a1 : ii ((ch n : Nat) : Int) + (1 : Int32) = ii (((ch n : Nat) : Int) + 1) := by rw [show ((1 : Int32)) = ii 1 from rfl, ii_add]
      have a3 : ii (n : Int) + (-1 : Int32) = ii ((n : Int) - 1) := by
        rw [show ((-1 : Int32)) = ii (-1) from rfl, ii_add]
        rfl
      by_cases c : (ch n : Int) + 1 < s
      · have cc : (ii (((ch n : Nat) : Int) + 1) < ii s) = True := by
          rw [ii_lt (by omega) (by omega) (by omega) (by omega)]
          exact eq_true c
        obtain ⟨d1, w1, v1, o1, F1⟩ := wI_ex (δ := d) (r := mo + 32) (z := n) (k := n) (x := ii (((ch n : Nat) : Int) + 1)) (md42 hK) (by omega) (by omega) (by omega)
        refine Ok_inr (r := ((1 : Int32), d1)) ?_ ⟨Or.inr ⟨rfl, n, ⟨⟨s, hsn, c⟩, fun j t hj ht2 => hno j t hj ht2⟩, fun k hk => ?_⟩, hF.tr F1⟩
        · simp only [c0, ↓reduceIte, mg42 hK, mg43 hK, ob_some, y1, y2, a1, cc, m_X12_nextSchedule_b41, c0', w1]
        · unfold bumpC
          dsimp only
          by_cases ck : k = n
          · rw [ck, v1, if_neg (Nat.lt_irrefl _), if_pos rfl]
            rfl
          · rw [o1 k ck, hv k hk]
            by_cases ck2 : k < n
            · rw [if_pos (by omega), if_pos ck2]
            · rw [if_neg (by omega), if_neg ck2, if_neg ck]
      · have cc : (ii (((ch n : Nat) : Int) + 1) < ii s) = False := by
          rw [ii_lt (by omega) (by omega) (by omega) (by omega)]
          exact eq_false c
        obtain ⟨d1, w1, v1, o1, F1⟩ := wI_ex (δ := d) (r := mo + 32) (z := n) (k := n) (x := 0) (md42 hK) (by omega) (by omega) (by omega)
        refine Ok_inl (s' := (ii ((n : Int) - 1), d1)) ?_ ⟨n, by omega, rfl, by omega, fun k hk => ?_, fun j t hj ht2 => ?_, hF.tr F1⟩
        · simp only [c0, ↓reduceIte, mg42 hK, mg43 hK, ob_some, y1, y2, a1, cc, w1, a3]
        · by_cases ck : k = n
          · rw [ck, if_neg (Nat.lt_irrefl _)]; exact v1
          · rw [o1 k ck, hv k hk]
            by_cases ck2 : k < n
            · rw [if_pos (by omega), if_pos ck2]
            · rw [if_neg (by omega), if_neg ck2]
        · by_cases cj : j = n
          · rw [cj, hsn] at ht2
            rw [cj, ← Option.some.inj ht2]; exact c
          · exact hno j t (by omega) ht2
  · rw [hc k hk]
    by_cases ck : k < lg.length
    · rw [if_pos ck]
    · rw [if_neg ck, ht k (by omega)]
end
