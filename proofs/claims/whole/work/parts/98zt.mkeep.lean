/-! THE LAW: the reference keeps an end -/
theorem cellM_v {e : ERc} {i : Nat} (h : i < 60) : cellM e (i + 1) = ii (e.2.1.getD i 0) := by
  unfold cellM
  rw [if_neg (by omega), if_pos (by omega), Nat.add_sub_cancel]
theorem cellM_c {e : ERc} {i : Nat} : cellM e (62 + i) = ii (e.2.2.getD i 0) := by
  unfold cellM
  rw [if_neg (by omega), if_neg (by omega), if_neg (by omega), show 62 + i - 62 = i by omega]
theorem cellM_inj {n0 : Nat} {e e' : ERc} (g : gER n0 e) (g' : gER n0 e') (hl : e'.2.2.length = e.2.2.length) (h : ∀ j, j < 62 + e.2.2.length → cellM e' j = cellM e j) : e' = e := by
  obtain ⟨⟨a1, a2, a3⟩, a4, a5⟩ := g
  obtain ⟨⟨b1, b2, b3⟩, b4, b5⟩ := g'
  have e1 : e'.1 = e.1 := by
    have := h 0 (by omega)
    exact bi_inj this
  have e2 : e'.2.1 = e.2.1 := by
    refine list_ext (by omega) (fun i hi => ?_)
    have := h (i + 1) (by omega)
    rw [cellM_v (by omega), cellM_v (by omega)] at this
    have q1 := List.getElem?_eq_getElem hi
    have q2 := List.getElem?_eq_getElem (show i < e.2.1.length by omega)
    have m1 := b3 _ (List.mem_of_getElem? q1)
    have m2 := a3 _ (List.mem_of_getElem? q2)
    rw [getD_some q1, getD_some q2] at this ⊢
    rw [ii_eq (by omega) (by omega) (by omega) (by omega)] at this
    exact this
  have e3 : e'.2.2 = e.2.2 := by
    refine list_ext hl (fun i hi => ?_)
    have := h (62 + i) (by omega)
    rw [cellM_c, cellM_c] at this
    have q1 := List.getElem?_eq_getElem hi
    have q2 := List.getElem?_eq_getElem (show i < e.2.2.length by omega)
    have m1 := b5 _ (List.mem_of_getElem? q1)
    have m2 := a5 _ (List.mem_of_getElem? q2)
    rw [getD_some q1, getD_some q2] at this ⊢
    rw [ii_eq (by omega) (by omega) (by omega) (by omega)] at this
    exact this
  exact Prod.ext e1 (Prod.ext e2 e3)
theorem cellM_61 {e : ERc} : cellM e 61 = ii e.2.2.length := rfl
section
variable {σ : St} {δ d : Dy} {mo n0 r c : Nat} {e e' : ERc} {es : List ERc}
theorem m_isE (hK : KM σ mo) (hr : r < 8) (hl : RMl δ mo e) (hk : RMr δ mo r e') (g : gER n0 e) (g' : gER n0 e') : m_X12_isEnd σ mo (ii (r : Int)) δ = some (if e' = e then 1 else 0) := by
  have g4 := g.2.1
  have g4' := g'.2.1
  have x61 : rI σ δ (mo + 36) (61 : Int32) = some (ii (e.2.2.length : Int)) := rst (z := 61) (k := 61) (md48 hK) (by omega) (by omega) (by omega) (by rw [hl 61 (by omega)]; rfl)
  have a62 : (62 : Int32) + ii (e.2.2.length : Int) = ii (((62 + e.2.2.length : Nat)) : Int) := by
    rw [show ((62 : Int32)) = ii 62 from rfl, ii_add]
    exact congrArg ii (by omega)
  have key : Ok (m_X12_isEnd σ mo (ii (r : Int)) δ) (fun v => (v = 1 ∧ ∀ j, j < 62 + e.2.2.length → δ.1 (mo + 34) (170 * r + j) = cellM e j) ∨ (v = 0 ∧ ∃ j, j < 62 + e.2.2.length ∧ ¬ δ.1 (mo + 34) (170 * r + j) = cellM e j)) := by
    unfold m_X12_isEnd m_X12_isEnd_b4
    refine Ok_lpi (fun n s => ∃ j, n + j = 62 + e.2.2.length ∧ s.2 = ii (j : Int) ∧ ((s.1 = 1 ∧ ∀ i, i < j → δ.1 (mo + 34) (170 * r + i) = cellM e i) ∨ (s.1 = 0 ∧ ∃ i, i < 62 + e.2.2.length ∧ ¬ δ.1 (mo + 34) (170 * r + i) = cellM e i))) ?_ (n := 62 + e.2.2.length) ⟨0, rfl, rfl, Or.inl ⟨rfl, fun i hi => absurd hi (by omega)⟩⟩ (by omega)
    rintro n ⟨f, s2⟩ ⟨j, hnj, hs2, hcase⟩
    dsimp only at hs2 hcase ⊢
    subst hs2
    rcases hcase with ⟨hf, hall⟩ | ⟨hf, hdif⟩
    · subst hf
      by_cases c : 62 + e.2.2.length ≤ j
      · have cc : (ii (((62 + e.2.2.length : Nat)) : Int) ≤ ii (j : Int)) = True := by
          rw [ii_le (by omega) (by omega) (by omega) (by omega)]
          exact eq_true (by omega)
        refine Ok_inr (r := (1 : Int32)) ?_ (Or.inl ⟨rfl, fun i hi => hall i (by omega)⟩)
        simp only [mg48 hK, ob_some, x61, a62, cc, ↓reduceIte]
        rfl
      · have cc : (ii (((62 + e.2.2.length : Nat)) : Int) ≤ ii (j : Int)) = False := by
          rw [ii_le (by omega) (by omega) (by omega) (by omega)]
          exact eq_false (by omega)
        have a170 : (170 : Int32) * ii (r : Int) + ii (j : Int) = ii (((170 * r + j : Nat)) : Int) := by
          rw [show ((170 : Int32)) = ii 170 from rfl, ii_mul, ii_add]
          exact congrArg ii (by omega)
        have a1 : ii (j : Int) + (1 : Int32) = ii (((j + 1 : Nat)) : Int) := by
          rw [show ((1 : Int32)) = ii 1 from rfl, ii_add]
          exact congrArg ii (by omega)
        have y1 : rI σ δ (mo + 34) (ii (((170 * r + j : Nat)) : Int)) = some (δ.1 (mo + 34) (170 * r + j)) := rst (k := 170 * r + j) (md45 hK) (by omega) (by omega) (by omega) rfl
        have y2 : rI σ δ (mo + 36) (ii (j : Int)) = some (cellM e j) := rst (k := j) (md48 hK) (by omega) (by omega) (by omega) (hl j (by omega))
        by_cases q : δ.1 (mo + 34) (170 * r + j) = cellM e j
        · refine Ok_inl (s' := ((1 : Int32), ii (((j + 1 : Nat)) : Int))) ?_ ⟨n - 1, by omega, j + 1, by omega, rfl, Or.inl ⟨rfl, fun i hi => ?_⟩⟩
          · simp only [mg48 hK, mg45 hK, ob_some, x61, a62, cc, ↓reduceIte, i10, a170, y1, y2, eq_true q, m_X12_isEnd_b48, a1]
          · by_cases ci : i = j
            · rw [ci]; exact q
            · exact hall i (by omega)
        · refine Ok_inl (s' := ((0 : Int32), ii (((j + 1 : Nat)) : Int))) ?_ ⟨n - 1, by omega, j + 1, by omega, rfl, Or.inr ⟨rfl, j, by omega, q⟩⟩
          simp only [mg48 hK, mg45 hK, ob_some, x61, a62, cc, ↓reduceIte, i10, a170, y1, y2, eq_false q, m_X12_isEnd_b48, a1]
    · subst hf
      refine Ok_inr (r := (0 : Int32)) ?_ (Or.inr ⟨rfl, hdif⟩)
      simp only [mg48 hK, ob_some, x61, a62, ↓reduceIte, show zo (0 : Int32) = some () from rfl, ite_self]
  obtain ⟨v, ev, hv⟩ := key
  rw [ev]
  rcases hv with ⟨h1, h2⟩ | ⟨h1, j, h2, h3⟩
  · have hlen : e'.2.2.length = e.2.2.length := by
      have q1 := h2 61 (by omega)
      rw [hk 61 (by omega), cellM_61, cellM_61, ii_eq (by omega) (by omega) (by omega) (by omega)] at q1
      omega
    rw [if_pos (cellM_inj g g' hlen (fun j hj => by rw [← hk j (by omega)]; exact h2 j hj)), h1]
  · rw [if_neg (fun (q : e' = e) => h3 (by rw [← q]; exact hk j (by rw [q]; exact h2))), h1]
theorem m_keepE (hK : KM σ mo) (hc : es.length < 8) (h47 : δ.1 mo 47 = ii es.length) (hl : RMl δ mo e) (hk : ∀ (r : Nat) (x : ERc), es[r]? = some x → RMr δ mo r x ∧ gER n0 x) (g : gER n0 e) : Ok (m_X12_keepEnd σ mo δ) (fun d => d.1 mo 47 = ii (addEnd es e).length ∧ (∀ (r : Nat) (x : ERc), (addEnd es e)[r]? = some x → RMr d mo r x ∧ gER n0 x) ∧ (∀ j, ¬ j = 47 → d.1 mo j = δ.1 mo j) ∧ Fr (fun q => q = mo ∨ q = mo + 34) δ d) := by
  have g4 := g.2.1
  have x47 : gI σ δ 12 mo 47 = some (ii (es.length : Int)) := by rw [gI_ko hK.1, h47]
  have x61 : ∀ d : Dy, d.1 (mo + 36) = δ.1 (mo + 36) → rI σ d (mo + 36) (61 : Int32) = some (ii (e.2.2.length : Int)) := fun d hd => rst (z := 61) (k := 61) (md48 hK) (by omega) (by omega) (by omega) (by rw [hd, hl 61 (by omega)]; rfl)
  have a62 : (62 : Int32) + ii (e.2.2.length : Int) = ii (((62 + e.2.2.length : Nat)) : Int) := by
    rw [show ((62 : Int32)) = ii 62 from rfl, ii_add]
    exact congrArg ii (by omega)
  -- a new one is copied
  have copy : (¬ e ∈ es) → Ok (m_X12_keepEnd_b27 σ mo (ii 0) δ) (fun d => d.1 mo 47 = ii (addEnd es e).length ∧ (∀ (r : Nat) (x : ERc), (addEnd es e)[r]? = some x → RMr d mo r x ∧ gER n0 x) ∧ (∀ j, ¬ j = 47 → d.1 mo j = δ.1 mo j) ∧ Fr (fun q => q = mo ∨ q = mo + 34) δ d) := by
    intro hmem
    unfold m_X12_keepEnd_b27
    refine Ok_for (fun z s => s.1 = ii z ∧ (∀ j : Nat, (j : Int) < z → s.2.1 (mo + 34) (170 * es.length + j) = cellM e j) ∧ CeF (mo + 34) (170 * es.length) 170 δ s.2) 0 (((62 + e.2.2.length : Nat)) : Int) (by omega) (by omega) ?_ ?_ ⟨rfl, fun j hj => absurd hj (by omega), CeF.rf⟩
    · rintro z ⟨s1, d⟩ z0 z1 ⟨hs, hv, hC⟩
      dsimp only at hs hv hC ⊢
      subst hs
      have cc : (ii (((62 + e.2.2.length : Nat)) : Int) ≤ ii z) = False := by
        rw [ii_le (by omega) (by omega) (by omega) (by omega)]
        exact eq_false (by omega)
      have y0 := x61 d (hC.2 _ (by omega)).1
      have y1 : gI σ d 12 mo 47 = some (ii (es.length : Int)) := by rw [gI_ko hK.1, (hC.2 mo (by omega)).1, h47]
      have y2 : rI σ d (mo + 36) (ii z) = some (cellM e z.toNat) := rst (k := z.toNat) (md48 hK) z0 (by omega) rfl (by rw [(hC.2 _ (by omega)).1]; exact hl _ (by omega))
      have a170 : (170 : Int32) * ii (es.length : Int) + ii z = ii (((170 * es.length : Nat) : Int) + z) := by
        rw [show ((170 : Int32)) = ii 170 from rfl, ii_mul, ii_add]
        exact congrArg ii (by omega)
      have a1 : ii z + (1 : Int32) = ii (z + 1) := by rw [show ((1 : Int32)) = ii 1 from rfl, ii_add]
      obtain ⟨d1, w1, v1, o1, F1⟩ := wI_ex (δ := d) (r := mo + 34) (z := ((170 * es.length : Nat) : Int) + z) (k := 170 * es.length + z.toNat) (x := cellM e z.toNat) (md45 hK) (by omega) (by omega) (by omega)
      refine Ok_inl (s' := (ii (z + 1), d1)) ?_ ⟨rfl, fun j hj => ?_, hC.tr (CeF_w (v := 0) o1 F1 (by omega))⟩
      · simp only [mg48 hK, mg45 hK, ob_some, y0, a62, cc, ↓reduceIte, y1, y2, a170, w1, a1]
      · by_cases cj : j = z.toNat
        · rw [cj]; exact v1
        · rw [o1 _ (by omega)]; exact hv j (by omega)
    · rintro ⟨s1, d⟩ ⟨hs, hv, hC⟩
      dsimp only at hs hv hC ⊢
      subst hs
      have cc : (ii (((62 + e.2.2.length : Nat)) : Int) ≤ ii (((62 + e.2.2.length : Nat)) : Int)) = True := by
        rw [ii_le (by omega) (by omega) (by omega) (by omega)]
        exact eq_true (Int.le_refl _)
      have y0 := x61 d (hC.2 _ (by omega)).1
      have y1 : gI σ d 12 mo 47 = some (ii (es.length : Int)) := by rw [gI_ko hK.1, (hC.2 mo (by omega)).1, h47]
      have a1 : ii (es.length : Int) + (1 : Int32) = ii ((es.length : Int) + 1) := by rw [show ((1 : Int32)) = ii 1 from rfl, ii_add]
      obtain ⟨d1, w1, v1, o1, F1⟩ := pI_ex (δ := d) (r := mo) (k := 47) (x := ii ((es.length : Int) + 1)) hK.1
      have hadd : addEnd es e = es ++ [e] := by unfold addEnd; rw [if_neg hmem]
      refine Ok_inr (r := d1) ?_ ⟨?_, fun r x hx => ?_, fun j hj => by rw [o1 j hj, (hC.2 mo (by omega)).1], (hC.2.wk (fun q p => Or.inr p)).tr (F1.wk (fun q p => Or.inl p))⟩
      · simp only [mg48 hK, ob_some, y0, a62, cc, ↓reduceIte, y1, a1, w1]
      · rw [v1, hadd, List.length_append, List.length_singleton]
        rfl
      · rw [hadd] at hx
        by_cases cr : r < es.length
        · rw [List.getElem?_append_left cr] at hx
          obtain ⟨b1, b2⟩ := hk r x hx
          have := b2.2.1
          refine ⟨fun j hj => ?_, b2⟩
          rw [(F1 _ (by omega)).1, hC.1 _ (by omega)]
          exact b1 j hj
        · have hlr := (List.getElem?_eq_some_iff.mp hx).1
          rw [List.length_append, List.length_singleton] at hlr
          have hrc : r = es.length := by omega
          rw [List.getElem?_append_right (by omega), hrc, Nat.sub_self] at hx
          have hx' : e = x := Option.some.inj hx
          rw [← hx', hrc]
          exact ⟨fun j hj => by rw [(F1 _ (by omega)).1]; exact hv j (by omega), g⟩
  unfold m_X12_keepEnd m_X12_keepEnd_b2
  refine Ok_for (fun z s => s = ii z ∧ ∀ (j : Nat) (x : ERc), (j : Int) < z → es[j]? = some x → ¬ x = e) 0 es.length (by omega) (by omega) ?_ ?_ ⟨rfl, fun j x hj => absurd hj (by omega)⟩
  · rintro z s z0 z1 ⟨hs, hj⟩
    subst hs
    obtain ⟨x, hx⟩ : ∃ x, es[z.toNat]? = some x := ⟨_, List.getElem?_eq_getElem (show z.toNat < es.length by omega)⟩
    obtain ⟨b1, b2⟩ := hk _ _ hx
    have c1 : (ii (es.length : Int) ≤ ii z) = False := by
      rw [ii_le (by omega) (by omega) (by omega) (by omega)]
      exact eq_false (by omega)
    have e1 := m_isE hK (by omega) hl b1 g b2
    rw [show ((z.toNat : Nat) : Int) = z by omega] at e1
    have a1 : ii z + (1 : Int32) = ii (z + 1) := by rw [show ((1 : Int32)) = ii 1 from rfl, ii_add]
    by_cases q : x = e
    · rw [if_pos q] at e1
      have hadd : addEnd es e = es := by unfold addEnd; rw [if_pos (q ▸ List.mem_of_getElem? hx)]
      refine Ok_inr (r := δ) ?_ ⟨by rw [hadd]; exact h47, by rw [hadd]; exact hk, fun _ _ => rfl, Fr.rf⟩
      simp only [x47, ob_some, c1, ↓reduceIte, chk_ko hK.1, e1, i10]
    · rw [if_neg q] at e1
      refine Ok_inl (s' := ii (z + 1)) ?_ ⟨rfl, fun j y hj2 hy => ?_⟩
      · simp only [x47, ob_some, c1, ↓reduceIte, chk_ko hK.1, e1, a1]
      · by_cases cj : j = z.toNat
        · rw [cj, hx] at hy
          rw [← Option.some.inj hy]; exact q
        · exact hj j y (by omega) hy
  · rintro s ⟨hs, hj⟩
    subst hs
    have c1 : (ii (es.length : Int) ≤ ii (es.length : Int)) = True := by
      rw [ii_le (by omega) (by omega) (by omega) (by omega)]
      exact eq_true (Int.le_refl _)
    obtain ⟨d1, w1, hh⟩ := copy (fun hm => by
      obtain ⟨j, hjl, hje⟩ := List.getElem_of_mem hm
      exact hj j e (by omega) (by rw [List.getElem?_eq_getElem hjl, hje]) rfl)
    have w1' : m_X12_keepEnd_b27 σ mo (0 : Int32) δ = some d1 := w1
    exact Ok_inr (r := d1) (by simp only [x47, ob_some, c1, ↓reduceIte, w1']) hh
end
