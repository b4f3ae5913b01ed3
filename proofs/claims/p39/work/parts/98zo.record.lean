/-! THE LAW: the class records an end -/
def RTr (δ : Dy) (r : Nat) (e : ERc) : Prop := δ.1 12 (162 * r) = bi e.1 ∧ δ.1 12 (162 * r + 1) = ii e.2.2.length ∧ (∀ i, i < 60 → δ.1 12 (162 * r + 2 + i) = ii (e.2.1.getD i 0)) ∧ ∀ i, i < 100 → δ.1 12 (162 * r + 62 + i) = ii ((e.2.2.map gC).getD i 0)
def gER (n0 : Nat) (e : ERc) : Prop := (e.2.1.length = n0 ∧ n0 ≤ 60 ∧ ∀ y ∈ e.2.1, -100 ≤ y ∧ y ≤ 100) ∧ e.2.2.length ≤ 100 ∧ ∀ y ∈ e.2.2, 0 ≤ y ∧ y < 4320000 ∧ 0 ≤ gC y ∧ gC y < 13000000
def addEnd (es : List ERc) (e : ERc) : List ERc := if e ∈ es then es else es ++ [e]
theorem bi_inj {a b : Bool} (h : bi a = bi b) : a = b := by
  cases a <;> cases b <;> first | rfl | exact absurd h (by decide)
theorem getD_some {l : List Int} {i : Nat} {y : Int} (h : l[i]? = some y) : l.getD i 0 = y := by
  rw [List.getD_eq_getElem?_getD, h]; rfl
theorem getD_none {l : List Int} {i : Nat} (h : l.length ≤ i) : l.getD i 0 = 0 := by
  rw [List.getD_eq_getElem?_getD, List.getElem?_eq_none h]; rfl
theorem list_ext {l k : List Int} (hl : l.length = k.length) (h : ∀ i, i < l.length → l.getD i 0 = k.getD i 0) : l = k := by
  refine List.ext_getElem hl (fun i h1 h2 => ?_)
  have := h i h1
  rw [getD_some (List.getElem?_eq_getElem h1), getD_some (List.getElem?_eq_getElem h2)] at this
  exact this
section
variable {σ : St} {δ d : Dy} {n0 r c : Nat} {e e' : ERc} {es : List ERc} {V : Vw} {ac : Int}
theorem gER_mk (hG : GS (v_S V)) (hn : n0 ≤ 60) (hv : (n0 : Int) ≤ s_nv (v_S V)) : gER n0 (erecE n0 V) := by
  obtain ⟨⟨g0, g1, g2, g3⟩, h1, h2, -⟩ := id hG
  refine ⟨⟨?_, hn, fun y hy => ?_⟩, ?_, fun y hy => (codsE_rng hG _ (by omega)).1 y hy⟩
  · show ((List.range n0).map (valE (v_S V))).length = n0
    rw [List.length_map, List.length_range]
  · obtain ⟨i, hi, rfl⟩ := List.mem_map.mp hy
    have hi' := List.mem_range.mp hi
    have a := h1 (i : Int) (by omega) (by omega)
    have b := h2 _ a.1 a.2
    unfold valE
    omega
  · have := (codsE_rng hG (s_nt (v_S V)).toNat (by omega)).2.2
    show (codsE (v_S V) (s_nt (v_S V)).toNat).length ≤ 100
    omega
theorem RTr_same (h : RTr δ r e) (k : RTr δ c e) : ∀ j, j < 162 → δ.1 12 (162 * r + j) = δ.1 12 (162 * c + j) := by
  obtain ⟨h1, h2, h3, h4⟩ := h
  obtain ⟨k1, k2, k3, k4⟩ := k
  intro j hj
  by_cases c0 : j = 0
  · rw [c0]; exact h1.trans k1.symm
  by_cases c1 : j = 1
  · rw [c1]; exact h2.trans k2.symm
  by_cases c2 : j < 62
  · rw [show 162 * r + j = 162 * r + 2 + (j - 2) by omega, show 162 * c + j = 162 * c + 2 + (j - 2) by omega, h3 _ (by omega), k3 _ (by omega)]
  · rw [show 162 * r + j = 162 * r + 62 + (j - 62) by omega, show 162 * c + j = 162 * c + 62 + (j - 62) by omega, h4 _ (by omega), k4 _ (by omega)]
theorem RTr_inj (h : RTr δ r e) (k : RTr δ c e') (g : gER n0 e) (g' : gER n0 e') (hj : ∀ j, j < 162 → δ.1 12 (162 * r + j) = δ.1 12 (162 * c + j)) : e = e' := by
  obtain ⟨h1, h2, h3, h4⟩ := h
  obtain ⟨k1, k2, k3, k4⟩ := k
  obtain ⟨⟨a1, a2, a3⟩, a4, a5⟩ := g
  obtain ⟨⟨b1, b2, b3⟩, b4, b5⟩ := g'
  have e1 : e.1 = e'.1 := by
    have := hj 0 (by omega)
    rw [Nat.add_zero, Nat.add_zero, h1, k1] at this
    exact bi_inj this
  have e2 : e.2.1 = e'.2.1 := by
    refine list_ext (by omega) (fun i hi => ?_)
    have := hj (2 + i) (by omega)
    rw [show 162 * r + (2 + i) = 162 * r + 2 + i by omega, show 162 * c + (2 + i) = 162 * c + 2 + i by omega, h3 i (by omega), k3 i (by omega)] at this
    have m1 := a3 _ (List.mem_of_getElem? (List.getElem?_eq_getElem hi))
    have m2 := b3 _ (List.mem_of_getElem? (List.getElem?_eq_getElem (show i < e'.2.1.length by omega)))
    rw [getD_some (List.getElem?_eq_getElem hi), getD_some (List.getElem?_eq_getElem (show i < e'.2.1.length by omega))] at this ⊢
    rw [ii_eq (by omega) (by omega) (by omega) (by omega)] at this
    exact this
  have e3 : e.2.2 = e'.2.2 := by
    have hl : e.2.2.length = e'.2.2.length := by
      have := hj 1 (by omega)
      rw [h2, k2, ii_eq (by omega) (by omega) (by omega) (by omega)] at this
      omega
    refine list_ext hl (fun i hi => ?_)
    have := hj (62 + i) (by omega)
    rw [show 162 * r + (62 + i) = 162 * r + 62 + i by omega, show 162 * c + (62 + i) = 162 * c + 62 + i by omega, h4 i (by omega), k4 i (by omega)] at this
    have q1 := List.getElem?_eq_getElem hi
    have q2 := List.getElem?_eq_getElem (show i < e'.2.2.length by omega)
    have m1 := a5 _ (List.mem_of_getElem? q1)
    have m2 := b5 _ (List.mem_of_getElem? q2)
    rw [getD_some (l := e.2.2.map gC) (by rw [List.getElem?_map, q1]; rfl), getD_some (l := e'.2.2.map gC) (by rw [List.getElem?_map, q2]; rfl), ii_eq (by omega) (by omega) (by omega) (by omega)] at this
    rw [getD_some q1, getD_some q2]
    exact gC_inj m1.1 m2.1 this
  exact Prod.ext e1 (Prod.ext e2 e3)
theorem RTr_CeF {off n : Nat} (h : RTr δ r e) (k : CeF 12 off n δ d) (hd : 162 * r + 162 ≤ off ∨ off + n ≤ 162 * r) : RTr d r e := by
  obtain ⟨h1, h2, h3, h4⟩ := h
  exact ⟨by rw [k.1 _ (by omega)]; exact h1, by rw [k.1 _ (by omega)]; exact h2, fun i hi => by rw [k.1 _ (by omega)]; exact h3 i hi, fun i hi => by rw [k.1 _ (by omega)]; exact h4 i hi⟩
theorem t_same (hK : KSu σ 9 8) (hr : r < 8) (hc : c < 8) (h : RTr δ r e) (k : RTr δ c e') (g : gER n0 e) (g' : gER n0 e') : m_X9_isSame σ 9 (ii (162 * r : Nat)) (ii (162 * c : Nat)) δ = some (if e = e' then 1 else 0) := by
  obtain ⟨-, k0, ⟨k1, k2, k3⟩, D1, D2, D3⟩ := hK
  have e4 : gR σ 9 9 4 = some 12 := gR_ko k0 k3
  have key : Ok (m_X9_isSame σ 9 (ii (162 * r : Nat)) (ii (162 * c : Nat)) δ) (fun v => (v = 1 ∧ ∀ j, j < 162 → δ.1 12 (162 * r + j) = δ.1 12 (162 * c + j)) ∨ (v = 0 ∧ ∃ j, j < 162 ∧ ¬ δ.1 12 (162 * r + j) = δ.1 12 (162 * c + j))) := by
    unfold m_X9_isSame m_X9_isSame_b2
    refine Ok_for (fun z s => s = ii z ∧ ∀ j : Nat, (j : Int) < z → δ.1 12 (162 * r + j) = δ.1 12 (162 * c + j)) 0 162 (by omega) (by omega) ?_ ?_ ⟨rfl, fun j hj => absurd hj (by omega)⟩
    · rintro z s z0 z1 ⟨hs, hj⟩
      subst hs
      have c1 : ((162 : Int32) ≤ ii z) = False := by
        rw [show ((162 : Int32)) = ii 162 from rfl, ii_le (by omega) (by omega) (by omega) (by omega)]
        exact eq_false (by omega)
      have y1 : rI σ δ 12 (ii (162 * r : Nat) + ii z) = some (δ.1 12 (162 * r + z.toNat)) := by
        rw [ii_add]
        exact rst (z := (162 * r : Nat) + z) (k := 162 * r + z.toNat) D3 (by omega) (by omega) (by omega) rfl
      have y2 : rI σ δ 12 (ii (162 * c : Nat) + ii z) = some (δ.1 12 (162 * c + z.toNat)) := by
        rw [ii_add]
        exact rst (z := (162 * c : Nat) + z) (k := 162 * c + z.toNat) D3 (by omega) (by omega) (by omega) rfl
      have a1 : ii z + (1 : Int32) = ii (z + 1) := by rw [show ((1 : Int32)) = ii 1 from rfl, ii_add]
      by_cases q : δ.1 12 (162 * r + z.toNat) = δ.1 12 (162 * c + z.toNat)
      · refine Ok_inl (s' := ii (z + 1)) (by simp only [c1, ↓reduceIte, e4, ob_some, y1, y2, a1, eq_true q]) ⟨rfl, fun j hj2 => ?_⟩
        by_cases cj : j = z.toNat
        · rw [cj]; exact q
        · exact hj j (by omega)
      · exact Ok_inr (r := (0 : Int32)) (by simp only [c1, ↓reduceIte, e4, ob_some, y1, y2, eq_false q]) (Or.inr ⟨rfl, z.toNat, by omega, q⟩)
    · rintro s ⟨hs, hj⟩
      subst hs
      have c1 : ((162 : Int32) ≤ ii 162) = True := eq_true (by decide)
      exact Ok_inr (r := (1 : Int32)) (by simp only [c1, ↓reduceIte]) (Or.inl ⟨rfl, fun j hj2 => hj j (by omega)⟩)
  obtain ⟨v, ev, hv⟩ := key
  rw [ev]
  rcases hv with ⟨h1, h2⟩ | ⟨h1, j, h2, h3⟩
  · rw [if_pos (RTr_inj h k g g' h2), h1]
  · rw [if_neg (fun (q : e = e') => h3 (RTr_same h (by rw [q]; exact k) j h2)), h1]
/-- the class looks whether it knows the end -/
theorem t_knownE (hK : KSu σ 9 8) (hc : c < 8) (he : es.length = c) (h5 : δ.1 9 5 = ii c) (hr : ∀ (r : Nat) (x : ERc), es[r]? = some x → RTr δ r x ∧ gER n0 x) (k : RTr δ c e) (g : gER n0 e) : Ok (m_X9_record_b137 σ 9 (ii (162 * c : Nat)) (ii 0) δ) (fun d => d.1 9 5 = ii (addEnd es e).length ∧ (∀ j, ¬ j = 5 → d.1 9 j = δ.1 9 j) ∧ Fr (fun q => q = 9) δ d) := by
  have k0 := hK.2.1
  have x5 : gI σ δ 9 9 5 = some (ii c) := by rw [gI_ko k0, h5]
  unfold m_X9_record_b137
  refine Ok_for (fun z s => s = ii z ∧ ∀ (j : Nat) (x : ERc), (j : Int) < z → es[j]? = some x → ¬ x = e) 0 c (by omega) (by omega) ?_ ?_ ⟨rfl, fun j x hj => absurd hj (by omega)⟩
  · rintro z s z0 z1 ⟨hs, hj⟩
    subst hs
    obtain ⟨x, hx⟩ : ∃ x, es[z.toNat]? = some x := ⟨_, List.getElem?_eq_getElem (show z.toNat < es.length by omega)⟩
    obtain ⟨b1, b2⟩ := hr _ _ hx
    have c1 : (ii (c : Int) ≤ ii z) = False := by
      rw [ii_le (by omega) (by omega) (by omega) (by omega)]
      exact eq_false (by omega)
    have e1 := t_same hK (by omega) hc b1 k b2 g
    have a0 : ii z * (162 : Int32) = ii (162 * z.toNat : Nat) := by
      rw [show ((162 : Int32)) = ii 162 from rfl, ii_mul]
      exact congrArg ii (by omega)
    have a1 : ii z + (1 : Int32) = ii (z + 1) := by rw [show ((1 : Int32)) = ii 1 from rfl, ii_add]
    by_cases q : x = e
    · rw [if_pos q] at e1
      refine Ok_inr (r := δ) ?_ ⟨?_, fun _ _ => rfl, Fr.rf⟩
      · simp only [x5, ob_some, c1, ↓reduceIte, chk_ko k0, a0, e1, i10]
      · unfold addEnd
        rw [if_pos (q ▸ List.mem_of_getElem? hx), he]
        exact h5
    · rw [if_neg q] at e1
      refine Ok_inl (s' := ii (z + 1)) ?_ ⟨rfl, fun j y hj2 hy => ?_⟩
      · simp only [x5, ob_some, c1, ↓reduceIte, chk_ko k0, a0, e1, a1]
      · by_cases cj : j = z.toNat
        · rw [cj, hx] at hy
          rw [← Option.some.inj hy]; exact q
        · exact hj j y (by omega) hy
  · rintro s ⟨hs, hj⟩
    subst hs
    have c1 : (ii (c : Int) ≤ ii (c : Int)) = True := by
      rw [ii_le (by omega) (by omega) (by omega) (by omega)]
      exact eq_true (Int.le_refl _)
    obtain ⟨d1, w1, v1, o1, F1⟩ := pI_ex (δ := δ) (r := 9) (k := 5) (x := ii ((c : Int) + 1)) k0
    have a1 : ii (c : Int) + (1 : Int32) = ii ((c : Int) + 1) := by rw [show ((1 : Int32)) = ii 1 from rfl, ii_add]
    refine Ok_inr (r := d1) ?_ ⟨?_, o1, F1⟩
    · simp only [x5, ob_some, c1, ↓reduceIte, a1, w1]
    · unfold addEnd
      rw [if_neg (fun hm => ?_), v1, List.length_append, List.length_singleton, he]
      · rfl
      · obtain ⟨j, hjl, hje⟩ := List.getElem_of_mem hm
        exact hj j e (by omega) (by rw [List.getElem?_eq_getElem hjl, hje]) rfl
end
