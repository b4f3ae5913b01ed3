/-! THE LAW: the class records an end, all of it -/
theorem form_val2 {S : Sto} (hG : GS S) {i : Nat} (hi : (i : Int) < s_nv S) : (400 ≤ form S (400 + i) ∧ valE S i = 100) ∨ (form S (400 + i) < 400 ∧ form S (400 + i) = valE S i) := by
  obtain ⟨-, h1, h2, -⟩ := hG
  have a := h1 (i : Int) (by omega) hi
  have b := h2 _ a.1 a.2
  unfold form valE
  rw [if_neg (by omega), if_pos (by omega), show (400 : Int) + i - 400 = i by omega]
  by_cases c : s_va S (s_cl S i) = 100
  · rw [if_pos c]; exact Or.inl ⟨by omega, c⟩
  · rw [if_neg c]; exact Or.inr ⟨by omega, rfl⟩
theorem vals_getD {S : Sto} {n0 i : Nat} : ((List.range n0).map (valE S)).getD i 0 = if i < n0 then valE S i else 0 := by
  by_cases c : i < n0
  · rw [if_pos c, getD_some (y := valE S i) (by rw [List.getElem?_map, List.getElem?_range c]; rfl)]
  · rw [if_neg c, getD_none (by rw [List.length_map, List.length_range]; omega)]
section
variable {σ : St} {δ d : Dy} {n0 st : Nat} {es : List ERc} {V : Vw} {ac : Int}
theorem t_record (hK9 : KSu σ 9 8) (hK : KS σ st) (hst : 13 ≤ st) (hR : RS δ st (v_S V) ac (v_fl V)) (hG : GS (v_S V)) (hn : n0 ≤ 60) (hv : (n0 : Int) ≤ s_nv (v_S V)) (hc : es.length < 8) (h5 : δ.1 9 5 = ii es.length) (hr : ∀ (r : Nat) (x : ERc), es[r]? = some x → RTr δ r x ∧ gER n0 x) : Ok (m_X9_record σ 9 st (ii (n0 : Int)) δ) (fun d => d.1 9 5 = ii (addEnd es (erecE n0 V)).length ∧ (∀ (r : Nat) (x : ERc), (addEnd es (erecE n0 V))[r]? = some x → RTr d r x ∧ gER n0 x) ∧ (∀ j, ¬ j = 5 → d.1 9 j = δ.1 9 j) ∧ Fr (fun q => q = 9 ∨ q = 12) δ d) := by
  have gn := hG.1
  have hge := gER_mk hG hn hv
  obtain ⟨-, k0, ⟨k1, k2, k3⟩, D1, D2, D3⟩ := id hK9
  have s0 := hK.1
  have e4 : gR σ 9 9 4 = some 12 := gR_ko k0 k3
  have x5 : gI σ δ 9 9 5 = some (ii (es.length : Int)) := by rw [gI_ko k0, h5]
  obtain ⟨c, hcc⟩ : ∃ c, c = es.length := ⟨_, rfl⟩
  rw [← hcc] at x5 hc h5
  have c8 : (ii (c : Int) < (8 : Int32)) = True := by
    rw [show ((8 : Int32)) = ii 8 from rfl, ii_lt (by omega) (by omega) (by omega) (by omega)]
    exact eq_true (by omega)
  have o0 : ii (c : Int) * (162 : Int32) = ii ((162 * c : Nat) : Int) := by
    rw [show ((162 : Int32)) = ii 162 from rfl, ii_mul]
    exact congrArg ii (by omega)
  have o1 : ii ((162 * c : Nat) : Int) + (162 : Int32) = ii ((162 * c + 162 : Nat) : Int) := by
    rw [show ((162 : Int32)) = ii 162 from rfl, ii_add]
    exact congrArg ii (by omega)
  have o2 : ii ((162 * c : Nat) : Int) + (1 : Int32) = ii ((162 * c + 1 : Nat) : Int) := by
    rw [show ((1 : Int32)) = ii 1 from rfl, ii_add]
    exact congrArg ii (by omega)
  have o3 : ii ((162 * c : Nat) : Int) + (2 : Int32) = ii ((162 * c + 2 : Nat) : Int) := by
    rw [show ((2 : Int32)) = ii 2 from rfl, ii_add]
    exact congrArg ii (by omega)
  have o4 : ii ((162 * c + 2 : Nat) : Int) + (60 : Int32) = ii ((162 * c + 62 : Nat) : Int) := by
    rw [show ((60 : Int32)) = ii 60 from rfl, ii_add]
    exact congrArg ii (by omega)
  -- the tail: tokens, and is it known
  have tail : ∀ d, CeF 12 (162 * c) 162 δ d → d.1 12 (162 * c) = bi (v_fl V) → d.1 12 (162 * c + 1) = ii (codsE (v_S V) (s_nt (v_S V)).toNat).length → (∀ i, i < 60 → d.1 12 (162 * c + 2 + i) = ii (((List.range n0).map (valE (v_S V))).getD i 0)) → (∀ q, 162 * c + 62 ≤ q → q < 162 * c + 162 → d.1 12 q = 0) → Ok (m_X9_record_b123 σ 9 st (ii ((162 * c : Nat) : Int)) d) (fun d => d.1 9 5 = ii (addEnd es (erecE n0 V)).length ∧ (∀ (r : Nat) (x : ERc), (addEnd es (erecE n0 V))[r]? = some x → RTr d r x ∧ gER n0 x) ∧ (∀ j, ¬ j = 5 → d.1 9 j = δ.1 9 j) ∧ Fr (fun q => q = 9 ∨ q = 12) δ d) := by
    intro d hC hf hcnt hvals hz
    obtain ⟨d1, w1, hL, hC1⟩ := t_recTok hK9 hK hst (RS_of_Fr hR hC.2 (fun r a b => by omega)) hG (off := 162 * c + 62) (by omega) (by omega)
    have hlen : (codsE (v_S V) (s_nt (v_S V)).toNat).length ≤ 100 := hge.2.1
    have hRT : RTr d1 c (erecE n0 V) := by
      refine ⟨by rw [hC1.1 _ (by omega)]; exact hf, by rw [hC1.1 _ (by omega)]; exact hcnt, fun i hi => by rw [hC1.1 _ (by omega)]; exact hvals i hi, fun i hi => ?_⟩
      show d1.1 12 (162 * c + 62 + i) = ii (((codsE (v_S V) (s_nt (v_S V)).toNat).map gC).getD i 0)
      by_cases ci : i < (codsE (v_S V) (s_nt (v_S V)).toNat).length
      · have hx : ((codsE (v_S V) (s_nt (v_S V)).toNat).map gC)[i]? = some (gC (codsE (v_S V) (s_nt (v_S V)).toNat)[i]) := by rw [List.getElem?_map, List.getElem?_eq_getElem ci]; rfl
        rw [getD_some hx]
        exact hL i _ hx
      · rw [getD_none (by rw [List.length_map]; omega), hC1.1 _ (by omega), hz _ (by omega) (by omega)]
        rfl
    have hC2 : CeF 12 (162 * c) 162 δ d1 := hC.tr (hC1.wk (by omega))
    have h51 : d1.1 9 5 = ii (c : Int) := by rw [(hC2.2 9 (by omega)).1]; exact h5
    have hr1 : ∀ (r : Nat) (x : ERc), es[r]? = some x → RTr d1 r x ∧ gER n0 x := by
      intro r x hx
      have hl := (List.getElem?_eq_some_iff.mp hx).1
      obtain ⟨b1, b2⟩ := hr r x hx
      exact ⟨RTr_CeF b1 hC2 (by omega), b2⟩
    obtain ⟨d2, w2, y1, y2, y3⟩ := t_knownE hK9 hc hcc.symm h51 hr1 hRT hge
    have w2' : m_X9_record_b137 σ 9 (ii ((162 * c : Nat) : Int)) (0 : Int32) d1 = some d2 := w2
    refine ⟨d2, ?_, y1, fun r x hx => ?_, fun j hj => by rw [y2 j hj, (hC2.2 9 (by omega)).1], (hC2.2.wk (fun r p => Or.inr p)).tr (y3.wk (fun r p => Or.inl p))⟩
    · unfold m_X9_record_b123
      simp only [chk_ko k0, ob_some, o3, o4, w1, w2']
    · have tr : ∀ {r : Nat} {x : ERc}, RTr d1 r x → RTr d2 r x := by
        intro r x h
        unfold RTr at h ⊢
        rw [(y3 12 (by omega)).1]
        exact h
      unfold addEnd at hx
      by_cases cm : erecE n0 V ∈ es
      · rw [if_pos cm] at hx
        obtain ⟨b1, b2⟩ := hr1 r x hx
        exact ⟨tr b1, b2⟩
      · rw [if_neg cm] at hx
        by_cases cr : r < es.length
        · rw [List.getElem?_append_left cr] at hx
          obtain ⟨b1, b2⟩ := hr1 r x hx
          exact ⟨tr b1, b2⟩
        · have hl := (List.getElem?_eq_some_iff.mp hx).1
          rw [List.length_append, List.length_singleton] at hl
          have hrc : r = c := by omega
          rw [List.getElem?_append_right (by omega), hrc, hcc, Nat.sub_self] at hx
          have hx' : erecE n0 V = x := Option.some.inj hx
          rw [← hx', hrc]
          exact ⟨tr hRT, hge⟩
  -- the start
  obtain ⟨d1, w1, z1, C1⟩ := t_fillR (δ := δ) D3 (x := 162 * c) (y := 162 * c + 162) (by omega) (by omega)
  rw [show 162 * c + 162 - 162 * c = 162 by omega] at C1
  have hR1 : RS d1 st (v_S V) ac (v_fl V) := RS_of_Fr hR C1.2 (fun r a b => by omega)
  have x12 : gI σ d1 8 st 12 = some (bi (v_fl V)) := by rw [gI_ko s0]; exact congrArg some hR1.2.2.2.2.2.2.2.2.2.2.2.1
  obtain ⟨d2, w2, v2, p2, F2⟩ := wI_ex (δ := d1) (r := 12) (z := ((162 * c : Nat) : Int)) (k := 162 * c) (x := bi (v_fl V)) D3 (by omega) (by omega) (by omega)
  have hR2 : RS d2 st (v_S V) ac (v_fl V) := RS_of_Fr hR1 F2 (fun r a b => by omega)
  have xc := t_count hK hR2 hG
  have hcl := (codsE_rng hG (s_nt (v_S V)).toNat (by omega)).2.1
  obtain ⟨d3, w3, v3, p3, F3⟩ := wI_ex (δ := d2) (r := 12) (z := ((162 * c + 1 : Nat) : Int)) (k := 162 * c + 1) (x := ii (cnt (s_sd (v_S V)) (s_nt (v_S V)).toNat)) D3 (by omega) (by omega) (by omega)
  have C3 : CeF 12 (162 * c) 162 δ d3 := C1.tr ((CeF_w (v := 0) p2 F2 (by omega)).tr (CeF_w (v := 0) p3 F3 (by omega)))
  have body : Ok (m_X9_record_b66 σ 9 st (ii (n0 : Int)) (ii ((162 * c : Nat) : Int)) (ii 0) d3) (fun d => d.1 9 5 = ii (addEnd es (erecE n0 V)).length ∧ (∀ (r : Nat) (x : ERc), (addEnd es (erecE n0 V))[r]? = some x → RTr d r x ∧ gER n0 x) ∧ (∀ j, ¬ j = 5 → d.1 9 j = δ.1 9 j) ∧ Fr (fun q => q = 9 ∨ q = 12) δ d) := by
    unfold m_X9_record_b66
    refine Ok_for (fun z s => s.1 = ii z ∧ CeF 12 (162 * c) 162 δ s.2 ∧ s.2.1 12 (162 * c) = bi (v_fl V) ∧ s.2.1 12 (162 * c + 1) = ii (cnt (s_sd (v_S V)) (s_nt (v_S V)).toNat) ∧ (∀ i : Nat, (i : Int) < z → s.2.1 12 (162 * c + 2 + i) = ii (valE (v_S V) i)) ∧ ∀ q : Nat, ((162 * c + 2 : Nat) : Int) + z ≤ q → q < 162 * c + 162 → s.2.1 12 q = 0) 0 n0 (by omega) (by omega) ?_ ?_ ⟨rfl, C3, by rw [p3 _ (by omega)]; exact v2, v3, fun i hi => absurd hi (by omega), fun q q1 q2 => by rw [p3 _ (by omega), p2 _ (by omega)]; exact z1 q (by omega) q2⟩
    · rintro z ⟨s1, d⟩ z0 zn ⟨hs, hC, h1, h2, h3, h4⟩
      dsimp only at hs hC h1 h2 h3 h4 ⊢
      subst hs
      have hRd : RS d st (v_S V) ac (v_fl V) := RS_of_Fr hR hC.2 (fun r a b => by omega)
      have cn : (ii (n0 : Int) ≤ ii z) = False := by
        rw [ii_le (by omega) (by omega) (by omega) (by omega)]
        exact eq_false (by omega)
      have c60 : ((60 : Int32) ≤ ii z) = False := by
        rw [show ((60 : Int32)) = ii 60 from rfl, ii_le (by omega) (by omega) (by omega) (by omega)]
        exact eq_false (by omega)
      have a1 : ii z + (1 : Int32) = ii (z + 1) := by rw [show ((1 : Int32)) = ii 1 from rfl, ii_add]
      have a4 : (400 : Int32) + ii z = ii (400 + z) := by rw [show ((400 : Int32)) = ii 400 from rfl, ii_add]
      have a5 : ii ((162 * c + 2 : Nat) : Int) + ii z = ii (((162 * c + 2 : Nat) : Int) + z) := ii_add _ _
      have f := t_form hK hRd hG (t := 400 + z) (by omega) (by omega)
      have hvz : valE (v_S V) z.toNat = s_va (v_S V) (s_cl (v_S V) z) := by
        unfold valE
        rw [show ((z.toNat : Nat) : Int) = z by omega]
      have fv := form_val2 hG (i := z.toNat) (by omega)
      rw [show ((z.toNat : Nat) : Int) = z by omega] at fv
      have frng := form_rng hG (t := 400 + z) (by omega) (by omega)
      have fin : ∀ x : Int32, x = ii (valE (v_S V) z.toNat) → Ok (m_X9_record_b116 σ 9 st (ii (n0 : Int)) (ii ((162 * c : Nat) : Int)) (ii z) 12 (ii (((162 * c + 2 : Nat) : Int) + z)) x d) (PL (fun s => s.1 = ii (z + 1) ∧ CeF 12 (162 * c) 162 δ s.2 ∧ s.2.1 12 (162 * c) = bi (v_fl V) ∧ s.2.1 12 (162 * c + 1) = ii (cnt (s_sd (v_S V)) (s_nt (v_S V)).toNat) ∧ (∀ i : Nat, (i : Int) < z + 1 → s.2.1 12 (162 * c + 2 + i) = ii (valE (v_S V) i)) ∧ ∀ q : Nat, ((162 * c + 2 : Nat) : Int) + (z + 1) ≤ q → q < 162 * c + 162 → s.2.1 12 q = 0) (fun d => d.1 9 5 = ii (addEnd es (erecE n0 V)).length ∧ (∀ (r : Nat) (x : ERc), (addEnd es (erecE n0 V))[r]? = some x → RTr d r x ∧ gER n0 x) ∧ (∀ j, ¬ j = 5 → d.1 9 j = δ.1 9 j) ∧ Fr (fun q => q = 9 ∨ q = 12) δ d)) := by
        intro x hx
        obtain ⟨dd, w, v, o, F⟩ := wI_ex (δ := d) (r := 12) (z := ((162 * c + 2 : Nat) : Int) + z) (k := 162 * c + 2 + z.toNat) (x := x) D3 (by omega) (by omega) (by omega)
        refine Ok_inl (s' := (ii (z + 1), dd)) ?_ ⟨rfl, hC.tr (CeF_w (v := 0) o F (by omega)), by rw [o _ (by omega)]; exact h1, by rw [o _ (by omega)]; exact h2, fun i hi => ?_, fun q q1 q2 => by rw [o _ (by omega)]; exact h4 q (by omega) q2⟩
        · unfold m_X9_record_b116
          rw [w, ob_some, a1]
        · by_cases ci : i = z.toNat
          · rw [ci, v, hx]
          · rw [o _ (by omega)]; exact h3 i (by omega)
      rcases fv with ⟨f1, f2⟩ | ⟨f1, f2⟩
      · have c4 : ((400 : Int32) ≤ ii (form (v_S V) (400 + z))) = True := by
          rw [show ((400 : Int32)) = ii 400 from rfl, ii_le (by omega) (by omega) (by omega) (by omega)]
          exact eq_true f1
        have := fin (100 : Int32) (by rw [f2]; rfl)
        simp only [cn, c60, ↓reduceIte, chk_ko s0, ob_some, a4, f, e4, c4, o3, a5]
        exact this
      · have c4 : ((400 : Int32) ≤ ii (form (v_S V) (400 + z))) = False := by
          rw [show ((400 : Int32)) = ii 400 from rfl, ii_le (by omega) (by omega) (by omega) (by omega)]
          exact eq_false (by omega)
        have := fin (ii (form (v_S V) (400 + z))) (by rw [f2])
        simp only [cn, c60, ↓reduceIte, chk_ko s0, ob_some, a4, f, e4, c4, o3, a5]
        exact this
    · rintro ⟨s1, d⟩ ⟨hs, hC, h1, h2, h3, h4⟩
      dsimp only at hs hC h1 h2 h3 h4 ⊢
      subst hs
      have cn : (ii (n0 : Int) ≤ ii (n0 : Int)) = True := by
        rw [ii_le (by omega) (by omega) (by omega) (by omega)]
        exact eq_true (Int.le_refl _)
      obtain ⟨dd, w, hh⟩ := tail d hC h1 (by rw [h2, ← hcl]) (fun i hi => by
        rw [vals_getD]
        by_cases ci : i < n0
        · rw [if_pos ci]; exact h3 i (by omega)
        · rw [if_neg ci, h4 _ (by omega) (by omega)]; rfl) (fun q q1 q2 => h4 q (by omega) q2)
      exact Ok_inr (r := dd) (by simp only [cn, ↓reduceIte, w, ob_some]) hh
  have bodyv : Ok (m_X9_record_b50 σ 9 st (ii (n0 : Int)) (ii ((162 * c : Nat) : Int)) 12 (ii ((162 * c : Nat) : Int)) (bi (v_fl V)) d1) (fun d => d.1 9 5 = ii (addEnd es (erecE n0 V)).length ∧ (∀ (r : Nat) (x : ERc), (addEnd es (erecE n0 V))[r]? = some x → RTr d r x ∧ gER n0 x) ∧ (∀ j, ¬ j = 5 → d.1 9 j = δ.1 9 j) ∧ Fr (fun q => q = 9 ∨ q = 12) δ d) := by
    unfold m_X9_record_b50
    simp only [w2, ob_some, e4, chk_ko s0, xc, o2, w3]
    exact body
  unfold m_X9_record
  simp only [x5, ob_some, c8, ↓reduceIte, e4, o0, o1, w1, x12]
  cases hfl : v_fl V with
  | false =>
    rw [hfl] at bodyv
    rw [if_pos (show bi false = 0 from rfl)]
    exact bodyv
  | true =>
    rw [hfl] at bodyv
    rw [if_neg (show ¬ bi true = 0 by decide)]
    exact bodyv
end
