/-! THE REFERENCE: whether a rule can fire -/
section
variable {σ : St} {δ : Dy} {mo : Nat} {S : Sto} {V : Vw} {Rs : Int → Rl} {R : Rl} {made : Int} {bd : Int → Int}
theorem m_canFire (hK : KM σ mo) (hR : RRm δ mo made Rs) (hm : made ≤ 8) (hS : RSm δ mo S) (hGS : GS S) {hi : Hst} (hH : RMh δ mo Rs hi) (hl : hi.length ≤ 1900) (hg : gHi Rs made hi) (h1 : ∀ e ∈ hi, l_hd (Rs e.1) < 2 → e.2.2 = 0) {w one two : Int} (w0 : 0 ≤ w) (w1 : w < made) (hG : GR (Rs w)) (o0 : 0 ≤ one ∧ one < s_nt S) (t0 : (l_hd (Rs w) < 2 ∧ two = -1) ∨ (¬ l_hd (Rs w) < 2 ∧ 0 ≤ two ∧ two < s_nt S)) : Ok (m_X12_canFire σ mo (ii w) (ii one) (ii two) δ) (fun r => r.1 = bi (canM S (Rs w) w hi one two).isSome ∧ (∀ bd, canM S (Rs w) w hi one two = some bd → RBm r.2 mo bd) ∧ Fr (fun r => r = mo + 29) δ r.2) := by
  have gn := hGS.1
  obtain ⟨⟨q1, q2⟩, q3, q4, q5, q6, q7, q8⟩ := id hG
  have g8 := hGS.2.2.2.2.1
  have g9 := hGS.2.2.2.2.2
  -- what any memory that differs in what is bound alone says
  have keep : ∀ d : Dy, Fr (fun r => r = mo + 29) δ d → RRm d mo made Rs ∧ RSm d mo S ∧ RMh d mo Rs hi := fun d hF => ⟨RRm_eq hR (by rw [(hF mo (by omega)).1]) (fun r a b => (hF r (by omega)).1), RSm_eq hS hGS (fun k _ => by rw [(hF (mo + 1) (by omega)).1]), RMh_eq hH (fun k _ _ => by rw [(hF (mo + 1) (by omega)).1]) (by omega)⟩
  have hcanN : matchR S (Rs w) one two = none → canM S (Rs w) w hi one two = none := by
    intro h
    unfold canM
    rw [h]
    split
    · split <;> rfl
    · rfl
  unfold m_X12_canFire m_X12_canFire_b3
  refine Ok_for (fun z s => s.1 = ii z ∧ (∀ y : Int, 0 ≤ y → y < z → s.2.1 (mo + 29) y.toNat = ii 300) ∧ Fr (fun r => r = mo + 29) δ s.2) 0 4 (by omega) (by omega) ?_ ?_ ⟨rfl, fun y _ _ => by omega, Fr.rf⟩
  · rintro z ⟨s1, d⟩ z0 z1 ⟨hs, hk, hF⟩
    dsimp only at hs hk hF ⊢
    subst hs
    refine Ok_inl (s' := (ii (z + 1), (u2 d.1 (mo + 29) z.toNat (ii 300), d.2))) (by simp (disch := omega) only [ii_lit, ii_le, if_neg, mg38 hK, ob_some, wI_kd (md38 hK), ii_add]) ⟨rfl, fun y y0 y1 => ?_, hF.tr (Fr_u2 rfl)⟩
    dsimp only
    by_cases hy : y = z
    · subst hy
      simp only [u2, and_self, ↓reduceIte]
    · simp (disch := omega) only [u2, if_neg]
      exact hk y y0 (by omega)
  · rintro ⟨s1, d0⟩ ⟨hs, hk, hF0⟩
    dsimp only at hs hk hF0 ⊢
    subst hs
    rw [if_pos (show (4 : Int32) ≤ ii 4 by decide)]
    have hB0 : RBm d0 mo (fun _ => 1000) := fun z z0 z1 => by rw [hk z z0 z1]; rfl
    have loop : Ok (m_X12_canFire_b28 σ mo (ii w) (ii one) (ii two) (ii 0) d0) (fun r => r.1 = bi (canM S (Rs w) w hi one two).isSome ∧ (∀ bd, canM S (Rs w) w hi one two = some bd → RBm r.2 mo bd) ∧ Fr (fun r => r = mo + 29) δ r.2) := by
      unfold m_X12_canFire_b28
      refine Ok_for (fun h s => s.1 = ii h ∧ (∀ k, 0 ≤ k → k < h → l_so (Rs w) k = s_so S (if k = 0 then one else two)) ∧ (∃ bd, mrun S (Rs w) one two (2 * l_hd (Rs w) - 2 * h).toNat (2 * h) bd = mrun S (Rs w) one two (2 * l_hd (Rs w)).toNat 0 (fun _ => 1000) ∧ RBm s.2 mo bd ∧ BDr bd ∧ BT S bd) ∧ Fr (fun r => r = mo + 29) δ s.2) 0 (l_hd (Rs w)) (by omega) (by omega) ?_ ?_ ⟨rfl, fun k _ _ => by omega, ⟨fun _ => 1000, by rw [Int.mul_zero, Int.sub_zero], hB0, fun z _ _ => ⟨by show (-1000 : Int) ≤ 1000; omega, by show (1000 : Int) ≤ 1000; omega⟩, fun z _ _ h => absurd rfl h⟩, hF0⟩
      · rintro h ⟨s1, d⟩ h0 h1' ⟨hs, hso, ⟨bd, hmr, hB, hBD, hT⟩, hF⟩
        dsimp only at hs hso hmr hB hF ⊢
        subst hs
        obtain ⟨hRd, hSd, hHd⟩ := keep d hF
        obtain ⟨a1, a2, -⟩ := hRd.2 w w0 w1
        obtain ⟨b0, b1, b2, -⟩ := a2 h h0 h1'
        have e9 := rI_kd (σ := σ) (δ := d) (md9 hK) w0 (show w < ((8 : Nat) : Int) by omega)
        rw [a1] at e9
        have e10 : rI σ d (mo + 10) (ii (8 * w + 4 * h)) = some (ii (l_so (Rs w) h)) := rst (md10 hK) (by omega) (by omega) rfl b0
        have e11 : rI σ d (mo + 10) (ii (8 * w + 4 * h + 1)) = some (ii (l_pa (Rs w) (2 * h))) := rst (md10 hK) (by omega) (by omega) rfl b1
        have hms : mrun S (Rs w) one two (2 * l_hd (Rs w) - 2 * h).toNat (2 * h) bd = (mstep S (l_pa (Rs w) (2 * h)) (marg S one two (2 * h)) bd).bind fun bd1 => (mstep S (l_pa (Rs w) (2 * h + 1)) (marg S one two (2 * h + 1)) bd1).bind (mrun S (Rs w) one two (2 * l_hd (Rs w) - 2 * (h + 1)).toNat (2 * (h + 1))) := by
          rw [show (2 * l_hd (Rs w) - 2 * h).toNat = ((2 * l_hd (Rs w) - 2 * (h + 1)).toNat + 1) + 1 by omega]
          show (mstep S (l_pa (Rs w) (2 * h)) (marg S one two (2 * h)) bd).bind (fun bd1 => (mstep S (l_pa (Rs w) (2 * h + 1)) (marg S one two (2 * h + 1)) bd1).bind (mrun S (Rs w) one two (2 * l_hd (Rs w) - 2 * (h + 1)).toNat (2 * h + 1 + 1))) = _
          rw [show 2 * h + 1 + 1 = 2 * (h + 1) by omega]
        -- the token at hand
        have key : ∀ q : Int, q = (if h = 0 then one else two) → 0 ≤ q → q < s_nt S → Ok (m_X12_canFire_b60 σ mo (ii w) (ii one) (ii two) (ii h) (ii (8 * w + 4 * h)) (ii q) d) (PL (fun s => s.1 = ii (h + 1) ∧ (∀ k, 0 ≤ k → k < h + 1 → l_so (Rs w) k = s_so S (if k = 0 then one else two)) ∧ (∃ bd, mrun S (Rs w) one two (2 * l_hd (Rs w) - 2 * (h + 1)).toNat (2 * (h + 1)) bd = mrun S (Rs w) one two (2 * l_hd (Rs w)).toNat 0 (fun _ => 1000) ∧ RBm s.2 mo bd ∧ BDr bd ∧ BT S bd) ∧ Fr (fun r => r = mo + 29) δ s.2) (fun r => r.1 = bi (canM S (Rs w) w hi one two).isSome ∧ (∀ bd, canM S (Rs w) w hi one two = some bd → RBm r.2 mo bd) ∧ Fr (fun r => r = mo + 29) δ r.2)) := by
          intro q hq q0 q1'
          obtain ⟨t1, t2, t3, -, -⟩ := m_t4 hK hSd hGS q0 q1'
          have hsr := hGS.2.2.2.1 q q0 q1'
          have hsr2 := q3 h h0 h1'
          have hm0 : marg S one two (2 * h) = s_fi S q := by
            unfold marg
            rw [if_pos (by omega), hq]
            by_cases hz : h = 0
            · rw [if_pos hz, if_neg (by omega)]
            · rw [if_neg hz, if_pos (by omega)]
          have hm1 : marg S one two (2 * h + 1) = s_se S q := by
            unfold marg
            rw [if_neg (by omega), hq]
            by_cases hz : h = 0
            · rw [if_pos hz, if_neg (by omega)]
            · rw [if_neg hz, if_pos (by omega)]
          rw [hm0, hm1] at hms
          unfold m_X12_canFire_b60
          by_cases cs : l_so (Rs w) h = s_so S q
          · obtain ⟨⟨v, d1⟩, f1, f2, f3, f4⟩ := m_fits hK hSd hGS hB hT (q4 (2 * h) (by omega) (by omega)) (g8 q q0 q1')
            dsimp only at f2 f3 f4
            subst f2
            cases hst1 : mstep S (l_pa (Rs w) (2 * h)) (s_fi S q) bd with
            | none =>
              rw [hst1] at f1 hms
              have hcn : canM S (Rs w) w hi one two = none := hcanN (by unfold matchR; rw [← hmr, hms]; rfl)
              refine Ok_inr (r := (ii 0, d1)) ?_ ⟨by rw [hcn]; rfl, fun bd h => (by rw [hcn] at h; cases h), hF.tr f4⟩
              simp (disch := omega) only [mg0 hK, mg10 hK, ob_some, ii_lit, ii_add, t1, e10, cs, ↓reduceIte, e11, t2, chk_ko hK.1, f1]
              rfl
            | some bd1 =>
              rw [hst1] at f1 hms
              have hB1 := f3 bd1 hst1
              obtain ⟨i1, i2, -, -⟩ := mstep_inv hst1 (g8 q q0 q1') gn.2.1 hBD hT
              obtain ⟨hRd1, hSd1, hHd1⟩ := keep d1 (hF.tr f4)
              obtain ⟨-, -, -, t3', -⟩ := m_t4 hK hSd1 hGS q0 q1'
              have t3'' := (m_t4 hK hSd1 hGS q0 q1').2.2.1
              have e12 : rI σ d1 (mo + 10) (ii (8 * w + 4 * h + 2)) = some (ii (l_pa (Rs w) (2 * h + 1))) := rst (md10 hK) (by omega) (by omega) rfl ((hRd1.2 w w0 w1).2.1 h h0 h1').2.2.1
              obtain ⟨⟨v2, d2⟩, k1, k2, k3, k4⟩ := m_fits hK hSd1 hGS hB1 i2 (q4 (2 * h + 1) (by omega) (by omega)) (g9 q q0 q1')
              dsimp only at k2 k3 k4
              subst k2
              have hnz : ¬ (bi (some bd1 : Option (Int → Int)).isSome = ii 0) := (by decide : ¬ (bi true = ii 0))
              cases hst2 : mstep S (l_pa (Rs w) (2 * h + 1)) (s_se S q) bd1 with
              | none =>
                rw [hst2] at k1
                have hcn : canM S (Rs w) w hi one two = none := hcanN (by unfold matchR; rw [← hmr, hms, ob_some, hst2]; rfl)
                refine Ok_inr (r := (ii 0, d2)) ?_ ⟨by rw [hcn]; rfl, fun bd h => (by rw [hcn] at h; cases h), (hF.tr f4).tr k4⟩
                simp (disch := omega) only [mg0 hK, mg10 hK, ob_some, ii_lit, ii_add, t1, e10, cs, ↓reduceIte, e11, t2, chk_ko hK.1, f1, hnz, e12, t3'', k1]
                rfl
              | some bd2 =>
                rw [hst2] at k1
                have hB2 := k3 bd2 hst2
                obtain ⟨j1, j2, -, -⟩ := mstep_inv hst2 (g9 q q0 q1') gn.2.1 i1 i2
                have hnz2 : ¬ (bi (some bd2 : Option (Int → Int)).isSome = ii 0) := (by decide : ¬ (bi true = ii 0))
                refine Ok_inl (s' := (ii (h + 1), d2)) ?_ ⟨rfl, fun k k0 k1' => ?_, ⟨bd2, by rw [← hmr, hms, ob_some, hst2, ob_some], hB2, j1, j2⟩, (hF.tr f4).tr k4⟩
                · simp (disch := omega) only [mg0 hK, mg10 hK, ob_some, ii_lit, ii_add, t1, e10, cs, ↓reduceIte, e11, t2, chk_ko hK.1, f1, hnz, e12, t3'', k1, hnz2]
                · by_cases hkh : k = h
                  · rw [hkh, ← hq]; exact cs
                  · exact hso k k0 (by omega)
          · have hcn : canM S (Rs w) w hi one two = none := by
              unfold canM
              rw [if_neg]
              rintro ⟨c1, c2⟩
              apply cs
              rw [hq]
              by_cases hz : h = 0
              · rw [if_pos hz, hz]; exact c1
              · rw [if_neg hz, show h = 1 by omega]
                rcases c2 with c2 | c2
                · omega
                · exact c2
            refine Ok_inr (r := (ii 0, d)) ?_ ⟨by rw [hcn]; rfl, fun bd h => (by rw [hcn] at h; cases h), hF⟩
            simp (disch := omega) only [mg0 hK, mg10 hK, ob_some, ii_lit, ii_add, t1, e10]
            rw [if_neg (by rw [ii_eq (by omega) (by omega) (by omega) (by omega)]; exact fun h => cs h.symm)]
        by_cases hz : h = 0
        · obtain ⟨X, eX, hX⟩ := key one (by rw [if_pos hz]) o0.1 o0.2
          refine ⟨X, ?_, hX⟩
          rw [← eX]
          subst hz
          simp (disch := omega) only [mg9 hK, ob_some, e9, ii_le, if_neg, ii_lit, ↓reduceIte, ii_mul, ii_add]
        · have ht2 : 0 ≤ two ∧ two < s_nt S := by rcases t0 with ⟨h, -⟩ | ⟨-, h2, h3⟩ <;> omega
          obtain ⟨X, eX, hX⟩ := key two (by rw [if_neg hz]) ht2.1 ht2.2
          refine ⟨X, ?_, hX⟩
          rw [← eX]
          simp (disch := omega) only [mg9 hK, ob_some, e9, ii_le, if_neg, ii_lit, ii_eq, ii_mul, ii_add]
      · rintro ⟨s1, d⟩ ⟨hs, hso, ⟨bd, hmr, hB, hBD, hT⟩, hF⟩
        dsimp only at hs hso hmr hB hF ⊢
        subst hs
        rw [show (2 * l_hd (Rs w) - 2 * l_hd (Rs w)).toNat = 0 by omega] at hmr
        have hmr' : mrun S (Rs w) one two (2 * l_hd (Rs w)).toNat 0 (fun _ => 1000) = some bd := hmr.symm
        obtain ⟨-, -, -, hbn⟩ := mrun_inv (n0 := s_nv S) gn.2.1 _ _ _ _ hmr' (fun q a b => by
          unfold marg
          have hidx : 0 ≤ (if 2 ≤ q then two else one) ∧ (if 2 ≤ q then two else one) < s_nt S := by
            by_cases h2 : 2 ≤ q
            · rw [if_pos h2]
              rcases t0 with ⟨h, -⟩ | ⟨-, h3, h4⟩
              · omega
              · exact ⟨h3, h4⟩
            · rw [if_neg h2]; exact o0
          split
          · exact g8 _ hidx.1 hidx.2
          · exact g9 _ hidx.1 hidx.2) (fun z _ _ => ⟨by show (-1000 : Int) ≤ 1000; omega, by show (1000 : Int) ≤ 1000; omega⟩) (fun z _ _ h => absurd rfl h)
        obtain ⟨hRd, hSd, hHd⟩ := keep d hF
        obtain ⟨a1, a2, ⟨a3, a4⟩, -⟩ := hRd.2 w w0 w1
        have e9 := rI_kd (σ := σ) (δ := d) (md9 hK) w0 (show w < ((8 : Nat) : Int) by omega)
        rw [a1] at e9
        have eg : rI σ d (mo + 11) (ii (3 * w)) = some (ii (if l_gd (Rs w) = true then l_gc (Rs w) else -1)) := rst (md11 hK) (by omega) (by omega) rfl a3
        have hsorts : l_so (Rs w) 0 = s_so S one ∧ (l_hd (Rs w) < 2 ∨ l_so (Rs w) 1 = s_so S two) := by
          have h0' := hso 0 (by omega) (by omega)
          rw [if_pos rfl] at h0'
          refine ⟨h0', ?_⟩
          by_cases h2 : l_hd (Rs w) < 2
          · exact Or.inl h2
          · have h1'' := hso 1 (by omega) (by omega)
            rw [if_neg (by decide)] at h1''
            exact Or.inr h1''
        have t100 : (l_hd (Rs w) < 2 ∧ two = -1) ∨ (¬ l_hd (Rs w) < 2 ∧ 0 ≤ two ∧ two < 100) := by
          rcases t0 with h | ⟨h, h2, h3⟩
          · exact Or.inl h
          · exact Or.inr ⟨h, h2, by omega⟩
        have ehist := m_hist hK hRd hm hHd hl hg h1 w0 w1 hG ⟨o0.1, by omega⟩ t100
        -- with the guard kept
        have good : guardOk S (Rs w) bd = true → bi (!decide ((w, one, mx0 two) ∈ hi)) = bi (canM S (Rs w) w hi one two).isSome ∧ (∀ bd', canM S (Rs w) w hi one two = some bd' → RBm d mo bd') := by
          intro hgk
          have hma : matchR S (Rs w) one two = some bd := by unfold matchR; rw [hmr', ob_some, if_pos hgk]
          unfold canM
          rw [if_pos hsorts, hma]
          by_cases hmem : (w, one, mx0 two) ∈ hi
          · rw [decide_eq_true hmem, if_pos hmem]
            exact ⟨rfl, fun bd' h => by cases h⟩
          · rw [decide_eq_false hmem, if_neg hmem]
            exact ⟨rfl, fun bd' h => by cases h; exact hB⟩
        have bad : guardOk S (Rs w) bd = false → canM S (Rs w) w hi one two = none := fun hgk => hcanN (by unfold matchR; rw [hmr', ob_some, if_neg (by rw [hgk]; decide)])
        cases hgd : l_gd (Rs w) with
        | false =>
          rw [hgd, if_neg (by decide)] at eg
          obtain ⟨p1, p2⟩ := good (by unfold guardOk; rw [hgd]; rfl)
          refine Ok_inr (r := (bi (!decide ((w, one, mx0 two) ∈ hi)), d)) ?_ ⟨p1, p2, hF⟩
          simp (disch := omega) only [mg9 hK, mg11 hK, ob_some, e9, ii_le, if_pos, ii_lit, ii_neg, ii_mul, eg, ↓reduceIte, ehist]
        | true =>
          obtain ⟨gc, ga, gb⟩ := q8 hgd
          rw [hgd, if_pos rfl] at eg
          obtain ⟨a5, a6⟩ := a4 hgd
          have hterm : ∀ x, (valu x ∨ bnd (Rs w) x) → (-1000 ≤ x ∧ x ≤ 1000) ∧ (slot x → ¬ bd (x - 200) = 1000) ∧ tm (s_nv S) (resB bd x) := by
            intro x hx
            rcases hx with hx | hx
            · have hv : -99 ≤ x ∧ x ≤ 99 := hx
              refine ⟨by omega, fun hs => ?_, ?_⟩
              · have : 200 ≤ x ∧ x < 204 := hs
                omega
              · unfold resB
                rw [if_neg (by omega)]
                exact Or.inl hv
            · have hs : 200 ≤ x ∧ x < 204 := hx.1
              obtain ⟨p, p0, p1, p2⟩ := hx.2
              have hne : ¬ bd (x - 200) = 1000 := by
                have := hbn p (by omega) (by omega) (by rw [p2]; exact hs)
                rw [p2] at this
                exact this
              refine ⟨by omega, fun _ => hne, ?_⟩
              unfold resB
              rw [if_pos hs]
              exact hT (x - 200) (by omega) (by omega) hne
          obtain ⟨x1, x2, x3⟩ := hterm _ ga
          obtain ⟨y1, y2, y3⟩ := hterm _ gb
          have eta := m_termOf hK hB x1.1 x1.2 x2
          have etb := m_termOf hK hB y1.1 y1.2 y2
          have era : rI σ d (mo + 11) (ii (3 * w + 1)) = some (ii (l_ga (Rs w))) := rst (md11 hK) (by omega) (by omega) rfl a5
          have hgo : guardOk S (Rs w) bd = entl S (l_gc (Rs w)) (resB bd (l_ga (Rs w))) (resB bd (l_gb (Rs w))) := by unfold guardOk; rw [hgd]; rfl
          have hne1 : ¬ l_gc (Rs w) = -1 := by omega
          have b209 : ∀ x : Int, tm (s_nv S) x → entl S (l_gc (Rs w)) (resB bd (l_ga (Rs w))) x = guardOk S (Rs w) bd → Ok (m_X12_canFire_b209 σ mo (ii w) (ii one) (ii two) mo (ii (l_gc (Rs w))) (ii (resB bd (l_ga (Rs w)))) (ii x) d) (fun r => r.1 = bi (canM S (Rs w) w hi one two).isSome ∧ (∀ bd, canM S (Rs w) w hi one two = some bd → RBm r.2 mo bd) ∧ Fr (fun r => r = mo + 29) δ r.2) := by
            intro x hx hgx
            have ee := m_entails hK hSd hGS x3 hx gc
            unfold m_X12_canFire_b209
            rw [hgx] at ee
            rw [chk_ko hK.1, ob_some, ee, ob_some]
            cases hgk : guardOk S (Rs w) bd with
            | true =>
              obtain ⟨p1, p2⟩ := good hgk
              rw [if_neg (by decide)]
              exact ⟨_, ehist, p1, p2, hF⟩
            | false =>
              have hcn := bad hgk
              rw [if_pos (show bi false = 0 from rfl)]
              exact ⟨_, rfl, by rw [hcn]; rfl, fun bd h => (by rw [hcn] at h; cases h), hF⟩
          by_cases c3 : l_gc (Rs w) = 3
          · obtain ⟨X, eX, hX⟩ := b209 0 (Or.inl (by omega)) (by rw [hgo, c3]; rfl)
            refine Ok_inr (r := X) ?_ hX
            rw [c3] at eg eX
            have n31 : ¬ ((ii 3 : Int32) = ii (-1)) := by decide
            simp (disch := omega) only [mg9 hK, mg11 hK, ob_some, e9, ii_le, if_pos, ii_lit, ii_neg, ii_mul, ii_add, eg, n31, ↓reduceIte, era, chk_ko hK.1, eta, eX]
          · have erb : rI σ d (mo + 11) (ii (3 * w + 2)) = some (ii (l_gb (Rs w))) := rst (md11 hK) (by omega) (by omega) rfl (a6 c3)
            obtain ⟨X, eX, hX⟩ := b209 _ y3 hgo.symm
            refine Ok_inr (r := X) ?_ hX
            have hcr : -1 ≤ l_gc (Rs w) ∧ l_gc (Rs w) ≤ 15 := by omega
            simp (disch := omega) only [mg9 hK, mg11 hK, ob_some, e9, ii_le, if_pos, if_neg, ii_lit, ii_neg, ii_mul, ii_add, eg, ii_eq, era, erb, chk_ko hK.1, eta, etb, eX]
    obtain ⟨X, eX, hX⟩ := loop
    refine Ok_inr (r := X) ?_ hX
    rw [show ((0 : Int32)) = ii 0 from rfl, eX, ob_some]
end
