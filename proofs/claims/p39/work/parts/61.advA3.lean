/-! THE REWRITER in the class: an active token's advance, the loop -/
section
variable {σ : St} {δ : Dy} {rw st ro base ru : Nat} {S : Sto} {ac made : Int} {fl : Bool} {R : Rl} {Rs : Int → Rl} {V : Vw}
theorem GV_place {t p q : Int} {rest : List Frm} (hG : GV Rs made V) (hf : v_fr V = .inl (t, p) :: rest) (q0 : 0 ≤ q) (q1 : q ≤ 1600) : GV Rs made (v_setfr V (.inl (t, q) :: rest)) := by
  obtain ⟨g1, g2, g3, g4, g5, g6, g7, g8⟩ := hG
  rw [hf] at g5 g6 g7
  refine GV_setfr ⟨g1, g2, g3, g4, by rw [hf]; exact g5, by rw [hf]; exact g6, by rw [hf]; exact g7, g8⟩ (fun f hm => ?_) g6 g7
  rcases List.mem_cons.mp hm with rfl | hm
  · have := g5 (.inl (t, p)) (List.mem_cons_self ..)
    exact ⟨this.1, q0, q1⟩
  · exact g5 f (List.mem_cons_of_mem _ hm)
theorem a174_eq {x y : Int32} {fo : Nat} {t o h o' : Int} {d : Dy} (h0 : h = 0 ∨ h = 1) (ho : o' = if 2 ≤ l_hd R then o else -1) : m_X6_advanceActive_b174 σ rw fo (ii t) x y ru (ii h) (ii o') d = m_X6_advanceActive_b200 σ rw fo (ii t) x y ru (ii h) (ii o') (ii (cOne R h t o)) (ii (cTwo R h t o)) d := by
  unfold m_X6_advanceActive_b174 m_X6_advanceActive_b187 cOne cTwo
  rcases h0 with rfl | rfl
  · rw [if_pos (show ii 0 = (0 : Int32) from rfl), if_pos (show ii 0 = (0 : Int32) from rfl), if_pos (show (0 : Int) = 0 from rfl), if_pos (show (0 : Int) = 0 from rfl), ho]
  · rw [if_neg (show ¬ ii 1 = (0 : Int32) by decide), if_neg (show ¬ ii 1 = (0 : Int32) by decide), if_neg (show ¬ (1 : Int) = 0 by decide), if_neg (show ¬ (1 : Int) = 0 by decide), ho]
theorem fnd_at {P : Int → Bool} {n : Nat} {a : Int} (hn : 0 < n) (h : P a = true) : fnd P n a = a := by
  obtain ⟨m, rfl⟩ : ∃ m, n = m + 1 := ⟨n - 1, by omega⟩
  show (if P a = true then a else fnd P m (a + 1)) = a
  rw [if_pos h]
theorem t_a97 (hW : KW σ rw st ro) (hKS : KS σ st) (hKR : KRs σ ro) (hd0 : ro + 54 ≤ st) (hd1 : st + 10 ≤ rw) {t p p' : Int} {rest : List Frm} {d : Dy} (hf : v_fr V = .inl (t, p) :: rest) (hRs : RRs δ ro made Rs) (hG : GV Rs made V) (hp : (p ≤ p' ∧ (p' ≤ p ∨ p' ≤ aEnd (v_S V) made t))) (hlt : p' < aEnd (v_S V) made t) (hm : aEnd (v_S V) made t = made * 200) (hfn : fnd (fun z => (canF (v_S V) Rs (v_hi V) t z).isSome) (aEnd (v_S V) made t - p').toNat p' = aNext V Rs made t p) (hRV : RVv d rw st base made (v_setfr V (.inl (t, p') :: rest))) (hFr : Fr (PVr rw st) δ d) {x : Int32} (hru : ru = ro + 6 + 6 * (p' / 200).toNat) : Ok (m_X6_advanceActive_b97 σ rw (rw + 6 + 2 * rest.length) (ii t) x (ii p') (ii (p' / 200)) ru (ii (p' / 100 % 2)) (ii (p' % 100)) (ii (if 2 ≤ l_hd (Rs (p' / 200)) then s_nt (v_S V) else 1)) d) (PL (fun s => Ia rw st base made V Rs t p rest δ s ∧ ∃ q, p' < q ∧ q ≤ 1600 ∧ s.1 (rw + 6 + 2 * rest.length) 3 = ii q) (fun r => RVv r rw st base made (advA V Rs made t p rest) ∧ Fr (PVr rw st) δ r)) := by
  obtain ⟨g1, g2, g3, g4, g5, g6, g7, g8⟩ := id hG
  have gn := g1.1
  have hlen : rest.length < 183 := by
    have := okF_len g6
    rw [hf, List.length_cons] at this
    rw [hf] at g7
    omega
  have hft : gFrm (v_S V) Rs made (.inl (t, p)) := g5 _ (by rw [hf]; exact List.mem_cons_self ..)
  obtain ⟨t0, p0, p1⟩ := hft
  have hq0 : 0 ≤ p' := by omega
  have hw : 0 ≤ p' / 200 ∧ p' / 200 < made := by omega
  have hgr := g4 _ hw.1 hw.2
  have hhd := hgr.1
  have hRd := RRs_of_Fr hRs g3.2 hFr (fun r a b => by unfold PVr; omega)
  have hRr := hRd _ hw.1 hw.2
  have hKr := (hKR.2 (p' / 200).toNat (by omega)).2
  rw [← hru] at hRr hKr
  obtain ⟨w0, ⟨w1, w2, w3, w4, w5, w6, w7⟩, x1, x2, x3, x4, x5, xf⟩ := id hW
  obtain ⟨f1, f2, f3, f4⟩ := xf _ hlen
  obtain ⟨k0, ⟨k1, k2, k3, k4, k5⟩, d1, d2, d3, d4, d5⟩ := id hKr
  obtain ⟨m0, ⟨m1, m2, m3, m4, m5, m6, m7, m8, m9⟩, b1, b2, b3, b4, b5, b6, b7, -⟩ := id hKS
  have r1 := hRr.1
  have hskip : ∀ {x y : Int32}, (∀ z, p' ≤ z → z < p' - p' % 100 + 100 → canF (v_S V) Rs (v_hi V) t z = none) → Ok (m_X6_advanceActive_b136 σ rw (rw + 6 + 2 * rest.length) x y (ii p') (ii (p' % 100)) d) (PL (fun s => Ia rw st base made V Rs t p rest δ s ∧ ∃ q, p' < q ∧ q ≤ 1600 ∧ s.1 (rw + 6 + 2 * rest.length) 3 = ii q) (fun r => RVv r rw st base made (advA V Rs made t p rest) ∧ Fr (PVr rw st) δ r)) := by
    intro x y hno
    refine Ok_mono (t_skip (Rs := Rs) hW hd1 hlen hp hq0 hlt hm hfn hRV hFr hno) ?_
    rintro (s | r) hs
    · exact ⟨hs.1, _, by omega, by omega, hs.2⟩
    · exact hs.elim
  have blk : ∀ z, p' ≤ z → z < p' - p' % 100 + 100 → z / 200 = p' / 200 ∧ z / 100 % 2 = p' / 100 % 2 ∧ p' % 100 ≤ z % 100 := fun z a b => by omega
  have hbr : (if 2 ≤ l_hd (Rs (p' / 200)) then s_nt (v_S V) else 1) ≤ 100 ∧ 1 ≤ (if 2 ≤ l_hd (Rs (p' / 200)) then s_nt (v_S V) else 1) := by split <;> omega
  unfold m_X6_advanceActive_b97
  by_cases h1 : l_hd (Rs (p' / 200)) ≤ p' / 100 % 2
  · have e : ∀ {m : Option (Dy ⊕ Dy)}, (m.bind fun y => some y) = m := fun {m} => by cases m <;> rfl
    simp (disch := omega) only [gI_ko k0, r1, ob_some, ii_le, if_pos]
    exact hskip (fun z a b => canF_h (by rw [(blk z a b).1, (blk z a b).2.1]; exact h1))
  · have r2 := hRr.2.1 (p' / 100 % 2) (by omega) (by omega)
    have s5 := hRV.1.2.2.2.2.1 t t0.1 t0.2
    have q2 := hgr.2.1 (p' / 100 % 2) (by omega) (by omega)
    have q5 := g1.2.2.2.1 t t0.1 t0.2
    have hs5 : d.1 (st + 3) t.toNat = ii (s_so (v_S V) t) := s5
    by_cases h2 : l_so (Rs (p' / 200)) (p' / 100 % 2) = s_so (v_S V) t
    · by_cases h3 : (if 2 ≤ l_hd (Rs (p' / 200)) then s_nt (v_S V) else 1) ≤ p' % 100
      · simp (disch := omega) only [gI_ko k0, r1, ob_some, ii_le, ii_lt, if_neg, gR_ko k0 k1, rI_kd d1, r2, gR_ko w0 w1, gR_ko m0 m3, rI_kd b3, hs5, ii_eq, if_pos]
        exact hskip (fun z a b => canF_b (by have := blk z a b; rw [this.1]; omega))
      · have hRV1 : RVv (u2 d.1 (rw + 6 + 2 * rest.length) 3 (ii (p' + 1)), d.2) rw st base made (v_setfr V (.inl (t, p' + 1) :: rest)) := RVv_place hRV hlen hd1
        have hF1 : Fr (PVr rw st) d (u2 d.1 (rw + 6 + 2 * rest.length) 3 (ii (p' + 1)), d.2) := Fr_u2 (by unfold PVr; omega)
        have hRs1 := RRs_of_Fr hRd g3.2 hF1 (fun r a b => by unfold PVr; omega)
        have r1' : u2 d.1 (rw + 6 + 2 * rest.length) 3 (ii (p' + 1)) ru 5 = ii (l_hd (Rs (p' / 200))) := by
          rw [hru]
          exact (hRs1 _ hw.1 hw.2).1
        have hG1 : GV Rs made (v_setfr V (.inl (t, p' + 1) :: rest)) := GV_place hG hf (by omega) (by omega)
        obtain ⟨X, eX, hX⟩ := t_a200 (ru := ru) (d := (u2 d.1 (rw + 6 + 2 * rest.length) 3 (ii (p' + 1)), d.2)) hW hKS hKR hd0 hd1 (by show rest.length + 1 ≤ 183; omega) hRV1 hRs1 hG1 t0 hw h1 h2 h3 rfl rfl rfl (x := x) (y := rw + 6 + 2 * rest.length) hru
        refine ⟨X, ?_, ?_⟩
        · rw [← eX, ← a174_eq (o' := if 2 ≤ l_hd (Rs (p' / 200)) then p' % 100 else -1) (by omega) rfl]
          by_cases c : 2 ≤ l_hd (Rs (p' / 200))
          · simp (disch := omega) only [gI_ko k0, r1, r1', ob_some, ii_lit, ii_add, ii_le, ii_lt, if_neg, gR_ko k0 k1, rI_kd d1, r2, gR_ko w0 w1, gR_ko m0 m3, rI_kd b3, hs5, ii_eq, if_pos, pI_ko f2]
          · simp (disch := omega) only [gI_ko k0, r1, r1', ob_some, ii_lit, ii_neg, ii_add, ii_le, ii_lt, if_neg, gR_ko k0 k1, rI_kd d1, r2, gR_ko w0 w1, gR_ko m0 m3, rI_kd b3, hs5, ii_eq, if_pos, pI_ko f2]
        · have hn : 0 < (aEnd (v_S V) made t - p').toNat := by omega
          cases X with
          | inl s =>
            obtain ⟨e1, e2, e3⟩ := hX
            have e1' : canF (v_S V) Rs (v_hi V) t p' = none := e1
            refine ⟨⟨p' + 1, ⟨by omega, by omega⟩, ?_, e2, (hFr.tr hF1).tr e3⟩, p' + 1, by omega, by omega, ?_⟩
            · rw [← hfn, fnd_skip 1 _ p' (by omega) (fun z a b => by
                rw [show z = p' by omega]
                show (canF (v_S V) Rs (v_hi V) t p').isSome = false
                rw [e1']; rfl)]
              rw [show p' + ((1 : Nat) : Int) = p' + 1 by omega, show (aEnd (v_S V) made t - (p' + 1)).toNat = (aEnd (v_S V) made t - p').toNat - 1 by omega]
            · exact e2.2.2.1.1.2.2
          | inr r =>
            obtain ⟨bd, e1, e2, e3⟩ := hX
            have e1' : canF (v_S V) Rs (v_hi V) t p' = some bd := e1
            have hnx : aNext V Rs made t p = p' := by
              rw [← hfn]
              exact fnd_at hn (by show (canF (v_S V) Rs (v_hi V) t p').isSome = true; rw [e1']; rfl)
            refine ⟨?_, (hFr.tr hF1).tr e3⟩
            unfold advA
            rw [hnx, if_neg (by omega), e1']
            exact e2
    · simp (disch := omega) only [gI_ko k0, r1, ob_some, ii_le, ii_lt, if_neg, gR_ko k0 k1, rI_kd d1, r2, gR_ko w0 w1, gR_ko m0 m3, rI_kd b3, hs5, ii_eq]
      exact hskip (fun z a b => canF_s (by rw [(blk z a b).1, (blk z a b).2.1]; exact h2))
theorem t_advA (hW : KW σ rw st ro) (hKS : KS σ st) (hKR : KRs σ ro) (hd0 : ro + 54 ≤ st) (hd1 : st + 10 ≤ rw) {t p : Int} {rest : List Frm} (hf : v_fr V = .inl (t, p) :: rest) (hRV : RVv δ rw st base made V) (hRs : RRs δ ro made Rs) (hG : GV Rs made V) : Ok (m_X6_advanceActive σ rw (rw + 6 + 2 * rest.length) δ) (fun r => RVv r rw st base made (advA V Rs made t p rest) ∧ Fr (PVr rw st) δ r) := by
  obtain ⟨g1, g2, g3, g4, g5, g6, g7, g8⟩ := id hG
  have gn := g1.1
  have hlen : rest.length < 183 := by
    have := okF_len g6
    rw [hf, List.length_cons] at this
    rw [hf] at g7
    omega
  have hft : gFrm (v_S V) Rs made (.inl (t, p)) := g5 _ (by rw [hf]; exact List.mem_cons_self ..)
  obtain ⟨t0, p0, p1⟩ := hft
  obtain ⟨w0, ⟨w1, w2, w3, w4, w5, w6, w7⟩, x1, x2, x3, x4, x5, xf⟩ := id hW
  obtain ⟨f1, f2, f3, f4⟩ := xf _ hlen
  obtain ⟨m0, ⟨m1, m2, m3, m4, m5, m6, m7, m8, m9⟩, b1, b2, b3, b4, b5, b6, b7, -⟩ := id hKS
  have hVf := hRV.2.2.1
  rw [hf] at hVf
  obtain ⟨⟨e1, e2, e3⟩, -⟩ := hVf
  have e9 := hRV.1.2.2.2.2.2.2.2.2.1 t t0.1 t0.2
  have hRV0 : RVv δ rw st base made (v_setfr V (.inl (t, p) :: rest)) := by rw [← hf]; exact hRV
  have hmd := hRV.2.2.2.2.2.2.2
  have hend : 0 ≤ aEnd (v_S V) made t ∧ aEnd (v_S V) made t ≤ 1600 := by unfold aEnd; split <;> omega
  have loop : Ok (m_X6_advanceActive_b30 σ rw (rw + 6 + 2 * rest.length) (ii t) (ii (aEnd (v_S V) made t)) δ) (fun r => RVv r rw st base made (advA V Rs made t p rest) ∧ Fr (PVr rw st) δ r) := by
    unfold m_X6_advanceActive_b30
    refine Ok_lp (Ia rw st base made V Rs t p rest δ) (fun s => (1600 - (s.1 (rw + 6 + 2 * rest.length) 3).toInt).toNat) ?_ ⟨p, ⟨Int.le_refl _, Or.inl (Int.le_refl _)⟩, rfl, hRV0, Fr.rf⟩ ?_
    · rintro d ⟨q, hq, hfn, hRVd, hFr⟩
      have hpl : d.1 (rw + 6 + 2 * rest.length) 3 = ii q := hRVd.2.2.1.1.2.2
      have hq2 : 0 ≤ q ∧ q ≤ 1600 := by omega
      by_cases hle : aEnd (v_S V) made t ≤ q
      · have h3 : d.1 rw 3 = ii ((rest.length : Int) + 1) := hRVd.2.1
        refine Ok_inr (r := (u2 d.1 rw 3 (ii rest.length), d.2)) ?_ ⟨?_, hFr.tr (Fr_u2 (by unfold PVr; omega))⟩
        · simp (disch := omega) only [gI_ko f2, hpl, ob_some, ii_le, if_pos, gI_ko w0, h3, ii_lit, ii_sub, pI_ko w0]
          rw [show (rest.length : Int) + 1 - 1 = rest.length by omega]
        · have hnx : aNext V Rs made t p = -1 := by
            rw [← hfn, show (aEnd (v_S V) made t - q).toNat = 0 by omega]
            rfl
          unfold advA
          rw [if_pos hnx]
          exact RVv_pop hRVd hlen hd1
      · have hm : aEnd (v_S V) made t = made * 200 := by
          unfold aEnd at hle ⊢
          split
          · rfl
          · rename_i c; rw [if_neg c] at hle; omega
        have hw : 0 ≤ q / 200 ∧ q / 200 < made := by omega
        have hRd := RRs_of_Fr hRs g3.2 hFr (fun r a b => by unfold PVr; omega)
        have hKr := (hKR.2 (q / 200).toNat (by omega)).2
        have hRr := hRd _ hw.1 hw.2
        have r1 := hRr.1
        have hhd := (g4 _ hw.1 hw.2).1
        have erA := rA_rule hKR (w := q / 200) hw.1 (by omega)
        have e10 : d.1 st 10 = ii (s_nt (v_S V)) := hRVd.1.2.1
        obtain ⟨X, eX, hX⟩ := t_a97 (x := ii (aEnd (v_S V) made t)) hW hKS hKR hd0 hd1 hf hRs hG hq (by omega) hm hfn hRVd hFr rfl
        refine ⟨X, ?_, ?_⟩
        · rw [← eX]
          by_cases c : 2 ≤ l_hd (Rs (q / 200))
          · simp (disch := omega) only [gI_ko f2, hpl, ob_some, ii_lit, ii_le, if_neg, dvI_ii, rmI_ii, gR_ko w0 w2, erA, gI_ko hKr.1, r1, if_pos, gR_ko w0 w1, gI_ko m0, e10]
          · simp (disch := omega) only [gI_ko f2, hpl, ob_some, ii_lit, ii_le, if_neg, dvI_ii, rmI_ii, gR_ko w0 w2, erA, gI_ko hKr.1, r1, if_pos, gR_ko w0 w1, gI_ko m0, e10]
        · cases X with
          | inl s =>
            obtain ⟨i1, q', i2, i3, i4⟩ := hX
            refine ⟨i1, ?_⟩
            rw [hpl, i4, ii_toInt (by omega) (by omega), ii_toInt (by omega) (by omega)]
            omega
          | inr r => exact hX
    · rw [e3, ii_toInt (by omega) (by omega)]
      omega
  unfold m_X6_advanceActive
  cases hsd : s_sd (v_S V) t with
  | false =>
    rw [hsd] at e9
    have ha : aEnd (v_S V) made t = 0 := by unfold aEnd; rw [hsd]; rfl
    rw [ha] at loop
    simp (disch := omega) only [gI_ko f2, e2, ob_some, gR_ko w0 w1, gR_ko m0 m7, rZ_kd b7, e9]
    rw [if_pos (show bi false = 0 from rfl)]
    exact loop
  | true =>
    rw [hsd] at e9
    have ha : aEnd (v_S V) made t = made * 200 := by unfold aEnd; rw [hsd]; rfl
    rw [ha] at loop
    simp (disch := omega) only [gI_ko f2, e2, ob_some, gR_ko w0 w1, gR_ko m0 m7, rZ_kd b7, e9]
    rw [if_neg (by decide)]
    simp only [gI_ko w0, hmd, ob_some, ii_lit, ii_mul]
    exact loop
end
