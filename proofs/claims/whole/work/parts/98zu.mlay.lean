/-! THE LAW: the reference lays an end -/
section
variable {σ : St} {δ d : Dy} {mo n0 : Nat} {S : Sto} {V : Vw}
theorem m_ins (hK : KM σ mo) {l : List Int} {x : Int} {t : Int32} (hn : l.length < 100) (h : lay δ (mo + 36) 62 l) (hl : ∀ y ∈ l, 0 ≤ y ∧ y < 4320000) (hx : 0 ≤ x ∧ x < 4320000) : Ok (m_X12_layEnd_b170 σ mo (ii (l.length : Int)) t (ii x) (ii (62 + (l.length : Int))) δ) (PL (fun s => s.1 = ii ((l.length : Int) + 1) ∧ s.2.1 = t + 1 ∧ lay s.2.2 (mo + 36) 62 (insE x l) ∧ CeF (mo + 36) 62 (l.length + 1) δ s.2.2) (fun _ => False)) := by
  have D3 := md48 hK
  have e4 := mg48 hK
  have stop : ∀ (k : Nat) (d : Dy), INS δ d (mo + 36) 62 l x k → (k = 0 ∨ ∃ j y, k = j + 1 ∧ l[j]? = some y ∧ y ≤ x) → ∃ s, m_X12_layEnd_b212 σ mo (ii (l.length : Int)) t (ii x) (ii (62 + (k : Int))) d = some (Sum.inl s) ∧ s.1 = ii ((l.length : Int) + 1) ∧ s.2.1 = t + 1 ∧ lay s.2.2 (mo + 36) 62 (insE x l) ∧ CeF (mo + 36) 62 (l.length + 1) δ s.2.2 := by
    intro k d hI hk
    have h5 := hI.2.2.2.2
    obtain ⟨d1, w1, v1, o1, F1⟩ := wI_ex (δ := d) (r := mo + 36) (z := 62 + (k : Int)) (k := 62 + k) (x := ii x) D3 (by omega) (by omega) (by omega)
    obtain ⟨b1, b2⟩ := INS_end hI hk v1 o1 F1
    refine ⟨(ii ((l.length : Int) + 1), t + 1, d1), ?_, rfl, rfl, b1, b2⟩
    unfold m_X12_layEnd_b212 m_X12_layEnd_b223
    rw [e4, ob_some, w1, ob_some, show ((1 : Int32)) = ii 1 from rfl, ii_add]
  unfold m_X12_layEnd_b170
  refine Ok_lpi (fun n s => s.1 = ii (62 + (n : Int)) ∧ INS δ s.2 (mo + 36) 62 l x n) ?_ (n := l.length) ⟨rfl, INS_0 h⟩ (by omega)
  rintro n ⟨s1, d⟩ ⟨hs, hI⟩
  dsimp only at hs hI ⊢
  subst hs
  have h5 := hI.2.2.2.2
  match n with
  | 0 =>
    obtain ⟨s, e, hs⟩ := stop 0 d hI (Or.inl rfl)
    refine Ok_inr (r := Sum.inl s) ?_ hs
    have c : (ii (62 + ((0 : Nat) : Int)) ≤ (62 : Int32)) = True := eq_true (by decide)
    simp only [c, ↓reduceIte, e, ob_some]
  | k + 1 =>
    have hk : k < l.length := by omega
    obtain ⟨y, hy⟩ : ∃ y, l[k]? = some y := ⟨_, List.getElem?_eq_getElem hk⟩
    have hyr := hl y (List.mem_of_getElem? hy)
    have c : (ii (62 + ((k + 1 : Nat) : Int)) ≤ (62 : Int32)) = False := by
      rw [show ((62 : Int32)) = ii 62 from rfl, ii_le (by omega) (by omega) (by omega) (by omega)]
      exact eq_false (by omega)
    have a1 : ii (62 + ((k + 1 : Nat) : Int)) - (1 : Int32) = ii (62 + (k : Int)) := by
      rw [show ((1 : Int32)) = ii 1 from rfl, ii_sub]
      exact congrArg ii (by omega)
    have a2 : ii (62 + ((k + 1 : Nat) : Int)) + (-1 : Int32) = ii (62 + (k : Int)) := by
      rw [show ((-1 : Int32)) = ii (-1) from rfl, ii_add]
      exact congrArg ii (by omega)
    have y1 : rI σ d (mo + 36) (ii (62 + (k : Int))) = some (ii y) := rst (z := 62 + (k : Int)) (k := 62 + k) D3 (by omega) (by omega) (by omega) (hI.1 k y hy (by omega))
    by_cases cx : y ≤ x
    · have c2 : (ii y ≤ ii x) = True := by
        rw [ii_le (by omega) (by omega) (by omega) (by omega)]
        exact eq_true cx
      obtain ⟨s, e, hs⟩ := stop (k + 1) d hI (Or.inr ⟨k, y, rfl, hy, cx⟩)
      refine Ok_inr (r := Sum.inl s) ?_ hs
      simp only [c, ↓reduceIte, e4, ob_some, a1, y1, c2, e]
    · have c2 : (ii y ≤ ii x) = False := by
        rw [ii_le (by omega) (by omega) (by omega) (by omega)]
        exact eq_false cx
      obtain ⟨d1, w1, v1, o1, F1⟩ := wI_ex (δ := d) (r := mo + 36) (z := 62 + ((k + 1 : Nat) : Int)) (k := 62 + (k + 1)) (x := ii y) D3 (by omega) (by omega) (by omega)
      refine Ok_inl (s' := (ii (62 + (k : Int)), d1)) ?_ ⟨k, by omega, rfl, INS_step hI hy cx v1 o1 F1⟩
      simp only [c, ↓reduceIte, e4, ob_some, a1, a2, y1, c2, w1]
theorem RSm_a {d : Dy} (h : RSm δ mo S) (e : d.1 (mo + 1) = δ.1 (mo + 1)) : RSm d mo S := by
  unfold RSm at h ⊢
  rw [e]
  exact h
/-- the tokens -/
theorem m_layTok (hK : KM σ mo) (hS : RSm δ mo S) (hG : GS S) : Ok (m_X12_layEnd_b68 σ mo (ii 0) (ii 0) δ) (fun d => lay d (mo + 36) 62 (codsE S (s_nt S).toNat) ∧ d.1 (mo + 36) 61 = ii (codsE S (s_nt S).toNat).length ∧ (∀ q, q < 61 → d.1 (mo + 36) q = δ.1 (mo + 36) q) ∧ Fr (fun q => q = mo + 36) δ d) := by
  have g03 : 0 ≤ s_nt S ∧ s_nt S ≤ 100 := ⟨hG.1.2.2.1, hG.1.2.2.2⟩
  have gnv := hG.1
  unfold m_X12_layEnd_b68
  refine Ok_for (fun z s => s.1 = ii ((codsE S z.toNat).length : Int) ∧ s.2.1 = ii z ∧ lay s.2.2 (mo + 36) 62 (codsE S z.toNat) ∧ CeF (mo + 36) 62 (codsE S z.toNat).length δ s.2.2) 0 (s_nt S) g03.1 (by omega) ?_ ?_ ⟨rfl, rfl, fun i x hx => (by cases hx), CeF.rf⟩
  · rintro z ⟨s1, s2, d⟩ z0 z1 ⟨hs1, hs2, hL, hC⟩
    dsimp only at hs1 hs2 hL hC ⊢
    subst hs1
    subst hs2
    have hSd : RSm d mo S := RSm_a hS (hC.2 _ (by omega)).1
    obtain ⟨n, rfl⟩ : ∃ n : Nat, z = n := ⟨z.toNat, by omega⟩
    rw [show ((n : Int) + 1).toNat = n + 1 by omega]
    rw [show ((n : Int)).toNat = n by omega] at hL hC ⊢
    obtain ⟨hcr, hcl, hcn⟩ := codsE_rng hG n (by omega)
    obtain ⟨q0, q1, q2, q3⟩ := codE_rng hG (t := n) z0 z1
    have hSd' := hSd
    obtain ⟨m1, m2, m3, m4, m5, m6, m7, m8, m9, m10⟩ := hSd'
    have D0 := md0 hK
    have y121 : rI σ d (mo + 1) (121 : Int32) = some (ii (s_nt S)) := rst (z := 121) (k := 121) D0 (by omega) (by omega) (by omega) m4
    have c1 : (ii (s_nt S) ≤ ii (n : Int)) = False := by
      rw [ii_le (by omega) (by omega) (by omega) (by omega)]
      exact eq_false (by omega)
    have ad : ∀ (c : Int) (x : Int32), x = ii c → x + ii (n : Int) = ii (c + n) := fun c x hx => by rw [hx, ii_add]
    have y422 : rI σ d (mo + 1) ((422 : Int32) + ii (n : Int)) = some (bi (s_sd S n)) := by
      rw [ad 422 (422 : Int32) rfl]
      exact rst (z := 422 + n) (k := (422 + (n : Int)).toNat) D0 (by omega) (by omega) (by omega) (m8 n z0 z1)
    have a1 : ii (n : Int) + (1 : Int32) = ii ((n : Int) + 1) := by rw [show ((1 : Int32)) = ii 1 from rfl, ii_add]
    have b01 : (bi false = (1 : Int32)) = False := eq_false (by decide)
    have b11 : (bi true = (1 : Int32)) = True := eq_true rfl
    cases hsd : s_sd S n with
    | false =>
      rw [hsd] at y422
      refine Ok_inl (s' := (ii ((codsE S n).length : Int), ii ((n : Int) + 1), d)) ?_ ⟨?_, rfl, ?_, ?_⟩
      · simp only [mg0 hK, ob_some, y121, c1, ↓reduceIte, y422, b01, m_X12_layEnd_b223, a1]
      · show _ = ii ((if s_sd S n = true then insE (codE S n) (codsE S n) else codsE S n).length : Nat)
        rw [hsd]; rfl
      · show lay d (mo + 36) 62 (if s_sd S n = true then insE (codE S n) (codsE S n) else codsE S n)
        rw [hsd]; exact hL
      · show CeF (mo + 36) 62 (if s_sd S n = true then insE (codE S n) (codsE S n) else codsE S n).length δ d
        rw [hsd]; exact hC
    | true =>
      rw [hsd] at y422
      have y122 : rI σ d (mo + 1) ((122 : Int32) + ii (n : Int)) = some (ii (s_so S n)) := by
        rw [ad 122 (122 : Int32) rfl]
        exact rst (z := 122 + n) (k := (122 + (n : Int)).toNat) D0 (by omega) (by omega) (by omega) (m5 n z0 z1)
      have y522 : rI σ d (mo + 1) ((522 : Int32) + ii (n : Int)) = some (bi (s_la S n)) := by
        rw [ad 522 (522 : Int32) rfl]
        exact rst (z := 522 + n) (k := (522 + (n : Int)).toNat) D0 (by omega) (by omega) (by omega) (m9 n z0 z1)
      have y222 : rI σ d (mo + 1) ((222 : Int32) + ii (n : Int)) = some (ii (s_fi S n)) := by
        rw [ad 222 (222 : Int32) rfl]
        exact rst (z := 222 + n) (k := (222 + (n : Int)).toNat) D0 (by omega) (by omega) (by omega) (m6 n z0 z1)
      have y322 : rI σ d (mo + 1) ((322 : Int32) + ii (n : Int)) = some (ii (s_se S n)) := by
        rw [ad 322 (322 : Int32) rfl]
        exact rst (z := 322 + n) (k := (322 + (n : Int)).toNat) D0 (by omega) (by omega) (by omega) (m7 n z0 z1)
      have f4 := m_asTold hK hSd hG (hG.2.2.2.2.1 n z0 z1)
      have f5 := m_asTold hK hSd hG (hG.2.2.2.2.2 n z0 z1)
      have hin := m_ins hK (l := codsE S n) (x := codE S n) (t := ii (n : Int)) (by omega) hL (fun y hy => by have := hcr y hy; omega) ⟨q0, q1⟩
      have hins : insE (codE S n) (codsE S n) = codsE S (n + 1) := by
        show _ = (if s_sd S n = true then insE (codE S n) (codsE S n) else codsE S n)
        rw [if_pos hsd]
      rw [hins] at hin
      have hl1 : (codsE S (n + 1)).length = (codsE S n).length + 1 := by rw [← hins, insE_len]
      have a62 : (62 : Int32) + ii ((codsE S n).length : Int) = ii (62 + ((codsE S n).length : Int)) := by rw [show ((62 : Int32)) = ii 62 from rfl, ii_add]
      have bv : ((600 : Int32) * ((((600 : Int32) * (((2 : Int32) * ii (s_so S n)) + bi (s_la S n))) + ii (form S (s_fi S n))) + (99 : Int32)) + ii (form S (s_se S n))) + (99 : Int32) = ii (codE S n) := by
        have hb : bi (s_la S n) = ii (if s_la S n = true then 1 else 0) := by cases s_la S n <;> rfl
        rw [hb, show ((600 : Int32)) = ii 600 from rfl, show ((2 : Int32)) = ii 2 from rfl, show ((99 : Int32)) = ii 99 from rfl]
        simp only [ii_mul, ii_add]
        unfold codE
        exact congrArg ii (by omega)
      simp only [mg0 hK, ob_some, y121, c1, ↓reduceIte, y422, b11, y122, y522, y222, chk_ko hK.1, f4, y322, f5, bv, a62]
      refine Ok_mono hin ?_
      rintro (s | r) hs
      · obtain ⟨h1, h2, h3, h4⟩ := hs
        refine ⟨?_, by rw [h2, a1], h3, (hC.wk (by omega)).tr (h4.wk (by omega))⟩
        rw [h1, hl1]
        exact congrArg ii (by omega)
      · exact hs.elim
  · rintro ⟨s1, s2, d⟩ ⟨hs1, hs2, hL, hC⟩
    dsimp only at hs1 hs2 hL hC ⊢
    subst hs1
    subst hs2
    have hSd : RSm d mo S := RSm_a hS (hC.2 _ (by omega)).1
    have y121 : rI σ d (mo + 1) (121 : Int32) = some (ii (s_nt S)) := rst (z := 121) (k := 121) (md0 hK) (by omega) (by omega) (by omega) hSd.2.2.2.1
    have c1 : (ii (s_nt S) ≤ ii (s_nt S)) = True := by
      rw [ii_le (by omega) (by omega) (by omega) (by omega)]
      exact eq_true (Int.le_refl _)
    have hlen := (codsE_rng hG (s_nt S).toNat (by omega)).2.2
    obtain ⟨d1, w1, v1, o1, F1⟩ := wI_ex (δ := d) (r := mo + 36) (z := 61) (k := 61) (x := ii ((codsE S (s_nt S).toNat).length : Int)) (md48 hK) (by omega) (by omega) (by omega)
    have w1' : wI σ d (mo + 36) (61 : Int32) (ii ((codsE S (s_nt S).toNat).length : Int)) = some d1 := w1
    exact Ok_inr (r := d1) (by simp only [mg0 hK, mg48 hK, ob_some, y121, c1, ↓reduceIte, w1']) ⟨fun i x hx => by rw [o1 _ (by omega)]; exact hL i x hx, v1, fun q hq => by rw [o1 _ (by omega), hC.1 _ (by omega)], hC.2.tr F1⟩
theorem m_layE (hK : KM σ mo) (hS : RSm δ mo (v_S V)) (hG : GS (v_S V)) (hfl : δ.1 (mo + 1) 7040 = bi (v_fl V)) (h49 : δ.1 mo 49 = ii n0) (hn : n0 ≤ 60) (hv : (n0 : Int) ≤ s_nv (v_S V)) : Ok (m_X12_layEnd σ mo δ) (fun d => RMl d mo (erecE n0 V) ∧ Fr (fun q => q = mo + 36) δ d) := by
  have gnv := hG.1
  have D3 := md48 hK
  have y40 : rI σ δ (mo + 1) (7040 : Int32) = some (bi (v_fl V)) := rst (z := 7040) (k := 7040) (md0 hK) (by omega) (by omega) (by omega) hfl
  obtain ⟨d0, w0, v0, o0, F0⟩ := wI_ex (δ := δ) (r := mo + 36) (z := 0) (k := 0) (x := bi (v_fl V)) D3 (by omega) (by omega) (by omega)
  have w0' : wI σ δ (mo + 36) (0 : Int32) (bi (v_fl V)) = some d0 := w0
  have key : Ok (m_X12_layEnd_b16 σ mo (ii 0) d0) (fun d => RMl d mo (erecE n0 V) ∧ Fr (fun q => q = mo + 36) δ d) := by
    unfold m_X12_layEnd_b16
    refine Ok_for (fun z s => s.1 = ii z ∧ s.2.1 (mo + 36) 0 = bi (v_fl V) ∧ (∀ i : Nat, (i : Int) < z → s.2.1 (mo + 36) (i + 1) = ii (((List.range n0).map (valE (v_S V))).getD i 0)) ∧ Fr (fun q => q = mo + 36) δ s.2) 0 60 (by omega) (by omega) ?_ ?_ ⟨rfl, v0, fun i hi => absurd hi (by omega), F0⟩
    · rintro z ⟨s1, d⟩ z0 z1 ⟨hs, h0, hvv, hF⟩
      dsimp only at hs h0 hvv hF ⊢
      subst hs
      have hSd : RSm d mo (v_S V) := RSm_a hS (hF _ (by omega)).1
      have c60 : ((60 : Int32) ≤ ii z) = False := by
        rw [show ((60 : Int32)) = ii 60 from rfl, ii_le (by omega) (by omega) (by omega) (by omega)]
        exact eq_false (by omega)
      have x49 : gI σ d 12 mo 49 = some (ii (n0 : Int)) := by rw [gI_ko hK.1, (hF mo (by omega)).1, h49]
      have a1 : ii z + (1 : Int32) = ii (z + 1) := by rw [show ((1 : Int32)) = ii 1 from rfl, ii_add]
      have a1' : (1 : Int32) + ii z = ii (1 + z) := by rw [show ((1 : Int32)) = ii 1 from rfl, ii_add]
      have fin : ∀ x : Int32, x = ii (((List.range n0).map (valE (v_S V))).getD z.toNat 0) → Ok (m_X12_layEnd_b57 σ mo (ii z) (mo + 36) (ii (1 + z)) x d) (PL (fun s => s.1 = ii (z + 1) ∧ s.2.1 (mo + 36) 0 = bi (v_fl V) ∧ (∀ i : Nat, (i : Int) < z + 1 → s.2.1 (mo + 36) (i + 1) = ii (((List.range n0).map (valE (v_S V))).getD i 0)) ∧ Fr (fun q => q = mo + 36) δ s.2) (fun d => RMl d mo (erecE n0 V) ∧ Fr (fun q => q = mo + 36) δ d)) := by
        intro x hx
        obtain ⟨dd, w, v, o, F⟩ := wI_ex (δ := d) (r := mo + 36) (z := 1 + z) (k := z.toNat + 1) (x := x) D3 (by omega) (by omega) (by omega)
        refine Ok_inl (s' := (ii (z + 1), dd)) ?_ ⟨rfl, by rw [o _ (by omega)]; exact h0, fun i hi => ?_, hF.tr F⟩
        · unfold m_X12_layEnd_b57
          rw [w, ob_some, a1]
        · by_cases ci : i = z.toNat
          · rw [ci, v, hx]
          · rw [o _ (by omega)]; exact hvv i (by omega)
      by_cases cn : (n0 : Int) ≤ z
      · have cc : (ii (n0 : Int) ≤ ii z) = True := by
          rw [ii_le (by omega) (by omega) (by omega) (by omega)]
          exact eq_true cn
        have := fin (0 : Int32) (by rw [vals_getD, if_neg (by omega)]; rfl)
        simp only [c60, ↓reduceIte, mg48 hK, ob_some, x49, cc, a1']
        exact this
      · have cc : (ii (n0 : Int) ≤ ii z) = False := by
          rw [ii_le (by omega) (by omega) (by omega) (by omega)]
          exact eq_false cn
        have y1 := m_cl (σ := σ) hK hSd hG (v := z) (z := 1 + z) z0 (by omega) rfl
        have hcr := hG.2.1 z z0 (by omega)
        have a61 : (61 : Int32) + ii (s_cl (v_S V) z) = ii (61 + s_cl (v_S V) z) := by rw [show ((61 : Int32)) = ii 61 from rfl, ii_add]
        have y2 := m_va (σ := σ) hK hSd hG (v := s_cl (v_S V) z) (z := 61 + s_cl (v_S V) z) hcr.1 hcr.2 rfl
        have := fin (ii (s_va (v_S V) (s_cl (v_S V) z))) (by
          rw [vals_getD, if_pos (by omega)]
          unfold valE
          rw [show ((z.toNat : Nat) : Int) = z by omega])
        simp only [c60, ↓reduceIte, mg48 hK, mg0 hK, ob_some, x49, cc, a1', y1, a61, y2]
        exact this
    · rintro ⟨s1, d⟩ ⟨hs, h0, hvv, hF⟩
      dsimp only at hs h0 hvv hF ⊢
      subst hs
      have c60 : ((60 : Int32) ≤ ii 60) = True := eq_true (by decide)
      obtain ⟨d1, w1, t1, t2, t3, t4⟩ := m_layTok hK (RSm_a hS (hF _ (by omega)).1) hG
      have w1' : m_X12_layEnd_b68 σ mo (0 : Int32) (0 : Int32) d = some d1 := w1
      refine Ok_inr (r := d1) (by simp only [c60, ↓reduceIte, w1', ob_some]) ⟨fun j hj => ?_, hF.tr t4⟩
      by_cases j0 : j = 0
      · rw [j0, t3 0 (by omega)]; exact h0
      by_cases j61 : j < 61
      · obtain ⟨i, rfl⟩ : ∃ i, j = i + 1 := ⟨j - 1, by omega⟩
        rw [t3 _ j61, hvv i (by omega), cellM_v (by omega)]
        rfl
      by_cases j62 : j = 61
      · rw [j62, t2]; rfl
      · obtain ⟨i, rfl⟩ : ∃ i, j = 62 + i := ⟨j - 62, by omega⟩
        have hi : i < (codsE (v_S V) (s_nt (v_S V)).toNat).length := by
          have : 62 + i < 62 + (codsE (v_S V) (s_nt (v_S V)).toNat).length := hj
          omega
        rw [cellM_c]
        show _ = ii ((codsE (v_S V) (s_nt (v_S V)).toNat).getD i 0)
        rw [getD_some (List.getElem?_eq_getElem hi)]
        exact t1 i _ (List.getElem?_eq_getElem hi)
  have key' : Ok (m_X12_layEnd_b16 σ mo (0 : Int32) d0) (fun d => RMl d mo (erecE n0 V) ∧ Fr (fun q => q = mo + 36) δ d) := key
  unfold m_X12_layEnd
  simp only [mg48 hK, mg0 hK, ob_some, y40, w0']
  exact key'
end
