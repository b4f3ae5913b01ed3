/-! THE REFERENCE: assuming, the end of a level -/
def assM (E : Ev) (S : Sto) (l : Lv) (ls : List Lv) : List Lv := match (l_w l)[fstI (canAs E S) (l_w l)]? with
  | some a => assumeL E l (fstI (canAs E S) (l_w l)) a :: ls
  | none => l :: ls
section
variable {σ : St} {δ d : Dy} {mo g n n' i : Nat} {E : Ev} {S : Sto} {a : Ag} {l l' : Lv} {ls : List Lv}
theorem pushG_to {β : Type} {fa fc : Nat} {x : Int32} {rest : Dy → Option β} {D : Dy} (h : pushG σ mo fa fc x δ = some D) : ((gR σ 12 mo fa).bind fun v1 => (gI σ δ 12 mo 33).bind fun v2 => (gR σ 12 mo fc).bind fun v3 => (gI σ δ 12 mo 33).bind fun v4 => (rI σ δ v3 v4).bind fun v5 => (wI σ δ v1 (((500 : Int32) * v2) + v5) x).bind fun d6 => (gR σ 12 mo fc).bind fun v7 => (gI σ d6 12 mo 33).bind fun v8 => (rI σ d6 v7 v8).bind fun v9 => (wI σ d6 v7 v8 (v9 + (1 : Int32))).bind rest) = rest D := by
  have e : ((gR σ 12 mo fa).bind fun v1 => (gI σ δ 12 mo 33).bind fun v2 => (gR σ 12 mo fc).bind fun v3 => (gI σ δ 12 mo 33).bind fun v4 => (rI σ δ v3 v4).bind fun v5 => (wI σ δ v1 (((500 : Int32) * v2) + v5) x).bind fun d6 => (gR σ 12 mo fc).bind fun v7 => (gI σ d6 12 mo 33).bind fun v8 => (rI σ d6 v7 v8).bind fun v9 => (wI σ d6 v7 v8 (v9 + (1 : Int32))).bind rest) = (pushG σ mo fa fc x δ).bind rest := by
    unfold pushG
    simp only [Option.bind_assoc, ob_some]
  rw [e, h]
  rfl
theorem m_assume (hK : KM σ mo) (hN : RNm δ mo E) (gE : GE E) (hS : RSm δ mo S) (hGS : GS S) (h : RGm δ mo n E (l :: ls)) (hJ : ls.length < 4) (hn : n < 1980) (hga : gAs E S (l_w l)) (hb : (l_q l).length < 390 ∧ (l_as l).length < 390) : Ok (m_X12_assume σ mo δ) (fun d => ∃ n' : Nat, RGm d mo n' E (assM E S l ls) ∧ n' + wL (assM E S l ls) ≤ n + wL (l :: ls) ∧ n' ≤ n + 1 ∧ GFm mo δ d) := by
  have hc := gE.1.2
  have hw := h.2.2.1.2.1
  have hwl := hw.1
  have h33' : δ.1 mo 33 = ii ls.length := by rw [h.1, List.length_cons]; exact congrArg ii (by omega)
  have gi : gI σ δ 12 mo 33 = some (ii ls.length) := by rw [gI_ko hK.1, h33']
  have x1 : rI σ δ (mo + 21) (ii ls.length) = some (ii (l_w l).length) := rst (md26 hK) (by omega) (by omega) (by omega) hw.2.1
  unfold m_X12_assume m_X12_assume_b2
  refine Ok_for (fun z s => s = ii z ∧ ∀ j, j < z.toNat → ∀ b, (l_w l)[j]? = some b → canAs E S b = false) 0 (l_w l).length (by omega) (by omega) ?_ ?_ ⟨rfl, fun j hj => by rw [Int.toNat_zero] at hj; omega⟩
  · rintro z s z0 z1 ⟨hs, hno⟩
    subst hs
    obtain ⟨i, rfl⟩ := Int.eq_ofNat_of_zero_le z0
    rw [Int.toNat_natCast] at hno
    obtain ⟨a, ha⟩ : ∃ a, (l_w l)[i]? = some a := ⟨_, List.getElem?_eq_getElem (by omega)⟩
    have haa := hga a (List.mem_of_getElem? ha)
    obtain ⟨g, g1, g2, g3⟩ := hw.2.2 i a ha
    have x2 : rI σ δ (mo + 20) ((500 : Int32) * ii ls.length + ii i) = some (ii g) := by
      rw [show ((500 : Int32)) = ii 500 from rfl, ii_mul, ii_add]
      exact rst (md25 hK) (by omega) (by omega) (by omega) g2
    have x3 : rI σ δ (mo + 17) ((9 : Int32) * ii g) = some (ii a.1) := by
      rw [show ((9 : Int32)) = ii 9 from rfl, ii_mul]
      exact rst (md21 hK) (by omega) (by omega) (by omega) g3.1
    have x4 := m_nk (σ := σ) (δ := δ) hK hN hc haa.1
    obtain ⟨⟨kd0, kd13⟩, -⟩ := gE.2.2.2.2 a.1 haa.1
    have hnext : canAs E S a = false → ∀ j, j < ((i : Int) + 1).toNat → ∀ b, (l_w l)[j]? = some b → canAs E S b = false := by
      intro h j hj b hb
      by_cases hj2 : j = i
      · subst hj2
        rw [ha] at hb
        cases hb
        exact h
      · exact hno j (by omega) b hb
    rw [mg26 hK, ob_some, gi, ob_some, x1, ob_some, if_neg (show ¬ ii (l_w l).length ≤ ii i by rw [ii_le (by omega) (by omega) (by omega) (by omega)]; omega), mg25 hK, ob_some, ob_some, x2, ob_some, mg21 hK, ob_some, x3, ob_some, mg2 hK, ob_some, x4, ob_some]
    by_cases h11 : e_kd E a.1 = 11
    · have hh := m_holds hK hN gE hS hGS g3 (by omega) haa.2 haa.1 (Or.inr (Or.inr h11))
      rw [if_pos (show ii (kM (e_kd E a.1)) = 10 by rw [h11]; rfl), chk_ko hK.1, ob_some, hh, ob_some]
      cases he : entA E S a a.1 with
      | true =>
        rw [if_neg (show ¬ bi true = 0 by decide)]
        have hca : canAs E S a = false := by unfold canAs; rw [he, Bool.not_true, Bool.and_false]
        exact Ok_inl (s' := ii ((i : Int) + 1)) (by unfold m_X12_assume_b119; rw [show ((1 : Int32)) = ii 1 from rfl, ii_add]) ⟨rfl, hnext hca⟩
      | false =>
        rw [if_pos (show bi false = 0 from rfl)]
        have hca : canAs E S a = true := by unfold canAs; rw [he, decide_eq_true h11]; rfl
        have hf : fstI (canAs E S) (l_w l) = i := fstI_hit ha hca hno
        obtain ⟨D1, e1, k1, k2, k3, k4⟩ := m_dropWait hK h hJ (show i < (l_w l).length by omega)
        have gA1 : RAm D1 mo g a := RAm_eq g3 (fun k _ _ => by rw [k4])
        obtain ⟨D2, e2, y1, y2, y3⟩ := (m_push hK k1 hJ g1 gA1).2.2.2 (by show (l_as l).length < 400; omega)
        have gA2 : RAm D2 mo g a := RAm_eq gA1 (fun k _ _ => by rw [y3])
        have q4 := ((hN.2.2 a.1 haa.1).2.2.2.2.1 (Or.inr (Or.inr h11))).2.2.2
        have r4 := m_n4 (σ := σ) (δ := D2) hK hc haa.1 (v := ii (e_on E a.1)) (by rw [(y2.1 _ (by omega)).1, (k2.1 _ (by omega)).1]; exact q4)
        obtain ⟨d3, D3, e3, e4, w1, w2, w3⟩ := m_newq2 hK (m := e_on E a.1) y1 hJ g1 (by omega) gA2 (by show (l_q l).length < 400; omega)
        have hget : assM E S l ls = assumeL E l i a :: ls := by
          unfold assM
          rw [hf, ha]
        refine Ok_inr (r := D3) ?_ ⟨n + 1, ?_, ?_, by omega, k2.tr (y2.tr w2)⟩
        · rw [e1, ob_some, ob_some, pushG_to e2, mg6 hK, ob_some, r4, ob_some, ob_some, e3, ob_some, ob_some, e4, ob_some]
        · rw [hget]
          exact w1
        · rw [hget]
          show n + 1 + (wL ls + ((l_w l).eraseIdx i).length) ≤ n + (wL ls + (l_w l).length)
          rw [List.length_eraseIdx_of_lt (by omega)]
          omega
    · have hkM : ¬ kM (e_kd E a.1) = 10 := by unfold kM; split <;> omega
      have hkr : 0 ≤ kM (e_kd E a.1) ∧ kM (e_kd E a.1) ≤ 13 := by unfold kM; split <;> omega
      have hca : canAs E S a = false := by unfold canAs; rw [decide_eq_false h11]; rfl
      rw [if_neg (show ¬ ii (kM (e_kd E a.1)) = 10 by rw [show ((10 : Int32)) = ii 10 from rfl, ii_eq (by omega) (by omega) (by omega) (by omega)]; exact hkM)]
      exact Ok_inl (s' := ii ((i : Int) + 1)) (by unfold m_X12_assume_b119; rw [show ((1 : Int32)) = ii 1 from rfl, ii_add]) ⟨rfl, hnext hca⟩
  · rintro s ⟨hs, hno⟩
    subst hs
    rw [Int.toNat_natCast] at hno
    have hf : fstI (canAs E S) (l_w l) = (l_w l).length := fstI_end (fun j b hb => hno j (List.getElem?_eq_some_iff.mp hb).1 b hb)
    have hget : assM E S l ls = l :: ls := by
      unfold assM
      rw [hf, List.getElem?_eq_none (Nat.le_refl _)]
    refine Ok_inr (r := δ) ?_ ⟨n, by rw [hget]; exact h, by rw [hget]; exact Nat.le_refl _, by omega, GFm.rf⟩
    rw [mg26 hK, ob_some, gi, ob_some, x1, ob_some, if_pos (show ii (l_w l).length ≤ ii (l_w l).length by rw [ii_le (by omega) (by omega) (by omega) (by omega)]; omega)]
theorem bi_or (a b : Bool) : bi a ||| bi b = bi (a || b) := by cases a <;> cases b <;> rfl
theorem any_take {P : Ag → Bool} {w : List Ag} {z : Nat} {a : Ag} (h : w[z]? = some a) : (w.take (z + 1)).any P = ((w.take z).any P || P a) := by
  rw [List.take_succ, h, List.any_append]
  show ((w.take z).any P || [a].any P) = _
  rw [List.any_cons, List.any_nil, Bool.or_false]
/-- those that stay untold, at the end -/
theorem m_unl (hK : KM σ mo) (hN : RNm δ mo E) (gE : GE E) (hS : RSm δ mo S) (hGS : GS S) (h : RGm δ mo n E (l :: ls)) (hJ : ls.length < 4) (hn : n + (l_w l).length < 1980) (hga : gAs E S (l_w l)) (hb : (l_nx l).length + (l_w l).length < 390) (h35 : δ.1 mo 35 = 0) : Ok (m_X12_endLevel_b62 σ mo (0 : Int32) δ) (fun d => ∃ n' : Nat, RGm d mo n' E ((l_q l, l_w l, l_as l, l_nx l ++ unlL E S (l_w l), l.2.2.2.2) :: ls) ∧ n' ≤ n + (l_w l).length ∧ GFm mo δ d) := by
  have hc := gE.1.2
  unfold m_X12_endLevel_b62
  refine Ok_for (fun z s => s.1 = ii z ∧ ∃ n' : Nat, RGm s.2 mo n' E ((l_q l, l_w l, l_as l, l_nx l ++ unlL E S ((l_w l).take z.toNat), l.2.2.2.2) :: ls) ∧ n' ≤ n + z.toNat ∧ (unlL E S ((l_w l).take z.toNat)).length ≤ z.toNat ∧ GFm mo δ s.2) 0 (l_w l).length (by omega) (by omega) ?_ ?_ ⟨rfl, n, ?_, by omega, Nat.le_refl _, GFm.rf⟩
  · rintro z ⟨s1, d⟩ z0 z1 ⟨hs, n', hRd, hn', hul, hFd⟩
    dsimp only at hs hRd hFd ⊢
    subst hs
    obtain ⟨i, rfl⟩ := Int.eq_ofNat_of_zero_le z0
    have hi1 : ((i : Int) + 1).toNat = i + 1 := by omega
    rw [Int.toNat_natCast] at hRd hn' hul
    rw [hi1]
    obtain ⟨a, ha⟩ : ∃ a, (l_w l)[i]? = some a := ⟨_, List.getElem?_eq_getElem (by omega)⟩
    have haa := hga a (List.mem_of_getElem? ha)
    obtain ⟨t1, -⟩ := take_filt (P := fun a => decide (e_kd E a.1 = 10) && !entA E S a a.1) ha
    have un : ∀ r, mo + 1 ≤ r → r ≤ mo + 16 → d.1 r = δ.1 r := fun r k1 k2 => (hFd.1 r (by omega)).1
    have hNd : RNm d mo E := RNm_eq hN (hFd.2 7 (by decide)) (fun r k1 k2 => un r (by omega) (by omega))
    have hSd : RSm d mo S := RSm_eq hS hGS (fun k _ => by rw [un _ (by omega) (by omega)])
    have h33' : d.1 mo 33 = ii ls.length := by rw [hRd.1, List.length_cons]; exact congrArg ii (by omega)
    have gi : gI σ d 12 mo 33 = some (ii ls.length) := by rw [gI_ko hK.1, h33']
    have gf : gI σ d 12 mo 35 = some 0 := by rw [gI_ko hK.1, hFd.2 35 (by decide), h35]
    have hw : RQm d mo (mo + 20) (mo + 21) n' ls.length (l_w l) := hRd.2.2.1.2.1
    have hwl := hw.1
    obtain ⟨g, g1, g2, g3⟩ := hw.2.2 i a ha
    have x1 : rI σ d (mo + 21) (ii ls.length) = some (ii (l_w l).length) := rst (md26 hK) (by omega) (by omega) (by omega) hw.2.1
    have x2 : rI σ d (mo + 20) (ii (500 * ls.length + i)) = some (ii g) := rst (md25 hK) (by omega) (by omega) (by omega) g2
    have x3 : rI σ d (mo + 17) (ii (9 * g)) = some (ii a.1) := rst (md21 hK) (by omega) (by omega) (by omega) g3.1
    have x4 := m_nk (σ := σ) (δ := d) hK hNd hc haa.1
    obtain ⟨⟨kd0, kd13⟩, -⟩ := gE.2.2.2.2 a.1 haa.1
    have no : (decide (e_kd E a.1 = 10) && !entA E S a a.1) = false → Ok (m_X12_endLevel_b143 σ mo (ii i) d) (PL (fun s : Int32 × Dy => s.1 = ii ((i : Int) + 1) ∧ ∃ n' : Nat, RGm s.2 mo n' E ((l_q l, l_w l, l_as l, l_nx l ++ unlL E S ((l_w l).take (i + 1)), l.2.2.2.2) :: ls) ∧ n' ≤ n + (i + 1) ∧ (unlL E S ((l_w l).take (i + 1))).length ≤ i + 1 ∧ GFm mo δ s.2) (fun d => ∃ n' : Nat, RGm d mo n' E ((l_q l, l_w l, l_as l, l_nx l ++ unlL E S (l_w l), l.2.2.2.2) :: ls) ∧ n' ≤ n + (l_w l).length ∧ GFm mo δ d)) := by
      intro hP
      have hU : unlL E S ((l_w l).take (i + 1)) = unlL E S ((l_w l).take i) := by
        unfold unlL
        rw [t1, hP, if_neg (by decide), List.append_nil]
      refine Ok_inl (s' := (ii ((i : Int) + 1), d)) (by unfold m_X12_endLevel_b143; rw [show ((1 : Int32)) = ii 1 from rfl, ii_add]) ⟨rfl, n', by rw [hU]; exact hRd, by omega, by rw [hU]; omega, hFd⟩
    rw [mg26 hK, ob_some, gi, ob_some, x1, ob_some, if_neg (show ¬ ii (l_w l).length ≤ ii i by rw [ii_le (by omega) (by omega) (by omega) (by omega)]; omega), gf, ob_some, if_pos (show (0 : Int32) = 0 from rfl), mg25 hK, ob_some, ob_some, show ((500 : Int32)) = ii 500 from rfl, ii_mul, ii_add, x2, ob_some, mg21 hK, ob_some, show ((9 : Int32)) = ii 9 from rfl, ii_mul, x3, ob_some, mg2 hK, ob_some]
    by_cases h10 : e_kd E a.1 = 10
    · have hh := m_holds hK hNd gE hSd hGS g3 (by omega) haa.2 haa.1 (Or.inr (Or.inl h10))
      rw [x4, ob_some, if_pos (show ii (kM (e_kd E a.1)) = ii 9 by rw [h10]; rfl), chk_ko hK.1, ob_some, hh, ob_some]
      cases he : entA E S a a.1 with
      | true =>
        rw [if_neg (show ¬ bi true = 0 by decide)]
        exact no (by rw [he, Bool.not_true, Bool.and_false])
      | false =>
        have q4 := ((hNd.2.2 a.1 haa.1).2.2.2.2.1 (Or.inr (Or.inl h10))).2.2.2
        have r4 := m_n4 (σ := σ) (δ := d) hK hc haa.1 q4
        obtain ⟨⟨r1, dA⟩, eA, j1, j2, j3, j4⟩ := m_another hK g3 (m := e_on E a.1) g1 (by omega) hRd.2.1
        dsimp only at j1 j2 j3 j4
        subst j1
        obtain ⟨D, eD, k1, k2, k3⟩ := (m_push hK (RGm_new hRd j4 j3) hJ (Nat.lt_succ_self n') j2).2.2.1 (by show (l_nx l ++ unlL E S ((l_w l).take i)).length < 400; rw [List.length_append]; omega)
        have hU : unlL E S ((l_w l).take (i + 1)) = unlL E S ((l_w l).take i) ++ [(e_on E a.1, a.2)] := by
          unfold unlL
          rw [t1, decide_eq_true h10, he, if_pos (by rfl), List.map_append]
          rfl
        refine Ok_inl (s' := (ii ((i : Int) + 1), D)) ?_ ⟨rfl, n' + 1, ?_, by omega, ?_, hFd.tr ((GFm_AF j4).tr k2)⟩
        · rw [if_pos (show bi false = 0 from rfl), mg6 hK, ob_some, r4, ob_some, ob_some, eA, ob_some, ob_some, eD, ob_some]
          unfold m_X12_endLevel_b143
          rw [show ((1 : Int32)) = ii 1 from rfl, ii_add]
        · rw [hU, ← List.append_assoc]
          exact k1
        · rw [hU, List.length_append, List.length_singleton]
          omega
    · have hkM : ¬ kM (e_kd E a.1) = 9 := by unfold kM; split <;> omega
      have hkr : 0 ≤ kM (e_kd E a.1) ∧ kM (e_kd E a.1) ≤ 13 := by unfold kM; split <;> omega
      rw [x4, ob_some, if_neg (show ¬ ii (kM (e_kd E a.1)) = ii 9 by rw [ii_eq (by omega) (by omega) (by omega) (by omega)]; exact hkM)]
      exact no (by rw [decide_eq_false h10]; rfl)
  · rintro ⟨s1, d⟩ ⟨hs, n', hRd, hn', hul, hFd⟩
    dsimp only at hs hRd hFd ⊢
    subst hs
    rw [Int.toNat_natCast, List.take_length] at hRd
    rw [Int.toNat_natCast] at hn'
    have h33' : d.1 mo 33 = ii ls.length := by rw [hRd.1, List.length_cons]; exact congrArg ii (by omega)
    have gi : gI σ d 12 mo 33 = some (ii ls.length) := by rw [gI_ko hK.1, h33']
    have hw : RQm d mo (mo + 20) (mo + 21) n' ls.length (l_w l) := hRd.2.2.1.2.1
    have hwl := hw.1
    have x1 : rI σ d (mo + 21) (ii ls.length) = some (ii (l_w l).length) := rst (md26 hK) (by omega) (by omega) (by omega) hw.2.1
    refine Ok_inr (r := d) ?_ ⟨n', hRd, hn', hFd⟩
    rw [mg26 hK, ob_some, gi, ob_some, x1, ob_some, if_pos (show ii (l_w l).length ≤ ii (l_w l).length by rw [ii_le (by omega) (by omega) (by omega) (by omega)]; omega)]
  · show RGm δ mo n E ((l_q l, l_w l, l_as l, l_nx l ++ [], l.2.2.2.2) :: ls)
    rw [List.append_nil]
    exact h
/-- the end of a level: does it fail, or what is untold -/
def EndP (δ d : Dy) (mo n : Nat) (E : Ev) (S : Sto) (l : Lv) (ls : List Lv) : Prop := if (l_as l).any (fun a => entA E S a a.1) = true then RGm d mo n E (l :: ls) ∧ d.1 mo 35 = 1 ∧ Fr (fun r => r = mo) δ d ∧ ∀ k, ¬ k = 35 → d.1 mo k = δ.1 mo k
  else ∃ n' : Nat, RGm d mo n' E ((l_q l, l_w l, l_as l, l_nx l ++ unlL E S (l_w l), l.2.2.2.2) :: ls) ∧ n' ≤ n + (l_w l).length ∧ GFm mo δ d
theorem m_endLevel (hK : KM σ mo) (hN : RNm δ mo E) (gE : GE E) (hS : RSm δ mo S) (hGS : GS S) (h : RGm δ mo n E (l :: ls)) (hJ : ls.length < 4) (hn : n + (l_w l).length < 1980) (hga : gAs E S (l_w l)) (hgs : gAs E S (l_as l)) (hks : ∀ a ∈ l_as l, e_kd E a.1 = 11) (hb : (l_nx l).length + (l_w l).length < 390) (h35 : δ.1 mo 35 = 0) : Ok (m_X12_endLevel σ mo δ) (fun d => EndP δ d mo n E S l ls) := by
  have hc := gE.1.2
  have hq3 := h.2.2.1.2.2.1
  have hql := hq3.1
  have h33' : δ.1 mo 33 = ii ls.length := by rw [h.1, List.length_cons]; exact congrArg ii (by omega)
  unfold m_X12_endLevel m_X12_endLevel_b2
  refine Ok_for (fun z s => s.1 = ii z ∧ s.2.1 mo 35 = bi (((l_as l).take z.toNat).any (fun a => entA E S a a.1)) ∧ (∀ k, ¬ k = 35 → s.2.1 mo k = δ.1 mo k) ∧ Fr (fun r => r = mo) δ s.2) 0 (l_as l).length (by omega) (by omega) ?_ ?_ ⟨rfl, h35, fun _ _ => rfl, Fr.rf⟩
  · rintro z ⟨s1, d⟩ z0 z1 ⟨hs, hfd, hod, hFd⟩
    dsimp only at hs hfd hod hFd ⊢
    subst hs
    obtain ⟨i, rfl⟩ := Int.eq_ofNat_of_zero_le z0
    rw [Int.toNat_natCast] at hfd
    obtain ⟨a, ha⟩ : ∃ a, (l_as l)[i]? = some a := ⟨_, List.getElem?_eq_getElem (by omega)⟩
    have haa := hgs a (List.mem_of_getElem? ha)
    have hka := hks a (List.mem_of_getElem? ha)
    have un : ∀ r, ¬ r = mo → d.1 r = δ.1 r := fun r k1 => (hFd r k1).1
    have hNd : RNm d mo E := RNm_eq hN (hod 7 (by decide)) (fun r k1 k2 => un r (by omega))
    have hSd : RSm d mo S := RSm_eq hS hGS (fun k _ => by rw [un _ (by omega)])
    obtain ⟨g, g1, g2, g3⟩ := hq3.2.2 i a ha
    have g3d : RAm d mo g a := RAm_eq g3 (fun k _ _ => by rw [un _ (by omega)])
    have gi : gI σ d 12 mo 33 = some (ii ls.length) := by rw [gI_ko hK.1, hod 33 (by decide), h33']
    have gf : gI σ d 12 mo 35 = some (bi (((l_as l).take i).any (fun a => entA E S a a.1))) := by rw [gI_ko hK.1, hfd]
    have x1 : rI σ d (mo + 23) (ii ls.length) = some (ii (l_as l).length) := rst (md28 hK) (by omega) (by omega) (show ((ls.length : Int)).toNat = ls.length by omega) (by rw [un _ (by omega)]; exact hq3.2.1)
    have x2 : rI σ d (mo + 22) (ii (500 * ls.length + i)) = some (ii g) := rst (md27 hK) (by omega) (by omega) (show (500 * (ls.length : Int) + i).toNat = 500 * ls.length + i by omega) (by rw [un _ (by omega)]; exact g2)
    have hh := m_holds hK hNd gE hSd hGS g3d (by omega) haa.2 haa.1 (Or.inr (Or.inr hka))
    have x3 : rI σ d (mo + 17) (ii (9 * g)) = some (ii a.1) := rst (md21 hK) (by omega) (by omega) (by omega) g3d.1
    have p1 : pZ σ d 12 mo 35 (bi (((l_as l).take i).any (fun a => entA E S a a.1) || entA E S a a.1)) = some (u2 d.1 mo 35 (bi (((l_as l).take i).any (fun a => entA E S a a.1) || entA E S a a.1)), d.2) := pZ_ko hK.1 (bi_01 _)
    refine Ok_inl (s' := (ii ((i : Int) + 1), (u2 d.1 mo 35 (bi (((l_as l).take i).any (fun a => entA E S a a.1) || entA E S a a.1)), d.2))) ?_ ⟨rfl, ?_, fun k hk => ?_, hFd.tr (Fr_u2 rfl)⟩
    · rw [mg28 hK, ob_some, gi, ob_some, x1, ob_some, if_neg (show ¬ ii (l_as l).length ≤ ii i by rw [ii_le (by omega) (by omega) (by omega) (by omega)]; omega), mg27 hK, ob_some, ob_some, show ((500 : Int32)) = ii 500 from rfl, ii_mul, ii_add, x2, ob_some, gf, ob_some, mg21 hK, ob_some, show ((9 : Int32)) = ii 9 from rfl, ii_mul, x3, ob_some, chk_ko hK.1, ob_some, hh, ob_some, bi_or, p1, ob_some, show ((1 : Int32)) = ii 1 from rfl, ii_add]
    · dsimp only
      rw [show ((i : Int) + 1).toNat = i + 1 by omega, any_take ha]
      simp only [u2, and_self, ↓reduceIte]
    · simp (disch := omega) only [u2, if_neg]
      exact hod k hk
  · rintro ⟨s1, d⟩ ⟨hs, hfd, hod, hFd⟩
    dsimp only at hs hfd hod hFd ⊢
    subst hs
    rw [Int.toNat_natCast, List.take_length] at hfd
    have un : ∀ r, ¬ r = mo → d.1 r = δ.1 r := fun r k1 => (hFd r k1).1
    have hNd : RNm d mo E := RNm_eq hN (hod 7 (by decide)) (fun r k1 k2 => un r (by omega))
    have hSd : RSm d mo S := RSm_eq hS hGS (fun k _ => by rw [un _ (by omega)])
    have hRd : RGm d mo n E (l :: ls) := RGm_eq h (hod 33 (by decide)) (hod 22 (by decide)) (fun r _ _ => un r (by omega))
    have gi : gI σ d 12 mo 33 = some (ii ls.length) := by rw [gI_ko hK.1, hod 33 (by decide), h33']
    have x1 : rI σ d (mo + 23) (ii ls.length) = some (ii (l_as l).length) := rst (md28 hK) (by omega) (by omega) (show ((ls.length : Int)).toNat = ls.length by omega) (by rw [un _ (by omega)]; exact hq3.2.1)
    have hGd : (∀ k, ¬ k = 35 → d.1 mo k = δ.1 mo k) → d.1 mo 35 = δ.1 mo 35 → GFm mo δ d := fun h1 h2 => ⟨hFd.wk (fun r p => Or.inl p), fun k _ => by
      by_cases c : k = 35
      · rw [c]; exact h2
      · exact h1 k c⟩
    have key : Ok (m_X12_endLevel_b62 σ mo (0 : Int32) d) (fun d => EndP δ d mo n E S l ls) := by
      by_cases c : (l_as l).any (fun a => entA E S a a.1) = true
      · rw [c] at hfd
        refine ⟨d, ?_, show EndP δ d mo n E S l ls by unfold EndP; rw [if_pos c]; exact ⟨hRd, hfd, hFd, hod⟩⟩
        have hw : RQm d mo (mo + 20) (mo + 21) n ls.length (l_w l) := hRd.2.2.1.2.1
        have hwl := hw.1
        have x2 : rI σ d (mo + 21) (ii ls.length) = some (ii (l_w l).length) := rst (md26 hK) (by omega) (by omega) (by omega) hw.2.1
        have gf : gI σ d 12 mo 35 = some 1 := by rw [gI_ko hK.1, hfd]; rfl
        unfold m_X12_endLevel_b62
        refine Ok_eq (Ok_lp (fun s => s = ((0 : Int32), d)) (fun _ => 0) ?_ rfl (by decide))
        rintro s rfl
        refine Ok_inr (r := d) ?_ rfl
        rw [mg26 hK, ob_some, gi, ob_some, x2, ob_some, gf, ob_some, if_neg (show ¬ (1 : Int32) = 0 by decide)]
        by_cases c2 : ii (l_w l).length ≤ (0 : Int32)
        · rw [if_pos c2]
        · rw [if_neg c2]
      · have c' : (l_as l).any (fun a => entA E S a a.1) = false := by
          cases hx : (l_as l).any (fun a => entA E S a a.1) with
          | true => exact absurd hx c
          | false => rfl
        rw [c'] at hfd
        obtain ⟨D, eD, n', k1, k2, k3⟩ := m_unl hK hNd gE hSd hGS hRd hJ hn hga hb hfd
        exact ⟨D, eD, show EndP δ D mo n E S l ls by unfold EndP; rw [if_neg c]; exact ⟨n', k1, k2, (hGd hod (by rw [hfd, h35]; rfl)).tr k3⟩⟩
    obtain ⟨D, eD, hD⟩ := key
    refine Ok_inr (r := D) ?_ hD
    rw [mg28 hK, ob_some, gi, ob_some, x1, ob_some, if_pos (show ii (l_as l).length ≤ ii (l_as l).length by rw [ii_le (by omega) (by omega) (by omega) (by omega)]; omega), eD, ob_some]
/-- a try that comes to its end: what it keeps for the next step goes to the level outside -/
theorem m_commit (hK : KM σ mo) (h : RGm δ mo n E (l :: l' :: ls)) (hJ : ls.length < 3) (hb : (l_nx l).length + (l_nx l').length < 390) : Ok (m_X12_commit σ mo δ) (fun d => RGm d mo n E ((l_q l', l_w l', l_as l', l_nx l' ++ l_nx l, l'.2.2.2.2) :: ls) ∧ GFm mo δ d) := by
  have h33' : δ.1 mo 33 = ii ((ls.length : Int) + 1) := by rw [h.1, List.length_cons, List.length_cons]; exact congrArg ii (by omega)
  have hx : RQm δ mo (mo + 24) (mo + 25) n (ls.length + 1) (l_nx l) := h.2.2.1.2.2.2.1
  have hxl := hx.1
  have x1 : rI σ δ (mo + 25) (ii ((ls.length : Int) + 1)) = some (ii (l_nx l).length) := rst (md30 hK) (by omega) (by omega) (show ((ls.length : Int) + 1).toNat = ls.length + 1 by omega) hx.2.1
  have p1 : pI σ δ 12 mo 33 (ii ls.length) = some (u2 δ.1 mo 33 (ii ls.length), δ.2) := pI_ko hK.1
  unfold m_X12_commit
  rw [gI_ko hK.1, ob_some, h33', mg30 hK, ob_some, ob_some, x1, ob_some, ob_some, show ((1 : Int32)) = ii 1 from rfl, ii_sub, show (ls.length : Int) + 1 - 1 = ls.length by omega, p1, ob_some, show ((500 : Int32)) = ii 500 from rfl, ii_mul]
  have hF0 : Fr (fun r => r = mo) δ (u2 δ.1 mo 33 (ii ls.length), δ.2) := Fr_u2 rfl
  have e33 : (u2 δ.1 mo 33 (ii ls.length), δ.2).1 mo 33 = ii ls.length := by simp only [u2, and_self, ↓reduceIte]
  have eo : ∀ k, ¬ k = 33 → (u2 δ.1 mo 33 (ii ls.length), δ.2).1 mo k = δ.1 mo k := fun k hk => by simp (disch := omega) only [u2, if_neg]
  generalize (u2 δ.1 mo 33 (ii ls.length), δ.2) = d0 at hF0 e33 eo ⊢
  have un0 : ∀ r, ¬ r = mo → d0.1 r = δ.1 r := fun r hr => (hF0 r hr).1
  have hlow : LOW mo (l' :: ls).length n δ d0 := by
    refine ⟨fun k _ => ?_, fun k _ => ?_, fun k _ => by rw [un0 _ (by omega)], fun k _ => by rw [un0 _ (by omega)]⟩
    · rw [un0 (mo + 18) (by omega), un0 (mo + 20) (by omega), un0 (mo + 22) (by omega), un0 (mo + 24) (by omega)]
      exact ⟨rfl, rfl, rfl, rfl⟩
    · rw [un0 (mo + 19) (by omega), un0 (mo + 21) (by omega), un0 (mo + 23) (by omega), un0 (mo + 25) (by omega), un0 (mo + 26) (by omega)]
      exact ⟨rfl, rfl, rfl, rfl, rfl⟩
  have hR0 : RGm d0 mo n E (l' :: ls) := ⟨by rw [e33, List.length_cons]; exact congrArg ii (by omega), by rw [eo 22 (by decide)]; exact h.2.1, RLsm_low (ls := l' :: ls) h.2.2.2 (Nat.le_refl _) hlow⟩
  have hG0 : GFm mo δ d0 := ⟨hF0.wk (fun r p => Or.inl p), fun k hk => eo k (by omega)⟩
  unfold m_X12_commit_b31
  refine Ok_for (fun z s => s.1 = ii z ∧ RGm s.2 mo n E ((l_q l', l_w l', l_as l', l_nx l' ++ (l_nx l).take z.toNat, l'.2.2.2.2) :: ls) ∧ (∀ k, 500 * (ls.length + 1) ≤ k → s.2.1 (mo + 24) k = δ.1 (mo + 24) k) ∧ s.2.1 (mo + 17) = δ.1 (mo + 17) ∧ GFm mo δ s.2) 0 (l_nx l).length (by omega) (by omega) ?_ ?_ ⟨rfl, ?_, fun k _ => by rw [un0 _ (by omega)], un0 _ (by omega), hG0⟩
  · rintro z ⟨s1, d⟩ z0 z1 ⟨hs, hRd, hod, h17, hFd⟩
    dsimp only at hs hRd hod h17 hFd ⊢
    subst hs
    obtain ⟨i, rfl⟩ := Int.eq_ofNat_of_zero_le z0
    rw [Int.toNat_natCast] at hRd
    obtain ⟨a, ha⟩ : ∃ a, (l_nx l)[i]? = some a := ⟨_, List.getElem?_eq_getElem (by omega)⟩
    obtain ⟨g, g1, g2, g3⟩ := hx.2.2 i a ha
    have g3d : RAm d mo g a := RAm_eq g3 (fun k _ _ => by rw [h17])
    have x2 : rI σ d (mo + 24) (ii (500 * ((ls.length : Int) + 1) + i)) = some (ii g) := rst (md29 hK) (by omega) (by omega) (show (500 * ((ls.length : Int) + 1) + i).toNat = 500 * (ls.length + 1) + i by omega) (by rw [hod _ (by omega)]; exact g2)
    have hlt : (l_nx l' ++ (l_nx l).take i).length < 400 := by rw [List.length_append, List.length_take]; omega
    obtain ⟨D, eD, k1, k2, k3⟩ := (m_push hK hRd (by omega) g1 g3d).2.2.1 hlt
    have h33d : d.1 mo 33 = ii ls.length := by rw [hRd.1, List.length_cons]; exact congrArg ii (by omega)
    have q4 : RQm d mo (mo + 24) (mo + 25) n ls.length (l_nx l' ++ (l_nx l).take i) := hRd.2.2.1.2.2.2.1
    have eD2 : m_X12_forNext σ mo (ii g) d = some _ := next_G.trans (pushG_eq hK.1 (mg29 hK) (mg30 hK) (md29 hK) (md30 hK) (by omega) (by omega) h33d (by omega) q4.2.1 (by omega))
    have hD : D = _ := Option.some.inj (eD.symm.trans eD2)
    refine Ok_inl (s' := (ii ((i : Int) + 1), D)) ?_ ⟨rfl, ?_, fun k hk => ?_, k3.trans h17, hFd.tr k2⟩
    · rw [if_neg (show ¬ ii (l_nx l).length ≤ ii i by rw [ii_le (by omega) (by omega) (by omega) (by omega)]; omega), mg29 hK, ob_some, ii_add, x2, ob_some, chk_ko hK.1, ob_some, eD, ob_some, show ((1 : Int32)) = ii 1 from rfl, ii_add]
    · dsimp only
      rw [show ((i : Int) + 1).toNat = i + 1 by omega, List.take_succ, ha, ← List.append_assoc]
      exact k1
    · dsimp only
      rw [hD]
      dsimp only
      rw [u2_ne (by omega)]
      simp (disch := omega) only [u2, if_neg]
      exact hod k hk
  · rintro ⟨s1, d⟩ ⟨hs, hRd, hod, h17, hFd⟩
    dsimp only at hs hRd hod h17 hFd ⊢
    subst hs
    rw [Int.toNat_natCast, List.take_length] at hRd
    exact Ok_inr (r := d) (by rw [if_pos (show ii (l_nx l).length ≤ ii (l_nx l).length by rw [ii_le (by omega) (by omega) (by omega) (by omega)]; omega)]) ⟨hRd, hFd⟩
  · dsimp only
    rw [Int.toNat_zero, List.take_zero, List.append_nil]
    exact hR0
end
