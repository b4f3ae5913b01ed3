/-! THE WORLD in the class: assuming -/
theorem fstI_hit {α : Type} {P : α → Bool} : ∀ {w : List α} {z : Nat} {a : α}, w[z]? = some a → P a = true → (∀ j, j < z → ∀ b, w[j]? = some b → P b = false) → fstI P w = z := by
  intro w
  induction w with
  | nil => intro z a h; cases h
  | cons b w ih =>
    intro z a h hp hn
    unfold fstI
    cases z with
    | zero =>
      cases h
      rw [if_pos hp]
    | succ z =>
      rw [if_neg (by rw [hn 0 (by omega) b rfl]; decide), ih (z := z) (a := a) (by rw [List.getElem?_cons_succ] at h; exact h) hp (fun j hj c hc => hn (j + 1) (by omega) c (by rw [List.getElem?_cons_succ]; exact hc))]
theorem fstI_end {α : Type} {P : α → Bool} : ∀ {w : List α}, (∀ j : Nat, ∀ b, w[j]? = some b → P b = false) → fstI P w = w.length := by
  intro w
  induction w with
  | nil => intro _; rfl
  | cons b w ih =>
    intro hn
    unfold fstI
    rw [if_neg (by rw [hn 0 b rfl]; decide), ih (fun j c hc => hn (j + 1) c (by rw [List.getElem?_cons_succ]; exact hc)), List.length_cons]
def aAdd (l : Lv) (a : Ag) : Lv := (l_q l, l_w l, l_as l ++ [a], l.2.2.2)
section
variable {σ : St} {δ : Dy} {wp nd ro base : Nat} {E : Ev} {W : Wo} {S : Sto} {ac : Int} {fl : Bool} {a : Ag} {l : Lv} {ls : List Lv} {st : Int} {made : Int}
theorem t_addAs (hK : KWo σ wp nd ro) (hR : RWo δ wp base made W) (hl : w_lv W = l :: ls) (h4 : ls.length < 4) (hv : (v_fr (w_V W)).length ≤ 183) (hH : RA δ (wp + 16) a) (hr : (l_as l).length < 60) {n : Int} : Ok (m_X1_add σ (wp + 390 + 24 * ls.length + 9) (ii n) (wp + 16) δ) (fun d => RWo d wp base made (w_setlv W (aAdd l (n, a.2) :: ls)) ∧ RA d (wp + 16) a ∧ Fr (blk (wp + 390 + 24 * ls.length + 9) 4) δ d) := by
  obtain ⟨-, -, -, -, -, -, -, -, -, -, -, kA, kL⟩ := hK
  obtain ⟨-, kq1, kq2, kq3, kq4, kq5⟩ := (kL ls.length h4).2
  have hRl := hR.2.2.2.1
  rw [hl] at hRl
  obtain ⟨⟨c1, c2, c3, c4⟩, hin, -⟩ := hRl
  obtain ⟨d, e, b1, b2⟩ := t_qadd kq3 kA (by omega) c3 hH hr (n := n)
  have hb : ∀ r, blk (wp + 390 + 24 * ls.length + 9) 4 r → wp + 390 + 24 * ls.length + 9 ≤ r ∧ r < wp + 390 + 24 * ls.length + 13 := fun r h => by unfold blk at h; omega
  have h1 : RLv1 d (wp + 390 + 24 * ls.length) (aAdd l (n, a.2)) := ⟨RQ_of_Fr c1 b2 (fun r a b p => by have := hb r p; omega), RQ_of_Fr c2 b2 (fun r a b p => by have := hb r p; omega), b1, RQ_of_Fr c4 b2 (fun r a b p => by have := hb r p; omega)⟩
  refine ⟨d, e, RWo_top hR hl h4 hv b2 (fun r p => by have := hb r p; omega) h1 ?_ ?_, ?_, b2⟩
  · exact hin.imp id (fun k => RLin_of_Fr (l := l) k b2 (fun p => by have := hb _ p; omega) (fun r a b p => by have := hb r p; omega))
  · exact RLany_q (hR.2.2.2.2.1 _ h4) h1 b2 (fun r a b p => by have := hb r p; omega)
  · exact RA_of_Fr hH b2 (fun p => by have := hb _ p; omega) (fun p => by have := hb _ p; omega)
def assumeP (E : Ev) (W : Wo) (l : Lv) (ls : List Lv) (wp base : Nat) (r : Int32 × Dy) : Prop := match (l_w l)[fstI (canAs E (v_S (w_V W))) (l_w l)]? with
  | some a => r.1 = ii 1 ∧ RWo r.2 wp base (e_md E) (w_setlv W (assumeL E l (fstI (canAs E (v_S (w_V W))) (l_w l)) a :: ls))
  | none => r.1 = ii 0 ∧ RWo r.2 wp base (e_md E) W
theorem t_assume (hK : KWo σ wp nd ro) (hE : REn δ nd ro wp E) (gE : GE E) (hG : GW E base st W) (hl : w_lv W = l :: ls) (hq0 : (l_q l).length < 120) (has : (l_as l).length + (l_w l).length ≤ 60) (hR : RWo δ wp base (e_md E) W) : Ok (m_X10_assume σ wp (wp + 390 + 24 * ls.length) δ) (fun r => assumeP E W l ls wp base r ∧ Fr (PWo wp) δ r.2 ∧ r.2.1 (wp + 13) = δ.1 (wp + 13)) := by
  have hK' := hK
  obtain ⟨⟨l1, l2⟩, k0, ⟨k1, k2, k3, k4, k5, k6, k7, k8⟩, ⟨c0, ⟨c1, c2, c3, c4, c5, c6⟩, d1, d2, d3, d4, d5, d6⟩, -, kS, kW, kD, kdf, ktk, klv, kA, kL⟩ := hK
  have hv := GW_frl hG
  have hlen4 := hG.2.2.2.2.2.2.1
  have hlen4' := hlen4
  rw [hl] at hlen4
  have h4 : ls.length < 4 := hlen4
  obtain ⟨⟨p0, ⟨p1, p2, p3, p4, p5, -⟩, -⟩, pq1, pq2, pq3, pq4, -⟩ := (kL ls.length h4).2
  have hgl := hG.2.2.2.2.1 l (by rw [hl]; exact List.mem_cons_self)
  unfold m_X10_assume
  refine Ok_bind (gR_ko p0 p2) ?_
  unfold m_X10_assume_b7
  refine Ok_for (fun z s => s.1 = ii z ∧ RWo s.2 wp base (e_md E) W ∧ (∀ j, j < z.toNat → ∀ b, (l_w l)[j]? = some b → canAs E (v_S (w_V W)) b = false) ∧ Fr (PWo wp) δ s.2 ∧ Fr (fun r => wp ≤ r ∧ ¬ r = wp + 13) δ s.2) 0 (l_w l).length (by omega) (by omega) ?_ ?_ ⟨rfl, hR, fun j hj => by rw [Int.toNat_zero] at hj; omega, Fr.rf, Fr.rf⟩
  · rintro z ⟨s1, d⟩ z0 z1 ⟨hs1, hRd, hno, hFd, hFd2⟩
    dsimp only at hs1 hRd hno hFd hFd2 ⊢
    subst hs1
    have hRl := hRd.2.2.2.1
    rw [hl] at hRl
    obtain ⟨⟨q1, q2, q3, q4⟩, hin, -⟩ := hRl
    have hsz := q2.2.1
    obtain ⟨a, ha⟩ : ∃ a, (l_w l)[z.toNat]? = some a := ⟨_, List.getElem?_eq_getElem (by omega)⟩
    have hga := hgl.2.1 a (List.mem_of_getElem? ha)
    obtain ⟨dd, e1, hH1, F1⟩ := t_qread pq2 kA (by omega) q2 ha
    have e1' : m_X1_read σ (wp + 390 + 24 * ls.length + 5) (ii z) (wp + 16) d = some dd := by
      rw [← e1]
      exact congrArg (fun x => m_X1_read σ (wp + 390 + 24 * ls.length + 5) (ii x) (wp + 16) d) (by omega)
    have hb1 : ∀ r, blk (wp + 16) 2 r → wp + 16 ≤ r ∧ r < wp + 18 := fun r p => by unfold blk at p; omega
    have hR1 : RWo dd wp base (e_md E) W := RWo_of_Fr hRd hlen4' hv F1 (fun r p1 p2 p3 p4 p5 p6 p => by have := hb1 r p; omega)
    have F01 := hFd.tr (PWo_blk (wp := wp) (by omega) (by omega) (by omega) F1)
    have F02 := hFd2.tr (F1.wk (P' := fun r => wp ≤ r ∧ ¬ r = wp + 13) (fun r p => by have := hb1 r p; omega))
    have hE1 : REn dd nd ro wp E := REn_PW hK' hE gE.2.1.2 F02 (fun r p => p)
    obtain ⟨n1, n2, n3, n4, n5, n6⟩ := hE1.1.2 a.1 hga.1
    have hn1 := hH1.1
    have gct := gE.1
    have hnn : 0 ≤ a.1 ∧ a.1 < e_ct E := hga.1
    have hk := (gE.2.2.2.2 a.1 hga.1).1
    have hnext : canAs E (v_S (w_V W)) a = false → ∀ j, j < (z + 1).toNat → ∀ b, (l_w l)[j]? = some b → canAs E (v_S (w_V W)) b = false := by
      intro h j hj b hb
      by_cases hj2 : j = z.toNat
      · subst hj2
        rw [ha] at hb
        cases hb
        exact h
      · exact hno j (by omega) b hb
    by_cases h11 : e_kd E a.1 = 11
    · have es := t_entA hK' hE1.1 gE hR1.1.1 hG.1.1 hH1 hga.2 hga.1 (Or.inr (Or.inr h11))
      cases hen : entA E (v_S (w_V W)) a a.1 with
      | true =>
        rw [hen] at es
        have hca : canAs E (v_S (w_V W)) a = false := by unfold canAs; rw [hen, Bool.not_true, Bool.and_false]
        refine Ok_inl (s' := (ii (z + 1), dd)) ?_ ⟨rfl, hR1, hnext hca, F01, F02⟩
        have hnz : ¬ (bi true = ii 0) := by decide
        simp (disch := omega) only [gI_ko pq2.1, hsz, ob_some, ii_le, if_neg, gR_ko k0 k8, chk_ko pq2.1, e1', gR_ko k0 k1, gR_ko c0 c1, gI_ko kA.1, hn1, rI_kd d1, n1, h11, ii_lit, ↓reduceIte, chk_ko k0, es, hnz, m_X10_assume_b109, ii_add]
      | false =>
        rw [hen] at es
        have hca : canAs E (v_S (w_V W)) a = true := by unfold canAs; rw [hen, decide_eq_true h11]; rfl
        have hf : fstI (canAs E (v_S (w_V W))) (l_w l) = z.toNat := fstI_hit ha hca hno
        obtain ⟨dA, eA, hRA, hHA, FA⟩ := t_addAs hK' hR1 hl h4 hv hH1 (by omega) (n := a.1)
        have hbA : ∀ r, blk (wp + 390 + 24 * ls.length + 9) 4 r → wp + 390 + 24 * ls.length + 9 ≤ r ∧ r < wp + 390 + 24 * ls.length + 13 := fun r p => by unfold blk at p; omega
        obtain ⟨n1', n2', n3', n4', n5', n6'⟩ := (RN_of_Fr hE1.1 FA (fun r p1 p2 p => by have := hbA r p; omega)).2 a.1 hga.1
        have hnA := hHA.1
        obtain ⟨dB, eB, hRB, hHB, FB⟩ := t_addQ (l := aAdd l (a.1, a.2)) (ls := ls) hK' hRA rfl h4 hv hHA hq0 (n := e_on E a.1)
        have hbB : ∀ r, blk (wp + 390 + 24 * ls.length + 1) 4 r → wp + 390 + 24 * ls.length + 1 ≤ r ∧ r < wp + 390 + 24 * ls.length + 5 := fun r p => by unfold blk at p; omega
        obtain ⟨⟨b1, b2, b3, b4⟩, hin2, -⟩ : RLv1 dB (wp + 390 + 24 * ls.length) (qAdd (aAdd l (a.1, a.2)) (e_on E a.1, a.2)) ∧ _ ∧ RLs dB wp base ls := hRB.2.2.2.1
        obtain ⟨dC, eC, hqC, FC⟩ := t_qdrop pq2 b2 (i := z.toNat) (by show z.toNat < (l_w l).length; omega)
        have eC' : m_X1_drop σ (wp + 390 + 24 * ls.length + 5) (ii z) dB = some dC := by
          rw [← eC]
          exact congrArg (fun x => m_X1_drop σ (wp + 390 + 24 * ls.length + 5) (ii x) dB) (by omega)
        have hbC : ∀ r, blk (wp + 390 + 24 * ls.length + 5) 4 r → wp + 390 + 24 * ls.length + 5 ≤ r ∧ r < wp + 390 + 24 * ls.length + 9 := fun r p => by unfold blk at p; omega
        have hqC' : RLv1 dC (wp + 390 + 24 * ls.length) (assumeL E l z.toNat a) := ⟨RQ_of_Fr b1 FC (fun r _ _ p => by have := hbC r p; omega), hqC, RQ_of_Fr b3 FC (fun r _ _ p => by have := hbC r p; omega), RQ_of_Fr b4 FC (fun r _ _ p => by have := hbC r p; omega)⟩
        have hinC : ls.length = 0 ∨ RLin dC (wp + 390 + 24 * ls.length) base (assumeL E l z.toNat a) := hin2.imp id (fun k => RLin_of_Fr (l := qAdd (aAdd l (a.1, a.2)) (e_on E a.1, a.2)) k FC (fun p => by have := hbC _ p; omega) (fun r _ _ p => by have := hbC r p; omega))
        have hRC : RWo dC wp base (e_md E) (w_setlv W (assumeL E l z.toNat a :: ls)) := RWo_top (W := w_setlv W (qAdd (aAdd l (a.1, a.2)) (e_on E a.1, a.2) :: ls)) hRB rfl h4 hv FC (fun r p => by have := hbC r p; omega) hqC' hinC (RLany_q (hRB.2.2.2.2.1 _ h4) hqC' FC (fun r _ _ p => by have := hbC r p; omega))
        refine Ok_inr (r := (ii 1, dC)) ?_ ⟨?_, F01.tr ((PWo_blk (by omega) (by omega) (by omega) FA).tr ((PWo_blk (by omega) (by omega) (by omega) FB).tr (PWo_blk (by omega) (by omega) (by omega) FC))), ?_⟩
        · simp (disch := omega) only [gI_ko pq2.1, hsz, ob_some, ii_le, if_neg, gR_ko k0 k8, chk_ko pq2.1, e1', gR_ko k0 k1, gR_ko c0 c1, gI_ko kA.1, hn1, rI_kd d1, n1, h11, ii_lit, ↓reduceIte, chk_ko k0, es, bi_f, gR_ko p0 p3, chk_ko pq3.1, eA, gR_ko p0 p1, gR_ko c0 c5, hnA, rI_kd d5, n5', chk_ko pq1.1, eB, eC']
        · unfold assumeP
          rw [hf, ha]
          exact ⟨rfl, hRC⟩
        · exact ((F02.tr (FA.wk (fun r p => by have := hbA r p; omega))).tr ((FB.wk (fun r p => by have := hbB r p; omega)).tr (FC.wk (fun r p => by have := hbC r p; omega))) _ (by omega)).1
    · have hca : canAs E (v_S (w_V W)) a = false := by unfold canAs; rw [decide_eq_false h11]; rfl
      refine Ok_inl (s' := (ii (z + 1), dd)) ?_ ⟨rfl, hR1, hnext hca, F01, F02⟩
      simp (disch := omega) only [gI_ko pq2.1, hsz, ob_some, ii_le, if_neg, gR_ko k0 k8, chk_ko pq2.1, e1', gR_ko k0 k1, gR_ko c0 c1, gI_ko kA.1, hn1, rI_kd d1, n1, ii_eq, ii_lit, m_X10_assume_b109, ii_add]
  · rintro ⟨s1, d⟩ ⟨hs1, hRd, hno, hFd, hFd2⟩
    dsimp only at hs1 hRd hno hFd hFd2 ⊢
    subst hs1
    have hRl := hRd.2.2.2.1
    rw [hl] at hRl
    have hsz := hRl.1.2.1.2.1
    refine Ok_inr (r := (ii 0, d)) (by simp (disch := omega) only [gI_ko pq2.1, hsz, ob_some, ii_le, if_pos, ii_lit]) ⟨?_, hFd, (hFd2 _ (by omega)).1⟩
    unfold assumeP
    have hf : fstI (canAs E (v_S (w_V W))) (l_w l) = (l_w l).length := fstI_end (fun j b hb => hno j (by have := (List.getElem?_eq_some_iff.mp hb).1; omega) b hb)
    rw [hf, List.getElem?_eq_none (Nat.le_refl _)]
    exact ⟨rfl, hRd⟩
end
