/-! A STEP in the class -/
section
variable {E : Ev} {ch : Nat → Nat} {W : Wo}
theorem turns_over {n : Nat} (h : w_ov (turns E ch W n) = true) : ∀ k, turns E ch W (n + k) = turns E ch W n := by
  intro k
  induction k with
  | zero => rfl
  | succ k ih =>
    show turnW E ch (turns E ch W (n + k)) = _
    rw [ih]
    unfold turnW
    rw [if_pos h]
/-- the end of a run -/
def RunEnd (E : Ev) (ch : Nat → Nat) (W Wf : Wo) : Prop := ∃ n, turns E ch W n = Wf ∧ w_ov Wf = true
theorem RunEnd_uni {W1 W2 : Wo} (h1 : RunEnd E ch W W1) (h2 : RunEnd E ch W W2) : W1 = W2 := by
  obtain ⟨n, e1, o1⟩ := h1
  obtain ⟨m, e2, o2⟩ := h2
  rw [← e1] at o1 ⊢
  rw [← e2] at o2 ⊢
  rcases Nat.le_total n m with h | h
  · obtain ⟨k, rfl⟩ : ∃ k, m = n + k := ⟨m - n, by omega⟩
    exact (turns_over o1 k).symm
  · obtain ⟨k, rfl⟩ : ∃ k, n = m + k := ⟨n - m, by omega⟩
    exact turns_over o2 k
end
/-- a world between steps: view, seed, powers, taken, for next, clock, steps -/
abbrev Iw : Type := Vw × Int × (Int → Int) × (Int → Int) × List Ag × Int × Int
abbrev i_V (I : Iw) : Vw := I.1
abbrev i_x (I : Iw) : Int := I.2.1
abbrev i_pw (I : Iw) : Int → Int := I.2.2.1
abbrev i_tk (I : Iw) : Int → Int := I.2.2.2.1
abbrev i_nx (I : Iw) : List Ag := I.2.2.2.2.1
abbrev i_ck (I : Iw) : Int := I.2.2.2.2.2.1
abbrev i_st (I : Iw) : Int := I.2.2.2.2.2.2
def lv0 (q : List Ag) : Lv := (q, [], [], [], ((0, 0, fun _ => 0, fun _ => 0, fun _ => false), 0), (0, fun _ => 0, fun _ => false))
def startW (I : Iw) : Wo := ((v_S (i_V I), [], v_hi (i_V I), v_fi (i_V I), 0, v_fl (i_V I)), i_x I, i_pw I, i_tk I, [lv0 (i_nx I)], false, (i_ck I, i_st I + 1), [])
def topNx : List Lv → List Ag
  | [l] => l_nx l
  | _ => []
def endI (W : Wo) : Iw := ((v_S (w_V W), [], v_hi (w_V W), v_fi (w_V W), v_ac (w_V W), v_fl (w_V W)), w_x W, w_pw W, w_tk W, topNx (w_lv W), w_ck W, w_sp W)
def GI (E : Ev) (st : Int) (I : Iw) : Prop := GS (v_S (i_V I)) ∧ gHi (e_Rs E) (e_md E) (v_hi (i_V I)) ∧ (0 ≤ i_x I ∧ i_x I < 65537) ∧ (∀ z, 0 ≤ i_tk I z ∧ i_tk I z ≤ st) ∧ gAs E (v_S (i_V I)) (i_nx I) ∧ (i_nx I).length ≤ 60 ∧ (∀ i, -(4 * st) ≤ i_pw I i ∧ i_pw I i ≤ 4 * st) ∧ (0 ≤ v_ac (i_V I) ∧ v_ac (i_V I) ≤ 60)
def RId (δ : Dy) (wp : Nat) (made : Int) (I : Iw) : Prop := RS δ (wp + 1) (v_S (i_V I)) (v_ac (i_V I)) (v_fl (i_V I)) ∧ HiR δ (wp + 21) (v_hi (i_V I)) ∧ (∀ z : Int, 0 ≤ z → z < 8 → δ.1 (wp + 23) z.toNat = ii (v_fi (i_V I) z)) ∧ δ.1 (wp + 18) 9 = ii made ∧ (δ.1 (wp + 11) 1 = ii (i_x I) ∧ RPw δ (wp + 12) (i_pw I)) ∧ RTk δ (wp + 14) (i_tk I) ∧ RQ δ (wp + 403) 60 (i_nx I) ∧ (∀ j : Nat, j < 4 → RLany δ (wp + 390 + 24 * j)) ∧ δ.1 wp 11 = ii (i_ck I) ∧ δ.1 wp 10 = ii (i_st I)
section
variable {σ : St} {δ : Dy} {wp nd ro sp base pl : Nat} {E : Ev} {W : Wo} {st : Int} {l : Lv} {ls : List Lv} {cs ch : Nat → Nat} {lg : List Int} {I : Iw}
theorem GW_start (gE : GE E) (h : GI E st I) : GW E (v_hi (i_V I)).length st (startW I) := by
  obtain ⟨h1, h2, h3, h4, h5, h6, h7, h8⟩ := h
  refine ⟨⟨h1, ⟨by show (0 : Int) ≤ 0; omega, by show (0 : Int) ≤ 60; omega⟩, gE.2.1, gE.2.2.1, fun f hf => (by cases hf), trivial, Int.le_refl _, h2⟩, Nat.le_refl _, h3, fun z => by have := h4 z; show 0 ≤ i_tk I z ∧ i_tk I z ≤ st + 0; omega, fun m hm => ?_, trivial, (by show 1 ≤ 4; omega), ?_, ?_, ?_, fun i => by have := h7 i; show -(4 * (st + 0)) ≤ i_pw I i ∧ i_pw I i ≤ 4 * (st + 0); omega⟩
  · rw [List.mem_singleton.mp hm]
    exact ⟨h5, fun x hx => (by cases hx), fun x hx => (by cases hx), fun x hx => (by cases hx), fun x hx => (by cases hx)⟩
  · show 0 + ((i_nx I).length : Int) + 0 + 1 ≤ 61 + 0
    omega
  · show (0 : Int) + 0 + 0 + 0 ≤ 0
    omega
  · show (0 : Int) ≤ 0 + _
    split <;> omega
theorem muW_start (h : GI E st I) : muW (startW I) ≤ 60064 := by
  have h6 := h.2.2.2.2.2.1
  show 1000 * (60 - 0) + 0 + (if v_fl (i_V I) = true then (0 : Int) else 1) + (0 + 2 * 0 + ((i_nx I).length : Int) + 3) ≤ 60064
  split <;> omega
theorem turns_good (gE : GE E) (hG : GW E base st W) (hc : ∀ n, okCh ch (turns E ch W n)) : ∀ n, GW E base st (turns E ch W n) ∧ (w_ov (turns E ch W n) = false → muW (turns E ch W (n + 1)) < muW (turns E ch W n)) := by
  have key : ∀ n, GW E base st (turns E ch W n) := by
    intro n
    induction n with
    | zero => exact hG
    | succ n ih => exact (turn_good gE ih (hc n)).1
  exact fun n => ⟨key n, (turn_good gE (key n) (hc n)).2⟩
theorem muW_nn (hG : GW E base st W) : 0 ≤ muW W := by
  cases ho : w_ov W with
  | true => unfold muW; rw [ho, if_pos rfl]; exact Int.le_refl _
  | false => exact Int.le_of_lt (muW_pos hG ho)
theorem t_run (hK : KWo σ wp nd ro) (hKs : KSu σ sp ro) (gE : GE E) (hE : REn δ nd ro wp E) (hG : GW E base st W) (hmu : muW W ≤ 60064) (htk : st ≤ 90000) (hR : RWo δ wp base (e_md E) W) (hQ : RSu δ sp pl cs ch (w_lg W)) (hc : ∀ n, okCh ch (turns E ch W n)) (hp : ∀ n, okPl pl cs ch (turns E ch W n)) : Ok (m_X10_doStep_b87 σ wp sp (ii 0) δ) (fun d => ∃ Wf, RunEnd E ch W Wf ∧ GW E base st Wf ∧ RWo d wp base (e_md E) Wf ∧ RSu d sp pl cs ch (w_lg Wf) ∧ Fr (PT wp sp) δ d) := by
  have hg := turns_good gE hG hc
  have k0 := hK.2.1
  have hsp := hKs.1
  have hl := hK.1
  rw [doStep_T]
  refine Ok_lp (fun s => ∃ n : Nat, s.1 = ii n ∧ muW (turns E ch W n) + n ≤ muW W ∧ RWo s.2 wp base (e_md E) (turns E ch W n) ∧ RSu s.2 sp pl cs ch (w_lg (turns E ch W n)) ∧ Fr (PT wp sp) δ s.2) (fun s => (1000000 - s.1.toInt).toNat) ?_ ⟨0, rfl, by show muW W + 0 ≤ muW W; omega, hR, hQ, Fr.rf⟩ ?_
  · rintro ⟨s1, d⟩ ⟨n, hs, hm, hRd, hQd, hFd⟩
    dsimp only at hs hRd hQd hFd ⊢
    subst hs
    have hnn := muW_nn (hg n).1
    have hov := hRd.2.2.2.2.2.2.1
    rw [if_neg (show ¬ ((1000000 : Int32) ≤ ii n) by rw [ii_lit, ii_le (by omega) (by omega) (by omega) (by omega)]; omega), gI_ko k0, ob_some, hov]
    cases ho : w_ov (turns E ch W n) with
    | true =>
      rw [if_neg (by decide)]
      exact Ok_inr (r := d) rfl ⟨_, ⟨n, rfl, ho⟩, (hg n).1, hRd, hQd, hFd⟩
    | false =>
      rw [if_pos (show bi false = 0 from rfl)]
      have hEd : REn d nd ro wp E := REn_of_Fr hE gE.2.1.2 hFd (fun r a b p => by unfold PT PWo at p; omega) (fun r a b p => by unfold PT PWo at p; omega) (fun p => by unfold PT PWo at p; omega)
      refine Ok_mono (t_turn hK hKs hEd gE (hg n).1 htk ho hRd hQd (hc n) (hp n) (k := ii n)) ?_
      rintro (s | r) hs
      · obtain ⟨x1, x2, x3, x4⟩ := hs
        have hlt := (hg n).2 ho
        refine ⟨⟨n + 1, ?_, ?_, x2, x3, hFd.tr x4⟩, ?_⟩
        · rw [x1, show ((1 : Int32)) = ii 1 from rfl, ii_add]; rfl
        · show muW (turns E ch W (n + 1)) + ((n : Int) + 1) ≤ muW W
          omega
        · rw [x1, show ((1 : Int32)) = ii 1 from rfl, ii_add, ii_toInt (by omega) (by omega)]
          show (1000000 - ((n : Int) + 1)).toNat < (1000000 - (ii (n : Int)).toInt).toNat
          rw [ii_toInt (by omega) (by omega)]
          omega
      · exact hs.elim
  · show (1000000 - (ii 0).toInt).toNat < _
    rw [ii_toInt (by omega) (by omega)]
    omega
theorem t_doStep (hK : KWo σ wp nd ro) (hKs : KSu σ sp ro) (gE : GE E) (hE : REn δ nd ro wp E) (hG : GI E st I) (htk : st ≤ 90000) (hR : RId δ wp (e_md E) I) (hQ : RSu δ sp pl cs ch []) (hc : ∀ n, okCh ch (turns E ch (startW I) n)) (hp : ∀ n, okPl pl cs ch (turns E ch (startW I) n)) : Ok (m_X10_doStep σ wp sp δ) (fun d => ∃ Wf, RunEnd E ch (startW I) Wf ∧ GW E (v_hi (i_V I)).length st Wf ∧ RId d wp (e_md E) (endI Wf) ∧ RSu d sp pl cs ch (w_lg Wf) ∧ Fr (PT wp sp) δ d) := by
  have hK' := hK
  have hrl := rA_lv hK (j := 0) (by omega)
  have hsp := hKs.1
  obtain ⟨⟨l1, l2⟩, k0, ⟨k1, k2, k3, k4, k5, k6, k7, k8⟩, -, kR, kS, kW, kD, kdf, ktk, klv, kA, kL⟩ := hK
  obtain ⟨⟨p0, ⟨p1, p2, p3, p4, p5, -⟩, -⟩, pq1, pq2, pq3, pq4, -⟩ := (kL 0 (by omega)).2
  obtain ⟨r1, r2, r3, r4, ⟨r5, r5'⟩, r6, r7, r8, r9, r10⟩ := hR
  obtain ⟨⟨y1, s1⟩, ⟨y2, s2⟩, ⟨y3, s3⟩, -, -⟩ := r8 0 (by omega)
  have f1 : ∀ {x : Dy} {q k : Nat} {v : Int32}, Fr (fun r => r = q) x (u2 x.1 q k v, x.2) := fun {x q k v} => Fr_u2 rfl
  have g6 := hG.2.2.2.2.2.1
  rw [show wp + 390 + 24 * 0 = wp + 390 by omega] at *
  -- the queue is emptied, and filled
  have h1 := f1 (x := δ) (q := wp + 390 + 1) (k := 4) (v := ii 0)
  obtain ⟨e1, t1, -⟩ := t_qclr pq1 s1
  generalize (u2 δ.1 (wp + 390 + 1) 4 (ii 0), δ.2) = d1 at e1 t1 h1
  obtain ⟨d2, e2, t2, h2⟩ := t_qaddAll pq1 pq4 (by omega) t1 (RQ_of_Fr r7 h1 (fun r _ _ => by omega)) (by show 0 + (i_nx I).length ≤ 120; omega)
  have hb2 : ∀ r, blk (wp + 390 + 1) 4 r → wp + 391 ≤ r ∧ r < wp + 395 := fun r p => by unfold blk at p; omega
  have H2 : Fr (fun r => wp + 391 ≤ r ∧ r < wp + 395) δ d2 := (h1.wk (fun r p => by omega)).tr (h2.wk hb2)
  -- the others are emptied
  have h3 := f1 (x := d2) (q := wp + 390 + 13) (k := 4) (v := ii 0)
  obtain ⟨e3, t3, -⟩ := t_qclr pq4 (RQ_of_Fr r7 H2 (fun r _ _ => by omega))
  generalize (u2 d2.1 (wp + 390 + 13) 4 (ii 0), d2.2) = d3 at e3 t3 h3
  have H3 : Fr (fun r => (wp + 391 ≤ r ∧ r < wp + 395) ∨ r = wp + 403) δ d3 := (H2.wk (fun r p => by omega)).tr (h3.wk (fun r p => by omega))
  have h4 := f1 (x := d3) (q := wp + 390 + 5) (k := 4) (v := ii 0)
  obtain ⟨e4, t4, -⟩ := t_qclr pq2 (RQ_of_Fr s2 H3 (fun r _ _ => by omega))
  generalize (u2 d3.1 (wp + 390 + 5) 4 (ii 0), d3.2) = d4 at e4 t4 h4
  have H4 : Fr (fun r => (wp + 391 ≤ r ∧ r < wp + 396) ∨ r = wp + 403) δ d4 := (H3.wk (fun r p => by omega)).tr (h4.wk (fun r p => by omega))
  have h5 := f1 (x := d4) (q := wp + 390 + 9) (k := 4) (v := ii 0)
  obtain ⟨e5, t5, -⟩ := t_qclr pq3 (RQ_of_Fr s3 H4 (fun r _ _ => by omega))
  generalize (u2 d4.1 (wp + 390 + 9) 4 (ii 0), d4.2) = d5 at e5 t5 h5
  have H5 : Fr (fun r => (wp + 391 ≤ r ∧ r < wp + 396) ∨ r = wp + 399 ∨ r = wp + 403) δ d5 := (H4.wk (fun r p => by omega)).tr (h5.wk (fun r p => by omega))
  -- the rewriter starts
  have e6 : m_X6_startStep σ (wp + 18) d5 = some (u2 (u2 d5.1 (wp + 18) 3 (ii 0)) (wp + 18) 7 (ii 0), d5.2) := by
    unfold m_X6_startStep
    rw [show ((0 : Int32)) = ii 0 from rfl, pI_ko kW.1, ob_some, pI_ko kW.1, ob_some]
  have h6 : Fr (fun r => r = wp + 18) d5 (u2 (u2 d5.1 (wp + 18) 3 (ii 0)) (wp + 18) 7 (ii 0), d5.2) := (f1 (x := d5)).tr f1
  have v63 : (u2 (u2 d5.1 (wp + 18) 3 (ii 0)) (wp + 18) 7 (ii 0), d5.2).1 (wp + 18) 3 = ii 0 := by simp (disch := omega) only [u2, if_neg, and_self, ↓reduceIte]
  have v67 : (u2 (u2 d5.1 (wp + 18) 3 (ii 0)) (wp + 18) 7 (ii 0), d5.2).1 (wp + 18) 7 = ii 0 := by simp (disch := omega) only [u2, if_neg, and_self, ↓reduceIte]
  have v69 : (u2 (u2 d5.1 (wp + 18) 3 (ii 0)) (wp + 18) 7 (ii 0), d5.2).1 (wp + 18) 9 = d5.1 (wp + 18) 9 := by simp (disch := omega) only [u2, if_neg]
  generalize (u2 (u2 d5.1 (wp + 18) 3 (ii 0)) (wp + 18) 7 (ii 0), d5.2) = d6 at e6 h6 v63 v67 v69
  have H6 : Fr (fun r => (wp + 391 ≤ r ∧ r < wp + 396) ∨ r = wp + 399 ∨ r = wp + 403 ∨ r = wp + 18) δ d6 := (H5.wk (fun r p => by omega)).tr (h6.wk (fun r p => by omega))
  -- the acts
  have h7 := f1 (x := d6) (q := wp + 1) (k := 11) (v := ii 0)
  have e7 : pI σ d6 8 (wp + 1) 11 (ii 0) = some (u2 d6.1 (wp + 1) 11 (ii 0), d6.2) := pI_ko kS.1
  have t7 : RS (u2 d6.1 (wp + 1) 11 (ii 0), d6.2) (wp + 1) (v_S (i_V I)) 0 (v_fl (i_V I)) := RS_wac (RS_of_Fr r1 H6 (fun r _ _ => by omega))
  generalize (u2 d6.1 (wp + 1) 11 (ii 0), d6.2) = d7 at e7 h7 t7
  -- the world's own
  have e8 : pI σ d7 10 wp 8 (ii 0) = some (u2 d7.1 wp 8 (ii 0), d7.2) := pI_ko k0
  have e9 : pZ σ (u2 d7.1 wp 8 (ii 0), d7.2) 10 wp 9 (ii 0) = some (u2 (u2 d7.1 wp 8 (ii 0)) wp 9 (ii 0), d7.2) := pZ_ko k0 (Or.inl rfl)
  have g10 : u2 (u2 d7.1 wp 8 (ii 0)) wp 9 (ii 0) wp 10 = ii (i_st I) := by
    simp (disch := omega) only [u2, if_neg]
    rw [(h7 wp (by omega)).1, (H6 wp (by omega)).1]
    exact r10
  have e10 : pI σ (u2 (u2 d7.1 wp 8 (ii 0)) wp 9 (ii 0), d7.2) 10 wp 10 (ii (i_st I + 1)) = some (u2 (u2 (u2 d7.1 wp 8 (ii 0)) wp 9 (ii 0)) wp 10 (ii (i_st I + 1)), d7.2) := pI_ko k0
  have h8 : Fr (fun r => r = wp) d7 (u2 (u2 (u2 d7.1 wp 8 (ii 0)) wp 9 (ii 0)) wp 10 (ii (i_st I + 1)), d7.2) := (f1 (x := d7)).tr ((f1 (x := (u2 d7.1 wp 8 (ii 0), d7.2))).tr f1)
  have w8 : (u2 (u2 (u2 d7.1 wp 8 (ii 0)) wp 9 (ii 0)) wp 10 (ii (i_st I + 1)), d7.2).1 wp 8 = ii 0 := by simp (disch := omega) only [u2, if_neg, and_self, ↓reduceIte]
  have w9 : (u2 (u2 (u2 d7.1 wp 8 (ii 0)) wp 9 (ii 0)) wp 10 (ii (i_st I + 1)), d7.2).1 wp 9 = ii 0 := by simp (disch := omega) only [u2, if_neg, and_self, ↓reduceIte]
  have w10 : (u2 (u2 (u2 d7.1 wp 8 (ii 0)) wp 9 (ii 0)) wp 10 (ii (i_st I + 1)), d7.2).1 wp 10 = ii (i_st I + 1) := by simp (disch := omega) only [u2, if_neg, and_self, ↓reduceIte]
  have w11 : (u2 (u2 (u2 d7.1 wp 8 (ii 0)) wp 9 (ii 0)) wp 10 (ii (i_st I + 1)), d7.2).1 wp 11 = d7.1 wp 11 := by simp (disch := omega) only [u2, if_neg]
  have eall : m_X10_doStep σ wp sp δ = m_X10_doStep_b87 σ wp sp (ii 0) (u2 (u2 (u2 d7.1 wp 8 (ii 0)) wp 9 (ii 0)) wp 10 (ii (i_st I + 1)), d7.2) := by
    unfold m_X10_doStep
    have hrl' : rA σ 103 (wp + 15) (ii 0) = some (wp + 390) := hrl
    rw [show ((0 : Int32)) = ii 0 from rfl, show ((1 : Int32)) = ii 1 from rfl]
    simp only [gR_ko k0 k7, hrl', gR_ko p0 p1, gR_ko p0 p2, gR_ko p0 p3, gR_ko p0 p4, e1, e2, e3, e4, e5, e6, e7, e8, e9, chk_ko pq1.1, chk_ko kW.1, gR_ko k0 k3, gR_ko k0 k2, gI_ko k0, g10, ii_add, e10, ob_some]
  rw [eall]
  generalize (u2 (u2 (u2 d7.1 wp 8 (ii 0)) wp 9 (ii 0)) wp 10 (ii (i_st I + 1)), d7.2) = d8 at h8 w8 w9 w10 w11
  have H8 : Fr (fun r => r = wp ∨ r = wp + 1 ∨ (wp + 391 ≤ r ∧ r < wp + 396) ∨ r = wp + 399 ∨ r = wp + 403 ∨ r = wp + 18) δ d8 := (H6.wk (fun r p => by omega)).tr ((h7.wk (fun r p => by omega)).tr (h8.wk (fun r p => by omega)))
  have h78 : Fr (fun r => r = wp ∨ r = wp + 1) d6 d8 := (h7.wk (fun r p => by omega)).tr (h8.wk (fun r p => by omega))
  have h38 : Fr (fun r => r = wp ∨ r = wp + 1 ∨ r = wp + 395 ∨ r = wp + 399 ∨ r = wp + 18) d3 d8 := (h4.wk (fun r p => by omega)).tr ((h5.wk (fun r p => by omega)).tr ((h6.wk (fun r p => by omega)).tr (h78.wk (fun r p => by omega))))
  have h28 : Fr (fun r => r = wp ∨ r = wp + 1 ∨ r = wp + 395 ∨ r = wp + 399 ∨ r = wp + 18 ∨ r = wp + 403) d2 d8 := (h3.wk (fun r p => by omega)).tr (h38.wk (fun r p => by omega))
  have h48 : Fr (fun r => r = wp ∨ r = wp + 1 ∨ r = wp + 399 ∨ r = wp + 18) d4 d8 := (h5.wk (fun r p => by omega)).tr ((h6.wk (fun r p => by omega)).tr (h78.wk (fun r p => by omega)))
  have h58 : Fr (fun r => r = wp ∨ r = wp + 1 ∨ r = wp + 18) d5 d8 := (h6.wk (fun r p => by omega)).tr (h78.wk (fun r p => by omega))
  have hlv : RLv1 d8 (wp + 390) (lv0 (i_nx I)) := ⟨RQ_of_Fr t2 h28 (fun r _ _ => by omega), RQ_of_Fr t4 h48 (fun r _ _ => by omega), RQ_of_Fr t5 h58 (fun r _ _ => by omega), RQ_of_Fr t3 h38 (fun r _ _ => by omega)⟩
  have hV : RVv d8 (wp + 18) (wp + 1) (v_hi (i_V I)).length (e_md E) (w_V (startW I)) := by
    refine ⟨RS_of_Fr t7 h8 (fun r _ _ => by omega), ?_, trivial, ?_, ⟨Nat.le_refl _, by show ((v_hi (i_V I)).length : Int) ≤ ((v_hi (i_V I)).length : Int) + 0; omega, ?_⟩, fun j e he => ?_, ?_, ?_⟩
    · rw [(h78 (wp + 18) (by omega)).1]; exact v63
    · unfold HiR
      rw [(H8 (wp + 18 + 3) (by omega)).2]; exact r2
    · rw [(h78 (wp + 18) (by omega)).1, v67]
      exact congrArg ii (by show (0 : Int) = ((v_hi (i_V I)).length : Int) - ((v_hi (i_V I)).length : Int); omega)
    · have he' : (v_hi (i_V I))[(v_hi (i_V I)).length + j]? = some e := he
      rw [List.getElem?_eq_none (by omega)] at he'
      cases he'
    · rw [(H8 (wp + 18 + 5) (by omega)).1]; exact r3
    · rw [(h78 (wp + 18) (by omega)).1, v69, (H5 (wp + 18) (by omega)).1]; exact r4
  have hR0 : RWo d8 wp (v_hi (i_V I)).length (e_md E) (startW I) := by
    refine ⟨hV, ⟨?_, ?_⟩, ?_, ⟨hlv, Or.inl rfl, trivial⟩, fun j hj => ?_, w8, w9, ?_⟩
    · rw [(H8 _ (by omega)).1]; exact r5
    · unfold RPw; rw [(H8 (wp + 12) (by omega)).1]; exact r5'
    · unfold RTk; rw [(H8 (wp + 14) (by omega)).1]; exact r6
    · by_cases hj0 : j = 0
      · subst hj0
        exact RLany_q (r8 0 (by omega)) hlv H8 (fun r _ _ => by omega)
      · exact RLany_of_Fr (r8 j hj) H8 (fun r _ _ => by omega)
    · exact ⟨by rw [w11, (h7 wp (by omega)).1, (H6 wp (by omega)).1]; exact r9, w10⟩
  have hE8 : REn d8 nd ro wp E := REn_of_Fr hE gE.2.1.2 H8 (fun r _ _ => by omega) (fun r _ _ => by omega) (by omega)
  have hQ8 : RSu d8 sp pl cs ch (w_lg (startW I)) := RSu_of_Fr hQ H8 (fun r _ _ => by omega)
  obtain ⟨D, eD, Wf, hF, gW, hRf, hQf, hFf⟩ := t_run hK' hKs gE hE8 (GW_start gE hG) (muW_start hG) htk hR0 hQ8 hc hp
  refine ⟨D, eD, Wf, hF, gW, ?_, hQf, (H8.wk (fun r p => Or.inl (by unfold PWo; omega))).tr hFf⟩
  obtain ⟨n, -, hov⟩ := hF
  have g9 := gW.2.2.2.2.2.2.2.2.1
  rw [hov, if_pos rfl] at g9
  obtain ⟨q1, ⟨q2, q2'⟩, q3, q4, q5, q6, q7, q8, q9⟩ := hRf
  refine ⟨q1.1, q1.2.2.2.1, q1.2.2.2.2.2.2.1, q1.2.2.2.2.2.2.2, ⟨q2, q2'⟩, q3, ?_, q5, q8, q9⟩
  show RQ D (wp + 403) 60 (topNx (w_lv Wf))
  revert q4 g9
  match w_lv Wf with
  | [] => intro h _; exact absurd h.1 (by decide)
  | [l] => intro _ h; exact h.1.2.2.2
  | _ :: _ :: _ => intro h _; have h1 := h.1; rw [List.length_cons, List.length_cons] at h1; omega
end
