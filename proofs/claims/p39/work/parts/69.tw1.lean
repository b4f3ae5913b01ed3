/-! THE WORLD in the class: the memory of it -/
def KN (σ : St) (nd : Nat) : Prop := KO σ nd 5 ∧ (srv σ nd 0 = some (nd + 1) ∧ srv σ nd 1 = some (nd + 2) ∧ srv σ nd 2 = some (nd + 3) ∧ srv σ nd 3 = some (nd + 4) ∧ srv σ nd 4 = some (nd + 5) ∧ srv σ nd 5 = some (nd + 6)) ∧ KD σ (nd + 1) 100 60 ∧ KD σ (nd + 2) 100 60 ∧ KD σ (nd + 3) 100 60 ∧ KD σ (nd + 4) 100 60 ∧ KD σ (nd + 5) 100 60 ∧ KD σ (nd + 6) 100 60
def RN (δ : Dy) (nd : Nat) (E : Ev) : Prop := δ.1 nd 6 = ii (e_ct E) ∧ ∀ n : Int, gNode E n → δ.1 (nd + 1) n.toNat = ii (e_kd E n) ∧ δ.1 (nd + 2) n.toNat = ii (e_wh E n) ∧ δ.1 (nd + 3) n.toNat = ii (e_a E n) ∧ δ.1 (nd + 4) n.toNat = ii (e_b E n) ∧ δ.1 (nd + 5) n.toNat = ii (e_on E n) ∧ δ.1 (nd + 6) n.toNat = ii (e_ot E n)
def KLv (σ : St) (lv : Nat) : Prop := KL σ lv ∧ KQ σ (lv + 1) 120 ∧ KQ σ (lv + 5) 60 ∧ KQ σ (lv + 9) 60 ∧ KQ σ (lv + 13) 60 ∧ KQ σ (lv + 17) 1
def KWo (σ : St) (wp nd ro : Nat) : Prop := (nd + 7 ≤ ro ∧ ro + 60 ≤ wp) ∧ KO σ wp 10 ∧ (srv σ wp 0 = some nd ∧ srv σ wp 1 = some (wp + 1) ∧ srv σ wp 2 = some (wp + 18) ∧ srv σ wp 3 = some (wp + 11) ∧ srv σ wp 4 = some (wp + 13) ∧ srv σ wp 5 = some (wp + 14) ∧ srv σ wp 6 = some (wp + 15) ∧ srv σ wp 7 = some (wp + 16)) ∧ KN σ nd ∧ KRs σ ro ∧ KS σ (wp + 1) ∧ KW σ (wp + 18) (wp + 1) ro ∧ KDr σ (wp + 11) ∧ KD σ (wp + 13) 100 6 ∧ KD σ (wp + 14) 100 120 ∧ KD σ (wp + 15) 103 4 ∧ KA σ (wp + 16) ∧ ∀ j : Nat, j < 4 → srv σ (wp + 15) j = some (wp + 390 + 24 * j) ∧ KLv σ (wp + 390 + 24 * j)
def RLv1 (δ : Dy) (lv : Nat) (l : Lv) : Prop := RQ δ (lv + 1) 120 (l_q l) ∧ RQ δ (lv + 5) 60 (l_w l) ∧ RQ δ (lv + 9) 60 (l_as l) ∧ RQ δ (lv + 13) 60 (l_nx l)
def RLin (δ : Dy) (lv base : Nat) (l : Lv) : Prop := RV δ lv (l_sv l) ∧ δ.1 lv 10 = ii ((l_hn l : Int) - base) ∧ RQ δ (lv + 17) 1 [l_ow l]
def RLany (δ : Dy) (lv : Nat) : Prop := (∃ q, RQ δ (lv + 1) 120 q) ∧ (∃ q, RQ δ (lv + 5) 60 q) ∧ (∃ q, RQ δ (lv + 9) 60 q) ∧ (∃ q, RQ δ (lv + 13) 60 q) ∧ (∃ q, RQ δ (lv + 17) 1 q)
def RLs (δ : Dy) (wp base : Nat) : List Lv → Prop
  | [] => True
  | l :: ls => RLv1 δ (wp + 390 + 24 * ls.length) l ∧ (ls.length = 0 ∨ RLin δ (wp + 390 + 24 * ls.length) base l) ∧ RLs δ wp base ls
def RTk (δ : Dy) (a : Nat) (tk : Int → Int) : Prop := ∀ z : Int, 0 ≤ z → z < 120 → δ.1 a z.toNat = ii (tk z)
def REn (δ : Dy) (nd ro wp : Nat) (E : Ev) : Prop := RN δ nd E ∧ RRs δ ro (e_md E) (e_Rs E) ∧ ∀ d : Int, 0 ≤ d → d < 6 → δ.1 (wp + 13) d.toNat = ii (e_df E d)
def RWo (δ : Dy) (wp base : Nat) (made : Int) (W : Wo) : Prop := RVv δ (wp + 18) (wp + 1) base made (w_V W) ∧ (δ.1 (wp + 11) 1 = ii (w_x W) ∧ RPw δ (wp + 12) (w_pw W)) ∧ RTk δ (wp + 14) (w_tk W) ∧ RLs δ wp base (w_lv W) ∧ (∀ j : Nat, j < 4 → RLany δ (wp + 390 + 24 * j)) ∧ δ.1 wp 8 = ii (((w_lv W).length : Int) - 1) ∧ δ.1 wp 9 = bi (w_ov W) ∧ δ.1 wp 11 = ii (w_ck W) ∧ δ.1 wp 10 = ii (w_sp W)
theorem RN_of_Fr {δ δ' : Dy} {nd : Nat} {E : Ev} {P : Nat → Prop} (hR : RN δ nd E) (hF : Fr P δ δ') (hd : ∀ r, nd ≤ r → r < nd + 7 → ¬ P r) : RN δ' nd E := by
  obtain ⟨h1, h2⟩ := hR
  refine ⟨by rw [(hF nd (hd _ (by omega) (by omega))).1]; exact h1, fun n hn => ?_⟩
  rw [(hF (nd + 1) (hd _ (by omega) (by omega))).1, (hF (nd + 2) (hd _ (by omega) (by omega))).1, (hF (nd + 3) (hd _ (by omega) (by omega))).1, (hF (nd + 4) (hd _ (by omega) (by omega))).1, (hF (nd + 5) (hd _ (by omega) (by omega))).1, (hF (nd + 6) (hd _ (by omega) (by omega))).1]
  exact h2 n hn
theorem REn_of_Fr {δ δ' : Dy} {nd ro wp : Nat} {E : Ev} {P : Nat → Prop} (hR : REn δ nd ro wp E) (hm : e_md E ≤ 8) (hF : Fr P δ δ') (h1 : ∀ r, nd ≤ r → r < nd + 7 → ¬ P r) (h2 : ∀ r, ro + 6 ≤ r → r < ro + 54 → ¬ P r) (h3 : ¬ P (wp + 13)) : REn δ' nd ro wp E := ⟨RN_of_Fr hR.1 hF h1, RRs_of_Fr hR.2.1 hm hF h2, by rw [(hF _ h3).1]; exact hR.2.2⟩
theorem RLv1_of_Fr {δ δ' : Dy} {lv : Nat} {l : Lv} {P : Nat → Prop} (hR : RLv1 δ lv l) (hF : Fr P δ δ') (hd : ∀ r, lv + 1 ≤ r → r < lv + 17 → ¬ P r) : RLv1 δ' lv l := ⟨RQ_of_Fr hR.1 hF (fun r a b => hd r (by omega) (by omega)), RQ_of_Fr hR.2.1 hF (fun r a b => hd r (by omega) (by omega)), RQ_of_Fr hR.2.2.1 hF (fun r a b => hd r (by omega) (by omega)), RQ_of_Fr hR.2.2.2 hF (fun r a b => hd r (by omega) (by omega))⟩
theorem RLin_of_Fr {δ δ' : Dy} {lv base : Nat} {l : Lv} {P : Nat → Prop} (hR : RLin δ lv base l) (hF : Fr P δ δ') (h0 : ¬ P lv) (hd : ∀ r, lv + 17 ≤ r → r < lv + 24 → ¬ P r) : RLin δ' lv base l := ⟨RV_of_Fr hR.1 hF h0 (hd _ (by omega) (by omega)) (hd _ (by omega) (by omega)) (hd _ (by omega) (by omega)), by rw [(hF lv h0).1]; exact hR.2.1, RQ_of_Fr hR.2.2 hF (fun r a b => hd r (by omega) (by omega))⟩
theorem RLany_of_Fr {δ δ' : Dy} {lv : Nat} {P : Nat → Prop} (hR : RLany δ lv) (hF : Fr P δ δ') (hd : ∀ r, lv + 1 ≤ r → r < lv + 21 → ¬ P r) : RLany δ' lv := by
  obtain ⟨⟨a, ha⟩, ⟨b, hb⟩, ⟨c, hc⟩, ⟨d, hd'⟩, ⟨e, he⟩⟩ := hR
  exact ⟨⟨a, RQ_of_Fr ha hF (fun r a b => hd r (by omega) (by omega))⟩, ⟨b, RQ_of_Fr hb hF (fun r a b => hd r (by omega) (by omega))⟩, ⟨c, RQ_of_Fr hc hF (fun r a b => hd r (by omega) (by omega))⟩, ⟨d, RQ_of_Fr hd' hF (fun r a b => hd r (by omega) (by omega))⟩, ⟨e, RQ_of_Fr he hF (fun r a b => hd r (by omega) (by omega))⟩⟩
theorem RLs_of_Fr {δ δ' : Dy} {wp base : Nat} {P : Nat → Prop} (hF : Fr P δ δ') : ∀ {ls : List Lv}, RLs δ wp base ls → (∀ r, wp + 390 ≤ r → r < wp + 390 + 24 * ls.length → ¬ P r) → RLs δ' wp base ls := by
  intro ls
  induction ls with
  | nil => intro _ _; trivial
  | cons l ls ih =>
    intro h hd
    rw [List.length_cons] at hd
    refine ⟨RLv1_of_Fr h.1 hF (fun r a b => hd r (by omega) (by omega)), h.2.1.imp id (fun k => RLin_of_Fr k hF (hd _ (by omega) (by omega)) (fun r a b => hd r (by omega) (by omega))), ih h.2.2 (fun r a b => hd r (by omega) (by omega))⟩
/-- all of a world -/
def PWo (wp : Nat) : Nat → Prop := fun r => (wp ≤ r ∧ r < wp + 486) ∧ ¬ r = wp + 13
section
variable {σ : St} {δ : Dy} {wp nd ro base : Nat} {E : Ev} {made : Int} {W : Wo} {S : Sto} {ac : Int} {fl : Bool} {a : Ag}
theorem RWo_of_Fr {δ' : Dy} {P : Nat → Prop} (hR : RWo δ wp base made W) (h4 : (w_lv W).length ≤ 4) (hl : (v_fr (w_V W)).length ≤ 183) (hF : Fr P δ δ') (hd : ∀ r, wp ≤ r → r < wp + 486 → ¬ r = wp + 13 → ¬ r = wp + 16 → ¬ r = wp + 17 → ¬ r = wp + 20 → ¬ P r) : RWo δ' wp base made W := by
  obtain ⟨r1, ⟨r2, r3⟩, r4, r5, r6, r7, r8, r9⟩ := hR
  have h := fun r a b c d e f => hF r (hd r a b c d e f)
  refine ⟨RVv_cg r1 hl (fun r hr hr2 => h r (by omega) (by omega) (by omega) (by omega) (by omega) (by omega)) (by omega), ⟨?_, ?_⟩, ?_, RLs_of_Fr hF r5 (fun r a b => hd r (by omega) (by omega) (by omega) (by omega) (by omega) (by omega)), fun j hj => RLany_of_Fr (r6 j hj) hF (fun r a b => hd r (by omega) (by omega) (by omega) (by omega) (by omega) (by omega)), ?_, ?_, ?_⟩
  · rw [(h _ (by omega) (by omega) (by omega) (by omega) (by omega) (by omega)).1]; exact r2
  · unfold RPw; rw [(h (wp + 12) (by omega) (by omega) (by omega) (by omega) (by omega) (by omega)).1]; exact r3
  · unfold RTk; rw [(h (wp + 14) (by omega) (by omega) (by omega) (by omega) (by omega) (by omega)).1]; exact r4
  · rw [(h wp (by omega) (by omega) (by omega) (by omega) (by omega) (by omega)).1]; exact r7
  · rw [(h wp (by omega) (by omega) (by omega) (by omega) (by omega) (by omega)).1]; exact r8
  · rw [(h wp (by omega) (by omega) (by omega) (by omega) (by omega) (by omega)).1]; exact r9
theorem gTm_rng {t : Int} (h : gTm t) : -100 ≤ t ∧ t ≤ 300 := by
  rcases h with h | h
  · have : -99 ≤ t ∧ t ≤ 99 := h
    omega
  · have : 200 ≤ t ∧ t < 204 := h
    omega
theorem t_entA (hK : KWo σ wp nd ro) (hN : RN δ nd E) (hE : GE E) (hS : RS δ (wp + 1) S ac fl) (hG : GS S) (hH : RA δ (wp + 16) a) (ha : ∀ z, 0 ≤ z → z < 4 → tm (s_nv S) (a.2.1 z)) {n : Int} (hn : gNode E n) (hc : e_kd E n = 4 ∨ e_kd E n = 10 ∨ e_kd E n = 11) : m_X10_isEntailed σ wp (ii n) δ = some (bi (entA E S a n)) := by
  obtain ⟨⟨l1, l2⟩, k0, ⟨k1, k2, k3, k4, k5, k6, k7, k8⟩, ⟨c0, ⟨c1, c2, c3, c4, c5, c6⟩, d1, d2, d3, d4, d5, d6⟩, -, kS, kW, kD, kdf, ktk, klv, kA, kL⟩ := hK
  obtain ⟨n1, n2, n3, n4, n5, n6⟩ := hN.2 n hn
  have g := hE.2.2.2.2 n hn
  have gct := hE.1
  have hnn : 0 ≤ n ∧ n < e_ct E := hn
  have gw := g.2.2.2.2.1 hc
  have ta := look_tm (S := S) ha g.2.1.1
  have tb := look_tm (S := S) ha g.2.1.2
  have ra := tm_rng ta hG.1.2.1
  have rb := tm_rng tb hG.1.2.1
  have xa := gTm_rng g.2.1.1
  have xb := gTm_rng g.2.1.2
  have e1 := t_look kA hH (t := e_a E n) (by omega) (by omega)
  have e2 := t_look kA hH (t := e_b E n) (by omega) (by omega)
  have hcc : e_wh E n ≤ 3 ∨ 10 ≤ e_wh E n := by rcases gw with h | h <;> omega
  have e3 := t_entl kS hS hG (c := e_wh E n) (a := lookA a (e_a E n)) (b := lookA a (e_b E n)) (by omega) (by omega) (by omega) (by omega) g.2.2.1.1 g.2.2.1.2 hcc
  have hz : zo (bi (entA E S a n)) = some () := by cases entA E S a n <;> rfl
  unfold m_X10_isEntailed
  simp (disch := omega) only [gR_ko k0 k2, gR_ko k0 k1, gR_ko c0 c2, gR_ko c0 c3, gR_ko c0 c4, rI_kd d2, rI_kd d3, rI_kd d4, n2, n3, n4, gR_ko k0 k8, chk_ko kA.1, chk_ko kS.1, e1, e2, e3, ob_some]
  exact (congrArg (fun o => o.bind fun _ => some (bi (entA E S a n))) hz)
theorem bi_if {α : Type} {b : Bool} {x y : α} : (if bi b = ii 0 then x else y) = (if b = true then y else x) := by cases b <;> rfl
theorem t_side5 (hK : KWo σ wp nd ro) (hN : RN δ nd E) (hE : GE E) (hS : RS δ (wp + 1) S ac fl) (hG : GS S) (hH : RA δ (wp + 16) a) (ha : gAg E S a) {tk : Int → Int} (hT : RTk δ (wp + 14) tk) (htk : ∀ z, 0 ≤ tk z ∧ tk z ≤ 100000) {n : Int} (hn : gNode E n) (h5 : e_kd E n = 5) : m_X10_sideOf σ wp (ii n) δ = some (ii (sideA E S tk a n)) := by
  have g := hE.2.2.2.2 n hn
  have g5 := g.2.2.2.2.2.1 h5
  have von := g.2.2.2.2.2.2.2.2.2.1 (by omega)
  have vot := g.2.2.2.2.2.2.2.2.2.2 (by omega)
  have e1 := t_entA hK hN hE hS hG hH ha.2 von (Or.inl g5.1.1)
  have e2 := t_entA hK hN hE hS hG hH ha.2 vot (Or.inl g5.1.2)
  obtain ⟨⟨l1, l2⟩, k0, ⟨k1, k2, k3, k4, k5, k6, k7, k8⟩, ⟨c0, ⟨c1, c2, c3, c4, c5, c6⟩, d1, d2, d3, d4, d5, d6⟩, -, kS, kW, kD, kdf, ktk, klv, kA, kL⟩ := hK
  obtain ⟨n1, n2, n3, n4, n5, n6⟩ := hN.2 n hn
  have gct := hE.1
  have hnn : 0 ≤ n ∧ n < e_ct E := hn
  have va : -99 ≤ e_a E n ∧ e_a E n ≤ 99 := g5.2.1
  have vb : -99 ≤ e_b E n ∧ e_b E n ≤ 99 := g5.2.2
  have t0 := hT (2 * n) (by omega) (by omega)
  have t1 := hT (2 * n + 1) (by omega) (by omega)
  have q0 := htk (2 * n)
  have q1 := htk (2 * n + 1)
  unfold sideA
  rw [if_neg (show ¬ e_kd E n = 4 by omega), if_pos h5]
  generalize entA E S a (e_on E n) = b1 at e1 ⊢
  generalize entA E S a (e_ot E n) = b2 at e2 ⊢
  generalize tk (2 * n) = T0 at t0 q0 ⊢
  generalize tk (2 * n + 1) = T1 at t1 q1 ⊢
  generalize e_on E n = on at n5 e1
  generalize e_ot E n = ot at n6 e2
  rw [h5] at n1
  clear g g5 von vot hN hE hS hG hH ha hT htk hn kS kW kD kdf klv kA kL d2
  have hz : (0 : Int32) = ii 0 := rfl
  have h1 : (1 : Int32) = ii 1 := rfl
  have h2 : (2 : Int32) = ii 2 := rfl
  have h4 : (4 : Int32) = ii 4 := rfl
  have h5' : (5 : Int32) = ii 5 := rfl
  have hm : (-1 : Int32) = ii (-1) := rfl
  unfold m_X10_sideOf
  rw [hm, hz, h1, h2, h4, h5']
  simp (disch := omega) only [gR_ko k0 k1, gR_ko c0 c1, rI_kd d1, n1, ob_some, ii_eq, if_neg, if_pos, ↓reduceIte]
  simp (disch := omega) only [gR_ko k0 k1, gR_ko c0 c5, gR_ko c0 c6, rI_kd d5, rI_kd d6, n5, n6, ob_some, chk_ko k0, e1, e2, bi_if]
  cases b1 with
  | false =>
    cases b2 with
    | false => rfl
    | true => rfl
  | true =>
    cases b2 with
    | false => rfl
    | true =>
      rw [if_pos rfl, if_pos rfl, if_pos rfl, if_pos rfl]
      simp (disch := omega) only [gR_ko k0 k1, gR_ko c0 c3, gR_ko c0 c4, rI_kd d3, rI_kd d4, n3, n4, ob_some]
      by_cases hab : e_a E n = e_b E n
      · rw [hab, if_pos rfl, if_pos rfl]
        by_cases ht : T1 < T0
        · simp (disch := omega) only [gR_ko k0 k6, ii_mul, ii_add, rI_kd ktk, t0, t1, ii_le, if_pos, if_neg, ob_some]
        · simp (disch := omega) only [gR_ko k0 k6, ii_mul, ii_add, rI_kd ktk, t0, t1, ii_le, if_pos, if_neg, ob_some]
      · rw [if_neg hab, if_neg (by rw [ii_eq (by omega) (by omega) (by omega) (by omega)]; exact hab)]
        by_cases hlt : e_b E n < e_a E n
        · rw [if_pos hlt, if_neg (by rw [ii_le (by omega) (by omega) (by omega) (by omega)]; omega)]
        · rw [if_neg hlt, if_pos (by rw [ii_le (by omega) (by omega) (by omega) (by omega)]; omega)]
theorem t_sideOf (hK : KWo σ wp nd ro) (hN : RN δ nd E) (hE : GE E) (hS : RS δ (wp + 1) S ac fl) (hG : GS S) (hH : RA δ (wp + 16) a) (ha : gAg E S a) {tk : Int → Int} (hT : RTk δ (wp + 14) tk) (htk : ∀ z, 0 ≤ tk z ∧ tk z ≤ 100000) {n : Int} (hn : gNode E n) : m_X10_sideOf σ wp (ii n) δ = some (ii (sideA E S tk a n)) := by
  by_cases h5 : e_kd E n = 5
  · exact t_side5 hK hN hE hS hG hH ha hT htk hn h5
  have hent := fun {m : Int} => t_entA (n := m) hK hN hE hS hG hH ha.2
  obtain ⟨⟨l1, l2⟩, k0, ⟨k1, k2, k3, k4, k5, k6, k7, k8⟩, ⟨c0, ⟨c1, c2, c3, c4, c5, c6⟩, d1, d2, d3, d4, d5, d6⟩, -, kS, kW, kD, kdf, ktk, klv, kA, kL⟩ := hK
  obtain ⟨n1, n2, n3, n4, n5, n6⟩ := hN.2 n hn
  have g := hE.2.2.2.2 n hn
  have gct := hE.1
  have hnn : 0 ≤ n ∧ n < e_ct E := hn
  unfold m_X10_sideOf sideA
  by_cases h4 : e_kd E n = 4
  · rw [if_pos h4]
    have e := hent hn (Or.inl h4)
    cases hb : entA E S a n with
    | true =>
      rw [hb] at e
      simp (disch := omega) only [gR_ko k0 k1, gR_ko c0 c1, rI_kd d1, n1, ob_some, ii_lit, h4, ↓reduceIte, chk_ko k0, e, bi_t, ii_eq, if_neg]
    | false =>
      rw [hb] at e
      simp (disch := omega) only [gR_ko k0 k1, gR_ko c0 c1, rI_kd d1, n1, ob_some, ii_lit, ii_neg, h4, ↓reduceIte, chk_ko k0, e, bi_f, ii_eq, if_neg, Bool.false_eq_true]
  · rw [if_neg h4, if_neg h5]
    simp (disch := omega) only [gR_ko k0 k1, gR_ko c0 c1, rI_kd d1, n1, ob_some, ii_lit, ii_neg, ii_eq, if_neg]
end
