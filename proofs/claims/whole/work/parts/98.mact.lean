/-! THE REFERENCE: what agents do -/
def RXm (δ : Dy) (mo : Nat) (x : Int) (pw tk : Int → Int) (ck : Int) : Prop := δ.1 (mo + 1) 7038 = ii x ∧ (∀ k : Nat, k < 7 → δ.1 (mo + 1) (7031 + k) = ii (pw k)) ∧ (∀ z : Nat, z < 120 → δ.1 (mo + 1) (9743 + z) = ii (tk z)) ∧ δ.1 (mo + 1) 7039 = ii ck
def RCm (δ : Dy) (mo : Nat) (ch : Nat → Nat) (lg : List Int) : Prop := (δ.1 mo 41 = 0 ∧ ∀ k, ch k = 0) ∨ (δ.1 mo 41 = 1 ∧ δ.1 mo 44 = ii lg.length ∧ (∀ k : Nat, k < 70 → δ.1 (mo + 32) k = ii (ch k)) ∧ ∀ (k : Nat) (x : Int), lg[k]? = some x → δ.1 (mo + 33) k = ii x)
def RWm (δ : Dy) (mo n : Nat) (E : Ev) (ch : Nat → Nat) (W : Wo) : Prop := RVm δ mo (e_Rs E) (w_V W) ∧ RGm δ mo n E (w_lv W) ∧ RXm δ mo (w_x W) (w_pw W) (w_tk W) (w_ck W) ∧ RCm δ mo ch (w_lg W)
/-- what a run writes -/
def RF (mo : Nat) (δ d : Dy) : Prop := Fr (fun r => r = mo ∨ r = mo + 1 ∨ (mo + 17 ≤ r ∧ r ≤ mo + 30) ∨ r = mo + 33) δ d ∧ (∀ k, ¬ (k = 22 ∨ (33 ≤ k ∧ k ≤ 35) ∨ k = 37 ∨ k = 44) → d.1 mo k = δ.1 mo k) ∧ ∀ k, 7040 ≤ k → k < 9743 → d.1 (mo + 1) k = δ.1 (mo + 1) k
theorem RF.rf {mo : Nat} {δ : Dy} : RF mo δ δ := ⟨Fr.rf, fun _ _ => rfl, fun _ _ _ => rfl⟩
theorem RF.tr {mo : Nat} {δ d e : Dy} (h : RF mo δ d) (k : RF mo d e) : RF mo δ e := ⟨h.1.tr k.1, fun i hi => (k.2.1 i hi).trans (h.2.1 i hi), fun i h1 h2 => (k.2.2 i h1 h2).trans (h.2.2 i h1 h2)⟩
theorem RF_G {mo : Nat} {δ d : Dy} (h : GFm mo δ d) : RF mo δ d := ⟨h.1.wk (fun r p => by omega), fun k hk => h.2 k (by omega), fun k _ _ => by rw [(h.1 (mo + 1) (by omega)).1]⟩
theorem RF_M {mo : Nat} {δ d : Dy} (h : FM mo δ d) : RF mo δ d := ⟨fun r hr => h.1 r (by omega), fun k hk => h.2.1 k (by omega), fun k h1 _ => h.2.2 k (by omega)⟩
theorem REm_RF {mo : Nat} {δ d : Dy} {E : Ev} (h : REm δ mo E) (hF : RF mo δ d) : REm d mo E := REm_eq h (hF.2.1 7 (by decide)) (hF.2.1 14 (by decide)) (fun r h1 h2 => (hF.1 r (by omega)).1)
theorem AF.tr {mo n : Nat} {δ d e : Dy} (h : AF mo n δ d) (k : AF mo n d e) : AF mo n δ e := ⟨h.1.tr k.1, fun i hi => (k.2.1 i hi).trans (h.2.1 i hi), fun i hi => (k.2.2 i hi).trans (h.2.2 i hi)⟩
theorem AF_u2 {mo n k : Nat} {δ : Dy} {x : Int32} (h : 9 * n ≤ k ∧ k < 9 * n + 9) : AF mo n δ (u2 δ.1 (mo + 17) k x, δ.2) := ⟨Fr_u2 (Or.inr rfl), fun i _ => by dsimp only; rw [u2_ne (by omega)], fun i hi => by simp (disch := omega) only [u2, if_neg]⟩
theorem low_rng {S : Sto} {w a b : Int} (hG : GS S) : lowest S w a b = -1 ∨ (0 ≤ lowest S w a b ∧ lowest S w a b < s_nt S) := by
  have gn := hG.1
  have hs := fnd_spec (P := isTok S w (form S a) (form S b)) (s_nt S).toNat 0
  unfold lowest
  rcases hs with ⟨h, -⟩ | ⟨h1, h2, -⟩
  · exact Or.inl h
  · exact Or.inr ⟨h1, by omega⟩
section
variable {σ : St} {δ d : Dy} {mo g n : Nat} {E : Ev} {S : Sto} {a : Ag} {l : Lv} {ls : List Lv} {t m x ck : Int} {pw tk : Int → Int} {ch : Nat → Nat} {lg : List Int} {V : Vw} {Rs : Int → Rl}
theorem RVm_G (hV : RVm δ mo Rs V) (hG : GS (v_S V)) (hh : (v_hi V).length ≤ 2000) (hF : GFm mo δ d) : RVm d mo Rs V := by
  obtain ⟨s1, ⟨s2, s3, s4⟩, s5, s6, s7⟩ := hV
  have e1 : d.1 (mo + 1) = δ.1 (mo + 1) := (hF.1 _ (by omega)).1
  have e28 : d.1 (mo + 28) = δ.1 (mo + 28) := (hF.1 _ (by omega)).1
  exact ⟨RSm_eq s1 hG (fun k _ => by rw [e1]), ⟨by rw [hF.2 34 (by decide)]; exact s2, by rw [hF.2 35 (by decide)]; exact s3, by rw [hF.2 37 (by decide)]; exact s4⟩, RMfr_eq s5 (fun k _ => by rw [e28]), RMh_eq s6 (fun k _ _ => by rw [e1]) hh, fun w hw => by rw [e1]; exact s7 w hw⟩
theorem RXm_eq (h : RXm δ mo x pw tk ck) (e : ∀ k, 7031 ≤ k → d.1 (mo + 1) k = δ.1 (mo + 1) k) : RXm d mo x pw tk ck := ⟨by rw [e _ (by omega)]; exact h.1, fun k hk => by rw [e _ (by omega)]; exact h.2.1 k hk, fun k hk => by rw [e _ (by omega)]; exact h.2.2.1 k hk, by rw [e _ (by omega)]; exact h.2.2.2⟩
theorem RXm_G (h : RXm δ mo x pw tk ck) (hF : GFm mo δ d) : RXm d mo x pw tk ck := RXm_eq h (fun k _ => by rw [(hF.1 (mo + 1) (by omega)).1])
theorem RCm_eq (h : RCm δ mo ch lg) (h1 : d.1 mo 41 = δ.1 mo 41) (h2 : d.1 mo 44 = δ.1 mo 44) (h3 : d.1 (mo + 32) = δ.1 (mo + 32)) (h4 : d.1 (mo + 33) = δ.1 (mo + 33)) : RCm d mo ch lg := by
  unfold RCm
  rw [h1, h2, h3, h4]
  exact h
theorem RCm_G (h : RCm δ mo ch lg) (hF : GFm mo δ d) : RCm d mo ch lg := RCm_eq h (hF.2 41 (by decide)) (hF.2 44 (by decide)) (hF.1 _ (by omega)).1 (hF.1 _ (by omega)).1
theorem RGm_eq (h : RGm δ mo n E ls) (h33 : d.1 mo 33 = δ.1 mo 33) (h22 : d.1 mo 22 = δ.1 mo 22) (e : ∀ r, mo + 17 ≤ r → r ≤ mo + 27 → d.1 r = δ.1 r) : RGm d mo n E ls := by
  refine ⟨by rw [h33]; exact h.1, by rw [h22]; exact h.2.1, RLsm_low h.2.2 (Nat.le_refl _) ⟨fun k _ => ?_, fun k _ => ?_, fun k _ => by rw [e _ (by omega) (by omega)], fun k _ => by rw [e _ (by omega) (by omega)]⟩⟩
  · rw [e (mo + 18) (by omega) (by omega), e (mo + 20) (by omega) (by omega), e (mo + 22) (by omega) (by omega), e (mo + 24) (by omega) (by omega)]
    exact ⟨rfl, rfl, rfl, rfl⟩
  · rw [e (mo + 19) (by omega) (by omega), e (mo + 21) (by omega) (by omega), e (mo + 23) (by omega) (by omega), e (mo + 25) (by omega) (by omega), e (mo + 26) (by omega) (by omega)]
    exact ⟨rfl, rfl, rfl, rfl, rfl⟩
/-- a world is kept where only the agents' methods wrote -/
theorem RWm_G {W : Wo} {n' : Nat} {ls' : List Lv} (h : RWm δ mo n E ch W) (hG : GS (v_S (w_V W))) (hh : (v_hi (w_V W)).length ≤ 2000) (hF : GFm mo δ d) (hg : RGm d mo n' E ls') : RWm d mo n' E ch (w_setlv W ls') := ⟨RVm_G h.1 hG hh hF, hg, RXm_G h.2.2.1 hF, RCm_G h.2.2.2 hF⟩
/-- what the token of an ask gives -/
theorem m_goTok (hK : KM σ mo) (hS : RSm δ mo S) (hGS : GS S) (hA : RAm δ mo n a) (hn : n < 1990) (t0 : 0 ≤ t) (t1 : t < s_nt S) {Q : Dy → Prop} (hq : ∀ d, RAm d mo n (inclA S a t) → AF mo n δ d → d.1 mo 22 = δ.1 mo 22 → Ok (m_X12_goOn_b135 σ mo (ii n) d) Q) : Ok (m_X12_goOn_b63 σ mo (ii n) (ii t) (ii 0) δ) Q := by
  have gn := hGS.1
  have r10 := hS.2.2.2.2.2.2.2.2.2 t t0 t1
  unfold m_X12_goOn_b63
  refine Ok_for (fun z s => s.1 = ii z ∧ (∀ k : Nat, k < 4 → s.2.1 (mo + 17) (9 * n + 5 + k) = if (k : Int) < z then δ.1 (mo + 17) (9 * n + 5 + k) ||| δ.1 (mo + 1) (622 + 4 * t + k).toNat else δ.1 (mo + 17) (9 * n + 5 + k)) ∧ (∀ k, ¬ (9 * n + 5 ≤ k ∧ k < 9 * n + 9) → s.2.1 (mo + 17) k = δ.1 (mo + 17) k) ∧ Fr (fun r => r = mo + 17) δ s.2) 0 4 (by omega) (by omega) ?_ ?_ ⟨rfl, fun k _ => by rw [if_neg (by omega)], fun k _ => rfl, Fr.rf⟩
  · rintro z ⟨s1, d⟩ z0 z1 ⟨hs, hk, ho, hF⟩
    dsimp only at hs hk ho hF ⊢
    subst hs
    have e17 : d.1 (mo + 17) (9 * n + 5 + z.toNat) = δ.1 (mo + 17) (9 * n + 5 + z.toNat) := by rw [hk _ (by omega), if_neg (by omega)]
    have r1 : rI σ d (mo + 17) (ii (9 * n + 5 + z)) = some (δ.1 (mo + 17) (9 * n + 5 + z.toNat)) := rst (md21 hK) (by omega) (by omega) (show (9 * (n : Int) + 5 + z).toNat = 9 * n + 5 + z.toNat by omega) e17
    have r2 : rI σ d (mo + 1) (ii (622 + 4 * t + z)) = some (δ.1 (mo + 1) (622 + 4 * t + z).toNat) := rst (md0 hK) (by omega) (by omega) rfl (by rw [(hF _ (by omega)).1])
    have w1 : wI σ d (mo + 17) (ii (9 * n + 5 + z)) (δ.1 (mo + 17) (9 * n + 5 + z.toNat) ||| δ.1 (mo + 1) (622 + 4 * t + z).toNat) = some (u2 d.1 (mo + 17) (9 * (n : Int) + 5 + z).toNat (δ.1 (mo + 17) (9 * n + 5 + z.toNat) ||| δ.1 (mo + 1) (622 + 4 * t + z).toNat), d.2) := wI_kd (md21 hK) (by omega) (by omega)
    refine Ok_inl (s' := (ii (z + 1), (u2 d.1 (mo + 17) (9 * (n : Int) + 5 + z).toNat (δ.1 (mo + 17) (9 * n + 5 + z.toNat) ||| δ.1 (mo + 1) (622 + 4 * t + z).toNat), d.2))) ?_ ⟨rfl, fun k hk2 => ?_, fun k hk2 => ?_, hF.tr (Fr_u2 rfl)⟩
    · simp (disch := omega) only [ii_lit, ii_le, if_neg, mg21 hK, mg0 hK, ob_some, ii_mul, ii_add, r1, r2, w1]
    · dsimp only
      by_cases hkz : k = z.toNat
      · rw [if_pos (by omega), hkz, show (9 * (n : Int) + 5 + z).toNat = 9 * n + 5 + z.toNat by omega]
        simp only [u2, and_self, ↓reduceIte]
        rw [show ((z.toNat : Nat) : Int) = z by omega]
      · simp (disch := omega) only [u2, if_neg]
        rw [hk k hk2]
        by_cases h : (k : Int) < z
        · rw [if_pos h, if_pos (by omega)]
        · rw [if_neg h, if_neg (by omega)]
    · simp (disch := omega) only [u2, if_neg]
      exact ho k hk2
  · rintro ⟨s1, d⟩ ⟨hs, hk, ho, hF⟩
    dsimp only at hs hk ho hF ⊢
    subst hs
    have hB4 : B32 (fun k => d.1 (mo + 17) (9 * n + 5 + k)) (fun k => a.2.2 k || s_sl S t k) := by
      intro k s hk2 hs2
      show (d.1 (mo + 17) (9 * n + 5 + k)).toBitVec.getLsbD s = _
      rw [hk k hk2, if_pos (by omega), Int32.toBitVec_or, BitVec.getLsbD_or, hA.2.2 k s hk2 hs2, r10 k s hk2 hs2]
    have hdv := dvI_ii (a := t) (b := 32) t0 (by omega) (by omega) (by omega)
    have hrm := rmI_ii (a := t) (b := 32) t0 (by omega) (by omega) (by omega)
    have r1 : rI σ d (mo + 17) (ii (9 * n + 5 + t / 32)) = some (d.1 (mo + 17) (9 * n + 5 + (t / 32).toNat)) := rst (md21 hK) (by omega) (by omega) (show (9 * (n : Int) + 5 + t / 32).toNat = 9 * n + 5 + (t / 32).toNat by omega) rfl
    have w1 : ∀ x, wI σ d (mo + 17) (ii (9 * n + 5 + t / 32)) x = some (u2 d.1 (mo + 17) (9 * n + 5 + (t / 32).toNat) x, d.2) := fun x => by rw [wI_kd (md21 hK) (by omega) (by omega), show (9 * (n : Int) + 5 + t / 32).toNat = 9 * n + 5 + (t / 32).toNat by omega]
    have hv := B32_or (c' := fun k => u2 d.1 (mo + 17) (9 * n + 5 + (t / 32).toNat) (d.1 (mo + 17) (9 * n + 5 + (t / 32).toNat) ||| ((1 : Int32) <<< ((ii (t % 32)) &&& 31))) (mo + 17) (9 * n + 5 + k)) hB4 (z := t) t0 (by omega) (v := (1 : Int32) <<< ((ii (t % 32)) &&& 31)) rfl (by
      simp only [u2, and_self, ↓reduceIte]) (fun k hk2 => by
      simp (disch := omega) only [u2, if_neg])
    have hF2 : AF mo n δ (u2 d.1 (mo + 17) (9 * n + 5 + (t / 32).toNat) (d.1 (mo + 17) (9 * n + 5 + (t / 32).toNat) ||| ((1 : Int32) <<< ((ii (t % 32)) &&& 31))), d.2) := AF.tr ⟨hF.wk (fun r p => Or.inr p), fun k _ => by rw [(hF mo (by omega)).1], fun k hk2 => ho k (by omega)⟩ (AF_u2 (by omega))
    have hA2 : RAm (u2 d.1 (mo + 17) (9 * n + 5 + (t / 32).toNat) (d.1 (mo + 17) (9 * n + 5 + (t / 32).toNat) ||| ((1 : Int32) <<< ((ii (t % 32)) &&& 31))), d.2) mo n (inclA S a t) := by
      unfold inclA
      rw [if_pos ⟨t0, t1⟩]
      refine ⟨?_, fun z hz => ?_, B32_cg hv (fun k hk2 => ?_)⟩
      · simp (disch := omega) only [u2, if_neg]
        rw [ho _ (by omega)]
        exact hA.1
      · simp (disch := omega) only [u2, if_neg]
        rw [ho _ (by omega)]
        exact hA.2.1 z hz
      · show ((a.2.2 k || s_sl S t k) || decide (k = t.toNat)) = (a.2.2 k || (decide (k = t.toNat) || s_sl S t k))
        cases a.2.2 k <;> cases s_sl S t k <;> cases decide (k = t.toNat) <;> rfl
    obtain ⟨D, eD, hD⟩ := hq _ hA2 hF2 (by dsimp only; rw [u2_ne (by omega), (hF mo (by omega)).1])
    refine Ok_inr (r := D) ?_ hD
    have l32 : (32 : Int32) = ii 32 := rfl
    have l9 : (9 : Int32) = ii 9 := rfl
    have l5 : (5 : Int32) = ii 5 := rfl
    rw [if_pos (show (4 : Int32) ≤ ii 4 by decide), mg21 hK, ob_some, l32, hdv, ob_some, l9, l5, ii_mul, ii_add, ii_add, r1, ob_some, hrm, ob_some, w1, ob_some, eD]
    rfl
theorem m_goOn (hK : KM σ mo) (hN : RNm δ mo E) (gE : GE E) (hS : RSm δ mo S) (hGS : GS S) (h : RGm δ mo n E (l :: ls)) (hJ : ls.length < 4) (hg : g < n) (hn : n < 1990) (hA : RAm δ mo g a) (ha : ∀ z, 0 ≤ z → z < 4 → tm (s_nv S) (a.2.1 z)) (hm : gNode E m) (hk : e_kd E m = 4) (he : entA E S a m = true) (hq : (l_q l).length < 400) : Ok (m_X12_goOn σ mo (ii g) (ii m) δ) (fun d => RGm d mo (n + 1) E (qAdd l (goA E S a m) :: ls) ∧ GFm mo δ d) := by
  have hc := gE.1.2
  have gn := hGS.1
  obtain ⟨-, ⟨ta, tb⟩, -, -, cd, -⟩ := gE.2.2.2.2 m hm
  have cc := cd (Or.inl hk)
  obtain ⟨q1, q2, q3, q4⟩ := (hN.2.2 m hm).2.2.2.2.1 (Or.inl hk)
  obtain ⟨⟨r1, d⟩, e, h1, h2, h3, h4⟩ := m_another hK hA (m := e_on E m) hg hn h.2.1
  dsimp only at h1 h2 h3 h4
  subst h1
  have un : ∀ r, mo + 1 ≤ r → r ≤ mo + 16 → d.1 r = δ.1 r := fun r k1 k2 => (h4.1 r (by omega)).1
  have r4 := m_n4 (σ := σ) hK hc hm q4
  have p1 := m_n1 (σ := σ) (δ := d) hK hc hm (v := ii (e_wh E m)) (by rw [un _ (by omega) (by omega)]; exact q1)
  have p2 := m_n2 (σ := σ) (δ := d) hK hc hm (v := ii (e_a E m)) (by rw [un _ (by omega) (by omega)]; exact q2)
  have hSd : RSm d mo S := RSm_eq hS hGS (fun k _ => by rw [un _ (by omega) (by omega)])
  have hAd : RAm d mo g a := RAm_eq hA (fun k _ hk2 => h4.2.2 k (by omega))
  have fin : ∀ (D : Dy) (b : Ag), RAm D mo n b → AF mo n δ D → D.1 mo 22 = ii ((n : Int) + 1) → Ok (m_X12_goOn_b135 σ mo (ii n) D) (fun d => RGm d mo (n + 1) E (qAdd l b :: ls) ∧ GFm mo δ d) := by
    intro D b k1 k2 k3
    obtain ⟨D', eD, j1, j2, -⟩ := (m_push hK (RGm_new h k2 k3) hJ (Nat.lt_succ_self n) k1).1 hq
    refine ⟨D', ?_, j1, (GFm_AF k2).tr j2⟩
    unfold m_X12_goOn_b135
    rw [chk_ko hK.1, ob_some, eD, ob_some]
  have hcr : -1 ≤ e_wh E m ∧ e_wh E m ≤ 15 := by unfold gCond at cc; omega
  unfold m_X12_goOn goA
  rw [mg6 hK, ob_some, r4, ob_some, chk_ko hK.1, ob_some, e, ob_some, mg3 hK, ob_some]
  dsimp only
  rw [p1, ob_some]
  by_cases c10 : e_wh E m < 10
  · rw [if_pos (show ii (e_wh E m) < 10 by rw [show ((10 : Int32)) = ii 10 from rfl, ii_lt (by omega) (by omega) (by omega) (by omega)]; exact c10), if_pos c10]
    exact fin d _ h2 h4 h3
  · have c3 : ¬ e_wh E m = 3 := by omega
    have p3 := m_n3 (σ := σ) (δ := d) hK hc hm (v := ii (e_b E m)) (by rw [un _ (by omega) (by omega)]; exact q3 c3)
    have la := m_look (δ := d) hK hAd (by omega) ta
    have lb := m_look (δ := d) hK hAd (by omega) tb
    have ga := look_tm ha ta
    have gb := look_tm ha tb
    have tok := m_tokenOf (σ := σ) hK hSd hGS ga gb (w := e_wh E m - 10) (by omega) (by omega)
    have ht : 0 ≤ lowest S (e_wh E m - 10) (lookA a (e_a E m)) (lookA a (e_b E m)) ∧ lowest S (e_wh E m - 10) (lookA a (e_a E m)) (lookA a (e_b E m)) < s_nt S := by
      rcases low_rng (S := S) (w := e_wh E m - 10) (a := lookA a (e_a E m)) (b := lookA a (e_b E m)) hGS with h0 | h0
      · exfalso
        unfold entA entl at he
        rw [if_neg c10] at he
        exact (of_decide_eq_true he) h0
      · exact h0
    rw [if_neg (show ¬ ii (e_wh E m) < 10 by rw [show ((10 : Int32)) = ii 10 from rfl, ii_lt (by omega) (by omega) (by omega) (by omega)]; exact c10), if_neg c10]
    rw [show ((10 : Int32)) = ii 10 from rfl, ob_some, p1, ob_some, mg4 hK, ob_some, p2, ob_some, ob_some, la, ob_some, mg5 hK, ob_some, p3, ob_some, ob_some, lb, ob_some, ob_some, ii_sub, tok, ob_some]
    generalize lowest S (e_wh E m - 10) (lookA a (e_a E m)) (lookA a (e_b E m)) = t at ht ⊢
    refine m_goTok hK hSd hGS h2 hn ht.1 ht.2 (fun D k1 k2 k22 => ?_)
    have e22 : D.1 mo 22 = ii ((n : Int) + 1) := by rw [k22]; exact h3
    refine fin D (e_on E m, (inclA S a t).2) ?_ (h4.tr k2) e22
    have : inclA S (e_on E m, a.2) t = (e_on E m, (inclA S a t).2) := by
      unfold inclA
      split <;> rfl
    rw [← this]
    exact k1
end
