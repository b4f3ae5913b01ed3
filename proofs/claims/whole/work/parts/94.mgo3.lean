/-! THE REFERENCE: settling -/
section
variable {σ : St} {δ : Dy} {mo : Nat} {S : Sto} {V : Vw} {Rs : Int → Rl} {R : Rl} {made B : Int} {bd : Int → Int} {rest : List Frm}
theorem RVm_cg (hV : RVm δ mo Rs V) (hG : GS (v_S V)) (hh : (v_hi V).length ≤ 2000) {d : Dy} {P : Nat → Prop} (hF : Fr P δ d) (h0 : ¬ P mo) (h1 : ¬ P (mo + 1)) (h28 : ¬ P (mo + 28)) : RVm d mo Rs V := by
  obtain ⟨s1, ⟨s2, s3, s4⟩, s5, s6, s7⟩ := hV
  exact ⟨RSm_eq s1 hG (fun k _ => by rw [(hF (mo + 1) h1).1]), ⟨by rw [(hF mo h0).1]; exact s2, by rw [(hF mo h0).1]; exact s3, by rw [(hF mo h0).1]; exact s4⟩, RMfr_eq s5 (fun k _ => by rw [(hF (mo + 28) h28).1]), RMh_eq s6 (fun k _ _ => by rw [(hF (mo + 1) h1).1]) hh, fun w hw => by rw [(hF (mo + 1) h1).1]; exact s7 w hw⟩
theorem m_goBodies (hK : KM σ mo) (hR : RRm δ mo made Rs) (hV : RVm δ mo Rs V) (hX : XV Rs made B V) (hB : B ≤ 1830) {w k : Int} {sl : Nat → Bool} {la : Bool} (hf : v_fr V = .inr (.inr (w, k, bd, sl, la)) :: rest) : Ok (m_X12_goBodies σ mo (ii (12 * rest.length)) δ) (fun d => FM mo δ d ∧ RVm d mo Rs (adv V Rs made)) := by
  obtain ⟨x1, x2, x3, x4, x5⟩ := id hX
  obtain ⟨g1, g2, g3, g4, g5, g6, g7, g8⟩ := id x1
  have gn := g1.1
  have hlen : rest.length + 1 ≤ 182 := by
    have := okF_len g6
    rw [hf, List.length_cons] at this
    rw [hf] at g7
    omega
  have hh : (v_hi V).length ≤ 1900 := by omega
  have hft : gFrm (v_S V) Rs made (.inr (.inr (w, k, bd, sl, la))) := g5 _ (by rw [hf]; exact List.mem_cons_self ..)
  obtain ⟨ww, kk, b0, b1⟩ := hft
  have hgr := g4 _ ww.1 ww.2
  obtain ⟨y1, y2, y3, y4, y5, y6, y7⟩ := id hgr
  have hfr := hV.2.2.1
  have f3 := hV.2.1.2.2
  rw [hf] at hfr f3
  obtain ⟨⟨c0, c1, c2, c3, c4, c5⟩, hfr'⟩ := hfr
  have nn : (0 : Int) ≤ rest.length := by omega
  have e1 : rI σ δ (mo + 28) (ii (12 * (rest.length : Int) + 1)) = some (ii w) := rst (md36 hK) (by omega) (by omega) (by omega) c1
  have e2 : rI σ δ (mo + 28) (ii (12 * (rest.length : Int) + 2)) = some (ii k) := rst (md36 hK) (by omega) (by omega) (by omega) c2
  obtain ⟨-, -, -, a4, a5⟩ := hR.2 w ww.1 ww.2
  have e12 : rI σ δ (mo + 12) (ii w) = some (ii (l_nb (Rs w))) := rst (md12 hK) (by omega) (by omega) rfl a4
  have hadv : adv V Rs made = advB V Rs w k bd sl la rest := by unfold adv; rw [hf]
  unfold m_X12_goBodies
  by_cases ck : k = l_nb (Rs w)
  · obtain ⟨d, e, q1, q2⟩ := m_goPop hK hV g1 (by omega) hf (by omega)
    refine ⟨d, ?_, q2, ?_⟩
    · rw [show ((1 : Int32)) = ii 1 from rfl, show ((2 : Int32)) = ii 2 from rfl, mg36 hK, ob_some, ii_add, e1, ob_some, ob_some, ii_add, e2, ob_some, mg12 hK, ob_some, e12, ob_some, if_pos (congrArg ii ck)]
      exact e
    · rw [hadv]
      unfold advB
      rw [if_pos (by omega)]
      exact q1
  · have hF : Fr (fun r => r = mo + 28) δ (u2 δ.1 (mo + 28) (12 * (rest.length : Int) + 2).toNat (ii (k + 1)), δ.2) := Fr_u2 rfl
    have ew : wI σ δ (mo + 28) (ii (12 * (rest.length : Int) + 2)) (ii (k + 1)) = some (u2 δ.1 (mo + 28) (12 * (rest.length : Int) + 2).toNat (ii (k + 1)), δ.2) := wI_kd (md36 hK) (by omega) (by omega)
    have hkk : ∀ i, ¬ i = 12 * rest.length + 2 → (u2 δ.1 (mo + 28) (12 * (rest.length : Int) + 2).toNat (ii (k + 1)), δ.2).1 (mo + 28) i = δ.1 (mo + 28) i := fun i hi => by simp (disch := omega) only [u2, if_neg]
    have hk2 : (u2 δ.1 (mo + 28) (12 * (rest.length : Int) + 2).toNat (ii (k + 1)), δ.2).1 (mo + 28) (12 * rest.length + 2) = ii (k + 1) := by
      rw [show (12 * (rest.length : Int) + 2).toNat = 12 * rest.length + 2 by omega]
      simp only [u2, and_self, ↓reduceIte]
    generalize (u2 δ.1 (mo + 28) (12 * (rest.length : Int) + 2).toNat (ii (k + 1)), δ.2) = d1 at hF ew hkk hk2
    have hf1 : RMf Rs d1 mo rest.length (.inr (.inr (w, k + 1, bd, sl, la))) := ⟨by rw [hkk _ (by omega)]; exact c0, by rw [hkk _ (by omega)]; exact c1, hk2, fun z hz => by rw [hkk _ (by omega)]; exact c3 z hz, B32_eq c4 (fun i _ => hkk _ (by omega)), by rw [hkk _ (by omega)]; exact c5⟩
    have hfr1 : RMfr Rs d1 mo rest := RMfr_eq hfr' (fun i hi => hkk i (by omega))
    obtain ⟨q1, q2⟩ := RVm_fr hV g1 (by omega) (d := d1) (fr := .inr (.inr (w, k + 1, bd, sl, la)) :: rest) (hF.wk (fun r p => Or.inr p)) (fun i _ => by rw [(hF mo (by omega)).1]) (by rw [(hF mo (by omega)).1]; exact f3) ⟨hf1, hfr1⟩
    have hR1 : RRm d1 mo made Rs := RRm_eq hR (by rw [(hF mo (by omega)).1]) (fun r a b => (hF r (by omega)).1)
    have hneq : ¬ ii k = ii (l_nb (Rs w)) := by rw [ii_eq (by omega) (by omega) (by omega) (by omega)]; exact ck
    rw [show ((1 : Int32)) = ii 1 from rfl, show ((2 : Int32)) = ii 2 from rfl, mg36 hK, ob_some, ii_add, e1, ob_some, ob_some, ii_add, e2, ob_some, mg12 hK, ob_some, e12, ob_some, if_neg hneq, ob_some, e2, ob_some, ii_add, ew, ob_some]
    have htmx : ∀ x, (valu x ∨ bnd (Rs w) x) → (-1000 ≤ x ∧ x ≤ 1000) ∧ (slot x → ¬ bd (x - 200) = 1000) ∧ tm (s_nv (v_S V)) (resB bd x) := by
      intro x hx
      rcases hx with hx | hx
      · have hv : -99 ≤ x ∧ x ≤ 99 := hx
        refine ⟨by omega, fun hs => ?_, ?_⟩
        · have : 200 ≤ x ∧ x < 204 := hs
          omega
        · unfold resB
          rw [if_neg (by omega)]
          exact Or.inl hv
      · have hs : 200 ≤ x ∧ x < 204 := hx.1
        have ht := b1 x hx
        refine ⟨by omega, fun _ => by unfold tm at ht; omega, ?_⟩
        unfold resB
        rw [if_pos hs]
        exact ht
    have ha := htmx _ (y6 (2 * k) (by omega) (by omega))
    have hb := htmx _ (y6 (2 * k + 1) (by omega) (by omega))
    have hb5 := y5 k kk.1 (by omega)
    have hG1 : GV Rs made (v_setfr V (.inr (.inr (w, k + 1, bd, sl, la)) :: rest)) := by
      refine GV_setfr x1 (fun f hm => ?_) (by rw [hf] at g6; exact g6) (by rw [hf] at g7; exact g7)
      rcases List.mem_cons.mp hm with rfl | hm
      · exact ⟨ww, ⟨by omega, by omega⟩, b0, b1⟩
      · exact g5 f (by rw [hf]; exact List.mem_cons_of_mem _ hm)
    unfold m_X12_goBodies_b54
    refine Ok_for (fun z s => s.1 = ii z ∧ (∀ y : Int, 0 ≤ y → y < z → s.2.1 (mo + 29) y.toNat = ii (if bd y = 1000 then 300 else bd y)) ∧ (∀ y : Nat, (y : Int) < z → s.2.1 (mo + 30) y = d1.1 (mo + 28) (12 * rest.length + 7 + y)) ∧ Fr (fun r => r = mo + 29 ∨ r = mo + 30) d1 s.2) 0 4 (by omega) (by omega) ?_ ?_ ⟨rfl, fun y _ _ => by omega, fun y _ => by omega, Fr.rf⟩
    · rintro z ⟨s1, d⟩ z0 z1 ⟨hs, h1, h2, hFd⟩
      dsimp only at hs h1 h2 hFd ⊢
      subst hs
      have r3 : rI σ d (mo + 28) (ii (12 * (rest.length : Int) + 3 + z)) = some (ii (if bd z = 1000 then 300 else bd z)) := by
        have := hf1.2.2.2.1 z.toNat (by omega)
        rw [show ((z.toNat : Nat) : Int) = z by omega] at this
        exact rst (md36 hK) (by omega) (by omega) (show (12 * (rest.length : Int) + 3 + z).toNat = 12 * rest.length + 3 + z.toNat by omega) (by rw [(hFd (mo + 28) (by omega)).1]; exact this)
      have w1 : wI σ d (mo + 29) (ii z) (ii (if bd z = 1000 then 300 else bd z)) = some (u2 d.1 (mo + 29) z.toNat (ii (if bd z = 1000 then 300 else bd z)), d.2) := wI_kd (md38 hK) z0 (by omega)
      have r7 : rI σ (u2 d.1 (mo + 29) z.toNat (ii (if bd z = 1000 then 300 else bd z)), d.2) (mo + 28) (ii (12 * (rest.length : Int) + 7 + z)) = some (d1.1 (mo + 28) (12 * rest.length + 7 + z.toNat)) := rst (md36 hK) (by omega) (by omega) (show (12 * (rest.length : Int) + 7 + z).toNat = 12 * rest.length + 7 + z.toNat by omega) (by dsimp only; rw [u2_ne (by omega), (hFd (mo + 28) (by omega)).1])
      have w2 : wI σ (u2 d.1 (mo + 29) z.toNat (ii (if bd z = 1000 then 300 else bd z)), d.2) (mo + 30) (ii z) (d1.1 (mo + 28) (12 * rest.length + 7 + z.toNat)) = some (u2 (u2 d.1 (mo + 29) z.toNat (ii (if bd z = 1000 then 300 else bd z))) (mo + 30) z.toNat (d1.1 (mo + 28) (12 * rest.length + 7 + z.toNat)), d.2) := wI_kd (md39 hK) z0 (by omega)
      refine Ok_inl (s' := (ii (z + 1), (u2 (u2 d.1 (mo + 29) z.toNat (ii (if bd z = 1000 then 300 else bd z))) (mo + 30) z.toNat (d1.1 (mo + 28) (12 * rest.length + 7 + z.toNat)), d.2))) ?_ ⟨rfl, fun y y0 y1 => ?_, fun y hy => ?_, hFd.tr (fun r hr => ⟨by simp (disch := omega) only [u2_ne], rfl⟩)⟩
      · simp (disch := omega) only [ii_lit, ii_le, if_neg, mg38 hK, mg36 hK, mg39 hK, ob_some, ii_add, r3, w1, r7, w2]
      · dsimp only
        rw [u2_ne (by omega)]
        by_cases hyz : y = z
        · rw [hyz]
          simp only [u2, and_self, ↓reduceIte]
        · simp (disch := omega) only [u2, if_neg]
          exact h1 y y0 (by omega)
      · dsimp only
        by_cases hyz : y = z.toNat
        · rw [hyz]
          simp only [u2, and_self, ↓reduceIte]
        · simp (disch := omega) only [u2, if_neg]
          exact h2 y (by omega)
    · rintro ⟨s1, d⟩ ⟨hs, h1, h2, hFd⟩
      dsimp only at hs h1 h2 hFd ⊢
      subst hs
      have hBd : RBm d mo bd := fun z z0 z1 => h1 z z0 z1
      have hSl : B32 (fun z => d.1 (mo + 30) z) sl := B32_eq hf1.2.2.2.2.1 (fun z hz => h2 z (by omega))
      have hVd := RVm_cg q1 g1 (by show (v_hi V).length ≤ 2000; omega) hFd (by omega) (by omega) (by omega)
      have hRd : RRm d mo made Rs := RRm_eq hR1 (by rw [(hFd mo (by omega)).1]) (fun r a b => (hFd r (by omega)).1)
      have hfm : FM mo d1 d := ⟨fun r hr => hFd r (by omega), fun i _ => by rw [(hFd mo (by omega)).1], fun i _ => by rw [(hFd (mo + 1) (by omega)).1]⟩
      obtain ⟨m0, m1, m2⟩ := (hRd.2 w ww.1 ww.2).2.2.2.2 k kk.1 (by omega)
      have r0 : rI σ d (mo + 13) (ii (6 * w + 3 * k)) = some (ii (l_bs (Rs w) k)) := rst (md13 hK) (by omega) (by omega) rfl m0
      have r1 : rI σ d (mo + 13) (ii (6 * w + 3 * k + 1)) = some (ii (l_bt (Rs w) (2 * k))) := rst (md13 hK) (by omega) (by omega) rfl m1
      have r2 : rI σ d (mo + 13) (ii (6 * w + 3 * k + 2)) = some (ii (l_bt (Rs w) (2 * k + 1))) := rst (md13 hK) (by omega) (by omega) rfl m2
      have r11 : rI σ d (mo + 28) (ii (12 * (rest.length : Int) + 11)) = some (bi la) := rst (md36 hK) (by omega) (by omega) (show (12 * (rest.length : Int) + 11).toNat = 12 * rest.length + 11 by omega) (by rw [(hFd (mo + 28) (by omega)).1]; exact hf1.2.2.2.2.2)
      have ta := m_termOf hK hBd ha.1.1 ha.1.2 ha.2.1
      have tb := m_termOf hK hBd hb.1.1 hb.1.2 hb.2.1
      rw [hadv]
      unfold advB
      rw [if_neg (show ¬ l_nb (Rs w) ≤ k by omega)]
      by_cases cb : l_bs (Rs w) k = -1
      · rw [if_pos cb]
        obtain ⟨D, eD, z1, z2⟩ := m_tellEq hK hVd g1 (by show rest.length + 1 ≤ 183; omega) (by show (v_hi V).length ≤ 2000; omega) ha.2.2 hb.2.2
        refine Ok_inr (r := D) ?_ ⟨(q2.tr hfm).tr z2, z1⟩
        have hcb : ii (l_bs (Rs w) k) = ii (-1) := by rw [cb]
        rw [if_pos (show (4 : Int32) ≤ ii 4 by decide)]
        simp (disch := omega) only [mg13 hK, ob_some, ii_lit, ii_neg, ii_mul, ii_add, r0, r1, r2, chk_ko hK.1, ta, tb, cb, ↓reduceIte, eD]
      · rw [if_neg cb]
        obtain ⟨D, eD, z1, z2⟩ := m_tellTok hK hVd g1 (by show rest.length + 1 ≤ 183; omega) (by show (v_hi V).length ≤ 2000; omega) (so := l_bs (Rs w) k) (a := resB bd (l_bt (Rs w) (2 * k))) (b := resB bd (l_bt (Rs w) (2 * k + 1))) (la := la) hSl
        refine Ok_inr (r := D) ?_ ⟨(q2.tr hfm).tr z2, z1⟩
        have hncb : ¬ ii (l_bs (Rs w) k) = ii (-1) := by rw [ii_eq (by omega) (by omega) (by omega) (by omega)]; exact cb
        rw [if_pos (show (4 : Int32) ≤ ii 4 by decide)]
        cases la with
        | true =>
          have hb1 : bi true = ii 1 := rfl
          rw [hb1] at eD
          simp (disch := omega) only [mg13 hK, mg36 hK, ob_some, ii_lit, ii_neg, ii_mul, ii_add, r0, r1, r2, r11, chk_ko hK.1, ta, tb, hncb, ↓reduceIte, hb1, m_X12_goBodies_b195, eD]
        | false =>
          have hb1 : ¬ (bi false = ii 1) := by decide
          have hb0 : bi false = ii 0 := rfl
          rw [hb0] at eD
          simp (disch := omega) only [mg13 hK, mg36 hK, ob_some, ii_lit, ii_neg, ii_mul, ii_add, r0, r1, r2, r11, chk_ko hK.1, ta, tb, hncb, ↓reduceIte, hb1, m_X12_goBodies_b195, eD]
theorem muV_nn (hG : GV Rs made V) : 0 ≤ muV V := by
  have h1 := wFrs_nn hG.2.2.2.2.1 hG.2.2.2.1
  have h2 := hG.2.1
  unfold muV
  split <;> omega
theorem TopJ_ex (hV : RVm δ mo Rs V) (hX : XV Rs made B V) : ∃ j, TopJ Rs δ mo (v_fr V) j ∧ 0 ≤ j ∧ j < 20000 := by
  have hfr := hV.2.2.1
  have hm := hX.1.2.2.1
  cases hf : v_fr V with
  | nil => exact ⟨0, rfl, by omega, by omega⟩
  | cons f rest =>
    rw [hf] at hfr
    rcases f with ⟨t, p⟩ | ⟨a, m⟩ | x
    · obtain ⟨⟨-, -, r, h, o, h1, h2, h3, h4, h5⟩, -⟩ := hfr
      have hp := hX.2.2.2.1 t p (by rw [hf]; exact List.mem_cons_self ..)
      exact ⟨_, ⟨r, h, o, h1, h2, h3, h4, h5, rfl⟩, by omega, by omega⟩
    · have hg : gFrm (v_S V) Rs made (.inr (.inl (a, m))) := hX.1.2.2.2.2.1 _ (by rw [hf]; exact List.mem_cons_self ..)
      have ga : 0 ≤ a ∧ a ≤ 100 := hg
      exact ⟨101 - a, rfl, by omega, by omega⟩
    · exact ⟨0, rfl, by omega, by omega⟩
theorem m_settle (hK : KM σ mo) (hR : RRm δ mo made Rs) (hV : RVm δ mo Rs V) (hX : XV Rs made B V) (hB : B ≤ 1830) (hmu : muV V ≤ 100000) : Ok (m_X12_settle σ mo δ) (fun d => ∃ Vf, Ends Rs made V Vf ∧ XV Rs made B Vf ∧ RVm d mo Rs (v_setfr Vf []) ∧ FM mo δ d) := by
  obtain ⟨j0, hj0, hj1, hj2⟩ := TopJ_ex hV hX
  have hmn := muV_nn hX.1
  unfold m_X12_settle m_X12_settle_b0
  refine Ok_lpi (fun n s => ∃ (V' : Vw) (j : Int), RVm s mo Rs V' ∧ XV Rs made B V' ∧ TopJ Rs s mo (v_fr V') j ∧ (0 ≤ j ∧ j < 20000) ∧ FM mo δ s ∧ (∀ Vf, Ends Rs made V' Vf → Ends Rs made V Vf) ∧ n = (muV V' * 20000 + j).toNat) ?_ (n := (muV V * 20000 + j0).toNat) ⟨V, j0, hV, hX, hj0, ⟨hj1, hj2⟩, FM.rf, fun _ h => h, rfl⟩ (by omega)
  rintro n s ⟨V', j, hV', hX', hJ, hj, hFM, hE, rfl⟩
  have hRs : RRm s mo made Rs := RRm_eq hR (hFM.2.1 14 (by decide)) (fun r a b => (hFM.1 r (by omega)).1)
  have f2 := hV'.2.1.2.1
  have f3 := hV'.2.1.2.2
  have hmn' := muV_nn hX'.1
  have hlen : (v_fr V').length ≤ 183 := by
    have h1 := okF_len hX'.1.2.2.2.2.2.1
    have h2 := hX'.1.2.2.2.2.2.2.1
    have h3 := hX'.1.2.1
    omega
  have hh : (v_hi V').length ≤ 1900 := by have h2 := hX'.2.2.1; have h3 := hX'.1.2.1; omega
  have stop : Ok (m_X12_settle_b67 σ mo s) (fun d => RVm d mo Rs (v_setfr V' []) ∧ FM mo s d) := by
    have hF : Fr (fun r => r = mo) s (u2 s.1 mo 37 (ii 0), s.2) := Fr_u2 rfl
    refine ⟨(u2 s.1 mo 37 (ii 0), s.2), ?_, RVm_fr hV' hX'.1.1 (by omega) (hF.wk (fun r p => Or.inl p)) (fun k hk => by simp (disch := omega) only [u2, if_neg]) (by simp only [u2, and_self, ↓reduceIte]; rfl) trivial⟩
    unfold m_X12_settle_b67
    rw [show ((0 : Int32)) = ii 0 from rfl, pI_ko hK.1, ob_some]
  have fin : doneV V' → Ok ((m_X12_settle_b67 σ mo s).bind fun r => some (Sum.inr r : Dy ⊕ Dy)) (PL (fun s' => ∃ m, m < (muV V' * 20000 + j).toNat ∧ ∃ (V'' : Vw) (j' : Int), RVm s' mo Rs V'' ∧ XV Rs made B V'' ∧ TopJ Rs s' mo (v_fr V'') j' ∧ (0 ≤ j' ∧ j' < 20000) ∧ FM mo δ s' ∧ (∀ Vf, Ends Rs made V'' Vf → Ends Rs made V Vf) ∧ m = (muV V'' * 20000 + j').toNat) (fun d => ∃ Vf, Ends Rs made V Vf ∧ XV Rs made B Vf ∧ RVm d mo Rs (v_setfr Vf []) ∧ FM mo δ d)) := by
    intro hd
    obtain ⟨d, e, q1, q2⟩ := stop
    exact Ok_inr (r := d) (by rw [e]; rfl) ⟨V', hE V' (Ends_rf hd), hX', q1, hFM.tr q2⟩
  refine Ok_bind (gI_ko hK.1) ?_
  rw [f3]
  by_cases hz : (v_fr V').length = 0
  · rw [if_pos (show ii ((v_fr V').length : Int) ≤ 0 by rw [hz]; decide)]
    exact fin (Or.inl hz)
  · rw [if_neg (show ¬ ii ((v_fr V').length : Int) ≤ 0 by rw [show ((0 : Int32)) = ii 0 from rfl, ii_le (by omega) (by omega) (by omega) (by omega)]; omega)]
    refine Ok_bind (gI_ko hK.1) ?_
    rw [f2]
    cases hfl : v_fl V' with
    | true =>
      rw [if_neg (show ¬ bi true = 0 by decide)]
      exact fin (Or.inr hfl)
    | false =>
      rw [if_pos (show bi false = 0 from rfl)]
      have hnd : ¬ doneV V' := fun h => by
        rcases h with h | h
        · exact hz h
        · rw [hfl] at h; cases h
      have hnn : ¬ v_fr V' = [] := fun h => hz (by rw [h]; rfl)
      have hadg := adv_good hX'.1 hfl hnn
      have hadX := adv_X hX' hfl hnn
      -- a round goes on
      have go : ∀ d, FM mo s d → Rnd Rs made B mo V' j d → (∃ m, m < (muV V' * 20000 + j).toNat ∧ ∃ (V'' : Vw) (j' : Int), RVm d mo Rs V'' ∧ XV Rs made B V'' ∧ TopJ Rs d mo (v_fr V'') j' ∧ (0 ≤ j' ∧ j' < 20000) ∧ FM mo δ d ∧ (∀ Vf, Ends Rs made V'' Vf → Ends Rs made V Vf) ∧ m = (muV V'' * 20000 + j').toNat) := by
        intro d hfm hr
        rcases hr with hr | ⟨f', rest', j', r1, r2, r3, r4, r5, r6, r7⟩
        · obtain ⟨j', t1, t2, t3⟩ := TopJ_ex hr hadX
          have hmn2 := muV_nn hadX.1
          exact ⟨_, by omega, adv V' Rs made, j', hr, hadX, t1, ⟨t2, t3⟩, hFM.tr hfm, fun Vf h => hE Vf (Ends_adv hnd h), rfl⟩
        · have hmn2 := muV_nn r2.1
          have hmle : muV (v_setfr V' (f' :: rest')) ≤ muV V' := by
            show 1000 * (60 - v_ac V') + wFrs (f' :: rest') + (if v_fl V' = true then 0 else 1) ≤ 1000 * (60 - v_ac V') + wFrs (v_fr V') + (if v_fl V' = true then 0 else 1)
            omega
          refine ⟨_, ?_, v_setfr V' (f' :: rest'), j', r1, r2, r5, ⟨r6, by omega⟩, hFM.tr hfm, fun Vf h => hE Vf (Ends_skip hnd (fun h2 => ?_) r3 h), rfl⟩
          · omega
          · rcases h2 with h2 | h2
            · cases h2
            · rw [show v_fl (v_setfr V' (f' :: rest')) = v_fl V' from rfl, hfl] at h2; cases h2
      cases hf : v_fr V' with
      | nil => exact absurd hf hnn
      | cons f rest =>
        have hfr := hV'.2.2.1
        rw [hf] at hfr
        rw [hf, List.length_cons] at hlen
        have hn12 : ii 12 * (ii ((rest.length : Int) + 1) - ii 1) = ii (12 * rest.length) := by rw [ii_sub, ii_mul]; exact congrArg ii (by omega)
        have f3' : s.1 mo 37 = ii ((rest.length : Int) + 1) := by rw [f3, hf]; rfl
        rw [show ((12 : Int32)) = ii 12 from rfl, show ((1 : Int32)) = ii 1 from rfl]
        refine Ok_bind (gI_ko hK.1) ?_
        rw [f3', hn12]
        refine Ok_bind (mg36 hK) ?_
        rcases f with ⟨t, p⟩ | ⟨a, m⟩ | ⟨w, k, bd, sl, la⟩
        · have e0 : rI σ s (mo + 28) (ii (12 * (rest.length : Int))) = some (ii 0) := rst (md36 hK) (by omega) (by omega) (by omega) hfr.1.1
          obtain ⟨d, e, q1, q2⟩ := m_goActive hK hRs hV' hX' hB hfl hf hJ
          refine Ok_bind e0 (Ok_inl (s' := d) ?_ (go d q1 q2))
          rw [if_pos (show ii 0 = 0 from rfl), chk_ko hK.1, ob_some, e, ob_some]
          rfl
        · have e0 : rI σ s (mo + 28) (ii (12 * (rest.length : Int))) = some (ii 2) := rst (md36 hK) (by omega) (by omega) (by omega) hfr.1.1
          obtain ⟨d, e, q1, q2⟩ := m_goAgain hK hV' hX' hB hf hJ
          refine Ok_bind e0 (Ok_inl (s' := d) ?_ (go d q1 q2))
          rw [if_neg (show ¬ ii 2 = 0 by decide), mg36 hK, ob_some, e0, ob_some, if_neg (show ¬ ii 2 = ii 1 by decide), chk_ko hK.1, ob_some, e, ob_some]
          rfl
        · have e0 : rI σ s (mo + 28) (ii (12 * (rest.length : Int))) = some (ii 1) := rst (md36 hK) (by omega) (by omega) (by omega) hfr.1.1
          obtain ⟨d, e, q1, q2⟩ := m_goBodies hK hRs hV' hX' hB hf
          refine Ok_bind e0 (Ok_inl (s' := d) ?_ (go d q1 (Or.inl q2)))
          rw [if_neg (show ¬ ii 1 = 0 by decide), mg36 hK, ob_some, e0, ob_some, if_pos (show ii 1 = ii 1 from rfl), chk_ko hK.1, ob_some, e, ob_some]
          rfl
end
