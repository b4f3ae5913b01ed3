/-! THE REFERENCE: asks; hiding -/
section
variable {σ : St} {δ : Dy} {mo g n : Nat} {E : Ev} {W : Wo} {a : Ag} {l : Lv} {ls : List Lv} {ch : Nat → Nat}
theorem sideA_way {S : Sto} {tk : Int → Int} {m : Int} (hk : e_kd E m = 4 ∨ e_kd E m = 5) : (sideA E S tk a m = -1) ∨ (sideA E S tk a m = 0 ∧ entA E S a (whenA E m 0) = true) ∨ (sideA E S tk a m = 1 ∧ e_kd E m = 5 ∧ entA E S a (whenA E m 1) = true) := by
  unfold sideA whenA
  by_cases h4 : e_kd E m = 4
  · rw [if_pos h4, if_neg (show ¬ e_kd E m = 5 by omega)]
    cases h : entA E S a m with
    | true => rw [if_pos rfl]; exact Or.inr (Or.inl ⟨rfl, rfl⟩)
    | false => rw [if_neg (by decide)]; exact Or.inl rfl
  · have h5 : e_kd E m = 5 := by omega
    rw [if_neg h4, if_pos h5, if_pos h5, if_pos h5, if_pos (rfl : (0 : Int) = 0), if_neg (show ¬ (1 : Int) = 0 by decide)]
    cases h1 : entA E S a (e_on E m) with
    | true =>
      rw [if_pos rfl]
      cases h2 : entA E S a (e_ot E m) with
      | true =>
        rw [if_pos rfl]
        split
        · split
          · exact Or.inr (Or.inr ⟨rfl, h5, rfl⟩)
          · exact Or.inr (Or.inl ⟨rfl, rfl⟩)
        · split
          · exact Or.inr (Or.inl ⟨rfl, rfl⟩)
          · exact Or.inr (Or.inr ⟨rfl, h5, rfl⟩)
      | false => rw [if_neg (by decide)]; exact Or.inr (Or.inl ⟨rfl, rfl⟩)
    | false =>
      rw [if_neg (by decide)]
      cases h2 : entA E S a (e_ot E m) with
      | true => rw [if_pos rfl]; exact Or.inr (Or.inr ⟨rfl, h5, rfl⟩)
      | false => rw [if_neg (by decide)]; exact Or.inl rfl
theorem m_aWhen (hK : KM σ mo) (hN : RNm δ mo E) (gE : GE E) (h : RWm δ mo n E ch (w_setlv W (l :: ls))) (hG : GS (v_S (w_V W))) (hh : (v_hi (w_V W)).length ≤ 2000) (hJ : ls.length < 4) (hg : g < n) (hn : n < 1980) (hA : RAm δ mo g a) (ha : gAg E (v_S (w_V W)) a) (hk : e_kd E a.1 = 4) (hq : (l_q l).length < 390) (hw : (l_w l).length < 390) : Ok (
            (chk σ 12 mo).bind fun _ => (m_X12_holds σ mo (ii g) (ii a.1) δ).bind fun v41 =>
            if v41 = 0 then
              (chk σ 12 mo).bind fun _ => (m_X12_waitFor σ mo (ii g) δ).bind fun v42 =>
              some v42
            else
              (chk σ 12 mo).bind fun _ => (m_X12_goOn σ mo (ii g) (ii a.1) δ).bind fun v43 =>
              some v43) (fun d => ActW δ d mo n E ch (w_setlv W (l :: ls)) (askW E W l ls a)) := by
  have hh1 : m_X12_holds σ mo (ii g) (ii a.1) δ = some (bi (entA E (v_S (w_V W)) a a.1)) := m_holds hK hN gE h.1.1 hG hA (by omega) ha.2 ha.1 (Or.inl hk)
  rw [chk_ko hK.1, ob_some, hh1, ob_some, ob_some]
  unfold askW sideA
  rw [if_pos hk]
  cases he : entA E (v_S (w_V W)) a a.1 with
  | false =>
    obtain ⟨D, eD, k1, k2, -⟩ := (m_push hK h.2.1 hJ hg hA).2.1 (by omega)
    refine ⟨D, ?_, ?_⟩
    · rw [if_pos (show bi false = 0 from rfl), eD, ob_some]
    · rw [if_neg (show ¬ false = true by decide), if_pos rfl]
      refine ActW_G h hG hh k2 k1 ?_
      show n + (wL ls + (l_w l ++ [a]).length) + (ls.length + 1) ≤ n + (wL ls + (l_w l).length) + (ls.length + 1) + 2
      rw [List.length_append, List.length_singleton]
      omega
  | true =>
    obtain ⟨D, eD, k1, k2⟩ := m_goOn (S := v_S (w_V W)) hK hN gE h.1.1 hG h.2.1 hJ hg (by omega) hA ha.2 ha.1 hk he (by omega)
    refine ⟨D, ?_, ?_⟩
    · rw [if_neg (show ¬ bi true = 0 by decide), ob_some, eD, ob_some]
    · rw [if_pos (rfl : true = true), if_neg (show ¬ (0 : Int) = -1 by decide), if_neg (show ¬ e_kd E a.1 = 5 by omega)]
      have e : whenA E a.1 0 = a.1 := by unfold whenA; rw [if_neg (by omega)]
      rw [e]
      refine ActW_G (n' := n + 1) (ls' := qAdd l (goA E (v_S (w_V W)) a a.1) :: ls) h hG hh k2 k1 ?_
      show n + 1 + (wL ls + (l_w l).length) + (ls.length + 1) ≤ n + (wL ls + (l_w l).length) + (ls.length + 1) + 2
      omega
theorem m_aEither (hK : KM σ mo) (hN : RNm δ mo E) (gE : GE E) (h : RWm δ mo n E ch (w_setlv W (l :: ls))) (hG : GS (v_S (w_V W))) (hh : (v_hi (w_V W)).length ≤ 2000) (hJ : ls.length < 4) (hg : g < n) (hn : n < 1980) (hA : RAm δ mo g a) (ha : gAg E (v_S (w_V W)) a) (hk : e_kd E a.1 = 5) (htk : ∀ z, 0 ≤ w_tk W z ∧ w_tk W z ≤ 100000) (hq : (l_q l).length < 390) (hw : (l_w l).length < 390) : Ok (m_X12_actEither σ mo (ii g) (ii a.1) δ) (fun d => ActW δ d mo n E ch (w_setlv W (l :: ls)) (askW E W l ls a)) := by
  have hc := gE.1.2
  have hm' : 0 ≤ a.1 ∧ a.1 < e_ct E := ha.1
  obtain ⟨q1, q2, q3, q4⟩ := (hN.2.2 a.1 ha.1).2.2.2.2.2.1 hk
  obtain ⟨-, -, -, -, -, k5, -, -, -, on, ot⟩ := gE.2.2.2.2 a.1 ha.1
  obtain ⟨⟨kd1, kd2⟩, -⟩ := k5 hk
  have gon := on (Or.inr (Or.inr (Or.inl hk)))
  have got := ot (Or.inr (Or.inl hk))
  obtain ⟨x1, x2, x3, x4⟩ := h.2.2.1
  have hway : m_X12_wayOf σ mo (ii g) (ii a.1) δ = some (ii (sideA E (v_S (w_V W)) (w_tk W) a a.1)) := m_wayOf hK hN gE h.1.1 hG hA (by omega) ha.2 ha.1 hk x3 htk
  unfold m_X12_actEither askW
  rw [chk_ko hK.1, ob_some, hway, ob_some, ob_some]
  have hr := sideA_way (a := a) (S := v_S (w_V W)) (tk := w_tk W) (Or.inr hk)
  have hway' : ∀ (s : Int) (m : Int), 0 ≤ s → s ≤ 1 → sideA E (v_S (w_V W)) (w_tk W) a a.1 = s → whenA E a.1 s = m → gNode E m → e_kd E m = 4 → entA E (v_S (w_V W)) a m = true → ∃ D5, ((rI σ δ (mo + 1) (ii 9743 + ii 2 * ii a.1 + ii s)).bind fun v4 => wI σ δ (mo + 1) (ii 9743 + ii 2 * ii a.1 + ii s) (v4 + ii 1)) = some D5 ∧ Fr (fun r => r = mo + 1) δ D5 ∧ Ok (m_X12_actEither_b57 σ mo (ii g) (ii m) D5) (fun d => ActW δ d mo n E ch (w_setlv W (l :: ls)) (w_V W, w_x W, w_pw W, upf (w_tk W) (2 * a.1 + s) (w_tk W (2 * a.1 + s) + 1), qAdd l (goA E (v_S (w_V W)) a m) :: ls, w_ov W, w_cs W, w_lg W)) := by
    intro s m s0 s1 hs hw1 gm km em
    have e5 := x3 (2 * a.1 + s).toNat (by omega)
    rw [show (((2 * a.1 + s).toNat : Nat) : Int) = 2 * a.1 + s by omega] at e5
    have r5 : rI σ δ (mo + 1) (ii (9743 + 2 * a.1 + s)) = some (ii (w_tk W (2 * a.1 + s))) := rst (md0 hK) (by omega) (by omega) (show (9743 + 2 * a.1 + s).toNat = 9743 + (2 * a.1 + s).toNat by omega) e5
    have w5 : wI σ δ (mo + 1) (ii (9743 + 2 * a.1 + s)) (ii (w_tk W (2 * a.1 + s) + 1)) = some (u2 δ.1 (mo + 1) (9743 + (2 * a.1 + s).toNat) (ii (w_tk W (2 * a.1 + s) + 1)), δ.2) := by rw [wI_kd (md0 hK) (by omega) (by omega), show (9743 + 2 * a.1 + s).toNat = 9743 + (2 * a.1 + s).toNat by omega]
    have hF5 : Fr (fun r => r = mo + 1) δ (u2 δ.1 (mo + 1) (9743 + (2 * a.1 + s).toNat) (ii (w_tk W (2 * a.1 + s) + 1)), δ.2) := Fr_u2 rfl
    refine ⟨_, by rw [ii_mul, ii_add, ii_add, r5, ob_some, ii_add, w5], hF5, ?_⟩
    have ho : ∀ k, ¬ k = 9743 + (2 * a.1 + s).toNat → (u2 δ.1 (mo + 1) (9743 + (2 * a.1 + s).toNat) (ii (w_tk W (2 * a.1 + s) + 1)), δ.2).1 (mo + 1) k = δ.1 (mo + 1) k := fun k hk => by simp (disch := omega) only [u2, if_neg]
    have hp : (u2 δ.1 (mo + 1) (9743 + (2 * a.1 + s).toNat) (ii (w_tk W (2 * a.1 + s) + 1)), δ.2).1 (mo + 1) (9743 + (2 * a.1 + s).toNat) = ii (w_tk W (2 * a.1 + s) + 1) := by simp only [u2, and_self, ↓reduceIte]
    generalize (u2 δ.1 (mo + 1) (9743 + (2 * a.1 + s).toNat) (ii (w_tk W (2 * a.1 + s) + 1)), δ.2) = d5 at hF5 ho hp ⊢
    have hX5 : RXm d5 mo (w_x W) (w_pw W) (upf (w_tk W) (2 * a.1 + s) (w_tk W (2 * a.1 + s) + 1)) (w_ck W) := by
      refine ⟨by rw [ho _ (by omega)]; exact x1, fun k hk => by rw [ho _ (by omega)]; exact x2 k hk, fun k hk => ?_, by rw [ho _ (by omega)]; exact x4⟩
      unfold upf
      by_cases hkz : (k : Int) = 2 * a.1 + s
      · rw [if_pos hkz, show 9743 + k = 9743 + (2 * a.1 + s).toNat by omega]
        exact hp
      · rw [if_neg hkz, ho _ (by omega)]
        exact x3 k hk
    obtain ⟨hW5, hRF⟩ := RWm_x h hG hh hF5 (fun k hk => ho k (by omega)) (fun k h1 h2 => ho k (by omega)) hX5
    have hA5 : RAm d5 mo g a := RAm_eq hA (fun k _ _ => by rw [(hF5 (mo + 17) (by omega)).1])
    have hN5 : RNm d5 mo E := RNm_eq hN (by rw [(hF5 mo (by omega)).1]) (fun r _ _ => (hF5 r (by omega)).1)
    obtain ⟨D, eD, k1, k2⟩ := m_goOn (S := v_S (w_V W)) hK hN5 gE hW5.1.1 hG hW5.2.1 hJ hg (by omega) hA5 ha.2 gm km em (by omega)
    refine ⟨D, ?_, n + 1, RWm_G hW5 hG hh k2 k1, ?_, hRF.tr (RF_G k2)⟩
    · unfold m_X12_actEither_b57
      rw [chk_ko hK.1, ob_some, eD, ob_some]
    · show n + 1 + (wL ls + (l_w l).length) + (ls.length + 1) ≤ n + (wL ls + (l_w l).length) + (ls.length + 1) + 2
      omega
  rcases hr with hs | ⟨hs, he⟩ | ⟨hs, -, he⟩
  · rw [hs]
    obtain ⟨D, eD, k1, k2, -⟩ := (m_push hK h.2.1 hJ hg hA).2.1 (by omega)
    refine ⟨D, ?_, ?_⟩
    · rw [if_pos (show ii (-1) = -1 from rfl), eD, ob_some]
    · rw [if_pos rfl]
      refine ActW_G h hG hh k2 k1 ?_
      show n + (wL ls + (l_w l ++ [a]).length) + (ls.length + 1) ≤ n + (wL ls + (l_w l).length) + (ls.length + 1) + 2
      rw [List.length_append, List.length_singleton]
      omega
  · have hw1 : whenA E a.1 0 = e_on E a.1 := by unfold whenA; rw [if_pos hk, if_pos rfl]
    rw [hw1] at he
    obtain ⟨D5, e5, f5, D, eD, hD⟩ := hway' 0 _ (by omega) (by omega) hs hw1 gon kd1 he
    rw [hs]
    refine ⟨D, ?_, ?_⟩
    · rw [if_neg (show ¬ ii 0 = -1 by decide), mg0 hK, ob_some, show ((9743 : Int32)) = ii 9743 from rfl, show ((2 : Int32)) = ii 2 from rfl, show ((1 : Int32)) = ii 1 from rfl, ← eD]
      have p1 := m_n1 (σ := σ) (δ := D5) hK hc ha.1 (v := ii (e_on E a.1)) (by rw [(f5 (mo + 4) (by omega)).1]; exact q1)
      have split2 : ∀ (f : Dy → Option Dy), ((rI σ δ (mo + 1) (ii 9743 + ii 2 * ii a.1 + ii 0)).bind fun v4 => (wI σ δ (mo + 1) (ii 9743 + ii 2 * ii a.1 + ii 0) (v4 + ii 1)).bind f) = f D5 := by
        intro f
        cases hr : rI σ δ (mo + 1) (ii 9743 + ii 2 * ii a.1 + ii 0) with
        | none => rw [hr] at e5; cases e5
        | some v =>
          rw [hr, ob_some] at e5
          rw [ob_some, e5, ob_some]
      rw [split2, if_pos (show ii 0 = 0 from rfl), mg3 hK, ob_some, p1, ob_some]
    · rw [if_neg (show ¬ (0 : Int) = -1 by decide), if_pos hk, hw1]
      exact hD
  · have hw1 : whenA E a.1 1 = e_ot E a.1 := by unfold whenA; rw [if_pos hk, if_neg (by decide)]
    rw [hw1] at he
    obtain ⟨D5, e5, f5, D, eD, hD⟩ := hway' 1 _ (by omega) (by omega) hs hw1 got kd2 he
    rw [hs]
    refine ⟨D, ?_, ?_⟩
    · rw [if_neg (show ¬ ii 1 = -1 by decide), mg0 hK, ob_some, show ((9743 : Int32)) = ii 9743 from rfl, show ((2 : Int32)) = ii 2 from rfl, show ((1 : Int32)) = ii 1 from rfl, ← eD]
      have p3 := m_n3 (σ := σ) (δ := D5) hK hc ha.1 (v := ii (e_ot E a.1)) (by rw [(f5 (mo + 6) (by omega)).1]; exact q3)
      have split2 : ∀ (f : Dy → Option Dy), ((rI σ δ (mo + 1) (ii 9743 + ii 2 * ii a.1 + ii 1)).bind fun v4 => (wI σ δ (mo + 1) (ii 9743 + ii 2 * ii a.1 + ii 1) (v4 + ii 1)).bind f) = f D5 := by
        intro f
        cases hr : rI σ δ (mo + 1) (ii 9743 + ii 2 * ii a.1 + ii 1) with
        | none => rw [hr] at e5; cases e5
        | some v =>
          rw [hr, ob_some] at e5
          rw [ob_some, e5, ob_some]
      rw [split2, if_neg (show ¬ ii 1 = 0 by decide), mg5 hK, ob_some, p3, ob_some]
    · rw [if_neg (show ¬ (1 : Int) = -1 by decide), if_pos hk, hw1]
      exact hD
theorem m_aHide (hK : KM σ mo) (hN : RNm δ mo E) (gE : GE E) (h : RWm δ mo n E ch (w_setlv W (l :: ls))) (hG : GS (v_S (w_V W))) (hh : (v_hi (w_V W)).length ≤ 2000) (hfl : v_fl (w_V W) = false) (hJ : ls.length < 4) (hg : g < n) (hn : n < 1980) (hA : RAm δ mo g a) (ha : gAg E (v_S (w_V W)) a) (hk : e_kd E a.1 = 6) (hq : (l_q l).length < 390) : Ok (
                (chk σ 12 mo).bind fun _ => (m_X12_makeVariable σ mo δ).bind fun v45 =>
                (gI σ v45.2 12 mo 35).bind fun v46 =>
                if v46 = 0 then
                  (gR σ 12 mo 4).bind fun v47 =>
                  (rI σ v45.2 v47 (ii a.1)).bind fun v48 =>
                  (chk σ 12 mo).bind fun _ => (m_X12_another σ mo (ii g) v48 v45.2).bind fun v49 =>
                  (gR σ 12 mo 21).bind fun v50 =>
                  (gR σ 12 mo 3).bind fun v51 =>
                  (rI σ v49.2 v51 (ii a.1)).bind fun v52 =>
                  (wI σ v49.2 v50 ((((9 : Int32) * v49.1) + (1 : Int32)) + v52) ((400 : Int32) + v45.1)).bind fun d53 =>
                  (chk σ 12 mo).bind fun _ => (m_X12_enqueue σ mo v49.1 d53).bind fun v54 =>
                  some v54
                else
                  some v45.2) (fun d => ActW δ d mo n E ch (w_setlv W (l :: ls)) (if s_nv (v_S (w_V W)) = 60 then w_setlv (w_setV W (v_setfl (w_V W) true)) (l :: ls) else w_setlv (w_setV W (v_setS (w_V W) (mkvar (v_S (w_V W))))) (qAdd l (e_on E a.1, upf a.2.1 (e_wh E a.1) (400 + s_nv (v_S (w_V W))), a.2.2) :: ls))) := by
  have hc := gE.1.2
  have gn := hG.1
  obtain ⟨-, -, w0, -, -, -, w6, -⟩ := gE.2.2.2.2 a.1 ha.1
  have w3 := w6 hk
  obtain ⟨q1, q2⟩ := (hN.2.2 a.1 ha.1).2.2.2.2.2.2.1 hk
  obtain ⟨s1, ⟨s2, s3, s4⟩, s5, s6, s7⟩ := id h.1
  rw [chk_ko hK.1, ob_some]
  by_cases c : s_nv (v_S (w_V W)) = 60
  · rw [m_mkvarF hK s1 c, ob_some, if_pos c]
    dsimp only
    have hF : Fr (fun r => r = mo) δ (u2 δ.1 mo 35 (ii 1), δ.2) := Fr_u2 rfl
    have h35 : (u2 δ.1 mo 35 (ii 1), δ.2).1 mo 35 = ii 1 := by simp only [u2, and_self, ↓reduceIte]
    have ho : ∀ k, ¬ k = 35 → (u2 δ.1 mo 35 (ii 1), δ.2).1 mo k = δ.1 mo k := fun k hk => by simp (disch := omega) only [u2, if_neg]
    generalize (u2 δ.1 mo 35 (ii 1), δ.2) = d at hF h35 ho
    have e1 : d.1 (mo + 1) = δ.1 (mo + 1) := (hF _ (by omega)).1
    have e28 : d.1 (mo + 28) = δ.1 (mo + 28) := (hF _ (by omega)).1
    refine ⟨d, ?_, n, ⟨⟨RSm_eq s1 hG (fun k _ => by rw [e1]), ⟨by rw [ho 34 (by decide)]; exact s2, h35, by rw [ho 37 (by decide)]; exact s4⟩, RMfr_eq s5 (fun k _ => by rw [e28]), RMh_eq s6 (fun k _ _ => by rw [e1]) hh, fun w hw => by rw [e1]; exact s7 w hw⟩, RGm_eq h.2.1 (ho 33 (by decide)) (ho 22 (by decide)) (fun r _ _ => (hF r (by omega)).1), RXm_eq h.2.2.1 (fun k _ => by rw [e1]), RCm_eq h.2.2.2 (ho 41 (by decide)) (ho 44 (by decide)) (hF _ (by omega)).1 (hF _ (by omega)).1⟩, ?_, hF.wk (fun r p => Or.inl p), fun k hk => ho k (by omega), fun k _ _ => by rw [e1]⟩
    · rw [gI_ko hK.1, ob_some, h35, if_neg (show ¬ ii 1 = 0 by decide)]
    · show n + (wL ls + (l_w l).length) + (ls.length + 1) ≤ n + (wL ls + (l_w l).length) + (ls.length + 1) + 2
      omega
  · obtain ⟨⟨r1, d⟩, em, m1, m2, m3, m4, m5⟩   := m_mkvar (S := v_S (w_V W)) hK s1 hG (show s_nv (v_S (w_V W)) < 60 by omega)
    dsimp only at m1 m2 m3 m4 m5
    subst m1
    rw [em, ob_some, if_neg c]
    dsimp only
    have hF : Fr (fun r => r = mo + 1) δ d := fun r hr => ⟨m3 r hr, by rw [m4]⟩
    have e0 : d.1 mo = δ.1 mo := m3 mo (by omega)
    have e28 : d.1 (mo + 28) = δ.1 (mo + 28) := m3 _ (by omega)
    have hG2 := GS_mkvar hG (show s_nv (v_S (w_V W)) < 60 by omega)
    have hW2 : RWm d mo n E ch (w_setlv (w_setV W (v_setS (w_V W) (mkvar (v_S (w_V W))))) (l :: ls)) := ⟨⟨m2, ⟨by rw [e0]; exact s2, by rw [e0]; exact s3, by rw [e0]; exact s4⟩, RMfr_eq s5 (fun k _ => by rw [e28]), RMh_eq s6 (fun k k0 _ => m5 k (by omega)) hh, fun w hw => by rw [m5 _ (by omega)]; exact s7 w hw⟩, RGm_eq h.2.1 (by rw [e0]) (by rw [e0]) (fun r _ _ => m3 r (by omega)), RXm_eq h.2.2.1 (fun k k0 => m5 k (by omega)), RCm_eq h.2.2.2 (by rw [e0]) (by rw [e0]) (m3 _ (by omega)) (m3 _ (by omega))⟩
    have hRF : RF mo δ d := ⟨hF.wk (fun r p => Or.inr (Or.inl p)), fun k _ => by rw [e0], fun k k0 _ => m5 k (by omega)⟩
    have hAd : RAm d mo g a := RAm_eq hA (fun k _ _ => by rw [m3 (mo + 17) (by omega)])
    have p2 := m_n2 (σ := σ) (δ := d) hK hc ha.1 (v := ii (e_on E a.1)) (by rw [m3 (mo + 5) (by omega)]; exact q2)
    obtain ⟨⟨r1, d1⟩, e, h1, h2, h3, h4⟩ := m_another hK hAd (m := e_on E a.1) hg (by omega) hW2.2.1.2.1
    dsimp only at h1 h2 h3 h4
    subst h1
    have p1 := m_n1 (σ := σ) (δ := d1) hK hc ha.1 (v := ii (e_wh E a.1)) (by rw [(h4.1 (mo + 4) (by omega)).1, m3 (mo + 4) (by omega)]; exact q1)
    have hS1 := RAm_slot (v := 400 + s_nv (v_S (w_V W))) (z := (e_wh E a.1).toNat) h2 (by omega)
    have hF1 : AF mo n d1 (u2 d1.1 (mo + 17) (9 * n + 1 + (e_wh E a.1).toNat) (ii (400 + s_nv (v_S (w_V W)))), d1.2) := AF_u2 (by omega)
    have e1 : wI σ d1 (mo + 17) (ii (9 * n + 1 + e_wh E a.1)) (ii (400 + s_nv (v_S (w_V W)))) = some (u2 d1.1 (mo + 17) (9 * n + 1 + (e_wh E a.1).toNat) (ii (400 + s_nv (v_S (w_V W)))), d1.2) := by rw [wI_kd (md21 hK) (by omega) (by omega), show (9 * (n : Int) + 1 + e_wh E a.1).toNat = 9 * n + 1 + (e_wh E a.1).toNat by omega]
    have b1 : (u2 d1.1 (mo + 17) (9 * n + 1 + (e_wh E a.1).toNat) (ii (400 + s_nv (v_S (w_V W)))), d1.2).1 mo 22 = d1.1 mo 22 := by dsimp only; rw [u2_ne (by omega)]
    generalize (u2 d1.1 (mo + 17) (9 * n + 1 + (e_wh E a.1).toNat) (ii (400 + s_nv (v_S (w_V W)))), d1.2) = d2 at hS1 hF1 e1 b1
    rw [show (((e_wh E a.1).toNat : Nat) : Int) = e_wh E a.1 by omega] at hS1
    have hAF := h4.tr hF1
    obtain ⟨D, eD, k1, k2, -⟩ := (m_push hK (RGm_new hW2.2.1 hAF (by rw [b1]; exact h3)) hJ (Nat.lt_succ_self n) hS1).1 (by omega)
    have hWD := RWm_G hW2 hG2 hh ((GFm_AF hAF).tr k2) k1
    refine ⟨D, ?_, n + 1, hWD, ?_, hRF.tr (RF_G ((GFm_AF hAF).tr k2))⟩
    · have h35 : d.1 mo 35 = ii 0 := by rw [e0]; exact s3.trans (by show bi (v_fl (w_V W)) = ii 0; rw [hfl]; rfl)
      rw [gI_ko hK.1, ob_some, h35, if_pos (show ii 0 = 0 from rfl), mg4 hK, ob_some, p2, ob_some, ob_some, e, ob_some, mg21 hK, ob_some, mg3 hK, ob_some]
      dsimp only
      rw [p1, ob_some, show ((9 : Int32)) = ii 9 from rfl, show ((1 : Int32)) = ii 1 from rfl, show ((400 : Int32)) = ii 400 from rfl, ii_mul, ii_add, ii_add, ii_add, e1, ob_some, ob_some, eD, ob_some]
    · show n + 1 + (wL ls + (l_w l).length) + (ls.length + 1) ≤ n + (wL ls + (l_w l).length) + (ls.length + 1) + 2
      omega
end
