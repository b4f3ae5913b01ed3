/-! THE REFERENCE: who goes on -/
/-- the waits while they are looked through: those that stay, and the old ones behind them -/
def goOnM (E : Ev) (S : Sto) (tk : Int → Int) (l : Lv) (z : Nat) : Lv := (l_q l ++ ((l_w l).take z).filter (canGo E S tk), ((l_w l).take z).filter (fun a => !canGo E S tk a) ++ (l_w l).drop (((l_w l).take z).filter (fun a => !canGo E S tk a)).length, l.2.2)
theorem goOnM_0 {E : Ev} {S : Sto} {tk : Int → Int} {l : Lv} : goOnM E S tk l 0 = l := by
  obtain ⟨q, w, r⟩ := l
  show (q ++ [], [] ++ w.drop 0, r) = (q, w, r)
  rw [List.append_nil, List.nil_append, List.drop_zero]
theorem set_mid {α : Type} {x a : α} {t : List α} : ∀ {k : List α}, (k ++ x :: t).set k.length a = (k ++ [a]) ++ t := by
  intro k
  induction k with
  | nil => rfl
  | cons y ys ih =>
    show y :: ((ys ++ x :: t).set ys.length a) = y :: ((ys ++ [a]) ++ t)
    rw [ih]
section
variable {σ : St} {δ d : Dy} {mo g n j i arr cnt : Nat} {E : Ev} {S : Sto} {a : Ag} {l : Lv} {ls : List Lv} {q q' : List Ag} {tk : Int → Int}
theorem RQm_set (h : RQm δ mo arr cnt n j q) (hi : i < q.length) (hg : g < n) (hA : RAm δ mo g a) (e1 : d.1 cnt j = δ.1 cnt j) (e2 : ∀ k, d.1 arr k = if k = 500 * j + i then ii g else δ.1 arr k) (e3 : d.1 (mo + 17) = δ.1 (mo + 17)) : RQm d mo arr cnt n j (q.set i a) := by
  obtain ⟨h1, h2, h3⟩ := h
  have hl : (q.set i a).length = q.length := List.length_set
  refine ⟨by omega, by rw [e1, hl]; exact h2, fun t x hx => ?_⟩
  by_cases c : i = t
  · subst c
    rw [List.getElem?_set_self hi] at hx
    cases hx
    exact ⟨g, hg, by rw [e2, if_pos rfl], RAm_eq hA (fun k _ _ => by rw [e3])⟩
  · rw [List.getElem?_set_ne c] at hx
    obtain ⟨g', k1, k2, k3⟩ := h3 t x hx
    exact ⟨g', k1, by rw [e2, if_neg (by omega)]; exact k2, RAm_eq k3 (fun k _ _ => by rw [e3])⟩
/-- only the first ones are counted -/
theorem RQm_front (h : RQm δ mo arr cnt n j (q ++ q')) (e1 : d.1 cnt j = ii q.length) (e2 : d.1 arr = δ.1 arr) (e3 : d.1 (mo + 17) = δ.1 (mo + 17)) : RQm d mo arr cnt n j q := by
  obtain ⟨h1, h2, h3⟩ := h
  rw [List.length_append] at h1
  refine ⟨by omega, e1, fun t x hx => ?_⟩
  have ht := (List.getElem?_eq_some_iff.mp hx).1
  obtain ⟨g', k1, k2, k3⟩ := h3 t x (by rw [List.getElem?_append_left ht]; exact hx)
  exact ⟨g', k1, by rw [e2]; exact k2, RAm_eq k3 (fun k _ _ => by rw [e3])⟩
theorem m_wakeAll (hK : KM σ mo) (hN : RNm δ mo E) (gE : GE E) (hS : RSm δ mo S) (hGS : GS S) (h : RGm δ mo n E (l :: ls)) (hJ : ls.length < 4) (hn : n < 1980) (hga : gAs E S (l_w l)) (htk : ∀ z : Nat, z < 120 → δ.1 (mo + 1) (9743 + z) = ii (tk z)) (htr : ∀ z, 0 ≤ tk z ∧ tk z ≤ 100000) (hb : (l_q l).length + (l_w l).length < 390) : Ok (m_X12_wakeAll σ mo δ) (fun d => RGm d mo n E (goOnL E S tk l :: ls) ∧ GFm mo δ d ∧ d.1 (mo + 17) = δ.1 (mo + 17)) := by
  have hc := gE.1.2
  have acw : ACm mo (mo + 20) (mo + 21) := ⟨Or.inr (Or.inl rfl), rfl⟩
  unfold m_X12_wakeAll m_X12_wakeAll_b4
  refine Ok_for (fun z s => s.2.1 = ii z ∧ s.1 = ii (((l_w l).take z.toNat).filter (fun a => !canGo E S tk a)).length ∧ RGm s.2.2 mo n E (goOnM E S tk l z.toNat :: ls) ∧ GFm mo δ s.2.2 ∧ s.2.2.1 (mo + 17) = δ.1 (mo + 17)) 0 (l_w l).length (by omega) (by omega) ?_ ?_ ⟨rfl, rfl, by rw [Int.toNat_zero, goOnM_0]; exact h, GFm.rf, rfl⟩
  · rintro z ⟨s1, s2, d⟩ z0 z1 ⟨hs2, hs1, hRd, hFd, h17⟩
    dsimp only at hs1 hs2 hRd hFd h17 ⊢
    subst hs1
    subst hs2
    obtain ⟨a, ha⟩ : ∃ a, (l_w l)[z.toNat]? = some a := ⟨_, List.getElem?_eq_getElem (by omega)⟩
    have haa := hga a (List.mem_of_getElem? ha)
    obtain ⟨t1, -⟩ := take_filt (P := canGo E S tk) ha
    obtain ⟨t3, -⟩ := take_filt (P := fun a => !canGo E S tk a) ha
    have hz1 : (z + 1).toNat = z.toNat + 1 := by omega
    have hkl : (((l_w l).take z.toNat).filter (fun a => !canGo E S tk a)).length ≤ z.toNat := by
      refine Nat.le_trans (List.length_filter_le _ _) ?_
      rw [List.length_take]; omega
    have hgl2 : (((l_w l).take z.toNat).filter (canGo E S tk)).length ≤ z.toNat := by
      refine Nat.le_trans (List.length_filter_le _ _) ?_
      rw [List.length_take]; omega
    have un : ∀ r, mo + 1 ≤ r → r ≤ mo + 16 → d.1 r = δ.1 r := fun r k1 k2 => (hFd.1 r (by omega)).1
    have hNd : RNm d mo E := RNm_eq hN (hFd.2 7 (by decide)) (fun r k1 k2 => un r (by omega) (by omega))
    have hSd : RSm d mo S := RSm_eq hS hGS (fun k _ => by rw [un _ (by omega) (by omega)])
    have h33' : d.1 mo 33 = ii ls.length := by rw [hRd.1, List.length_cons]; exact congrArg ii (by omega)
    have hw : RQm d mo (mo + 20) (mo + 21) n ls.length (((l_w l).take z.toNat).filter (fun a => !canGo E S tk a) ++ (l_w l).drop (((l_w l).take z.toNat).filter (fun a => !canGo E S tk a)).length) := hRd.2.2.1.2.1
    obtain ⟨K, hKd⟩ : ∃ K, K = ((l_w l).take z.toNat).filter (fun a => !canGo E S tk a) := ⟨_, rfl⟩
    obtain ⟨G, hGd⟩ : ∃ G, G = ((l_w l).take z.toNat).filter (canGo E S tk) := ⟨_, rfl⟩
    have hgM : goOnM E S tk l z.toNat = (l_q l ++ G, K ++ (l_w l).drop K.length, l.2.2) := by rw [hGd, hKd]; rfl
    rw [hgM] at hRd
    rw [← hKd] at hw hkl t3 ⊢
    rw [← hGd] at t1 hgl2
    have hlen : (K ++ (l_w l).drop K.length).length = (l_w l).length := by rw [List.length_append, List.length_drop]; omega
    have hcnt : d.1 (mo + 21) ls.length = ii (l_w l).length := by rw [hw.2.1, hlen]
    obtain ⟨g, g1, g2, g3⟩ := hw.2.2 z.toNat a (by
      rw [List.getElem?_append_right hkl, List.getElem?_drop, show K.length + (z.toNat - K.length) = z.toNat by omega]
      exact ha)
    have x1 : rI σ d (mo + 21) (ii ls.length) = some (ii (l_w l).length) := rst (md26 hK) (by omega) (by omega) (by omega) hcnt
    have x2 : rI σ d (mo + 20) (ii (500 * ls.length + z)) = some (ii g) := rst (md25 hK) (by omega) (by omega) (show (500 * (ls.length : Int) + z).toNat = 500 * ls.length + z.toNat by omega) g2
    have x3 : rI σ d (mo + 17) (ii (9 * g)) = some (ii a.1) := rst (md21 hK) (by omega) (by omega) (show (9 * (g : Int)).toNat = 9 * g by omega) g3.1
    have x4 := m_nk (σ := σ) (δ := d) hK hNd hc haa.1
    obtain ⟨⟨kd0, kd13⟩, -⟩ := gE.2.2.2.2 a.1 haa.1
    -- it stays
    have keep : canGo E S tk a = false → Ok (m_X12_wakeAll_b91 σ mo (ii K.length) (ii z) (ii g) d) (PL (fun s : Int32 × Int32 × Dy => s.2.1 = ii (z + 1) ∧ s.1 = ii (((l_w l).take (z + 1).toNat).filter (fun a => !canGo E S tk a)).length ∧ RGm s.2.2 mo n E (goOnM E S tk l (z + 1).toNat :: ls) ∧ GFm mo δ s.2.2 ∧ s.2.2.1 (mo + 17) = δ.1 (mo + 17)) (fun d => RGm d mo n E (goOnL E S tk l :: ls) ∧ GFm mo δ d ∧ d.1 (mo + 17) = δ.1 (mo + 17))) := by
      intro hcan
      have w1 : wI σ d (mo + 20) (ii (500 * ls.length + K.length)) (ii g) = some (u2 d.1 (mo + 20) (500 * ls.length + K.length) (ii g), d.2) := by rw [wI_kd (md25 hK) (by omega) (by omega), show (500 * (ls.length : Int) + K.length).toNat = 500 * ls.length + K.length by omega]
      have hF : LVF (mo + 20) (mo + 21) ls.length d (u2 d.1 (mo + 20) (500 * ls.length + K.length) (ii g), d.2) := ⟨Fr_u2 (Or.inl rfl), fun k hk => by simp (disch := omega) only [u2, if_neg], fun k _ => by dsimp only; rw [u2_ne (by omega)]⟩
      have hK1 : ((l_w l).take (z + 1).toNat).filter (fun a => !canGo E S tk a) = K ++ [a] := by
        rw [hz1, t3, hcan, if_pos (by rfl)]
      have hG1 : ((l_w l).take (z + 1).toNat).filter (canGo E S tk) = G := by
        rw [hz1, t1, hcan, if_neg (by decide), List.append_nil]
      have hdr : (l_w l).drop K.length = (l_w l)[K.length] :: (l_w l).drop (K.length + 1) := List.drop_eq_getElem_cons (by omega)
      have hset : (K ++ (l_w l).drop K.length).set K.length a = (K ++ [a]) ++ (l_w l).drop (K.length + 1) := by rw [hdr, set_mid]
      have hq := RQm_set (d := (u2 d.1 (mo + 20) (500 * ls.length + K.length) (ii g), d.2)) (i := K.length) hw (by omega) g1 g3 (by dsimp only; rw [u2_ne (by omega)]) (fun k => by
        by_cases ck : k = 500 * ls.length + K.length
        · rw [if_pos ck, ck]
          simp only [u2, and_self, ↓reduceIte]
        · rw [if_neg ck]
          simp (disch := omega) only [u2, if_neg]) (by dsimp only; rw [u2_ne (by omega)])
      rw [hset] at hq
      have hres := RG_w hRd hF hq
      refine Ok_inl (s' := (ii (K.length + 1), ii (z + 1), (u2 d.1 (mo + 20) (500 * ls.length + K.length) (ii g), d.2))) ?_ ⟨rfl, ?_, ?_, hFd.tr (LVF_G hF acw), ?_⟩
      · unfold m_X12_wakeAll_b91 m_X12_wakeAll_b92 m_X12_wakeAll_b126
        rw [if_pos (show (0 : Int32) = 0 from rfl), mg25 hK, ob_some, gI_ko hK.1, ob_some, h33', show ((500 : Int32)) = ii 500 from rfl, show ((1 : Int32)) = ii 1 from rfl, ii_mul, ii_add, w1, ob_some, ii_add, ii_add]
      · dsimp only
        rw [hK1, List.length_append, List.length_singleton]
        rfl
      · dsimp only
        unfold goOnM
        rw [hK1, hG1, List.length_append, List.length_singleton]
        exact hres
      · dsimp only
        rw [u2_ne (by omega)]
        exact h17
    -- it goes on
    have go : canGo E S tk a = true → Ok (m_X12_wakeAll_b87 σ mo (ii K.length) (ii z) (ii g) d) (PL (fun s : Int32 × Int32 × Dy => s.2.1 = ii (z + 1) ∧ s.1 = ii (((l_w l).take (z + 1).toNat).filter (fun a => !canGo E S tk a)).length ∧ RGm s.2.2 mo n E (goOnM E S tk l (z + 1).toNat :: ls) ∧ GFm mo δ s.2.2 ∧ s.2.2.1 (mo + 17) = δ.1 (mo + 17)) (fun d => RGm d mo n E (goOnL E S tk l :: ls) ∧ GFm mo δ d ∧ d.1 (mo + 17) = δ.1 (mo + 17))) := by
      intro hcan
      have hK1 : ((l_w l).take (z + 1).toNat).filter (fun a => !canGo E S tk a) = K := by
        rw [hz1, t3, hcan, if_neg (by decide), List.append_nil]
      have hG1 : ((l_w l).take (z + 1).toNat).filter (canGo E S tk) = G ++ [a] := by
        rw [hz1, t1, hcan, if_pos rfl]
      obtain ⟨D, eD, k1, k2, k3⟩ := (m_push hK hRd hJ g1 g3).1 (by show (l_q l ++ G).length < 400; rw [List.length_append]; omega)
      refine Ok_inl (s' := (ii K.length, ii (z + 1), D)) ?_ ⟨rfl, ?_, ?_, hFd.tr k2, by rw [k3]; exact h17⟩
      · unfold m_X12_wakeAll_b87 m_X12_wakeAll_b92 m_X12_wakeAll_b126
        rw [if_neg (show ¬ (1 : Int32) = 0 by decide), chk_ko hK.1, ob_some, eD, ob_some, show ((1 : Int32)) = ii 1 from rfl, ii_add]
      · dsimp only
        rw [hK1]
      · dsimp only
        unfold goOnM
        rw [hK1, hG1, ← List.append_assoc]
        exact k1
    have gi : gI σ d 12 mo 33 = some (ii ls.length) := by rw [gI_ko hK.1, h33']
    rw [mg26 hK, ob_some, gi, ob_some, x1, ob_some, if_neg (show ¬ ii (l_w l).length ≤ ii z by rw [ii_le (by omega) (by omega) (by omega) (by omega)]; omega), mg25 hK, ob_some, ob_some, show ((500 : Int32)) = ii 500 from rfl, ii_mul, ii_add, x2, ob_some, mg21 hK, ob_some, show ((9 : Int32)) = ii 9 from rfl, ii_mul, x3, ob_some, mg2 hK, ob_some, x4, ob_some]
    by_cases h4 : e_kd E a.1 = 4
    · have hh := m_holds hK hNd gE hSd hGS g3 (by omega) haa.2 haa.1 (Or.inl h4)
      have hcg : canGo E S tk a = entA E S a a.1 := by
        unfold canGo sideA
        rw [if_pos h4]
        cases entA E S a a.1 <;> rfl
      rw [if_pos (show ii (kM (e_kd E a.1)) = 3 by rw [h4]; rfl), chk_ko hK.1, ob_some, hh, ob_some]
      cases he : entA E S a a.1 with
      | true =>
        rw [if_neg (show ¬ bi true = 0 by decide)]
        exact go (by rw [hcg, he])
      | false =>
        rw [if_pos (show bi false = 0 from rfl)]
        unfold m_X12_wakeAll_b65
        rw [mg2 hK, ob_some, x4, ob_some, if_neg (show ¬ ii (kM (e_kd E a.1)) = 4 by rw [h4]; decide)]
        exact keep (by rw [hcg, he])
    · have hkM : ¬ kM (e_kd E a.1) = 3 := by unfold kM; split <;> omega
      have hkr : 0 ≤ kM (e_kd E a.1) ∧ kM (e_kd E a.1) ≤ 13 := by unfold kM; split <;> omega
      rw [if_neg (show ¬ ii (kM (e_kd E a.1)) = 3 by rw [show ((3 : Int32)) = ii 3 from rfl, ii_eq (by omega) (by omega) (by omega) (by omega)]; exact hkM)]
      unfold m_X12_wakeAll_b65
      rw [mg2 hK, ob_some, x4, ob_some]
      by_cases h5 : e_kd E a.1 = 5
      · have hh := m_wayOf (tk := tk) hK hNd gE hSd hGS g3 (by omega) haa.2 haa.1 h5 (fun z hz => by rw [un _ (by omega) (by omega)]; exact htk z hz) htr
        have hr := sideA_rng (E := E) (S := S) (tk := tk) (a := a) (n := a.1)
        rw [if_pos (show ii (kM (e_kd E a.1)) = 4 by rw [h5]; rfl), chk_ko hK.1, ob_some, hh, ob_some]
        by_cases c : sideA E S tk a a.1 = -1
        · rw [if_pos (show ii (sideA E S tk a a.1) = -1 by rw [c]; rfl)]
          exact keep (by unfold canGo; rw [decide_eq_true c]; rfl)
        · rw [if_neg (show ¬ ii (sideA E S tk a a.1) = -1 by rw [show ((-1 : Int32)) = ii (-1) from rfl, ii_eq (by omega) (by omega) (by omega) (by omega)]; exact c)]
          exact go (by unfold canGo; rw [decide_eq_false c]; rfl)
      · have hkM4 : ¬ kM (e_kd E a.1) = 4 := by unfold kM; split <;> omega
        rw [if_neg (show ¬ ii (kM (e_kd E a.1)) = 4 by rw [show ((4 : Int32)) = ii 4 from rfl, ii_eq (by omega) (by omega) (by omega) (by omega)]; exact hkM4)]
        exact keep (by unfold canGo sideA; rw [if_neg h4, if_neg h5]; rfl)
  · rintro ⟨s1, s2, d⟩ ⟨hs2, hs1, hRd, hFd, h17⟩
    dsimp only at hs1 hs2 hRd hFd h17 ⊢
    subst hs1
    subst hs2
    rw [Int.toNat_natCast] at hRd ⊢
    have h33' : d.1 mo 33 = ii ls.length := by rw [hRd.1, List.length_cons]; exact congrArg ii (by omega)
    have hw : RQm d mo (mo + 20) (mo + 21) n ls.length (((l_w l).take (l_w l).length).filter (fun a => !canGo E S tk a) ++ (l_w l).drop (((l_w l).take (l_w l).length).filter (fun a => !canGo E S tk a)).length) := hRd.2.2.1.2.1
    have hgL : goOnL E S tk l = ((goOnM E S tk l (l_w l).length).1, ((l_w l).take (l_w l).length).filter (fun a => !canGo E S tk a), l.2.2) := by
      unfold goOnM goOnL
      rw [List.take_length]
    have hkl : (((l_w l).take (l_w l).length).filter (fun a => !canGo E S tk a)).length ≤ (l_w l).length := by
      refine Nat.le_trans (List.length_filter_le _ _) ?_
      rw [List.length_take]; omega
    have hcnt : d.1 (mo + 21) ls.length = ii (l_w l).length := by
      rw [hw.2.1, List.length_append, List.length_drop]
      exact congrArg ii (by omega)
    rw [hgL]
    obtain ⟨K, hKd⟩ : ∃ K, K = ((l_w l).take (l_w l).length).filter (fun a => !canGo E S tk a) := ⟨_, rfl⟩
    rw [← hKd] at hw hkl ⊢
    have x1 : rI σ d (mo + 21) (ii ls.length) = some (ii (l_w l).length) := rst (md26 hK) (by omega) (by omega) (by omega) hcnt
    have w1 : wI σ d (mo + 21) (ii ls.length) (ii K.length) = some (u2 d.1 (mo + 21) ls.length (ii K.length), d.2) := by rw [wI_kd (md26 hK) (by omega) (by omega)]; rfl
    have hF : LVF (mo + 20) (mo + 21) ls.length d (u2 d.1 (mo + 21) ls.length (ii K.length), d.2) := ⟨Fr_u2 (Or.inr rfl), fun k hk => by dsimp only; rw [u2_ne (by omega)], fun k hk => by simp (disch := omega) only [u2, if_neg]⟩
    have hq := RQm_front (d := (u2 d.1 (mo + 21) ls.length (ii K.length), d.2)) hw (by simp only [u2, and_self, ↓reduceIte]) (by dsimp only; rw [u2_ne (by omega)]) (by dsimp only; rw [u2_ne (by omega)])
    have gi : gI σ d 12 mo 33 = some (ii ls.length) := by rw [gI_ko hK.1, h33']
    refine Ok_inr (r := (u2 d.1 (mo + 21) ls.length (ii K.length), d.2)) ?_ ⟨RG_w hRd hF hq, hFd.tr (LVF_G hF acw), ?_⟩
    · rw [mg26 hK, ob_some, gi, ob_some, x1, ob_some, if_pos (show ii (l_w l).length ≤ ii (l_w l).length by rw [ii_le (by omega) (by omega) (by omega) (by omega)]; omega), ob_some, ob_some, w1, ob_some]
    · dsimp only
      rw [u2_ne (by omega)]
      exact h17
end
