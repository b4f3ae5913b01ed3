/-! THE LAW: rules in the making -/
def gPat (x : Int) : Prop := gTm x ∨ x = 300
def gRt (bd : Bool) (R : Rl) (x : Int) : Prop := valu x ∨ (bd = true ∧ bnd R x)
def hdR (s a b : Int) (kp : Bool) : Rl := (1, fun _ => s, fun z => if z = 0 then a else b, fun _ => kp, 0, fun _ => 0, fun _ => 0, false, 0, 0, 0)
def otR (R : Rl) (s a b : Int) (kp : Bool) : Rl := (2, upf (l_so R) 1 s, (fun z => if z = 2 then a else if z = 3 then b else l_pa R z), upf (l_sy R) 1 kp, l_nb R, l_bs R, l_bt R, l_gd R, l_gc R, l_ga R, l_gb R)
def gdR (R : Rl) (c a b : Int) : Rl := (l_hd R, l_so R, l_pa R, l_sy R, l_nb R, l_bs R, l_bt R, true, c, a, b)
def bdR (R : Rl) (s a b : Int) : Rl := (l_hd R, l_so R, l_pa R, l_sy R, l_nb R + 1, upf (l_bs R) (l_nb R) s, upf (upf (l_bt R) (2 * l_nb R) a) (2 * l_nb R + 1) b, l_gd R, l_gc R, l_ga R, l_gb R)
section
variable {σ : St} {δ d : Dy} {mo p3 k ru : Nat} {E : Ev} {bd kp : Bool} {R : Rl} {I : Iw} {jr : List Jn} {a b s c x hh : Int}
theorem c_pats_y (ha : rng a) (hb : rng b) (h : gPat a ∧ gPat b) : m_X11_needPatterns σ (ii a) (ii b) δ = some (.inl ()) := by
  have e300 : ∀ z, rng z → ¬ z = 300 → ¬ ii z = (300 : Int32) := fun z hz hn => by rw [show ((300 : Int32)) = ii 300 from rfl, ii_eq hz.1 hz.2 (by omega) (by omega)]; exact hn
  have h14 : m_X11_needPatterns_b14 σ (ii b) δ = some (.inl ()) := by
    unfold m_X11_needPatterns_b14
    by_cases c : b = 300
    · rw [if_pos (show ii b = 300 by rw [c]; rfl)]
    · rw [if_neg (e300 b hb c), c_term_y hb (h.2.resolve_right c), ob_some, if_neg (show ¬ (1 : Int32) = 0 by decide)]
  unfold m_X11_needPatterns
  by_cases c : a = 300
  · rw [if_pos (show ii a = 300 by rw [c]; rfl)]; exact h14
  · rw [if_neg (e300 a ha c), c_term_y ha (h.1.resolve_right c), ob_some, if_neg (show ¬ (1 : Int32) = 0 by decide)]; exact h14
theorem c_pats_n (ha : rng a) (hb : rng b) (h : ¬ (gPat a ∧ gPat b)) : m_X11_needPatterns σ (ii a) (ii b) δ = some (.inr 1) := by
  have e300 : ∀ z, rng z → ¬ z = 300 → ¬ ii z = (300 : Int32) := fun z hz hn => by rw [show ((300 : Int32)) = ii 300 from rfl, ii_eq hz.1 hz.2 (by omega) (by omega)]; exact hn
  have h14 : ¬ gPat b → m_X11_needPatterns_b14 σ (ii b) δ = some (.inr 1) := by
    intro hn
    unfold m_X11_needPatterns_b14
    rw [if_neg (e300 b hb (fun q => hn (Or.inr q))), c_term_n hb (fun q => hn (Or.inl q)), ob_some, if_pos (show (0 : Int32) = 0 from rfl)]
    rfl
  unfold m_X11_needPatterns
  by_cases g : gPat a
  · have hn : ¬ gPat b := fun q => h ⟨g, q⟩
    by_cases c : a = 300
    · rw [if_pos (show ii a = 300 by rw [c]; rfl)]; exact h14 hn
    · rw [if_neg (e300 a ha c), c_term_y ha (g.resolve_right c), ob_some, if_neg (show ¬ (1 : Int32) = 0 by decide)]; exact h14 hn
  · rw [if_neg (e300 a ha (fun q => g (Or.inr q))), c_term_n ha (fun q => g (Or.inl q)), ob_some, if_pos (show (0 : Int32) = 0 from rfl)]
    rfl
theorem cm_pat_y (ha : rng a) (h : gPat a) : m_X12_isPattern σ (ii a) δ = some 1 := by
  unfold m_X12_isPattern
  by_cases g : gTm a
  · rw [cm_term_y ha g, ob_some, if_neg (show ¬ (1 : Int32) = 0 by decide)]
  · rw [cm_term_n ha g, ob_some, if_pos (show (0 : Int32) = 0 from rfl), if_pos (show ii a = 300 by rw [h.resolve_left g]; rfl)]
theorem cm_pat_n (ha : rng a) (h : ¬ gPat a) : m_X12_isPattern σ (ii a) δ = some 0 := by
  unfold m_X12_isPattern
  rw [cm_term_n ha (fun q => h (Or.inl q)), ob_some, if_pos (show (0 : Int32) = 0 from rfl), if_neg (show ¬ ii a = 300 by rw [show ((300 : Int32)) = ii 300 from rfl, ii_eq ha.1 ha.2 (by omega) (by omega)]; exact fun q => h (Or.inr q))]
/-- the rule in the making -/
theorem c_begun (hT : KT σ) (hI : RId δ 68 (e_md E) I) (hm : 0 ≤ e_md E ∧ e_md E ≤ 8) : m_X11_begunRule σ 0 δ = some (14 + 6 * (e_md E).toNat) := by
  have kW : KO σ 68 10 := hT.2.2.2.2.1.2.1
  have kS := hT.2.2.2.2.1.2.2.1
  have kRs : KRs σ 8 := hT.2.2.2.2.1.2.2.2.2.1
  have kR : KW σ (68 + 18) (68 + 1) 8 := hT.2.2.2.2.1.2.2.2.2.2.2.1
  have g9 : gI σ δ 6 (68 + 18) 9 = some (ii (e_md E)) := by rw [gI_ko kR.1]; exact congrArg some hI.2.2.2.1
  obtain ⟨⟨y1, y2, y3⟩, hr⟩ := kRs
  unfold m_X11_begunRule
  rw [gR_ko hT.1 hT.2.1.2.1, ob_some, gR_ko hT.1 hT.2.1.2.2.1, ob_some, gR_ko kW kS.2.2.1, ob_some, g9, ob_some, show ((8 : Int32)) = ii 8 from rfl, if_neg (show ¬ ii 8 < ii (e_md E) by rw [ii_lt (by omega) (by omega) (by omega) (by omega)]; omega)]
  unfold rA
  rw [y2, if_pos ⟨y1, ii_inb hm.1 (by omega) (by decide)⟩, ii_nat hm.1 (by omega), (hr _ (by omega)).1]
  rfl
theorem KRu_begun (hT : KT σ) (hm : 0 ≤ e_md E ∧ e_md E ≤ 8) : KRu σ (14 + 6 * (e_md E).toNat) := (hT.2.2.2.2.1.2.2.2.2.1.2 (e_md E).toNat (by omega)).2
theorem c_rt_y (hT : KT σ) (hRT : RT δ E bd R I jr) (hm : 0 ≤ e_md E ∧ e_md E ≤ 8) (hx : rng x) (h : gRt bd R x) : m_X11_isRuleTerm σ 0 (ii x) δ = some 1 := by
  have hb := hRT.2.2.1
  unfold m_X11_isRuleTerm
  rw [c_isValue hx, ob_some]
  by_cases c : -99 ≤ x ∧ x ≤ 99
  · rw [decide_eq_true c, if_neg (show ¬ bi true = 0 by decide)]
  · obtain ⟨h1, h2⟩ := h.resolve_left c
    have hs : 200 ≤ x ∧ x < 204 := h2.1
    have kru := KRu_begun (σ := σ) hT hm
    have hbit := ((hb.2 h1).2 (x - 200).toNat (by omega)).2 (by rw [show (200 : Int) + ((x - 200).toNat : Int) = x by omega]; exact h2)
    have hbt := m_bit (v := δ.1 (14 + 6 * (e_md E).toNat) 7) (t := x - 200) (by omega) (by omega)
    have hne : ¬ (((δ.1 (14 + 6 * (e_md E).toNat) 7) >>> ((ii (x - 200)) &&& 31)) &&& (1 : Int32)) = 0 := fun q => by
      have q' : (((δ.1 (14 + 6 * (e_md E).toNat) 7) >>> ((ii (x - 200)) &&& 31)) &&& (1 : Int32)) = ii 0 := q
      rw [hbt, hbit] at q'
      cases q'
    rw [decide_eq_false c, if_pos (show bi false = 0 from rfl), gI_ko hT.1, ob_some, hb.1, h1, if_neg (show ¬ bi true = 0 by decide), chk_ko hT.1, ob_some, c_begun hT hRT.2.1 hm, ob_some, chk_ko kru.1, ob_some]
    unfold m_X7_isBinding
    rw [c_isSlot hx, ob_some, decide_eq_true hs, if_neg (show ¬ bi true = 0 by decide), gI_ko kru.1, ob_some, show ((200 : Int32)) = ii 200 from rfl, ii_sub, if_neg hne, ob_some, if_neg (show ¬ (1 : Int32) = 0 by decide)]
theorem c_rt_n (hT : KT σ) (hRT : RT δ E bd R I jr) (hm : 0 ≤ e_md E ∧ e_md E ≤ 8) (hx : rng x) (h : ¬ gRt bd R x) : m_X11_isRuleTerm σ 0 (ii x) δ = some 0 := by
  have hb := hRT.2.2.1
  have c : ¬ (-99 ≤ x ∧ x ≤ 99) := fun q => h (Or.inl q)
  unfold m_X11_isRuleTerm
  rw [c_isValue hx, ob_some, decide_eq_false c, if_pos (show bi false = 0 from rfl), gI_ko hT.1, ob_some, hb.1]
  cases hbd : bd with
  | false => rw [if_pos (show bi false = 0 from rfl)]
  | true =>
    have kru := KRu_begun (σ := σ) hT hm
    rw [if_neg (show ¬ bi true = 0 by decide), chk_ko hT.1, ob_some, c_begun hT hRT.2.1 hm, ob_some, chk_ko kru.1, ob_some]
    unfold m_X7_isBinding
    by_cases hs : 200 ≤ x ∧ x < 204
    · have hnb : ¬ bnd R x := fun q => h (Or.inr ⟨hbd, q⟩)
      have hbit : (δ.1 (14 + 6 * (e_md E).toNat) 7).toBitVec.getLsbD (x - 200).toNat = false := by
        cases hq : (δ.1 (14 + 6 * (e_md E).toNat) 7).toBitVec.getLsbD (x - 200).toNat with
        | false => rfl
        | true =>
          have := ((hb.2 hbd).2 (x - 200).toNat (by omega)).1 hq
          rw [show (200 : Int) + ((x - 200).toNat : Int) = x by omega] at this
          exact absurd this hnb
      have hbt := m_bit (v := δ.1 (14 + 6 * (e_md E).toNat) 7) (t := x - 200) (by omega) (by omega)
      have heq : (((δ.1 (14 + 6 * (e_md E).toNat) 7) >>> ((ii (x - 200)) &&& 31)) &&& (1 : Int32)) = 0 := by
        show _ = ii 0
        rw [hbt]
        exact hbit
      rw [c_isSlot hx, ob_some, decide_eq_true hs, if_neg (show ¬ bi true = 0 by decide), gI_ko kru.1, ob_some, show ((200 : Int32)) = ii 200 from rfl, ii_sub, if_pos heq, ob_some, if_pos (show (0 : Int32) = 0 from rfl)]
    · rw [c_isSlot hx, ob_some, decide_eq_false hs, if_pos (show bi false = 0 from rfl), ob_some, if_pos (show (0 : Int32) = 0 from rfl)]
theorem c_rts_y (hT : KT σ) (hRT : RT δ E bd R I jr) (hm : 0 ≤ e_md E ∧ e_md E ≤ 8) (ha : rng a) (hb : rng b) (h : gRt bd R a ∧ gRt bd R b) : m_X11_needRuleTerms σ 0 (ii a) (ii b) δ = some (.inl ()) := by
  unfold m_X11_needRuleTerms
  rw [chk_ko hT.1, ob_some, c_rt_y hT hRT hm ha h.1, ob_some, if_neg (show ¬ (1 : Int32) = 0 by decide), ob_some, c_rt_y hT hRT hm hb h.2, ob_some, if_neg (show ¬ (1 : Int32) = 0 by decide)]
theorem c_rts_n (hT : KT σ) (hRT : RT δ E bd R I jr) (hm : 0 ≤ e_md E ∧ e_md E ≤ 8) (ha : rng a) (hb : rng b) (h : ¬ (gRt bd R a ∧ gRt bd R b)) : m_X11_needRuleTerms σ 0 (ii a) (ii b) δ = some (.inr 1) := by
  unfold m_X11_needRuleTerms
  rw [chk_ko hT.1, ob_some]
  by_cases g : gRt bd R a
  · rw [c_rt_y hT hRT hm ha g, ob_some, if_neg (show ¬ (1 : Int32) = 0 by decide), ob_some, c_rt_n hT hRT hm hb (fun q => h ⟨g, q⟩), ob_some, if_pos (show (0 : Int32) = 0 from rfl)]; rfl
  · rw [c_rt_n hT hRT hm ha g, ob_some, if_pos (show (0 : Int32) = 0 from rfl)]; rfl
/-- the reference's look at a rule's term -/
theorem cm_rt (hK : KM σ mo) (hb : RMb δ mo bd R) (hG : bd = true → GR R) (hx : rng x) : (gRt bd R x → m_X12_isOfHead σ mo (ii x) δ = some 1) ∧ (¬ gRt bd R x → m_X12_isOfHead σ mo (ii x) δ = some 0) := by
  have g20 : gI σ δ 12 mo 20 = some (bi bd) := by rw [gI_ko hK.1, hb.1]
  have key : ∃ v : Bool, m_X12_isOfHead σ mo (ii x) δ = some (bi v) ∧ (v = true ↔ gRt bd R x) := by
    unfold m_X12_isOfHead
    rw [cm_value hx, ob_some]
    cases hbd : bd with
    | false =>
      rw [hbd] at g20
      refine ⟨decide (-99 ≤ x ∧ x ≤ 99), ?_, ⟨fun h => Or.inl (show -99 ≤ x ∧ x ≤ 99 from of_decide_eq_true h), fun h => decide_eq_true (show -99 ≤ x ∧ x ≤ 99 from h.resolve_right (fun q => by cases q.1))⟩⟩
      unfold m_X12_isOfHead_b7
      refine Ok_eq (Ok_lp (fun s => s = (bi (decide (-99 ≤ x ∧ x ≤ 99)), (0 : Int32))) (fun _ => 0) ?_ rfl (by decide))
      rintro s rfl
      refine Ok_inr (r := bi (decide (-99 ≤ x ∧ x ≤ 99))) ?_ rfl
      rw [gI_ko hK.1, ob_some]
      by_cases c : δ.1 mo 18 ≤ (0 : Int32)
      · rw [if_pos c, zo_bi, ob_some]
      · rw [if_neg c, g20, ob_some, if_pos (show bi false = 0 from rfl), zo_bi, ob_some]
    | true =>
      rw [hbd] at g20
      obtain ⟨h18, -, hh, -⟩ := hb.2 hbd
      have hR := hG hbd
      have hd := hR.1
      have hpa := hR.2.2.1
      have g18 : gI σ δ 12 mo 18 = some (ii (l_hd R)) := by rw [gI_ko hK.1, h18]
      have hOk : Ok (m_X12_isOfHead_b7 σ mo (ii x) (bi (decide (-99 ≤ x ∧ x ≤ 99))) (0 : Int32) δ) (fun r => ∃ v : Bool, r = bi v ∧ (v = true ↔ gRt true R x)) := by
        unfold m_X12_isOfHead_b7
        refine Ok_for (fun z s => s.2 = ii z ∧ ∃ v : Bool, s.1 = bi v ∧ (v = true ↔ (valu x ∨ (slot x ∧ ∃ p, 0 ≤ p ∧ p < 2 * z ∧ l_pa R p = x)))) 0 (l_hd R) (by omega) (by omega) ?_ ?_ ⟨rfl, decide (-99 ≤ x ∧ x ≤ 99), rfl, ⟨fun h => Or.inl (show -99 ≤ x ∧ x ≤ 99 from of_decide_eq_true h), fun h => decide_eq_true (show -99 ≤ x ∧ x ≤ 99 from h.resolve_right (fun q => by obtain ⟨-, p, h1, h2, -⟩ := q; omega))⟩⟩
        · rintro z ⟨s1, s2⟩ z0 z1 ⟨hs2, v, hs1, hv⟩
          dsimp only at hs1 hs2 ⊢
          subst hs1
          subst hs2
          obtain ⟨q1, q2, q3, q4⟩ := hh z z0 z1
          have r1 : rI σ δ (mo + 14) (ii (4 * z + 1)) = some (ii (l_pa R (2 * z))) := rst (md15 hK) (by omega) (by omega) rfl q2
          have r2 : rI σ δ (mo + 14) (ii (4 * z + 2)) = some (ii (l_pa R (2 * z + 1))) := rst (md15 hK) (by omega) (by omega) rfl q3
          have b1 := hpa (2 * z) (by omega) (by omega)
          have b2 := hpa (2 * z + 1) (by omega) (by omega)
          have rr : ∀ y, (valu y ∨ slot y ∨ y = 300) → -2147483648 ≤ y ∧ y < 2147483648 := fun y h => by
            rcases h with h | h | h
            · have h' : -99 ≤ y ∧ y ≤ 99 := h
              omega
            · have h' : 200 ≤ y ∧ y < 204 := h
              omega
            · omega
          have rb1 := rr _ b1
          have rb2 := rr _ b2
          have fin : ∀ (w : Bool), (w = true ↔ (slot x ∧ (l_pa R (2 * z) = x ∨ l_pa R (2 * z + 1) = x))) → Ok (m_X12_isOfHead_b69 σ mo (ii x) (ii z) (bi v) (bi w) δ) (PL (fun s : Int32 × Int32 => s.2 = ii (z + 1) ∧ ∃ v : Bool, s.1 = bi v ∧ (v = true ↔ (valu x ∨ (slot x ∧ ∃ p, 0 ≤ p ∧ p < 2 * (z + 1) ∧ l_pa R p = x)))) (fun r => ∃ v : Bool, r = bi v ∧ (v = true ↔ gRt true R x))) := by
            intro w hw
            refine Ok_inl (s' := (bi (v || w), ii (z + 1))) (by unfold m_X12_isOfHead_b69; rw [bi_or, show ((1 : Int32)) = ii 1 from rfl, ii_add]) ⟨rfl, v || w, rfl, ?_⟩
            rw [Bool.or_eq_true, hv, hw]
            constructor
            · rintro ((h | ⟨h1, p, h2, h3, h4⟩) | ⟨h1, h2 | h2⟩)
              · exact Or.inl h
              · exact Or.inr ⟨h1, p, h2, by omega, h4⟩
              · exact Or.inr ⟨h1, 2 * z, by omega, by omega, h2⟩
              · exact Or.inr ⟨h1, 2 * z + 1, by omega, by omega, h2⟩
            · rintro (h | ⟨h1, p, h2, h3, h4⟩)
              · exact Or.inl (Or.inl h)
              · by_cases c : p < 2 * z
                · exact Or.inl (Or.inr ⟨h1, p, h2, c, h4⟩)
                · refine Or.inr ⟨h1, ?_⟩
                  by_cases c2 : p = 2 * z
                  · rw [c2] at h4; exact Or.inl h4
                  · rw [show p = 2 * z + 1 by omega] at h4; exact Or.inr h4
          rw [g18, ob_some, if_neg (show ¬ ii (l_hd R) ≤ ii z by rw [ii_le (by omega) (by omega) (by omega) (by omega)]; omega), g20, ob_some, if_neg (show ¬ bi true = 0 by decide), show ((200 : Int32)) = ii 200 from rfl, show ((203 : Int32)) = ii 203 from rfl, c_in hx (by omega) (by omega), ob_some]
          by_cases hs : 200 ≤ x ∧ x ≤ 203
          · have hsl : slot x := ⟨hs.1, by omega⟩
            rw [decide_eq_true hs, if_neg (show ¬ bi true = 0 by decide), mg15 hK, ob_some, show ((4 : Int32)) = ii 4 from rfl, show ((1 : Int32)) = ii 1 from rfl, ii_mul, ii_add, r1, ob_some]
            by_cases e1 : l_pa R (2 * z) = x
            · rw [if_pos (congrArg ii e1)]
              exact fin true ⟨fun _ => ⟨hsl, Or.inl e1⟩, fun _ => rfl⟩
            · rw [if_neg (show ¬ ii (l_pa R (2 * z)) = ii x by rw [ii_eq rb1.1 rb1.2 hx.1 hx.2]; exact e1), ob_some, show ((2 : Int32)) = ii 2 from rfl, ii_add, r2, ob_some]
              by_cases e2 : l_pa R (2 * z + 1) = x
              · rw [if_pos (congrArg ii e2)]
                exact fin true ⟨fun _ => ⟨hsl, Or.inr e2⟩, fun _ => rfl⟩
              · rw [if_neg (show ¬ ii (l_pa R (2 * z + 1)) = ii x by rw [ii_eq rb2.1 rb2.2 hx.1 hx.2]; exact e2)]
                exact fin false ⟨fun h => (by cases h), fun h => by rcases h.2 with q | q; exact absurd q e1; exact absurd q e2⟩
          · rw [decide_eq_false hs, if_pos (show bi false = 0 from rfl)]
            exact fin false ⟨fun h => (by cases h), fun h => by have h' : 200 ≤ x ∧ x < 204 := h.1; omega⟩
        · rintro ⟨s1, s2⟩ ⟨hs2, v, hs1, hv⟩
          dsimp only at hs1 hs2 ⊢
          subst hs1
          subst hs2
          refine Ok_inr (r := bi v) ?_ ⟨v, rfl, hv.trans ⟨fun h => h.imp id (fun q => ⟨rfl, q⟩), fun h => h.imp id (fun q => q.2)⟩⟩
          rw [g18, ob_some, if_pos (show ii (l_hd R) ≤ ii (l_hd R) by rw [ii_le (by omega) (by omega) (by omega) (by omega)]; omega), zo_bi, ob_some]
      obtain ⟨r, e, v, hr, hv⟩ := hOk
      exact ⟨v, by rw [e, hr], hv⟩
  obtain ⟨v, e, hv⟩ := key
  constructor
  · intro h
    rw [e, hv.2 h]; rfl
  · intro h
    have : v = false := by
      cases hq : v with
      | false => rfl
      | true => exact absurd (hv.1 hq) h
    rw [e, this]; rfl
end
