/-! THE REFERENCE: rules; whether one can fire -/
def RRm (δ : Dy) (mo : Nat) (made : Int) (Rs : Int → Rl) : Prop := δ.1 mo 14 = ii made ∧ ∀ w : Int, 0 ≤ w → w < made → δ.1 (mo + 9) w.toNat = ii (l_hd (Rs w)) ∧ (∀ h : Int, 0 ≤ h → h < l_hd (Rs w) → δ.1 (mo + 10) (8 * w + 4 * h).toNat = ii (l_so (Rs w) h) ∧ δ.1 (mo + 10) (8 * w + 4 * h + 1).toNat = ii (l_pa (Rs w) (2 * h)) ∧ δ.1 (mo + 10) (8 * w + 4 * h + 2).toNat = ii (l_pa (Rs w) (2 * h + 1)) ∧ δ.1 (mo + 10) (8 * w + 4 * h + 3).toNat = bi (l_sy (Rs w) h)) ∧ (δ.1 (mo + 11) (3 * w).toNat = ii (if l_gd (Rs w) = true then l_gc (Rs w) else -1) ∧ (l_gd (Rs w) = true → δ.1 (mo + 11) (3 * w + 1).toNat = ii (l_ga (Rs w)) ∧ (¬ l_gc (Rs w) = 3 → δ.1 (mo + 11) (3 * w + 2).toNat = ii (l_gb (Rs w))))) ∧ δ.1 (mo + 12) w.toNat = ii (l_nb (Rs w)) ∧ ∀ k : Int, 0 ≤ k → k < l_nb (Rs w) → δ.1 (mo + 13) (6 * w + 3 * k).toNat = ii (l_bs (Rs w) k) ∧ δ.1 (mo + 13) (6 * w + 3 * k + 1).toNat = ii (l_bt (Rs w) (2 * k)) ∧ δ.1 (mo + 13) (6 * w + 3 * k + 2).toNat = ii (l_bt (Rs w) (2 * k + 1))
theorem RRm_eq {δ d : Dy} {mo : Nat} {made : Int} {Rs : Int → Rl} (h : RRm δ mo made Rs) (h14 : d.1 mo 14 = δ.1 mo 14) (e : ∀ r, mo + 9 ≤ r → r ≤ mo + 13 → d.1 r = δ.1 r) : RRm d mo made Rs := by
  unfold RRm
  rw [h14, e (mo + 9) (by omega) (by omega), e (mo + 10) (by omega) (by omega), e (mo + 11) (by omega) (by omega), e (mo + 12) (by omega) (by omega), e (mo + 13) (by omega) (by omega)]
  exact h
def RBm (δ : Dy) (mo : Nat) (bd : Int → Int) : Prop := ∀ z : Int, 0 ≤ z → z < 4 → δ.1 (mo + 29) z.toNat = ii (if bd z = 1000 then 300 else bd z)
/-- what is bound is a term -/
def BT (S : Sto) (bd : Int → Int) : Prop := ∀ z, 0 ≤ z → z < 4 → ¬ bd z = 1000 → tm (s_nv S) (bd z)
def canM (S : Sto) (R : Rl) (w : Int) (hi : Hst) (one two : Int) : Option (Int → Int) := if l_so R 0 = s_so S one ∧ (l_hd R < 2 ∨ l_so R 1 = s_so S two) then (if (w, one, mx0 two) ∈ hi then none else matchR S R one two) else none
section
variable {σ : St} {δ : Dy} {mo : Nat} {S : Sto} {V : Vw} {Rs : Int → Rl} {R : Rl} {made : Int} {bd : Int → Int}
theorem m_in {a b c : Int} (h0 : -100000 ≤ a) (h1 : a ≤ 100000) (b0 : -100000 ≤ b) (b1 : b ≤ 100000) (c0 : -100000 ≤ c) (c1 : c ≤ 100000) : m_X12_in σ (ii a) (ii b) (ii c) δ = some (bi (decide (b ≤ a ∧ a ≤ c))) := by
  unfold m_X12_in
  by_cases h : a < b
  · rw [decide_eq_false (by omega), if_pos (by rw [ii_lt (by omega) (by omega) (by omega) (by omega)]; exact h)]; rfl
  · rw [if_neg (by rw [ii_lt (by omega) (by omega) (by omega) (by omega)]; exact h)]
    by_cases h2 : c < a
    · rw [decide_eq_false (by omega), if_pos (by rw [ii_lt (by omega) (by omega) (by omega) (by omega)]; exact h2)]; rfl
    · rw [decide_eq_true (by omega), if_neg (by rw [ii_lt (by omega) (by omega) (by omega) (by omega)]; exact h2)]; rfl
theorem m_termOf (hK : KM σ mo) (hB : RBm δ mo bd) {t : Int} (t0 : -1000 ≤ t) (t1 : t ≤ 1000) (hs : slot t → ¬ bd (t - 200) = 1000) : m_X12_termOf σ mo (ii t) δ = some (ii (resB bd t)) := by
  unfold m_X12_termOf resB
  rw [show ((200 : Int32)) = ii 200 from rfl, show ((203 : Int32)) = ii 203 from rfl, m_in (by omega) (by omega) (by omega) (by omega) (by omega) (by omega), ob_some]
  by_cases h : 200 ≤ t ∧ t < 204
  · have hb := hB (t - 200) (by omega) (by omega)
    rw [if_neg (hs h)] at hb
    rw [if_pos h, decide_eq_true (by omega), if_neg (by decide)]
    simp (disch := omega) only [mg38 hK, ob_some, ii_sub, rI_kd (md38 hK), hb]
  · rw [if_neg h, decide_eq_false (by omega), if_pos (show bi false = 0 from rfl)]
theorem RBm_up (hB : RBm δ mo bd) {z v : Int} (z0 : 0 ≤ z) (hv : ¬ v = 1000) : RBm (u2 δ.1 (mo + 29) z.toNat (ii v), δ.2) mo (upf bd z v) := by
  intro y y0 y1
  by_cases hy : y = z
  · subst hy
    simp only [u2, upf, and_self, ↓reduceIte]
    rw [if_neg hv]
  · simp (disch := omega) only [u2, upf, if_neg]
    exact hB y y0 y1
theorem m_fits (hK : KM σ mo) (hR : RSm δ mo S) (hG : GS S) (hB : RBm δ mo bd) (hT : BT S bd) {p arg : Int} (hp : valu p ∨ slot p ∨ p = 300) (ha : tm (s_nv S) arg) : Ok (m_X12_fits σ mo (ii p) (ii arg) δ) (fun r => r.1 = bi (mstep S p arg bd).isSome ∧ (∀ bd', mstep S p arg bd = some bd' → RBm r.2 mo bd') ∧ Fr (fun r => r = mo + 29) δ r.2) := by
  have gn := hG.1
  have ra := tm_rng ha gn.2.1
  unfold m_X12_fits
  by_cases c0 : p = 300
  · have hms : mstep S p arg bd = some bd := by unfold mstep; rw [if_pos c0]
    rw [hms]
    exact ⟨(ii 1, δ), by simp (disch := omega) only [c0, ii_lit, ↓reduceIte], rfl, fun bd' h => by cases h; exact hB, Fr.rf⟩
  · by_cases cs : slot p
    · have hs : 200 ≤ p ∧ p < 204 := cs
      have hb := hB (p - 200) (by omega) (by omega)
      by_cases cu : bd (p - 200) = 1000
      · rw [if_pos cu] at hb
        have hms : mstep S p arg bd = some (upf bd (p - 200) arg) := by unfold mstep; rw [if_neg c0, if_pos ⟨hs, cu⟩]
        rw [hms]
        refine ⟨(ii 1, (u2 δ.1 (mo + 29) (p - 200).toNat (ii arg), δ.2)), ?_, rfl, fun bd' h => by cases h; exact RBm_up hB (by omega) (by omega), Fr_u2 rfl⟩
        simp (disch := omega) only [ii_lit, ii_eq, if_neg, ii_le, if_pos, mg38 hK, ob_some, ii_sub, rI_kd (md38 hK), hb, ↓reduceIte, wI_kd (md38 hK)]
      · rw [if_neg cu] at hb
        have ht := hT (p - 200) (by omega) (by omega) cu
        have rt := tm_rng ht gn.2.1
        have rt3 : ¬ bd (p - 200) = 300 := by unfold tm at ht; omega
        have er : resB bd p = bd (p - 200) := by unfold resB; rw [if_pos hs]
        have hms : mstep S p arg bd = if form S (bd (p - 200)) = form S arg then some bd else none := by unfold mstep; rw [if_neg c0, if_neg (fun h => cu h.2), er]
        rw [hms]
        have ee := m_areEqual hK hR hG ht ha
        have hz : zo (bi (decide (form S (bd (p - 200)) = form S arg))) = some () := by cases decide (form S (bd (p - 200)) = form S arg) <;> rfl
        refine ⟨(bi (decide (form S (bd (p - 200)) = form S arg)), δ), ?_, ?_, fun bd' h => ?_, Fr.rf⟩
        · simp (disch := omega) only [ii_lit, ii_eq, if_neg, ii_le, if_pos, mg38 hK, ob_some, ii_sub, rI_kd (md38 hK), hb, chk_ko hK.1, ee]
          rw [hz, ob_some]
        · by_cases hq : form S (bd (p - 200)) = form S arg
          · rw [if_pos hq, decide_eq_true hq]; rfl
          · rw [if_neg hq, decide_eq_false hq]; rfl
        · split at h
          · cases h; exact hB
          · cases h
    · have hv : -99 ≤ p ∧ p ≤ 99 := by
        rcases hp with h | h | h
        · exact h
        · exact absurd h cs
        · exact absurd h c0
      have er : resB bd p = p := by unfold resB; rw [if_neg (by omega)]
      have hms : mstep S p arg bd = if form S p = form S arg then some bd else none := by unfold mstep; rw [if_neg c0, if_neg (fun h => cs h.1), er]
      rw [hms]
      have ee := m_areEqual hK hR hG ha (b := p) (Or.inl hv)
      have hsym : decide (form S arg = form S p) = decide (form S p = form S arg) := decide_eq_decide.mpr ⟨Eq.symm, Eq.symm⟩
      rw [hsym] at ee
      have hz : zo (bi (decide (form S p = form S arg))) = some () := by cases decide (form S p = form S arg) <;> rfl
      refine ⟨(bi (decide (form S p = form S arg)), δ), ?_, ?_, fun bd' h => ?_, Fr.rf⟩
      · simp (disch := omega) only [ii_lit, ii_eq, if_neg, ii_le, chk_ko hK.1, ob_some, ee]
        rw [hz, ob_some]
      · by_cases hq : form S p = form S arg
        · rw [if_pos hq, decide_eq_true hq]; rfl
        · rw [if_neg hq, decide_eq_false hq]; rfl
      · split at h
        · cases h; exact hB
        · cases h
theorem m_removes (hK : KM σ mo) (hR : RRm δ mo made Rs) (hm : made ≤ 8) {w : Int} (w0 : 0 ≤ w) (w1 : w < made) (hG : GR (Rs w)) : m_X12_removes σ mo (ii w) δ = some (bi (!rmNone (Rs w))) := by
  obtain ⟨a1, a2, -⟩ := hR.2 w w0 w1
  have hhd := hG.1
  have b0 := (a2 0 (by omega) (by omega)).2.2.2
  have e3 : rI σ δ (mo + 10) (ii (8 * w + 3)) = some (bi (l_sy (Rs w) 0)) := rst (md10 hK) (by omega) (by omega) (by omega) b0
  unfold m_X12_removes rmNone
  cases hs : l_sy (Rs w) 0 with
  | false =>
    rw [hs] at e3
    simp (disch := omega) only [mg10 hK, ob_some, ii_lit, ii_mul, ii_add, e3, bi_f, ↓reduceIte, Bool.false_and, Bool.not_false, bi_t]
  | true =>
    rw [hs] at e3
    rw [Bool.true_and]
    have e9 := rI_kd (σ := σ) (δ := δ) (md9 hK) w0 (show w < ((8 : Nat) : Int) by omega)
    rw [a1] at e9
    by_cases h2 : l_hd (Rs w) < 2
    · rw [decide_eq_true h2, Bool.true_or]
      simp (disch := omega) only [mg10 hK, mg9 hK, ob_some, ii_lit, ii_mul, ii_add, e3, bi_t, ii_eq, if_neg, e9, Bool.not_true, bi_f]
    · have b1 := (a2 1 (by omega) (by omega)).2.2.2
      have e7 : rI σ δ (mo + 10) (ii (8 * w + 7)) = some (bi (l_sy (Rs w) 1)) := rst (md10 hK) (by omega) (by omega) (by omega) b1
      have hh2 : l_hd (Rs w) = 2 := by omega
      rw [decide_eq_false h2, Bool.false_or]
      cases hs1 : l_sy (Rs w) 1 with
      | false =>
        rw [hs1] at e7
        simp (disch := omega) only [mg10 hK, mg9 hK, ob_some, ii_lit, ii_mul, ii_add, e3, e7, bi_t, ii_eq, if_neg, e9, hh2, ↓reduceIte, bi_f, Bool.not_false]
      | true =>
        rw [hs1] at e7
        simp (disch := omega) only [mg10 hK, mg9 hK, ob_some, ii_lit, ii_mul, ii_add, e3, e7, bi_t, ii_eq, if_neg, e9, hh2, ↓reduceIte, bi_f, Bool.not_true]
/-- the history does not know it -/
theorem m_hist (hK : KM σ mo) (hR : RRm δ mo made Rs) (hm : made ≤ 8) {hi : Hst} (hH : RMh δ mo Rs hi) (hl : hi.length ≤ 1900) (hg : gHi Rs made hi) (h1 : ∀ e ∈ hi, l_hd (Rs e.1) < 2 → e.2.2 = 0) {w one two : Int} (w0 : 0 ≤ w) (w1 : w < made) (hG : GR (Rs w)) (o0 : 0 ≤ one ∧ one < 100) (t0 : (l_hd (Rs w) < 2 ∧ two = -1) ∨ (¬ l_hd (Rs w) < 2 ∧ 0 ≤ two ∧ two < 100)) : m_X12_canFire_b217 σ mo (ii w) (ii one) (ii two) δ = some (bi (!decide ((w, one, mx0 two) ∈ hi)), δ) := by
  have er := m_removes hK hR hm w0 w1 hG
  obtain ⟨q1, q2⟩ := hH
  unfold m_X12_canFire_b217
  rw [chk_ko hK.1, ob_some, er, ob_some]
  unfold m_X12_canFire_b227
  have rn : rI σ δ (mo + 1) (ii 1022) = some (ii hi.length) := rst (md0 hK) (by omega) (by omega) rfl q1
  have hmx : mx0 two = if l_hd (Rs w) < 2 then 0 else two := by
    unfold mx0
    rcases t0 with ⟨h, h2⟩ | ⟨h, h2, h3⟩
    · rw [if_pos h, if_pos (by omega)]
    · rw [if_neg h, if_neg (by omega)]
  apply Ok_eq
  cases hr : rmNone (Rs w) with
  | false =>
    have hno : ¬ (w, one, mx0 two) ∈ hi := by
      intro h
      have := (hg.2 _ h).2.2.2
      rw [hr] at this
      cases this
    rw [decide_eq_false hno]
    by_cases hz : hi.length = 0
    · refine Ok_lp (fun s => s = ii 0) (fun _ => 0) ?_ rfl (by decide)
      rintro s rfl
      refine Ok_inr (r := (ii 1, δ)) ?_ rfl
      simp (disch := omega) only [mg0 hK, ob_some, ii_lit, rn, ii_le, if_pos]
    · refine Ok_lp (fun s => s = ii 0) (fun _ => 0) ?_ rfl (by decide)
      rintro s rfl
      refine Ok_inr (r := (ii 1, δ)) ?_ rfl
      have hnz : ¬ (bi true = ii 0) := by decide
      simp (disch := omega) only [mg0 hK, ob_some, ii_lit, rn, ii_le, if_neg, Bool.not_false, hnz, ↓reduceIte]
  | true =>
    have hin : ∀ {P : Prop} [Decidable P], P → True := fun _ => trivial
    refine Ok_for (fun z s => s = ii z ∧ ∀ j : Nat, (j : Int) < z → ¬ hi[j]? = some (w, one, mx0 two)) 0 hi.length (by omega) (by omega) ?_ ?_ ⟨rfl, fun j hj => by omega⟩
    · rintro z s z0 z1 ⟨rfl, hno⟩
      obtain ⟨e, he⟩ : ∃ e, hi[z.toNat]? = some e := ⟨_, List.getElem?_eq_getElem (by omega)⟩
      obtain ⟨x1, x2, x3⟩ := q2 z.toNat e he
      have hem := List.mem_of_getElem? he
      obtain ⟨y1, y2, y3, -⟩ := hg.2 e hem
      have y4 := h1 e hem
      have r1 : rI σ δ (mo + 1) (ii (1023 + 3 * z)) = some (ii e.1) := rst (md0 hK) (by omega) (by omega) (by omega) x1
      have r2 : rI σ δ (mo + 1) (ii (1023 + 3 * z + 1)) = some (ii e.2.1) := rst (md0 hK) (by omega) (by omega) (by omega) x2
      have r3 : rI σ δ (mo + 1) (ii (1023 + 3 * z + 2)) = some (ii (if l_hd (Rs e.1) < 2 then -1 else e.2.2)) := rst (md0 hK) (by omega) (by omega) (by omega) x3
      have hv3 : -1 ≤ (if l_hd (Rs e.1) < 2 then -1 else e.2.2) ∧ (if l_hd (Rs e.1) < 2 then -1 else e.2.2) < 100 := by split <;> omega
      have next : ¬ e = (w, one, mx0 two) → ∀ j : Nat, (j : Int) < z + 1 → ¬ hi[j]? = some (w, one, mx0 two) := by
        intro h j hj hje
        by_cases hjz : j = z.toNat
        · rw [hjz, he] at hje
          exact h (Option.some.inj hje)
        · exact hno j (by omega) hje
      by_cases c1 : e.1 = w
      · by_cases c2 : e.2.1 = one
        · by_cases c3 : (if l_hd (Rs e.1) < 2 then -1 else e.2.2) = two
          · have heq : e = (w, one, mx0 two) := by
              obtain ⟨e1, e2, e3⟩ := e
              dsimp only at c1 c2 c3 y4
              subst c1
              subst c2
              rw [hmx]
              rcases t0 with ⟨h, h2⟩ | ⟨h, h2, h3⟩
              · rw [if_pos h, y4 h]
              · rw [if_neg h]
                rw [if_neg h] at c3
                rw [c3]
            rw [heq] at hem
            refine Ok_inr (r := (ii 0, δ)) ?_ (by rw [decide_eq_true hem]; rfl)
            rw [c3] at r3
            simp (disch := omega) only [mg0 hK, ob_some, ii_lit, rn, ii_le, if_neg, Bool.not_true, bi_f, ↓reduceIte, ii_mul, ii_add, r1, r2, r3, c1, c2]
          · refine Ok_inl (s' := ii (z + 1)) ?_ ⟨rfl, next (fun h => c3 ?_)⟩
            · simp (disch := omega) only [mg0 hK, ob_some, ii_lit, rn, ii_le, if_neg, Bool.not_true, bi_f, ↓reduceIte, ii_mul, ii_add, r1, r2, r3, c1, c2]
              rw [c1] at c3 hv3
              rw [if_neg (by rw [ii_eq (by omega) (by omega) (by omega) (by omega)]; exact c3)]
              simp (disch := omega) only [m_X12_canFire_b302, ii_lit, ii_add]
            · rw [h]
              dsimp only
              rw [hmx]
              rcases t0 with ⟨k, k2⟩ | ⟨k, k2, k3⟩
              · rw [if_pos k]; exact k2.symm
              · rw [if_neg k, if_neg k]
        · refine Ok_inl (s' := ii (z + 1)) ?_ ⟨rfl, next (fun h => c2 (by rw [h]))⟩
          simp (disch := omega) only [mg0 hK, ob_some, ii_lit, rn, ii_le, if_neg, Bool.not_true, bi_f, ↓reduceIte, ii_mul, ii_add, r1, r2, c1, ii_eq, m_X12_canFire_b302]
      · refine Ok_inl (s' := ii (z + 1)) ?_ ⟨rfl, next (fun h => c1 (by rw [h]))⟩
        simp (disch := omega) only [mg0 hK, ob_some, ii_lit, rn, ii_le, if_neg, Bool.not_true, bi_f, ↓reduceIte, ii_mul, ii_add, r1, ii_eq, m_X12_canFire_b302]
    · rintro s ⟨rfl, hno⟩
      have hno' : ¬ (w, one, mx0 two) ∈ hi := by
        intro h
        obtain ⟨j, hj⟩ := List.getElem?_of_mem h
        exact hno j (by have := (List.getElem?_eq_some_iff.mp hj).1; omega) hj
      rw [decide_eq_false hno']
      refine Ok_inr (r := (ii 1, δ)) ?_ rfl
      simp (disch := omega) only [mg0 hK, ob_some, ii_lit, rn, ii_le, if_pos]
end
