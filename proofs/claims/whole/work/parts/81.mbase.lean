/-! THE REFERENCE: the memory of it; terms -/
def mfl : List (Nat × Nat × Nat) := [(0, 1, 9863), (1, 2, 9863), (2, 3, 60), (3, 4, 60), (4, 5, 60), (5, 6, 60), (6, 7, 60), (8, 8, 6), (9, 9, 8), (10, 10, 64), (11, 11, 24), (12, 12, 8), (13, 13, 48), (15, 14, 8), (16, 15, 3), (17, 16, 6), (21, 17, 18000), (23, 18, 2000), (24, 19, 4), (25, 20, 2000), (26, 21, 4), (27, 22, 2000), (28, 23, 4), (29, 24, 2000), (30, 25, 4), (31, 26, 4), (32, 27, 900), (36, 28, 6000), (38, 29, 4), (39, 30, 4), (40, 31, 4), (42, 32, 70), (43, 33, 70), (45, 34, 1400), (46, 35, 8), (48, 36, 170)]
def KM (σ : St) (mo : Nat) : Prop := KO σ mo 12 ∧ ∀ p ∈ mfl, srv σ mo p.1 = some (mo + p.2.1) ∧ KD σ (mo + p.2.1) 100 p.2.2
section
variable {σ : St} {δ : Dy} {mo : Nat}
theorem mg0 (h : KM σ mo) : gR σ 12 mo 0 = some (mo + 1) := gR_ko h.1 (h.2 (0, 1, 9863) (by decide)).1
theorem md0 (h : KM σ mo) : KD σ (mo + 1) 100 9863 := (h.2 (0, 1, 9863) (by decide)).2
theorem mg1 (h : KM σ mo) : gR σ 12 mo 1 = some (mo + 2) := gR_ko h.1 (h.2 (1, 2, 9863) (by decide)).1
theorem md1 (h : KM σ mo) : KD σ (mo + 2) 100 9863 := (h.2 (1, 2, 9863) (by decide)).2
theorem mg2 (h : KM σ mo) : gR σ 12 mo 2 = some (mo + 3) := gR_ko h.1 (h.2 (2, 3, 60) (by decide)).1
theorem md2 (h : KM σ mo) : KD σ (mo + 3) 100 60 := (h.2 (2, 3, 60) (by decide)).2
theorem mg3 (h : KM σ mo) : gR σ 12 mo 3 = some (mo + 4) := gR_ko h.1 (h.2 (3, 4, 60) (by decide)).1
theorem md3 (h : KM σ mo) : KD σ (mo + 4) 100 60 := (h.2 (3, 4, 60) (by decide)).2
theorem mg4 (h : KM σ mo) : gR σ 12 mo 4 = some (mo + 5) := gR_ko h.1 (h.2 (4, 5, 60) (by decide)).1
theorem md4 (h : KM σ mo) : KD σ (mo + 5) 100 60 := (h.2 (4, 5, 60) (by decide)).2
theorem mg5 (h : KM σ mo) : gR σ 12 mo 5 = some (mo + 6) := gR_ko h.1 (h.2 (5, 6, 60) (by decide)).1
theorem md5 (h : KM σ mo) : KD σ (mo + 6) 100 60 := (h.2 (5, 6, 60) (by decide)).2
theorem mg6 (h : KM σ mo) : gR σ 12 mo 6 = some (mo + 7) := gR_ko h.1 (h.2 (6, 7, 60) (by decide)).1
theorem md6 (h : KM σ mo) : KD σ (mo + 7) 100 60 := (h.2 (6, 7, 60) (by decide)).2
theorem mg8 (h : KM σ mo) : gR σ 12 mo 8 = some (mo + 8) := gR_ko h.1 (h.2 (8, 8, 6) (by decide)).1
theorem md8 (h : KM σ mo) : KD σ (mo + 8) 100 6 := (h.2 (8, 8, 6) (by decide)).2
theorem mg9 (h : KM σ mo) : gR σ 12 mo 9 = some (mo + 9) := gR_ko h.1 (h.2 (9, 9, 8) (by decide)).1
theorem md9 (h : KM σ mo) : KD σ (mo + 9) 100 8 := (h.2 (9, 9, 8) (by decide)).2
theorem mg10 (h : KM σ mo) : gR σ 12 mo 10 = some (mo + 10) := gR_ko h.1 (h.2 (10, 10, 64) (by decide)).1
theorem md10 (h : KM σ mo) : KD σ (mo + 10) 100 64 := (h.2 (10, 10, 64) (by decide)).2
theorem mg11 (h : KM σ mo) : gR σ 12 mo 11 = some (mo + 11) := gR_ko h.1 (h.2 (11, 11, 24) (by decide)).1
theorem md11 (h : KM σ mo) : KD σ (mo + 11) 100 24 := (h.2 (11, 11, 24) (by decide)).2
theorem mg12 (h : KM σ mo) : gR σ 12 mo 12 = some (mo + 12) := gR_ko h.1 (h.2 (12, 12, 8) (by decide)).1
theorem md12 (h : KM σ mo) : KD σ (mo + 12) 100 8 := (h.2 (12, 12, 8) (by decide)).2
theorem mg13 (h : KM σ mo) : gR σ 12 mo 13 = some (mo + 13) := gR_ko h.1 (h.2 (13, 13, 48) (by decide)).1
theorem md13 (h : KM σ mo) : KD σ (mo + 13) 100 48 := (h.2 (13, 13, 48) (by decide)).2
theorem mg15 (h : KM σ mo) : gR σ 12 mo 15 = some (mo + 14) := gR_ko h.1 (h.2 (15, 14, 8) (by decide)).1
theorem md15 (h : KM σ mo) : KD σ (mo + 14) 100 8 := (h.2 (15, 14, 8) (by decide)).2
theorem mg16 (h : KM σ mo) : gR σ 12 mo 16 = some (mo + 15) := gR_ko h.1 (h.2 (16, 15, 3) (by decide)).1
theorem md16 (h : KM σ mo) : KD σ (mo + 15) 100 3 := (h.2 (16, 15, 3) (by decide)).2
theorem mg17 (h : KM σ mo) : gR σ 12 mo 17 = some (mo + 16) := gR_ko h.1 (h.2 (17, 16, 6) (by decide)).1
theorem md17 (h : KM σ mo) : KD σ (mo + 16) 100 6 := (h.2 (17, 16, 6) (by decide)).2
theorem mg21 (h : KM σ mo) : gR σ 12 mo 21 = some (mo + 17) := gR_ko h.1 (h.2 (21, 17, 18000) (by decide)).1
theorem md21 (h : KM σ mo) : KD σ (mo + 17) 100 18000 := (h.2 (21, 17, 18000) (by decide)).2
theorem mg23 (h : KM σ mo) : gR σ 12 mo 23 = some (mo + 18) := gR_ko h.1 (h.2 (23, 18, 2000) (by decide)).1
theorem md23 (h : KM σ mo) : KD σ (mo + 18) 100 2000 := (h.2 (23, 18, 2000) (by decide)).2
theorem mg24 (h : KM σ mo) : gR σ 12 mo 24 = some (mo + 19) := gR_ko h.1 (h.2 (24, 19, 4) (by decide)).1
theorem md24 (h : KM σ mo) : KD σ (mo + 19) 100 4 := (h.2 (24, 19, 4) (by decide)).2
theorem mg25 (h : KM σ mo) : gR σ 12 mo 25 = some (mo + 20) := gR_ko h.1 (h.2 (25, 20, 2000) (by decide)).1
theorem md25 (h : KM σ mo) : KD σ (mo + 20) 100 2000 := (h.2 (25, 20, 2000) (by decide)).2
theorem mg26 (h : KM σ mo) : gR σ 12 mo 26 = some (mo + 21) := gR_ko h.1 (h.2 (26, 21, 4) (by decide)).1
theorem md26 (h : KM σ mo) : KD σ (mo + 21) 100 4 := (h.2 (26, 21, 4) (by decide)).2
theorem mg27 (h : KM σ mo) : gR σ 12 mo 27 = some (mo + 22) := gR_ko h.1 (h.2 (27, 22, 2000) (by decide)).1
theorem md27 (h : KM σ mo) : KD σ (mo + 22) 100 2000 := (h.2 (27, 22, 2000) (by decide)).2
theorem mg28 (h : KM σ mo) : gR σ 12 mo 28 = some (mo + 23) := gR_ko h.1 (h.2 (28, 23, 4) (by decide)).1
theorem md28 (h : KM σ mo) : KD σ (mo + 23) 100 4 := (h.2 (28, 23, 4) (by decide)).2
theorem mg29 (h : KM σ mo) : gR σ 12 mo 29 = some (mo + 24) := gR_ko h.1 (h.2 (29, 24, 2000) (by decide)).1
theorem md29 (h : KM σ mo) : KD σ (mo + 24) 100 2000 := (h.2 (29, 24, 2000) (by decide)).2
theorem mg30 (h : KM σ mo) : gR σ 12 mo 30 = some (mo + 25) := gR_ko h.1 (h.2 (30, 25, 4) (by decide)).1
theorem md30 (h : KM σ mo) : KD σ (mo + 25) 100 4 := (h.2 (30, 25, 4) (by decide)).2
theorem mg31 (h : KM σ mo) : gR σ 12 mo 31 = some (mo + 26) := gR_ko h.1 (h.2 (31, 26, 4) (by decide)).1
theorem md31 (h : KM σ mo) : KD σ (mo + 26) 100 4 := (h.2 (31, 26, 4) (by decide)).2
theorem mg32 (h : KM σ mo) : gR σ 12 mo 32 = some (mo + 27) := gR_ko h.1 (h.2 (32, 27, 900) (by decide)).1
theorem md32 (h : KM σ mo) : KD σ (mo + 27) 100 900 := (h.2 (32, 27, 900) (by decide)).2
theorem mg36 (h : KM σ mo) : gR σ 12 mo 36 = some (mo + 28) := gR_ko h.1 (h.2 (36, 28, 6000) (by decide)).1
theorem md36 (h : KM σ mo) : KD σ (mo + 28) 100 6000 := (h.2 (36, 28, 6000) (by decide)).2
theorem mg38 (h : KM σ mo) : gR σ 12 mo 38 = some (mo + 29) := gR_ko h.1 (h.2 (38, 29, 4) (by decide)).1
theorem md38 (h : KM σ mo) : KD σ (mo + 29) 100 4 := (h.2 (38, 29, 4) (by decide)).2
theorem mg39 (h : KM σ mo) : gR σ 12 mo 39 = some (mo + 30) := gR_ko h.1 (h.2 (39, 30, 4) (by decide)).1
theorem md39 (h : KM σ mo) : KD σ (mo + 30) 100 4 := (h.2 (39, 30, 4) (by decide)).2
theorem mg40 (h : KM σ mo) : gR σ 12 mo 40 = some (mo + 31) := gR_ko h.1 (h.2 (40, 31, 4) (by decide)).1
theorem md40 (h : KM σ mo) : KD σ (mo + 31) 100 4 := (h.2 (40, 31, 4) (by decide)).2
theorem mg42 (h : KM σ mo) : gR σ 12 mo 42 = some (mo + 32) := gR_ko h.1 (h.2 (42, 32, 70) (by decide)).1
theorem md42 (h : KM σ mo) : KD σ (mo + 32) 100 70 := (h.2 (42, 32, 70) (by decide)).2
theorem mg43 (h : KM σ mo) : gR σ 12 mo 43 = some (mo + 33) := gR_ko h.1 (h.2 (43, 33, 70) (by decide)).1
theorem md43 (h : KM σ mo) : KD σ (mo + 33) 100 70 := (h.2 (43, 33, 70) (by decide)).2
theorem mg45 (h : KM σ mo) : gR σ 12 mo 45 = some (mo + 34) := gR_ko h.1 (h.2 (45, 34, 1400) (by decide)).1
theorem md45 (h : KM σ mo) : KD σ (mo + 34) 100 1400 := (h.2 (45, 34, 1400) (by decide)).2
theorem mg46 (h : KM σ mo) : gR σ 12 mo 46 = some (mo + 35) := gR_ko h.1 (h.2 (46, 35, 8) (by decide)).1
theorem md46 (h : KM σ mo) : KD σ (mo + 35) 100 8 := (h.2 (46, 35, 8) (by decide)).2
theorem mg48 (h : KM σ mo) : gR σ 12 mo 48 = some (mo + 36) := gR_ko h.1 (h.2 (48, 36, 170) (by decide)).1
theorem md48 (h : KM σ mo) : KD σ (mo + 36) 100 170 := (h.2 (48, 36, 170) (by decide)).2
theorem rst {a n : Nat} {z : Int} {k : Nat} {v : Int32} (hK : KD σ a 100 n) (h0 : 0 ≤ z) (h1 : z < n) (hz : z.toNat = k) (h : δ.1 a k = v) : rI σ δ a (ii z) = some v := by
  rw [rI_kd hK h0 h1, hz, h]
end
def B32 (c : Nat → Int32) (f : Nat → Bool) : Prop := ∀ k t : Nat, k < 4 → t < 32 → (c k).toBitVec.getLsbD t = f (32 * k + t)
/-- the reference's store -/
def RSm (δ : Dy) (mo : Nat) (S : Sto) : Prop := δ.1 (mo + 1) 0 = ii (s_nv S) ∧ (∀ v : Int, 0 ≤ v → v < s_nv S → δ.1 (mo + 1) (1 + v).toNat = ii (s_cl S v)) ∧ (∀ v : Int, 0 ≤ v → v < s_nv S → δ.1 (mo + 1) (61 + v).toNat = ii (s_va S v)) ∧ δ.1 (mo + 1) 121 = ii (s_nt S) ∧ (∀ t : Int, 0 ≤ t → t < s_nt S → δ.1 (mo + 1) (122 + t).toNat = ii (s_so S t)) ∧ (∀ t : Int, 0 ≤ t → t < s_nt S → δ.1 (mo + 1) (222 + t).toNat = ii (s_fi S t)) ∧ (∀ t : Int, 0 ≤ t → t < s_nt S → δ.1 (mo + 1) (322 + t).toNat = ii (s_se S t)) ∧ (∀ t : Int, 0 ≤ t → t < s_nt S → δ.1 (mo + 1) (422 + t).toNat = bi (s_sd S t)) ∧ (∀ t : Int, 0 ≤ t → t < s_nt S → δ.1 (mo + 1) (522 + t).toNat = bi (s_la S t)) ∧ ∀ t : Int, 0 ≤ t → t < s_nt S → B32 (fun k => δ.1 (mo + 1) (622 + 4 * t + k).toNat) (s_sl S t)
def vaM (S : Sto) (t : Int) : Int := if t < 400 then t else s_va S (s_cl S (t - 400))
section
variable {σ : St} {δ : Dy} {mo : Nat} {S : Sto}
theorem vaM_form (hG : GS S) {t : Int} (ht : tm (s_nv S) t) : (vaM S t = 100 ∧ 400 ≤ t ∧ form S t = 400 + s_cl S (t - 400) ∧ (0 ≤ s_cl S (t - 400) ∧ s_cl S (t - 400) < s_nv S)) ∨ (form S t = vaM S t ∧ -99 ≤ vaM S t ∧ vaM S t ≤ 99) := by
  obtain ⟨⟨g1, g2, g3, g4⟩, g5, g6, g7, g8, g9⟩ := hG
  unfold tm at ht
  unfold vaM form
  by_cases c : t < 400
  · rw [if_pos c, if_pos (by omega)]
    omega
  · have h5 := g5 (t - 400) (by omega) (by omega)
    have h6 := g6 _ h5.1 h5.2
    rw [if_neg c, if_neg (by omega), if_pos (by omega)]
    by_cases h : s_va S (s_cl S (t - 400)) = 100
    · rw [if_pos h]
      exact Or.inl ⟨h, by omega, rfl, h5⟩
    · rw [if_neg h]
      exact Or.inr ⟨rfl, by omega, by omega⟩
theorem m_cl (hK : KM σ mo) (hR : RSm δ mo S) (hG : GS S) {v z : Int} (v0 : 0 ≤ v) (v1 : v < s_nv S) (hz : z = 1 + v) : rI σ δ (mo + 1) (ii z) = some (ii (s_cl S v)) := by
  subst hz
  have := hG.1
  exact rst (md0 hK) (by omega) (by omega) rfl (hR.2.1 v v0 v1)
theorem m_va (hK : KM σ mo) (hR : RSm δ mo S) (hG : GS S) {v z : Int} (v0 : 0 ≤ v) (v1 : v < s_nv S) (hz : z = 61 + v) : rI σ δ (mo + 1) (ii z) = some (ii (s_va S v)) := by
  subst hz
  have := hG.1
  exact rst (md0 hK) (by omega) (by omega) rfl (hR.2.2.1 v v0 v1)
theorem m_valueOf (hK : KM σ mo) (hR : RSm δ mo S) (hG : GS S) {t : Int} (ht : tm (s_nv S) t) : m_X12_valueOf σ mo (ii t) δ = some (ii (vaM S t)) := by
  have gn := hG.1
  have hr := tm_rng ht gn.2.1
  unfold m_X12_valueOf vaM
  by_cases c : t < 400
  · rw [if_pos c]
    simp (disch := omega) only [ii_lit, ii_lt, if_pos]
  · rw [if_neg c]
    have hv : 0 ≤ t - 400 ∧ t - 400 < s_nv S := by unfold tm at ht; omega
    have h5 := hG.2.1 _ hv.1 hv.2
    have e1 := m_cl (δ := δ) hK hR hG hv.1 hv.2 (z := 1 + t - 400) (by omega)
    have e2 := m_va (δ := δ) hK hR hG h5.1 h5.2 (z := 61 + s_cl S (t - 400)) rfl
    simp (disch := omega) only [ii_lit, ii_lt, if_neg, mg0 hK, ob_some, ii_add, ii_sub, e1, e2]
theorem m_areEqual (hK : KM σ mo) (hR : RSm δ mo S) (hG : GS S) {a b : Int} (ha : tm (s_nv S) a) (hb : tm (s_nv S) b) : m_X12_areEqual σ mo (ii a) (ii b) δ = some (bi (decide (form S a = form S b))) := by
  have gn := hG.1
  have ea := m_valueOf hK hR hG ha
  have eb := m_valueOf hK hR hG hb
  have ra := tm_rng ha gn.2.1
  have rb := tm_rng hb gn.2.1
  unfold m_X12_areEqual
  rcases vaM_form hG ha with ⟨h1, h2, h3, h4⟩ | ⟨h1, h2, h3⟩
  · by_cases c : b < 400
    · rw [decide_eq_false (by
        rcases vaM_form hG hb with ⟨k1, k2, -⟩ | ⟨k1, k2, k3⟩
        · omega
        · omega)]
      simp (disch := omega) only [ii_lit, chk_ko hK.1, ob_some, ea, h1, ↓reduceIte, ii_lt, if_pos, bi_f]
    · have hva : 0 ≤ a - 400 ∧ a - 400 < s_nv S := by unfold tm at ha; omega
      have hvb : 0 ≤ b - 400 ∧ b - 400 < s_nv S := by unfold tm at hb; omega
      have h5 := hG.2.1 _ hvb.1 hvb.2
      have e1 := m_cl (δ := δ) hK hR hG hva.1 hva.2 (z := 1 + a - 400) (by omega)
      have e2 := m_cl (δ := δ) hK hR hG hvb.1 hvb.2 (z := 1 + b - 400) (by omega)
      -- b's class has a value just when a's has
      have key : decide (form S a = form S b) = decide (s_cl S (a - 400) = s_cl S (b - 400)) := by
        refine decide_eq_decide.mpr ⟨fun h => ?_, fun h => ?_⟩
        · rcases vaM_form hG hb with ⟨k1, k2, k3, k4⟩ | ⟨k1, k2, k3⟩
          · omega
          · omega
        · rcases vaM_form hG hb with ⟨k1, k2, k3, k4⟩ | ⟨k1, k2, k3⟩
          · omega
          · exfalso
            have e3 : vaM S a = vaM S b := by
              unfold vaM
              rw [if_neg (by omega), if_neg (by omega), h]
            omega
      rw [key]
      by_cases hc : s_cl S (a - 400) = s_cl S (b - 400)
      · rw [decide_eq_true hc]
        simp (disch := omega) only [ii_lit, chk_ko hK.1, ob_some, ea, h1, ↓reduceIte, ii_lt, if_neg, mg0 hK, ii_add, ii_sub, e1, e2, hc, bi_t]
      · rw [decide_eq_false hc]
        simp (disch := omega) only [ii_lit, chk_ko hK.1, ob_some, ea, h1, ↓reduceIte, ii_lt, if_neg, mg0 hK, ii_add, ii_sub, e1, e2, ii_eq, bi_f]
  · have hne : ¬ vaM S a = 100 := by omega
    have hvb : -1000 ≤ vaM S b ∧ vaM S b ≤ 1000 := by
      rcases vaM_form hG hb with ⟨k1, -⟩ | ⟨-, k2, k3⟩ <;> omega
    have key : decide (form S a = form S b) = decide (vaM S a = vaM S b) := by
      refine decide_eq_decide.mpr ⟨fun h => ?_, fun h => ?_⟩
      · rcases vaM_form hG hb with ⟨k1, k2, k3, k4⟩ | ⟨k1, k2, k3⟩ <;> omega
      · rcases vaM_form hG hb with ⟨k1, k2, k3, k4⟩ | ⟨k1, k2, k3⟩ <;> omega
    rw [key]
    by_cases hc : vaM S a = vaM S b
    · rw [decide_eq_true hc]
      have hne' : ¬ vaM S b = 100 := by omega
      simp (disch := omega) only [ii_lit, chk_ko hK.1, ob_some, ea, eb, hc, ii_eq, if_neg, ↓reduceIte, bi_t]
    · rw [decide_eq_false hc]
      simp (disch := omega) only [ii_lit, chk_ko hK.1, ob_some, ea, eb, ii_eq, if_neg, ↓reduceIte, bi_f]
theorem m_t4 (hK : KM σ mo) (hR : RSm δ mo S) (hG : GS S) {t : Int} (t0 : 0 ≤ t) (t1 : t < s_nt S) : rI σ δ (mo + 1) (ii (122 + t)) = some (ii (s_so S t)) ∧ rI σ δ (mo + 1) (ii (222 + t)) = some (ii (s_fi S t)) ∧ rI σ δ (mo + 1) (ii (322 + t)) = some (ii (s_se S t)) ∧ rI σ δ (mo + 1) (ii (422 + t)) = some (bi (s_sd S t)) ∧ rI σ δ (mo + 1) (ii (522 + t)) = some (bi (s_la S t)) := by
  have := hG.1
  obtain ⟨r1, r2, r3, r4, r5, r6, r7, r8, r9, r10⟩ := hR
  exact ⟨rst (md0 hK) (by omega) (by omega) rfl (r5 t t0 t1), rst (md0 hK) (by omega) (by omega) rfl (r6 t t0 t1), rst (md0 hK) (by omega) (by omega) rfl (r7 t t0 t1), rst (md0 hK) (by omega) (by omega) rfl (r8 t t0 t1), rst (md0 hK) (by omega) (by omega) rfl (r9 t t0 t1)⟩
theorem m_n (hK : KM σ mo) (hR : RSm δ mo S) : rI σ δ (mo + 1) (ii 0) = some (ii (s_nv S)) ∧ rI σ δ (mo + 1) (ii 121) = some (ii (s_nt S)) := ⟨rst (md0 hK) (by omega) (by omega) rfl hR.1, rst (md0 hK) (by omega) (by omega) rfl hR.2.2.2.1⟩
theorem m_tokenOf (hK : KM σ mo) (hR : RSm δ mo S) (hG : GS S) {w a b : Int} (ha : tm (s_nv S) a) (hb : tm (s_nv S) b) (h4 : 0 ≤ w) (h5 : w ≤ 10) : m_X12_tokenOf σ mo (ii w) (ii a) (ii b) δ = some (ii (lowest S w a b)) := by
  have gn := hG.1
  obtain ⟨n1, n2⟩ := m_n hK hR
  obtain ⟨-, g5, g6, g7, g8, g9⟩ := id hG
  unfold m_X12_tokenOf m_X12_tokenOf_b3 lowest
  apply Ok_eq
  refine Ok_for (fun z s => s = ii z ∧ ∀ y, 0 ≤ y → y < z → isTok S w (form S a) (form S b) y = false) 0 (s_nt S) gn.2.2.1 (by omega) ?_ ?_ ⟨rfl, fun y _ _ => by omega⟩
  · rintro z s hz0 hz1 ⟨rfl, hno⟩
    have h7 := g7 z hz0 hz1
    obtain ⟨e1, e2, e3, e4, e5⟩ := m_t4 hK hR hG hz0 hz1
    have ef := m_areEqual hK hR hG (g8 z hz0 hz1) ha
    have es := m_areEqual hK hR hG (g9 z hz0 hz1) hb
    have hn : isTok S w (form S a) (form S b) z = false → ∀ y, 0 ≤ y → y < z + 1 → isTok S w (form S a) (form S b) y = false := fun h y y1 y2 => by
      by_cases hy : y = z
      · rw [hy]; exact h
      · exact hno y y1 (by omega)
    cases hsd : s_sd S z with
    | false =>
      rw [hsd] at e4
      exact Ok_inl (s' := ii (z + 1)) (by simp (disch := omega) only [mg0 hK, ob_some, ii_lit, n2, ii_le, if_neg, ii_add, e4, bi_f, ii_eq, m_X12_tokenOf_b85]) ⟨rfl, hn (by simp only [isTok, hsd, Bool.false_and])⟩
    | true =>
      rw [hsd] at e4
      by_cases c1 : s_so S z = w
      · by_cases c2 : form S (s_fi S z) = form S a
        · rw [decide_eq_true c2] at ef
          by_cases c3 : form S (s_se S z) = form S b
          · rw [decide_eq_true c3] at es
            refine Ok_inr (r := ii z) ?_ ?_
            · simp (disch := omega) only [mg0 hK, ob_some, ii_lit, n2, ii_le, if_neg, ii_add, e4, bi_t, ↓reduceIte, e1, c1, e2, e3, chk_ko hK.1, ef, es, ii_eq]
            · have ht : isTok S w (form S a) (form S b) z = true := by simp only [isTok, hsd, c1, c2, c3, decide_true, Bool.and_true]
              show ii z = _
              rw [fnd_hit (s_nt S).toNat 0 z hz0 (by omega) ht hno]
          · rw [decide_eq_false c3] at es
            exact Ok_inl (s' := ii (z + 1)) (by simp (disch := omega) only [mg0 hK, ob_some, ii_lit, n2, ii_le, if_neg, ii_add, e4, bi_t, bi_f, ↓reduceIte, e1, c1, e2, e3, chk_ko hK.1, ef, es, ii_eq, m_X12_tokenOf_b85]) ⟨rfl, hn (by simp only [isTok, c3, decide_false, Bool.and_false])⟩
        · rw [decide_eq_false c2] at ef
          exact Ok_inl (s' := ii (z + 1)) (by simp (disch := omega) only [mg0 hK, ob_some, ii_lit, n2, ii_le, if_neg, ii_add, e4, bi_t, bi_f, ↓reduceIte, e1, c1, e2, chk_ko hK.1, ef, ii_eq, m_X12_tokenOf_b85]) ⟨rfl, hn (by simp only [isTok, c2, decide_false, Bool.false_and, Bool.and_false])⟩
      · exact Ok_inl (s' := ii (z + 1)) (by simp (disch := omega) only [mg0 hK, ob_some, ii_lit, n2, ii_le, if_neg, ii_add, e4, bi_t, ↓reduceIte, e1, ii_eq, m_X12_tokenOf_b85]) ⟨rfl, hn (by simp only [isTok, c1, decide_false, Bool.false_and, Bool.and_false])⟩
  · rintro s ⟨rfl, hno⟩
    refine Ok_inr (r := ii (-1)) (by simp (disch := omega) only [mg0 hK, ob_some, ii_lit, ii_neg, n2, ii_le, if_pos]) ?_
    show ii (-1) = _
    rw [fnd_no _ _ (fun z z0 z1 => hno z z0 (by omega))]
theorem m_entails (hK : KM σ mo) (hR : RSm δ mo S) (hG : GS S) {c a b : Int} (ha : tm (s_nv S) a) (hb : tm (s_nv S) b) (hc : gCond c) : m_X12_entails σ mo (ii c) (ii a) (ii b) δ = some (bi (entl S c a b)) := by
  have ea := m_valueOf hK hR hG ha
  have eb := m_valueOf hK hR hG hb
  unfold m_X12_entails entl
  rcases hc with hc | hc
  · rw [if_pos (show c < 10 by omega)]
    have va := vaM_form hG ha
    have vb := vaM_form hG hb
    have hva : -1000 ≤ vaM S a ∧ vaM S a ≤ 1000 := by rcases va with ⟨k1, -⟩ | ⟨-, k2, k3⟩ <;> omega
    have hvb : -1000 ≤ vaM S b ∧ vaM S b ≤ 1000 := by rcases vb with ⟨k1, -⟩ | ⟨-, k2, k3⟩ <;> omega
    rcases (show c = 0 ∨ c = 1 ∨ c = 2 ∨ c = 3 by omega) with rfl | rfl | rfl | rfl
    · have eq := m_areEqual hK hR hG ha hb
      have hz : zo (bi (decide (form S a = form S b))) = some () := by cases decide (form S a = form S b) <;> rfl
      simp (disch := omega) only [ii_lit, ii_lt, if_pos, chk_ko hK.1, ob_some, ea, eb, eq, ↓reduceIte]
      rw [hz, ob_some]
    · rw [if_neg (show ¬ (1 : Int) = 0 by decide), if_pos (show (1 : Int) = 1 from rfl)]
      by_cases ca : vaM S a = 100
      · rw [decide_eq_false (by rcases va with ⟨k1, k2, k3, k4⟩ | ⟨k1, k2, k3⟩ <;> omega)]
        simp (disch := omega) only [ii_lit, ii_lt, if_pos, chk_ko hK.1, ob_some, ea, eb, ii_eq, if_neg, ca, ↓reduceIte, m_X12_entails_b87, m_X12_entails_b88, bi_f]
      · by_cases cb : vaM S b = 100
        · rw [decide_eq_false (by rcases vb with ⟨k1, k2, k3, k4⟩ | ⟨k1, k2, k3⟩ <;> omega)]
          simp (disch := omega) only [ii_lit, ii_lt, if_pos, chk_ko hK.1, ob_some, ea, eb, ii_eq, if_neg, cb, ↓reduceIte, m_X12_entails_b87, m_X12_entails_b88, bi_f]
        · have key : decide (form S a < 400 ∧ form S b < 400 ∧ ¬ form S a = form S b) = decide (¬ vaM S a = vaM S b) := decide_eq_decide.mpr (by
            rcases va with ⟨k1, -⟩ | ⟨k1, k2, k3⟩
            · omega
            · rcases vb with ⟨j1, -⟩ | ⟨j1, j2, j3⟩ <;> omega)
          rw [key]
          by_cases ce : vaM S a = vaM S b
          · rw [decide_eq_false (not_not_intro ce)]
            simp (disch := omega) only [ii_lit, ii_lt, if_pos, chk_ko hK.1, ob_some, ea, eb, ii_eq, if_neg, ce, ↓reduceIte, m_X12_entails_b88, bi_f]
          · rw [decide_eq_true ce]
            simp (disch := omega) only [ii_lit, ii_lt, if_pos, chk_ko hK.1, ob_some, ea, eb, ii_eq, if_neg, ↓reduceIte, m_X12_entails_b88, bi_t]
    · rw [if_neg (show ¬ (2 : Int) = 0 by decide), if_neg (show ¬ (2 : Int) = 1 by decide), if_pos (show (2 : Int) = 2 from rfl)]
      by_cases ca : vaM S a = 100
      · rw [decide_eq_false (by rcases va with ⟨k1, k2, k3, k4⟩ | ⟨k1, k2, k3⟩ <;> omega)]
        simp (disch := omega) only [ii_lit, ii_lt, if_pos, chk_ko hK.1, ob_some, ea, eb, ii_eq, if_neg, ca, ↓reduceIte, m_X12_entails_b87, m_X12_entails_b88, bi_f]
      · by_cases cb : vaM S b = 100
        · rw [decide_eq_false (by rcases vb with ⟨k1, k2, k3, k4⟩ | ⟨k1, k2, k3⟩ <;> omega)]
          simp (disch := omega) only [ii_lit, ii_lt, if_pos, chk_ko hK.1, ob_some, ea, eb, ii_eq, if_neg, cb, ↓reduceIte, m_X12_entails_b87, m_X12_entails_b88, bi_f]
        · have key : decide (form S a < 400 ∧ form S b < 400 ∧ form S a < form S b) = decide (vaM S a < vaM S b) := decide_eq_decide.mpr (by
            rcases va with ⟨k1, -⟩ | ⟨k1, k2, k3⟩
            · omega
            · rcases vb with ⟨j1, -⟩ | ⟨j1, j2, j3⟩ <;> omega)
          rw [key]
          by_cases ce : vaM S a < vaM S b
          · rw [decide_eq_true ce]
            simp (disch := omega) only [ii_lit, ii_lt, if_pos, chk_ko hK.1, ob_some, ea, eb, ii_eq, if_neg, ↓reduceIte, m_X12_entails_b88, ii_le, bi_t]
          · rw [decide_eq_false ce]
            simp (disch := omega) only [ii_lit, ii_lt, if_pos, chk_ko hK.1, ob_some, ea, eb, ii_eq, if_neg, ↓reduceIte, m_X12_entails_b88, ii_le, bi_f]
    · rw [if_neg (show ¬ (3 : Int) = 0 by decide), if_neg (show ¬ (3 : Int) = 1 by decide), if_neg (show ¬ (3 : Int) = 2 by decide)]
      have key : decide (form S a < 400) = decide (¬ vaM S a = 100) := decide_eq_decide.mpr (by rcases va with ⟨k1, k2, k3, k4⟩ | ⟨k1, k2, k3⟩ <;> omega)
      rw [key]
      by_cases ca : vaM S a = 100
      · rw [decide_eq_false (not_not_intro ca)]
        simp (disch := omega) only [ii_lit, ii_lt, if_pos, chk_ko hK.1, ob_some, ea, eb, ii_eq, if_neg, ca, ↓reduceIte, bi_f]
      · rw [decide_eq_true ca]
        simp (disch := omega) only [ii_lit, ii_lt, if_pos, chk_ko hK.1, ob_some, ea, eb, ii_eq, if_neg, ↓reduceIte, bi_t]
  · rw [if_neg (show ¬ c < 10 by omega)]
    have et := m_tokenOf hK hR hG (w := c - 10) ha hb (by omega) (by omega)
    have hfnd := fnd_spec (P := isTok S (c - 10) (form S a) (form S b)) (s_nt S).toNat 0
    have hlow : -1 ≤ lowest S (c - 10) a b ∧ lowest S (c - 10) a b ≤ 1000 := by
      have gn := hG.1
      unfold lowest
      rcases hfnd with ⟨h, -⟩ | ⟨h1, h2, -⟩ <;> omega
    generalize lowest S (c - 10) a b = t at et hlow ⊢
    by_cases ct : t = -1
    · rw [decide_eq_false (not_not_intro ct)]
      simp (disch := omega) only [ii_lit, ii_neg, ii_lt, if_neg, ii_sub, chk_ko hK.1, ob_some, et, ct, ↓reduceIte, bi_f]
    · rw [decide_eq_true ct]
      simp (disch := omega) only [ii_lit, ii_neg, ii_lt, if_neg, ii_sub, chk_ko hK.1, ob_some, et, ii_eq, bi_t]
end
