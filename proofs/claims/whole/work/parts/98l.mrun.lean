/-! THE REFERENCE: a run begins -/
section
variable {σ : St} {δ d : Dy} {mo g n i r : Nat} {E : Ev} {W : Wo} {S : Sto} {a : Ag} {l : Lv} {ls : List Lv} {ch : Nat → Nat} {I : Iw} {st : Int}
theorem pI_ex {c k : Nat} {x : Int32} (h : KO σ r c) : ∃ d, pI σ δ c r k x = some d ∧ d.1 r k = x ∧ (∀ j, ¬ j = k → d.1 r j = δ.1 r j) ∧ Fr (fun q => q = r) δ d := ⟨_, pI_ko h, by simp only [u2, and_self, ↓reduceIte], fun j hj => by simp (disch := omega) only [u2, if_neg], Fr_u2 rfl⟩
theorem pZ_ex {c k : Nat} {x : Int32} (h : KO σ r c) (hx : x = 0 ∨ x = 1) : ∃ d, pZ σ δ c r k x = some d ∧ d.1 r k = x ∧ (∀ j, ¬ j = k → d.1 r j = δ.1 r j) ∧ Fr (fun q => q = r) δ d := ⟨_, pZ_ko h hx, by simp only [u2, and_self, ↓reduceIte], fun j hj => by simp (disch := omega) only [u2, if_neg], Fr_u2 rfl⟩
theorem wI_ex {z : Int} {k n : Nat} {x : Int32} (h : KD σ r 100 n) (h0 : 0 ≤ z) (h1 : z < n) (hz : z.toNat = k) : ∃ d, wI σ δ r (ii z) x = some d ∧ d.1 r k = x ∧ (∀ j, ¬ j = k → d.1 r j = δ.1 r j) ∧ Fr (fun q => q = r) δ d := by
  subst hz
  exact ⟨_, wI_kd h h0 h1, by simp only [u2, and_self, ↓reduceIte], fun j hj => by simp (disch := omega) only [u2, if_neg], Fr_u2 rfl⟩
def RC0 (δ : Dy) (mo : Nat) (ch : Nat → Nat) : Prop := (δ.1 mo 41 = 0 ∧ ∀ k, ch k = 0) ∨ (δ.1 mo 41 = 1 ∧ ∀ k : Nat, k < 70 → δ.1 (mo + 32) k = ii (ch k))
theorem RQm_nil {arr cnt j : Nat} (h : δ.1 cnt j = 0) : RQm δ mo arr cnt n j [] := ⟨by show 0 ≤ 400; omega, h, fun j a h => (by cases h)⟩
theorem m_runStart (hK : KM σ mo) (hR : RIm δ mo E I) (hG : GI E st I) (hh : (v_hi (i_V I)).length ≤ 1990) (hfl : v_fl (i_V I) = false) (hC : RC0 δ mo ch) {Q : Dy → Prop} (hq : ∀ d, RWm d mo (i_nx I).length E ch (startW I) → RF mo δ d → Ok (m_X12_run_b128 σ mo (1 : Int32) d) Q) : Ok (m_X12_run σ mo δ) Q := by
  obtain ⟨hS, hM, hfi, hX, h40, h41, hnx⟩ := hR
  have hn := hG.2.2.2.2.2.1
  obtain ⟨d1, e1, v1, o1, F1⟩ := pI_ex (δ := δ) (k := 33) (x := 0) hK.1
  obtain ⟨d2, e2, v2, o2, F2⟩ := pI_ex (δ := d1) (k := 34) (x := 0) hK.1
  obtain ⟨d3, e3, v3, o3, F3⟩ := pI_ex (δ := d2) (k := 44) (x := 0) hK.1
  obtain ⟨d4, e4, v4, o4, F4⟩ := pZ_ex (δ := d3) (k := 35) (x := 0) hK.1 (Or.inl rfl)
  obtain ⟨d5, e5, v5, o5, F5⟩ := pI_ex (δ := d4) (k := 37) (x := 0) hK.1
  have F15 : Fr (fun q => q = mo) δ d5 := F1.tr (F2.tr (F3.tr (F4.tr F5)))
  have r7 : rI σ d5 (mo + 1) (ii 7041) = some (ii (i_nx I).length) := rst (md0 hK) (by omega) (by omega) rfl (by rw [(F15 _ (by omega)).1]; exact h41)
  obtain ⟨d6, e6, v6, o6, F6⟩ := pI_ex (δ := d5) (k := 22) (x := ii (i_nx I).length) hK.1
  have g22 : gI σ d6 12 mo 22 = some (ii (i_nx I).length) := by rw [gI_ko hK.1, v6]
  obtain ⟨d7, e7, v7, o7, F7⟩ := wI_ex (δ := d6) (r := mo + 19) (z := 0) (k := 0) (x := ii (i_nx I).length) (md24 hK) (by omega) (by omega) rfl
  obtain ⟨d8, e8, v8, o8, F8⟩ := wI_ex (δ := d7) (r := mo + 21) (z := 0) (k := 0) (x := ii 0) (md26 hK) (by omega) (by omega) rfl
  obtain ⟨d9, e9, v9, o9, F9⟩ := wI_ex (δ := d8) (r := mo + 23) (z := 0) (k := 0) (x := ii 0) (md28 hK) (by omega) (by omega) rfl
  obtain ⟨d10, e10, v10, o10, F10⟩ := wI_ex (δ := d9) (r := mo + 25) (z := 0) (k := 0) (x := ii 0) (md30 hK) (by omega) (by omega) rfl
  have F16 : Fr (fun q => q = mo) δ d6 := F15.tr F6
  have F6a : Fr (fun q => q = mo + 19 ∨ q = mo + 21 ∨ q = mo + 23 ∨ q = mo + 25) d6 d10 := (F7.wk (fun r p => by omega)).tr ((F8.wk (fun r p => by omega)).tr ((F9.wk (fun r p => by omega)).tr (F10.wk (fun r p => by omega))))
  have m33 : d6.1 mo 33 = 0 := by rw [o6 _ (by decide), o5 _ (by decide), o4 _ (by decide), o3 _ (by decide), o2 _ (by decide)]; exact v1
  have m34 : d6.1 mo 34 = 0 := by rw [o6 _ (by decide), o5 _ (by decide), o4 _ (by decide), o3 _ (by decide)]; exact v2
  have m44 : d6.1 mo 44 = 0 := by rw [o6 _ (by decide), o5 _ (by decide), o4 _ (by decide)]; exact v3
  have m35 : d6.1 mo 35 = 0 := by rw [o6 _ (by decide), o5 _ (by decide)]; exact v4
  have m37 : d6.1 mo 37 = 0 := by rw [o6 _ (by decide)]; exact v5
  have mo6 : ∀ k, ¬ (k = 22 ∨ (33 ≤ k ∧ k ≤ 35) ∨ k = 37 ∨ k = 44) → d6.1 mo k = δ.1 mo k := fun k hk => by rw [o6 _ (by omega), o5 _ (by omega), o4 _ (by omega), o3 _ (by omega), o2 _ (by omega), o1 _ (by omega)]
  have c19 : d10.1 (mo + 19) 0 = ii (i_nx I).length := by rw [(F10 _ (by omega)).1, (F9 _ (by omega)).1, (F8 _ (by omega)).1]; exact v7
  have c21 : d10.1 (mo + 21) 0 = 0 := by rw [(F10 _ (by omega)).1, (F9 _ (by omega)).1]; exact v8
  have c23 : d10.1 (mo + 23) 0 = 0 := by rw [(F10 _ (by omega)).1]; exact v9
  have c25 : d10.1 (mo + 25) 0 = 0 := v10
  have un10 : ∀ r, ¬ (r = mo ∨ r = mo + 19 ∨ r = mo + 21 ∨ r = mo + 23 ∨ r = mo + 25) → d10.1 r = δ.1 r := fun r hr => ((F6a r (by omega)).1).trans (F16 r (by omega)).1
  have em10 : d10.1 mo = d6.1 mo := (F6a mo (by omega)).1
  have F010 : Fr (fun r => r = mo ∨ r = mo + 19 ∨ r = mo + 21 ∨ r = mo + 23 ∨ r = mo + 25) δ d10 := (F16.wk (fun r p => by omega)).tr (F6a.wk (fun r p => by omega))
  have e4' : pZ σ d3 12 mo 35 (ii 0) = some d4 := e4
  have e1' : pI σ δ 12 mo 33 (ii 0) = some d1 := e1
  have e2' : pI σ d1 12 mo 34 (ii 0) = some d2 := e2
  have e3' : pI σ d2 12 mo 44 (ii 0) = some d3 := e3
  have e5' : pI σ d4 12 mo 37 (ii 0) = some d5 := e5
  unfold m_X12_run
  rw [show ((0 : Int32)) = ii 0 from rfl, e1', ob_some, e2', ob_some, e3', ob_some, e4', ob_some, e5', ob_some, mg0 hK, ob_some, show ((7041 : Int32)) = ii 7041 from rfl, r7, ob_some, e6, ob_some, mg24 hK, ob_some, g22, ob_some, e7, ob_some, mg26 hK, ob_some, e8, ob_some, mg28 hK, ob_some, e9, ob_some, mg30 hK, ob_some, e10, ob_some]
  unfold m_X12_run_b70
  refine Ok_for (fun z s => s.1 = ii z ∧ (∀ k : Nat, (k : Int) < z → s.2.1 (mo + 17) k = δ.1 (mo + 1) (7042 + k)) ∧ Fr (fun r => r = mo + 17) d10 s.2) 0 (9 * (i_nx I).length) (by omega) (by omega) ?_ ?_ ⟨rfl, fun k hk => by omega, Fr.rf⟩
  · rintro z ⟨s1, d⟩ z0 z1 ⟨hs, hk, hF⟩
    dsimp only at hs hk hF ⊢
    subst hs
    have un : ∀ r, ¬ r = mo + 17 → d.1 r = d10.1 r := fun r hr => (hF r hr).1
    have gd : gI σ d 12 mo 22 = some (ii (i_nx I).length) := by rw [gI_ko hK.1, un _ (by omega), em10, v6]
    have x1 : rI σ d (mo + 1) (ii (7042 + z)) = some (δ.1 (mo + 1) (7042 + z.toNat)) := rst (md0 hK) (by omega) (by omega) (show (7042 + z).toNat = 7042 + z.toNat by omega) (by rw [un _ (by omega), un10 _ (by omega)])
    obtain ⟨D, eD, vD, oD, FD⟩ := wI_ex (δ := d) (r := mo + 17) (z := z) (k := z.toNat) (x := δ.1 (mo + 1) (7042 + z.toNat)) (md21 hK) z0 (by omega) rfl
    refine Ok_inl (s' := (ii (z + 1), D)) ?_ ⟨rfl, fun k hk2 => ?_, hF.tr FD⟩
    · rw [gd, ob_some, show ((9 : Int32)) = ii 9 from rfl, ii_mul, if_neg (show ¬ ii (9 * (i_nx I).length) ≤ ii z by rw [ii_le (by omega) (by omega) (by omega) (by omega)]; omega), mg21 hK, ob_some, mg0 hK, ob_some, show ((7042 : Int32)) = ii 7042 from rfl, ii_add, x1, ob_some, eD, ob_some, show ((1 : Int32)) = ii 1 from rfl, ii_add]
    · dsimp only
      by_cases c : k = z.toNat
      · rw [c]; exact vD
      · rw [oD k c]; exact hk k (by omega)
  · rintro ⟨s1, dA⟩ ⟨hs, hk, hF⟩
    dsimp only at hs hk hF ⊢
    subst hs
    have unA : ∀ r, ¬ r = mo + 17 → dA.1 r = d10.1 r := fun r hr => (hF r hr).1
    have gd : gI σ dA 12 mo 22 = some (ii (i_nx I).length) := by rw [gI_ko hK.1, unA _ (by omega), em10, v6]
    have key : Ok (m_X12_run_b105 σ mo (0 : Int32) dA) Q := by
      unfold m_X12_run_b105
      refine Ok_for (fun z s => s.1 = ii z ∧ (∀ k : Nat, (k : Int) < z → s.2.1 (mo + 18) k = ii k) ∧ Fr (fun r => r = mo + 18) dA s.2) 0 (i_nx I).length (by omega) (by omega) ?_ ?_ ⟨rfl, fun k hk => by omega, Fr.rf⟩
      · rintro z ⟨s1, d⟩ z0 z1 ⟨hs, hkq, hFq⟩
        dsimp only at hs hkq hFq ⊢
        subst hs
        have un : ∀ r, ¬ r = mo + 18 → d.1 r = dA.1 r := fun r hr => (hFq r hr).1
        have gd2 : gI σ d 12 mo 22 = some (ii (i_nx I).length) := by rw [gI_ko hK.1, un _ (by omega), unA _ (by omega), em10, v6]
        obtain ⟨D, eD, vD, oD, FD⟩ := wI_ex (δ := d) (r := mo + 18) (z := z) (k := z.toNat) (x := ii z) (md23 hK) z0 (by omega) rfl
        refine Ok_inl (s' := (ii (z + 1), D)) ?_ ⟨rfl, fun k hk2 => ?_, hFq.tr FD⟩
        · rw [gd2, ob_some, if_neg (show ¬ ii (i_nx I).length ≤ ii z by rw [ii_le (by omega) (by omega) (by omega) (by omega)]; omega), mg23 hK, ob_some, eD, ob_some, show ((1 : Int32)) = ii 1 from rfl, ii_add]
        · dsimp only
          by_cases c : k = z.toNat
          · rw [c, vD]; exact congrArg ii (by omega)
          · rw [oD k c]; exact hkq k (by omega)
      · rintro ⟨s1, d⟩ ⟨hs, hkq, hFq⟩
        dsimp only at hs hkq hFq ⊢
        subst hs
        have un : ∀ r, ¬ r = mo + 18 → d.1 r = dA.1 r := fun r hr => (hFq r hr).1
        have gd2 : gI σ d 12 mo 22 = some (ii (i_nx I).length) := by rw [gI_ko hK.1, un _ (by omega), unA _ (by omega), em10, v6]
        have u10 : ∀ r, ¬ r = mo + 17 → ¬ r = mo + 18 → d.1 r = d10.1 r := fun r h1 h2 => (un r h2).trans (unA r h1)
        have em : d.1 mo = d6.1 mo := (u10 _ (by omega) (by omega)).trans em10
        have est : d.1 (mo + 1) = δ.1 (mo + 1) := (u10 _ (by omega) (by omega)).trans (un10 _ (by omega))
        have hRF : RF mo δ d := ⟨(F010.wk (fun r p => by omega)).tr ((hF.wk (fun r p => by omega)).tr (hFq.wk (fun r p => by omega))), fun k hk2 => by rw [em]; exact mo6 k hk2, fun k _ _ => by rw [est]⟩
        have hV : RVm d mo (e_Rs E) (w_V (startW I)) := ⟨RSm_eq hS hG.1 (fun k _ => by rw [est]), ⟨by rw [em]; exact m34, by rw [em, m35]; show (0 : Int32) = bi (v_fl (i_V I)); rw [hfl]; rfl, by rw [em]; exact m37⟩, trivial, RMh_eq hM (fun k _ _ => by rw [est]) (show (v_hi (i_V I)).length ≤ 2000 by omega), fun w hw => by rw [est]; exact hfi w hw⟩
        have hQ : RQm d mo (mo + 18) (mo + 19) (i_nx I).length 0 (i_nx I) := by
          refine ⟨by omega, by rw [u10 _ (by omega) (by omega)]; exact c19, fun j a ha => ?_⟩
          have hj := (List.getElem?_eq_some_iff.mp ha).1
          have hA := hnx j a ha
          have e17 : ∀ k, k < 9 * (i_nx I).length → d.1 (mo + 17) k = δ.1 (mo + 1) (7042 + k) := fun k hk2 => by rw [un _ (by omega)]; exact hk k (by omega)
          refine ⟨j, hj, by rw [show 500 * 0 + j = j by omega]; exact hkq j (by omega), ?_, fun z hz => ?_, B32_eq hA.2.2 (fun k hk4 => ?_)⟩
          · rw [e17 _ (by omega)]; exact hA.1
          · rw [e17 _ (by omega), show 7042 + (9 * j + 1 + z) = 7042 + 9 * j + 1 + z by omega]; exact hA.2.1 z hz
          · rw [e17 _ (by omega), show 7042 + (9 * j + 5 + k) = 7042 + 9 * j + 5 + k by omega]
        have hRG : RGm d mo (i_nx I).length E (w_lv (startW I)) := by
          refine ⟨by rw [em]; exact m33, by rw [em]; exact v6, ⟨hQ, RQm_nil ?_, RQm_nil ?_, RQm_nil ?_, fun h => absurd h (by decide)⟩, trivial⟩
          · rw [u10 _ (by omega) (by omega)]; exact c21
          · rw [u10 _ (by omega) (by omega)]; exact c23
          · rw [u10 _ (by omega) (by omega)]; exact c25
        have hRC : RCm d mo ch (w_lg (startW I)) := by
          rcases hC with ⟨a1, a2⟩ | ⟨a1, a2⟩
          · exact Or.inl ⟨by rw [em, mo6 _ (by decide)]; exact a1, a2⟩
          · exact Or.inr ⟨by rw [em, mo6 _ (by decide)]; exact a1, by rw [em, m44]; rfl, fun k hk2 => by rw [u10 _ (by omega) (by omega), un10 _ (by omega)]; exact a2 k hk2, fun k x hx => (by cases hx)⟩
        obtain ⟨D, eD, hD⟩ := hq d ⟨hV, hRG, RXm_eq hX (fun k _ => by rw [est]), hRC⟩ hRF
        refine Ok_inr (r := D) ?_ hD
        rw [gd2, ob_some, if_pos (show ii (i_nx I).length ≤ ii (i_nx I).length by rw [ii_le (by omega) (by omega) (by omega) (by omega)]; omega), eD, ob_some]
    obtain ⟨D, eD, hD⟩ := key
    refine Ok_inr (r := D) ?_ hD
    rw [gd, ob_some, show ((9 : Int32)) = ii 9 from rfl, ii_mul, if_pos (show ii (9 * (i_nx I).length) ≤ ii (9 * (i_nx I).length) by rw [ii_le (by omega) (by omega) (by omega) (by omega)]; omega), eD, ob_some]
end
