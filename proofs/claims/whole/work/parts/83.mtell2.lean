/-! THE REFERENCE: tokens told; waking -/
theorem B32_or {c c' : Nat → Int32} {f : Nat → Bool} (h : B32 c f) {z : Int} (z0 : 0 ≤ z) (z1 : z < 128) {v : Int32} (hv : v = (1 : Int32) <<< ((ii (z % 32)) &&& 31)) (h1 : c' (z / 32).toNat = c (z / 32).toNat ||| v) (h2 : ∀ k, ¬ k = (z / 32).toNat → c' k = c k) : B32 c' (fun k => f k || decide (k = z.toNat)) := by
  intro k t hk ht
  by_cases hkz : k = (z / 32).toNat
  · subst hkz
    rw [h1, Int32.toBitVec_or, BitVec.getLsbD_or, h _ t hk ht, hv, bit_32 (by omega) (by omega) t ht]
    by_cases h3 : t = (z % 32).toNat
    · rw [decide_eq_true h3]
      dsimp only
      rw [decide_eq_true (show 32 * (z / 32).toNat + t = z.toNat by omega)]
    · rw [decide_eq_false h3]
      dsimp only
      rw [decide_eq_false (show ¬ 32 * (z / 32).toNat + t = z.toNat by omega)]
  · rw [h2 k hkz, h k t hk ht]
    dsimp only
    rw [decide_eq_false (show ¬ 32 * k + t = z.toNat by omega), Bool.or_false]
theorem B32_cg {c : Nat → Int32} {f g : Nat → Bool} (h : B32 c f) (e : ∀ k, k < 128 → f k = g k) : B32 c g := fun k t hk ht => (h k t hk ht).trans (e _ (by omega))
theorem B32_eq {c c' : Nat → Int32} {f : Nat → Bool} (h : B32 c f) (e : ∀ k, k < 4 → c' k = c k) : B32 c' f := fun k t hk ht => by rw [e k hk]; exact h k t hk ht
theorem B32_zero : B32 (fun _ => ii 0) (fun _ => false) := by
  intro k t hk ht
  show (0#32).getLsbD t = false
  simp
section
variable {σ : St} {δ : Dy} {mo : Nat} {S : Sto} {V : Vw} {Rs : Int → Rl}
theorem m_tellTok (hK : KM σ mo) (hR : RVm δ mo Rs V) (hG : GS (v_S V)) (hl : (v_fr V).length ≤ 183) (hh : (v_hi V).length ≤ 2000) {so a b : Int} {la : Bool} {sl : Nat → Bool} (hb : B32 (fun k => δ.1 (mo + 30) k) sl) : Ok (m_X12_tellToken σ mo (ii so) (ii a) (ii b) (bi la) δ) (fun d => RVm d mo Rs (tellTok V so a b la sl) ∧ FM mo δ d) := by
  obtain ⟨hS, ⟨f1, f2, f3⟩, hfr, hhi, hfi⟩ := hR
  have gn := hG.1
  obtain ⟨n1, n2⟩ := m_n hK hS
  unfold m_X12_tellToken tellTok
  by_cases hn : s_nt (v_S V) = 100
  · rw [if_pos hn]
    have epz : pZ σ δ 12 mo 35 (ii 1) = some (u2 δ.1 mo 35 (ii 1), δ.2) := pZ_ko hK.1 (Or.inr rfl)
    have hF : Fr (fun r => r = mo) δ (u2 δ.1 mo 35 (ii 1), δ.2) := Fr_u2 rfl
    refine ⟨(u2 δ.1 mo 35 (ii 1), δ.2), by simp (disch := omega) only [mg0 hK, ob_some, ii_lit, n2, hn, ↓reduceIte, epz], ⟨RSm_eq hS hG (fun k _ => by rw [(hF _ (by omega)).1]), ⟨?_, ?_, ?_⟩, RMfr_eq hfr (fun k _ => by rw [(hF _ (by omega)).1]), RMh_eq hhi (fun k _ _ => by rw [(hF _ (by omega)).1]) hh, fun w hw => by rw [(hF _ (by omega)).1]; exact hfi w hw⟩, fun r hr => hF r (by omega), fun k hk => ?_, fun k _ => by rw [(hF _ (by omega)).1]⟩
    · simp (disch := omega) only [u2, if_neg]
      exact f1
    · simp only [u2, and_self, ↓reduceIte]
      rfl
    · simp (disch := omega) only [u2, if_neg]
      exact f3
    · simp (disch := omega) only [u2, if_neg]
  · rw [if_neg hn]
    obtain ⟨N, hN⟩ : ∃ N : Nat, s_nt (v_S V) = N := ⟨(s_nt (v_S V)).toNat, by omega⟩
    have hN2 : N < 100 := by omega
    obtain ⟨d5, he5, hd5, hd5r⟩ : ∃ d5 : Dy, (∀ (x : Int32), x = bi la → (wI σ (u2 (u2 (u2 (u2 δ.1 (mo + 1) (122 + (N : Int)).toNat (ii so)) (mo + 1) (222 + (N : Int)).toNat (ii a)) (mo + 1) (322 + (N : Int)).toNat (ii b)) (mo + 1) (422 + (N : Int)).toNat (ii 1), δ.2) (mo + 1) (ii (522 + (N : Int))) x) = some d5) ∧ (∀ k, d5.1 (mo + 1) k = if k = 522 + N then bi la else if k = 422 + N then ii 1 else if k = 322 + N then ii b else if k = 222 + N then ii a else if k = 122 + N then ii so else δ.1 (mo + 1) k) ∧ Fr (fun r => r = mo + 1) δ d5 := by
      refine ⟨(u2 (u2 (u2 (u2 (u2 δ.1 (mo + 1) (122 + (N : Int)).toNat (ii so)) (mo + 1) (222 + (N : Int)).toNat (ii a)) (mo + 1) (322 + (N : Int)).toNat (ii b)) (mo + 1) (422 + (N : Int)).toNat (ii 1)) (mo + 1) (522 + (N : Int)).toNat (bi la), δ.2), fun x hx => by rw [hx, wI_kd (md0 hK) (by omega) (by omega)], fun k => ?_, fun r hr => ⟨by simp (disch := omega) only [u2_ne], rfl⟩⟩
      rw [show (522 + (N : Int)).toNat = 522 + N by omega, show (422 + (N : Int)).toNat = 422 + N by omega, show (322 + (N : Int)).toNat = 322 + N by omega, show (222 + (N : Int)).toNat = 222 + N by omega, show (122 + (N : Int)).toNat = 122 + N by omega]
      simp only [u2, true_and]
    have loop : Ok (m_X12_tellToken_b93 σ mo (ii N) (ii 0) d5) (fun d => RVm d mo Rs (addtok (v_S V) so a b la sl, .inl (s_nt (v_S V), 0) :: v_fr V, v_hi V, v_fi V, v_ac V, v_fl V) ∧ FM mo δ d) := by
      unfold m_X12_tellToken_b93
      refine Ok_for (fun z s => s.1 = ii z ∧ (∀ k : Nat, s.2.1 (mo + 1) k = if 622 + 4 * N ≤ k ∧ (k : Int) < 622 + 4 * N + z then δ.1 (mo + 30) (k - 622 - 4 * N) else d5.1 (mo + 1) k) ∧ Fr (fun r => r = mo + 1) δ s.2) 0 4 (by omega) (by omega) ?_ ?_ ⟨rfl, fun k => by rw [if_neg (by omega)], hd5r⟩
      · rintro z ⟨s1, d⟩ z0 z1 ⟨hs, hk, hF⟩
        dsimp only at hs hk hF ⊢
        subst hs
        refine Ok_inl (s' := (ii (z + 1), (u2 d.1 (mo + 1) (622 + 4 * (N : Int) + z).toNat (δ.1 (mo + 30) z.toNat), d.2))) ?_ ⟨rfl, fun k => ?_, hF.tr (Fr_u2 rfl)⟩
        · have e30 : d.1 (mo + 30) z.toNat = δ.1 (mo + 30) z.toNat := by rw [(hF _ (by omega)).1]
          simp (disch := omega) only [ii_lit, ii_le, if_neg, mg0 hK, mg39 hK, ob_some, rI_kd (md39 hK), e30, ii_mul, ii_add, wI_kd (md0 hK)]
        · dsimp only
          by_cases hkz : k = (622 + 4 * (N : Int) + z).toNat
          · rw [if_pos (by omega), hkz]
            simp only [u2, and_self, ↓reduceIte]
            exact congrArg (δ.1 (mo + 30)) (by omega)
          · simp (disch := omega) only [u2, if_neg]
            rw [hk]
            by_cases h : 622 + 4 * N ≤ k ∧ (k : Int) < 622 + 4 * N + z
            · rw [if_pos h, if_pos (by omega)]
            · rw [if_neg h, if_neg (by omega)]
      · rintro ⟨s1, d⟩ ⟨hs, hk, hF⟩
        dsimp only at hs hk hF ⊢
        subst hs
        have e121 : d.1 (mo + 1) 121 = ii N := by
          rw [hk, if_neg (by omega), hd5]
          simp (disch := omega) only [if_neg]
          rw [hS.2.2.2.1, hN]
        have r121 : rI σ d (mo + 1) (ii 121) = some (ii N) := rst (md0 hK) (by omega) (by omega) rfl e121
        have hF2 : Fr (fun r => r = mo + 1) δ (u2 d.1 (mo + 1) (121 : Int).toNat (ii ((N : Int) + 1)), d.2) := hF.tr (Fr_u2 rfl)
        obtain ⟨D, eD, p1, p2, p3, p4⟩ := m_pushActive (δ := (u2 d.1 (mo + 1) (121 : Int).toNat (ii ((N : Int) + 1)), d.2)) hK (n := (v_fr V).length) (by omega) (by rw [(hF2 mo (by omega)).1]; exact f3) (t := (N : Int))
        have hst : ∀ k : Nat, D.1 (mo + 1) k = if k = 121 then ii ((N : Int) + 1) else if 622 + 4 * N ≤ k ∧ k < 622 + 4 * N + 4 then δ.1 (mo + 30) (k - 622 - 4 * N) else if k = 522 + N then bi la else if k = 422 + N then ii 1 else if k = 322 + N then ii b else if k = 222 + N then ii a else if k = 122 + N then ii so else δ.1 (mo + 1) k := by
          intro k
          rw [(p4 (mo + 1) (by omega)).1]
          show u2 d.1 (mo + 1) 121 (ii ((N : Int) + 1)) (mo + 1) k = _
          by_cases h1 : k = 121
          · rw [if_pos h1, h1]
            simp only [u2, and_self, ↓reduceIte]
          · rw [if_neg h1]
            simp (disch := omega) only [u2, if_neg]
            rw [hk]
            by_cases h : 622 + 4 * N ≤ k ∧ k < 622 + 4 * N + 4
            · rw [if_pos h, if_pos (by omega)]
            · rw [if_neg h, if_neg (by omega), hd5]
        have hfr28 : ∀ k, ¬ (12 * (v_fr V).length ≤ k ∧ k < 12 * (v_fr V).length + 12) → D.1 (mo + 28) k = δ.1 (mo + 28) k := by
          intro k hk2
          rw [p1, if_neg (by omega), if_neg hk2, (hF2 (mo + 28) (by omega)).1]
        refine Ok_inr (r := D) ?_ ⟨⟨?_, ⟨?_, ?_, ?_⟩, ⟨⟨?_, ?_, 0, 0, 0, rfl, ⟨by omega, by omega, by omega, by omega, by omega, Or.inl rfl⟩, ?_, ?_, ?_⟩, RMfr_eq hfr (fun k hk2 => hfr28 k (by omega))⟩, ?_, fun w hw => ?_⟩, fun r hr => ?_, fun k hk2 => ?_, fun k hk2 => ?_⟩
        · simp (disch := omega) only [ii_lit, ii_le, if_pos, mg0 hK, ob_some, r121, ii_add, wI_kd (md0 hK), chk_ko hK.1, eD]
        · obtain ⟨r1, r2, r3, r4, r5, r6, r7, r8, r9, r10⟩ := hS
          refine ⟨?_, fun v v0 v1 => ?_, fun v v0 v1 => ?_, ?_, fun v v0 v1 => ?_, fun v v0 v1 => ?_, fun v v0 v1 => ?_, fun v v0 v1 => ?_, fun v v0 v1 => ?_, fun t t0 t1 k s hk2 hs => ?_⟩
          · rw [hst]; simp (disch := omega) only [if_neg]; exact r1
          · have v1' : v < s_nv (v_S V) := v1
            rw [hst]; simp (disch := omega) only [if_neg]; exact r2 v v0 v1
          · have v1' : v < s_nv (v_S V) := v1
            rw [hst]; simp (disch := omega) only [if_neg]; exact r3 v v0 v1
          · rw [hst, if_pos rfl]
            show _ = ii (s_nt (v_S V) + 1)
            rw [hN]
          · have v1' : v < s_nt (v_S V) + 1 := v1
            show _ = ii (upf (s_so (v_S V)) (s_nt (v_S V)) so v)
            unfold upf
            rw [hst]
            by_cases hv : v = s_nt (v_S V)
            · rw [if_pos hv]; simp (disch := omega) only [if_neg, if_pos]
            · rw [if_neg hv]; simp (disch := omega) only [if_neg]; exact r5 v v0 (by omega)
          · have v1' : v < s_nt (v_S V) + 1 := v1
            show _ = ii (upf (s_fi (v_S V)) (s_nt (v_S V)) a v)
            unfold upf
            rw [hst]
            by_cases hv : v = s_nt (v_S V)
            · rw [if_pos hv]; simp (disch := omega) only [if_neg, if_pos]
            · rw [if_neg hv]; simp (disch := omega) only [if_neg]; exact r6 v v0 (by omega)
          · have v1' : v < s_nt (v_S V) + 1 := v1
            show _ = ii (upf (s_se (v_S V)) (s_nt (v_S V)) b v)
            unfold upf
            rw [hst]
            by_cases hv : v = s_nt (v_S V)
            · rw [if_pos hv]; simp (disch := omega) only [if_neg, if_pos]
            · rw [if_neg hv]; simp (disch := omega) only [if_neg]; exact r7 v v0 (by omega)
          · have v1' : v < s_nt (v_S V) + 1 := v1
            show _ = bi (upf (s_sd (v_S V)) (s_nt (v_S V)) true v)
            unfold upf
            rw [hst]
            by_cases hv : v = s_nt (v_S V)
            · rw [if_pos hv]; simp (disch := omega) only [if_neg, if_pos]; rfl
            · rw [if_neg hv]; simp (disch := omega) only [if_neg]; exact r8 v v0 (by omega)
          · have v1' : v < s_nt (v_S V) + 1 := v1
            show _ = bi (upf (s_la (v_S V)) (s_nt (v_S V)) la v)
            unfold upf
            rw [hst]
            by_cases hv : v = s_nt (v_S V)
            · rw [if_pos hv]; simp (disch := omega) only [if_neg, if_pos]
            · rw [if_neg hv]; simp (disch := omega) only [if_neg]; exact r9 v v0 (by omega)
          · have t1' : t < s_nt (v_S V) + 1 := t1
            show (D.1 (mo + 1) (622 + 4 * t + k).toNat).toBitVec.getLsbD s = upf (s_sl (v_S V)) (s_nt (v_S V)) sl t (32 * k + s)
            unfold upf
            rw [hst]
            by_cases hv : t = s_nt (v_S V)
            · rw [if_pos hv]
              simp (disch := omega) only [if_neg, if_pos]
              rw [show (622 + 4 * t + (k : Int)).toNat - 622 - 4 * N = k by omega]
              exact hb k s hk2 hs
            · rw [if_neg hv]
              simp (disch := omega) only [if_neg]
              exact r10 t t0 (by omega) k s hk2 hs
        · rw [p3 34 (by decide), (hF2 mo (by omega)).1]; exact f1
        · rw [p3 35 (by decide), (hF2 mo (by omega)).1]; exact f2
        · rw [p2]; rfl
        · rw [p1, if_neg (by omega), if_pos (by omega)]
        · rw [p1, if_pos (by omega), hN]
        · rw [p1, if_neg (by omega), if_pos (by omega)]
        · rw [p1, if_neg (by omega), if_pos (by omega)]
        · rw [p1, if_neg (by omega), if_pos (by omega)]
        · exact RMh_eq hhi (fun k h1 h2 => by rw [hst]; simp (disch := omega) only [if_neg]) hh
        · rw [hst]; simp (disch := omega) only [if_neg]; exact hfi w hw
        · exact ⟨(p4 r (by omega)).1.trans (hF2 r (by omega)).1, (p4 r (by omega)).2.trans (hF2 r (by omega)).2⟩
        · rw [p3 k (by omega), (hF2 mo (by omega)).1]
        · rw [hst]; simp (disch := omega) only [if_neg]
    obtain ⟨D, eD, hD⟩ := loop
    refine ⟨D, ?_, hD⟩
    rw [hN] at n2
    have e5' := he5 (bi la) rfl
    cases la with
    | true =>
      rw [bi_t] at e5' ⊢
      simp (disch := omega) only [mg0 hK, ob_some, ii_lit, n2, ii_eq, if_neg, ii_add, wI_kd (md0 hK), m_X12_tellToken_b89] at e5' ⊢
      rw [← eD]
      have := e5'
      simp only [Option.some.injEq] at this
      rw [this]
    | false =>
      rw [bi_f] at e5' ⊢
      simp (disch := omega) only [mg0 hK, ob_some, ii_lit, n2, ii_eq, if_neg, ↓reduceIte, ii_add, wI_kd (md0 hK), m_X12_tellToken_b89] at e5' ⊢
      rw [← eD]
      have := e5'
      simp only [Option.some.injEq] at this
      rw [this]
end
