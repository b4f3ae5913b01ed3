/-! THE REFERENCE: equalities told -/
section
variable {σ : St} {δ : Dy} {mo : Nat} {S : Sto} {V : Vw} {Rs : Int → Rl}
/-- one side is a value -/
theorem m_eq84 (hK : KM σ mo) (hR : RVm δ mo Rs V) (hG : GS (v_S V)) (hl : (v_fr V).length ≤ 183) (hh : (v_hi V).length ≤ 2000) {x c v : Int} (hx : 400 ≤ x ∧ x < 400 + s_nv (v_S V)) (hc : c = s_cl (v_S V) (x - 400)) (hv : -99 ≤ v ∧ v ≤ 99) {a b : Int} (hab : (a = x ∧ b = v) ∨ (a = v ∧ b = x)) : Ok (m_X12_tellEqual_b84 σ mo (ii c) (ii v) δ) (fun d => RVm d mo Rs (tellEq V a b) ∧ FM mo δ d) := by
  have gn := hG.1
  have hcr := hG.2.1 (x - 400) (by omega) (by omega)
  rw [← hc] at hcr
  have hva := hG.2.2.1 c hcr.1 hcr.2
  have e1 := m_va hK hR.1 hG hcr.1 hcr.2 (z := 61 + c) rfl
  -- the spec
  have hfv : form (v_S V) v = v := by unfold form; rw [if_pos (by omega)]
  have hfx : form (v_S V) x = if s_va (v_S V) c = 100 then 400 + c else s_va (v_S V) c := by
    unfold form
    rw [if_neg (by omega), if_pos (by omega), ← hc]
  have hrv : rootOf (v_S V) v = -1 := by unfold rootOf; rw [if_pos (by omega)]
  have hrx : rootOf (v_S V) x = c := by unfold rootOf; rw [if_neg (by omega), if_pos (by omega), ← hc]
  have hm1 : mxi c (-1) = c := by unfold mxi; rw [if_neg (by omega)]
  have hm2 : mxi (-1) c = c := by unfold mxi; rw [if_pos (by omega)]
  have hun : ∀ a b, uni (v_S V) a b = if form (v_S V) a < 400 ∧ form (v_S V) b < 400 ∧ ¬ form (v_S V) a = form (v_S V) b then (-1, true, v_S V) else if rootOf (v_S V) a = rootOf (v_S V) b then (-1, false, v_S V) else uniA (v_S V) (rootOf (v_S V) a) (rootOf (v_S V) b) (knw (form (v_S V) a) (form (v_S V) b)) := fun _ _ => rfl
  have hua1 : ∀ k, uniA (v_S V) c (-1) k = uniB (v_S V) c k := fun k => by unfold uniA; rw [if_neg (by omega), hm1]
  have hua2 : ∀ k, uniA (v_S V) (-1) c k = uniB (v_S V) c k := fun k => by unfold uniA; rw [if_neg (by omega), hm2]
  unfold m_X12_tellEqual_b84
  by_cases c1 : s_va (v_S V) c = 100
  · rw [if_pos c1] at hfx
    have hu : uni (v_S V) a b = (c, false, s_setva (v_S V) (upf (s_va (v_S V)) c v)) := by
      rcases hab with ⟨rfl, rfl⟩ | ⟨rfl, rfl⟩
      · rw [hun, hfv, hfx, hrv, hrx, if_neg (by omega), if_neg (by omega), hua1, show knw (400 + c) b = b from by unfold knw; rw [if_neg (by omega), if_pos (by omega)]]
        unfold uniB
        rw [if_pos c1]
      · rw [hun, hfv, hfx, hrv, hrx, if_neg (by omega), if_neg (by omega), hua2, show knw a (400 + c) = a from by unfold knw; rw [if_pos (by omega)]]
        unfold uniB
        rw [if_pos c1]
    have hGS : GS (s_setva (v_S V) (upf (s_va (v_S V)) c v)) := GS_setva hG (by omega) (by omega)
    have hR1 := RSm_va (v := v) hR.1 hG hcr.1 hcr.2
    have hF1 : Fr (fun r => r = mo + 1) δ (u2 δ.1 (mo + 1) (61 + c).toNat (ii v), δ.2) := Fr_u2 rfl
    obtain ⟨d, e, b1, b2, b3, b4, b5⟩ := m_againFor (δ := (u2 δ.1 (mo + 1) (61 + c).toNat (ii v), δ.2)) hK hR1 hGS hl (by rw [(hF1 mo (by omega)).1]; exact hR.2.1.2.2) hcr.1 hcr.2
    refine ⟨d, ?_, ?_⟩
    · simp (disch := omega) only [mg0 hK, ob_some, ii_lit, ii_add, e1, c1, ↓reduceIte, wI_kd (md0 hK), chk_ko hK.1, e]
    · have ht : tellEq V a b = (s_setva (v_S V) (upf (s_va (v_S V)) c v), .inr (.inl (0, wmask (s_setva (v_S V) (upf (s_va (v_S V)) c v)) c)) :: v_fr V, v_hi V, v_fi V, v_ac V, v_fl V) := by
        unfold tellEq
        rw [hu, if_neg (show ¬ c = -1 by omega), Bool.or_false]
      rw [ht]
      exact RVm_wake hR hh hR1 hGS (fun r hr => hF1 r hr) (fun k hk => by simp (disch := omega) only [u2, if_neg]) b1 b2 b3 b4 b5
  · rw [if_neg c1] at hfx
    have hfl := hR.2.1.2.1
    by_cases c2 : s_va (v_S V) c = v
    · have hu : uni (v_S V) a b = (-1, false, v_S V) := by
        rcases hab with ⟨rfl, rfl⟩ | ⟨rfl, rfl⟩
        · rw [hun, hfv, hfx, hrv, hrx, if_neg (by omega), if_neg (by omega), hua1]
          unfold uniB
          rw [if_neg c1]
        · rw [hun, hfv, hfx, hrv, hrx, if_neg (by omega), if_neg (by omega), hua2]
          unfold uniB
          rw [if_neg c1]
      have ht : tellEq V a b = (v_S V, v_fr V, v_hi V, v_fi V, v_ac V, v_fl V) := by
        unfold tellEq
        rw [hu, if_pos rfl, Bool.or_false]
      rw [ht]
      obtain ⟨q1, q2⟩ := RVm_fl hK hR hG hh (b := v_fl V)
      refine ⟨(u2 δ.1 mo 35 (bi (v_fl V)), δ.2), ?_, q1, q2⟩
      have hor : bi (v_fl V) ||| ii 0 = bi (v_fl V) := by cases v_fl V <;> decide
      have epz : pZ σ δ 12 mo 35 (bi (v_fl V)) = some (u2 δ.1 mo 35 (bi (v_fl V)), δ.2) := pZ_ko hK.1 (bi_01 _)
      simp (disch := omega) only [mg0 hK, ob_some, ii_lit, ii_add, e1, ii_eq, if_neg, gI_ko hK.1, hfl, c2, ↓reduceIte, m_X12_tellEqual_b143, hor, epz]
    · have hu : uni (v_S V) a b = (-1, true, v_S V) := by
        rcases hab with ⟨rfl, rfl⟩ | ⟨rfl, rfl⟩
        · unfold uni
          rw [hfv, hfx, if_pos (by omega)]
        · unfold uni
          rw [hfv, hfx, if_pos (by omega)]
      have ht : tellEq V a b = (v_S V, v_fr V, v_hi V, v_fi V, v_ac V, true) := by
        unfold tellEq
        rw [hu, if_pos rfl, Bool.or_true]
      rw [ht]
      obtain ⟨q1, q2⟩ := RVm_fl hK hR hG hh (b := true)
      refine ⟨(u2 δ.1 mo 35 (bi true), δ.2), ?_, q1, q2⟩
      have hor : bi (v_fl V) ||| ii 1 = bi true := by cases v_fl V <;> decide
      have epz : pZ σ δ 12 mo 35 (bi true) = some (u2 δ.1 mo 35 (bi true), δ.2) := pZ_ko hK.1 (bi_01 _)
      simp (disch := omega) only [mg0 hK, ob_some, ii_lit, ii_add, e1, ii_eq, if_neg, gI_ko hK.1, hfl, m_X12_tellEqual_b143, hor, epz]
/-- two classes become one -/
theorem m_eq283 (hK : KM σ mo) (hR : RVm δ mo Rs V) (hG : GS (v_S V)) (hl : (v_fr V).length ≤ 183) (hh : (v_hi V).length ≤ 2000) {lo hi kn : Int} (l0 : 0 ≤ lo) (l1 : lo < s_nv (v_S V)) (h0 : 0 ≤ hi) (h1 : hi < s_nv (v_S V)) (k0 : -99 ≤ kn ∧ kn ≤ 100) : Ok (m_X12_tellEqual_b283 σ mo (ii lo) (ii hi) (mo + 1) (ii (61 + lo)) (ii kn) δ) (fun d => RVm d mo Rs (joinv (v_S V) lo hi kn, .inr (.inl (0, wmask (joinv (v_S V) lo hi kn) lo)) :: v_fr V, v_hi V, v_fi V, v_ac V, v_fl V) ∧ FM mo δ d) := by
  have gn := hG.1
  obtain ⟨hS, ⟨f1, f2, f3⟩, hfr, hhi, hfi⟩ := id hR
  have hR1 := RSm_va (v := kn) hS hG l0 l1
  have hF1 : Fr (fun r => r = mo + 1) δ (u2 δ.1 (mo + 1) (61 + lo).toNat (ii kn), δ.2) := Fr_u2 rfl
  have hA1 : ∀ k, 121 ≤ k → (u2 δ.1 (mo + 1) (61 + lo).toNat (ii kn), δ.2).1 (mo + 1) k = δ.1 (mo + 1) k := fun k hk => by simp (disch := omega) only [u2, if_neg]
  have hGJ : GS (joinv (v_S V) lo hi kn) := by
    obtain ⟨-, g5, g6, g7, g8, g9⟩ := id hG
    refine ⟨gn, fun t t0 t1 => ?_, fun t t0 t1 => ?_, g7, g8, g9⟩
    · show 0 ≤ (if t < s_nv (v_S V) ∧ s_cl (v_S V) t = hi then lo else s_cl (v_S V) t) ∧ (if t < s_nv (v_S V) ∧ s_cl (v_S V) t = hi then lo else s_cl (v_S V) t) < s_nv (v_S V)
      split
      · exact ⟨l0, l1⟩
      · exact g5 t t0 t1
    · show -99 ≤ upf (s_va (v_S V)) lo kn t ∧ upf (s_va (v_S V)) lo kn t ≤ 100
      unfold upf
      split
      · exact k0
      · exact g6 t t0 t1
  unfold m_X12_tellEqual_b283
  refine Ok_bind (wI_kd (md0 hK) (by omega) (by omega)) ?_
  generalize (u2 δ.1 (mo + 1) (61 + lo).toNat (ii kn), δ.2) = d0 at hR1 hF1 hA1
  unfold m_X12_tellEqual_b287
  refine Ok_for (fun z s => s.1 = ii z ∧ RSm s.2 mo (s_setva (s_setcl (v_S V) (fun v => if v < z ∧ s_cl (v_S V) v = hi then lo else s_cl (v_S V) v)) (upf (s_va (v_S V)) lo kn)) ∧ (∀ k, 61 ≤ k → s.2.1 (mo + 1) k = d0.1 (mo + 1) k) ∧ Fr (fun r => r = mo + 1) d0 s.2) 0 (s_nv (v_S V)) gn.1 (by omega) ?_ ?_ ⟨rfl, ?_, fun _ _ => rfl, Fr.rf⟩
  · rintro z ⟨s1, d⟩ z0 z1 ⟨hs, hSd, hk, hF⟩
    dsimp only at hs hSd hk hF ⊢
    subst hs
    obtain ⟨r1, r2, r3, r4, r5, r6, r7, r8, r9, r10⟩ := id hSd
    have rn : rI σ d (mo + 1) (ii 0) = some (ii (s_nv (v_S V))) := rst (md0 hK) (by omega) (by omega) rfl r1
    have hcz := hG.2.1 z z0 z1
    have hcl : d.1 (mo + 1) (1 + z).toNat = ii (s_cl (v_S V) z) := by
      rw [r2 z z0 z1]
      show ii (if z < z ∧ s_cl (v_S V) z = hi then lo else s_cl (v_S V) z) = _
      rw [if_neg (by omega)]
    have rc : rI σ d (mo + 1) (ii (1 + z)) = some (ii (s_cl (v_S V) z)) := rst (md0 hK) (by omega) (by omega) rfl hcl
    have step : ∀ v : Int, v = (if s_cl (v_S V) z = hi then lo else s_cl (v_S V) z) → RSm (u2 d.1 (mo + 1) (1 + z).toNat (ii v), d.2) mo (s_setva (s_setcl (v_S V) (fun y => if y < z + 1 ∧ s_cl (v_S V) y = hi then lo else s_cl (v_S V) y)) (upf (s_va (v_S V)) lo kn)) ∧ (∀ k, 61 ≤ k → (u2 d.1 (mo + 1) (1 + z).toNat (ii v), d.2).1 (mo + 1) k = d0.1 (mo + 1) k) := by
      intro v hv
      have hA : ∀ k, ¬ k = (1 + z).toNat → (u2 d.1 (mo + 1) (1 + z).toNat (ii v), d.2).1 (mo + 1) k = d.1 (mo + 1) k := fun k hk => by simp (disch := omega) only [u2, if_neg]
      have hC : (u2 d.1 (mo + 1) (1 + z).toNat (ii v), d.2).1 (mo + 1) (1 + z).toNat = ii v := by simp only [u2, and_self, ↓reduceIte]
      generalize (u2 d.1 (mo + 1) (1 + z).toNat (ii v), d.2) = D at hA hC ⊢
      refine ⟨⟨by rw [hA _ (by omega)]; exact r1, fun x x0 x1 => ?_, fun x x0 x1 => ?_, by rw [hA _ (by omega)]; exact r4, fun t t0 t1 => ?_, fun t t0 t1 => ?_, fun t t0 t1 => ?_, fun t t0 t1 => ?_, fun t t0 t1 => ?_, fun t t0 t1 k s hk hs => ?_⟩, fun k hk2 => ?_⟩
      · have x1' : x < s_nv (v_S V) := x1
        show _ = ii (if x < z + 1 ∧ s_cl (v_S V) x = hi then lo else s_cl (v_S V) x)
        by_cases hx : x = z
        · rw [hx, hC, hv]
          by_cases hc : s_cl (v_S V) z = hi
          · rw [if_pos hc, if_pos ⟨by omega, hc⟩]
          · rw [if_neg hc, if_neg (fun h => hc h.2)]
        · rw [hA _ (by omega), r2 x x0 x1]
          show ii (if x < z ∧ s_cl (v_S V) x = hi then lo else s_cl (v_S V) x) = _
          by_cases hc : x < z ∧ s_cl (v_S V) x = hi
          · rw [if_pos hc, if_pos ⟨by omega, hc.2⟩]
          · rw [if_neg hc, if_neg (fun h => hc ⟨by omega, h.2⟩)]
      · have x1' : x < s_nv (v_S V) := x1
        rw [hA _ (by omega)]; exact r3 x x0 x1
      · have t1' : t < s_nt (v_S V) := t1
        rw [hA _ (by omega)]; exact r5 t t0 t1
      · have t1' : t < s_nt (v_S V) := t1
        rw [hA _ (by omega)]; exact r6 t t0 t1
      · have t1' : t < s_nt (v_S V) := t1
        rw [hA _ (by omega)]; exact r7 t t0 t1
      · have t1' : t < s_nt (v_S V) := t1
        rw [hA _ (by omega)]; exact r8 t t0 t1
      · have t1' : t < s_nt (v_S V) := t1
        rw [hA _ (by omega)]; exact r9 t t0 t1
      · have t1' : t < s_nt (v_S V) := t1
        show (D.1 (mo + 1) (622 + 4 * t + k).toNat).toBitVec.getLsbD s = _
        rw [hA _ (by omega)]; exact r10 t t0 t1 k s hk hs
      · rw [hA _ (by omega)]; exact hk k hk2
    by_cases hc : s_cl (v_S V) z = hi
    · obtain ⟨t1, t2⟩ := step lo (by rw [if_pos hc])
      refine Ok_inl (s' := (ii (z + 1), (u2 d.1 (mo + 1) (1 + z).toNat (ii lo), d.2))) ?_ ⟨rfl, t1, t2, hF.tr (Fr_u2 rfl)⟩
      simp (disch := omega) only [mg0 hK, ob_some, ii_lit, rn, ii_le, if_neg, ii_add, rc, hc, ↓reduceIte, m_X12_tellEqual_b334, wI_kd (md0 hK)]
    · obtain ⟨t1, t2⟩ := step (s_cl (v_S V) z) (by rw [if_neg hc])
      refine Ok_inl (s' := (ii (z + 1), (u2 d.1 (mo + 1) (1 + z).toNat (ii (s_cl (v_S V) z)), d.2))) ?_ ⟨rfl, t1, t2, hF.tr (Fr_u2 rfl)⟩
      simp (disch := omega) only [mg0 hK, ob_some, ii_lit, rn, ii_le, if_neg, ii_add, rc, ii_eq, m_X12_tellEqual_b334, wI_kd (md0 hK)]
  · rintro ⟨s1, d⟩ ⟨hs, hSd, hk, hF⟩
    dsimp only at hs hSd hk hF ⊢
    subst hs
    have rn : rI σ d (mo + 1) (ii 0) = some (ii (s_nv (v_S V))) := rst (md0 hK) (by omega) (by omega) rfl hSd.1
    have hSJ : RSm d mo (joinv (v_S V) lo hi kn) := hSd
    obtain ⟨D, e, b1, b2, b3, b4, b5⟩ := m_againFor hK hSJ hGJ hl (by rw [(hF mo (by omega)).1, (hF1 mo (by omega)).1]; exact f3) l0 l1
    refine Ok_inr (r := D) (by simp (disch := omega) only [mg0 hK, ob_some, ii_lit, rn, ii_le, if_pos, chk_ko hK.1, e]) ?_
    exact RVm_wake hR hh hSJ hGJ (fun r hr => ⟨(hF r hr).1.trans (hF1 r hr).1, (hF r hr).2.trans (hF1 r hr).2⟩) (fun k hk2 => by rw [hk k (by omega)]; exact hA1 k hk2) b1 b2 b3 b4 b5
  · obtain ⟨r1, r2, r3, r4, r5, r6, r7, r8, r9, r10⟩ := hR1
    refine ⟨r1, fun x x0 x1 => ?_, r3, r4, r5, r6, r7, r8, r9, r10⟩
    rw [r2 x x0 x1]
    show _ = ii (if x < 0 ∧ s_cl (v_S V) x = hi then lo else s_cl (v_S V) x)
    rw [if_neg (by omega)]
theorem m_eq232 {one oth x y : Int} (hK : KM σ mo) (o0 : 0 ≤ one) (o1 : one < 60) (p0 : 0 ≤ oth) (p1 : oth < 60) (x0 : -99 ≤ x ∧ x ≤ 100) (y0 : -99 ≤ y ∧ y ≤ 100) (hne : ¬ one = oth) : m_X12_tellEqual_b232 σ mo (ii one) (ii oth) (ii x) (ii y) δ = m_X12_tellEqual_b283 σ mo (ii (mni one oth)) (ii (mxi one oth)) (mo + 1) (ii (61 + mni one oth)) (ii (if x = 100 then y else x)) δ := by
  have g0 := mg0 hK
  clear hK
  unfold m_X12_tellEqual_b232 mni mxi
  by_cases hlt : oth < one
  · rw [if_pos hlt, if_neg (show ¬ one < oth by omega)]
    by_cases hx1 : x = 100
    · rw [if_pos hx1]
      simp (disch := omega) only [ii_lit, ii_le, if_pos, m_X12_tellEqual_b244, m_X12_tellEqual_b258, g0, ob_some, hx1, ↓reduceIte, ii_add]
    · rw [if_neg hx1]
      simp (disch := omega) only [ii_lit, ii_le, if_pos, if_neg, m_X12_tellEqual_b244, m_X12_tellEqual_b258, g0, ob_some, ii_eq, ii_add]
  · rw [if_neg hlt, if_pos (show one < oth by omega)]
    by_cases hx1 : x = 100
    · rw [if_pos hx1]
      simp (disch := omega) only [ii_lit, ii_le, if_neg, m_X12_tellEqual_b244, m_X12_tellEqual_b258, g0, ob_some, hx1, ↓reduceIte, ii_add]
    · rw [if_neg hx1]
      simp (disch := omega) only [ii_lit, ii_le, if_neg, m_X12_tellEqual_b244, m_X12_tellEqual_b258, g0, ob_some, ii_eq, ii_add]
theorem m_eq34 {a b one oth x y : Int} (hK : KM σ mo) (a0 : 400 ≤ a ∧ a < 460) (b0 : 400 ≤ b ∧ b < 460) (o0 : 0 ≤ one ∧ one < 60) (p0 : 0 ≤ oth ∧ oth < 60) (x0 : -99 ≤ x ∧ x ≤ 100) (y0 : -99 ≤ y ∧ y ≤ 100) (e1 : rI σ δ (mo + 1) (ii (1 + a - 400)) = some (ii one)) (e2 : rI σ δ (mo + 1) (ii (1 + b - 400)) = some (ii oth)) (e3 : rI σ δ (mo + 1) (ii (61 + one)) = some (ii x)) (e4 : rI σ δ (mo + 1) (ii (61 + oth)) = some (ii y)) : m_X12_tellEqual σ mo (ii a) (ii b) δ = (if one = oth then some δ else if ¬ x = 100 ∧ ¬ y = 100 ∧ ¬ x = y then some (u2 δ.1 mo 35 (bi true), δ.2) else m_X12_tellEqual_b232 σ mo (ii one) (ii oth) (ii x) (ii y) δ) := by
  have epz : pZ σ δ 12 mo 35 (ii 1) = some (u2 δ.1 mo 35 (bi true), δ.2) := pZ_ko hK.1 (Or.inr rfl)
  have g0 := mg0 hK
  clear hK
  have h34 : m_X12_tellEqual σ mo (ii a) (ii b) δ = m_X12_tellEqual_b34 σ mo (ii a) (ii b) δ := by
    unfold m_X12_tellEqual
    rw [if_pos (by rw [ii_lit, ii_le (by omega) (by omega) (by omega) (by omega)]; omega)]
  rw [h34]
  unfold m_X12_tellEqual_b34
  rw [if_neg (by rw [ii_lit, ii_lt (by omega) (by omega) (by omega) (by omega)]; omega), if_pos (by rw [ii_lit, ii_le (by omega) (by omega) (by omega) (by omega)]; omega), show ((400 : Int32)) = ii 400 from rfl, show ((61 : Int32)) = ii 61 from rfl, show ((1 : Int32)) = ii 1 from rfl, show ((100 : Int32)) = ii 100 from rfl]
  simp only [g0, ob_some, ii_add, ii_sub, e1, e2, e3, e4, epz]
  by_cases ce : one = oth
  · rw [if_pos ce, if_pos (congrArg ii ce)]
  · rw [if_neg ce, if_neg (by rw [ii_eq (by omega) (by omega) (by omega) (by omega)]; exact ce)]
    by_cases hx : x = 100
    · rw [if_pos (congrArg ii hx), if_neg (fun h => h.1 hx)]
    · rw [if_neg (by rw [ii_eq (by omega) (by omega) (by omega) (by omega)]; exact hx)]
      by_cases hy : y = 100
      · rw [if_pos (congrArg ii hy), if_neg (fun h => h.2.1 hy)]
      · rw [if_neg (by rw [ii_eq (by omega) (by omega) (by omega) (by omega)]; exact hy)]
        by_cases hxy : x = y
        · rw [if_pos (congrArg ii hxy), if_neg (fun h => h.2.2 hxy)]
        · rw [if_neg (by rw [ii_eq (by omega) (by omega) (by omega) (by omega)]; exact hxy), if_pos ⟨hx, hy, hxy⟩]
theorem m_tellEq (hK : KM σ mo) (hR : RVm δ mo Rs V) (hG : GS (v_S V)) (hl : (v_fr V).length ≤ 183) (hh : (v_hi V).length ≤ 2000) {a b : Int} (ha : tm (s_nv (v_S V)) a) (hb : tm (s_nv (v_S V)) b) : Ok (m_X12_tellEqual σ mo (ii a) (ii b) δ) (fun d => RVm d mo Rs (tellEq V a b) ∧ FM mo δ d) := by
  have gn := hG.1
  have ra := tm_rng ha gn.2.1
  have rb := tm_rng hb gn.2.1
  have hfl := hR.2.1.2.1
  unfold tm at ha hb
  have hun : uni (v_S V) a b = if form (v_S V) a < 400 ∧ form (v_S V) b < 400 ∧ ¬ form (v_S V) a = form (v_S V) b then (-1, true, v_S V) else if rootOf (v_S V) a = rootOf (v_S V) b then (-1, false, v_S V) else uniA (v_S V) (rootOf (v_S V) a) (rootOf (v_S V) b) (knw (form (v_S V) a) (form (v_S V) b)) := rfl
  by_cases ca : a < 400
  · by_cases cb : b < 400
    · -- two values
      have hfa : form (v_S V) a = a := by unfold form; rw [if_pos (by omega)]
      have hfb : form (v_S V) b = b := by unfold form; rw [if_pos (by omega)]
      have hra : rootOf (v_S V) a = -1 := by unfold rootOf; rw [if_pos (by omega)]
      have hrb : rootOf (v_S V) b = -1 := by unfold rootOf; rw [if_pos (by omega)]
      by_cases hab : a = b
      · have ht : tellEq V a b = (v_S V, v_fr V, v_hi V, v_fi V, v_ac V, v_fl V) := by
          have hu : uni (v_S V) a b = (-1, false, v_S V) := by rw [hun, hfa, hfb, hra, hrb, if_neg (show ¬ (a < 400 ∧ b < 400 ∧ ¬ a = b) by omega), if_pos rfl]
          unfold tellEq
          rw [hu, if_pos rfl, Bool.or_false]
        rw [ht]
        obtain ⟨q1, q2⟩ := RVm_fl hK hR hG hh (b := v_fl V)
        refine ⟨(u2 δ.1 mo 35 (bi (v_fl V)), δ.2), ?_, q1, q2⟩
        have hor : bi (v_fl V) ||| ii 0 = bi (v_fl V) := by cases v_fl V <;> decide
        have epz : pZ σ δ 12 mo 35 (bi (v_fl V)) = some (u2 δ.1 mo 35 (bi (v_fl V)), δ.2) := pZ_ko hK.1 (bi_01 _)
        unfold m_X12_tellEqual
        simp (disch := omega) only [ob_some, ii_lit, ii_le, if_neg, gI_ko hK.1, hfl, hab, ↓reduceIte, m_X12_tellEqual_b29, hor, epz]
      · have ht : tellEq V a b = (v_S V, v_fr V, v_hi V, v_fi V, v_ac V, true) := by
          have hu : uni (v_S V) a b = (-1, true, v_S V) := by rw [hun, hfa, hfb, if_pos (show a < 400 ∧ b < 400 ∧ ¬ a = b by omega)]
          unfold tellEq
          rw [hu, if_pos rfl, Bool.or_true]
        rw [ht]
        obtain ⟨q1, q2⟩ := RVm_fl hK hR hG hh (b := true)
        refine ⟨(u2 δ.1 mo 35 (bi true), δ.2), ?_, q1, q2⟩
        have hor : bi (v_fl V) ||| ii 1 = bi true := by cases v_fl V <;> decide
        have epz : pZ σ δ 12 mo 35 (bi true) = some (u2 δ.1 mo 35 (bi true), δ.2) := pZ_ko hK.1 (bi_01 _)
        unfold m_X12_tellEqual
        simp (disch := omega) only [ob_some, ii_lit, ii_le, if_neg, gI_ko hK.1, hfl, ii_eq, m_X12_tellEqual_b29, hor, epz]
    · have hv : 0 ≤ b - 400 ∧ b - 400 < s_nv (v_S V) := by omega
      obtain ⟨D, eD, hD⟩ := m_eq84 hK hR hG hl hh (x := b) (c := s_cl (v_S V) (b - 400)) (v := a) (by omega) rfl (by omega) (a := a) (b := b) (Or.inr ⟨rfl, rfl⟩)
      refine ⟨D, ?_, hD⟩
      have e1 := m_cl hK hR.1 hG hv.1 hv.2 (z := 1 + b - 400) (by omega)
      unfold m_X12_tellEqual
      simp (disch := omega) only [ii_lit, ii_le, ii_lt, if_neg, if_pos, m_X12_tellEqual_b34, m_X12_tellEqual_b48, m_X12_tellEqual_b65, mg0 hK, ob_some, ii_add, ii_sub, e1, eD]
  · have hv : 0 ≤ a - 400 ∧ a - 400 < s_nv (v_S V) := by omega
    have e1 := m_cl hK hR.1 hG hv.1 hv.2 (z := 1 + a - 400) (by omega)
    by_cases cb : b < 400
    · obtain ⟨D, eD, hD⟩ := m_eq84 hK hR hG hl hh (x := a) (c := s_cl (v_S V) (a - 400)) (v := b) (by omega) rfl (by omega) (a := a) (b := b) (Or.inl ⟨rfl, rfl⟩)
      refine ⟨D, ?_, hD⟩
      unfold m_X12_tellEqual
      simp (disch := omega) only [ii_lit, ii_le, ii_lt, if_neg, if_pos, m_X12_tellEqual_b34, m_X12_tellEqual_b48, m_X12_tellEqual_b65, mg0 hK, ob_some, ii_add, ii_sub, e1, eD]
    · have hw : 0 ≤ b - 400 ∧ b - 400 < s_nv (v_S V) := by omega
      have e2 := m_cl hK hR.1 hG hw.1 hw.2 (z := 1 + b - 400) (by omega)
      have k1 := hG.2.1 _ hv.1 hv.2
      have k2 := hG.2.1 _ hw.1 hw.2
      have hra : rootOf (v_S V) a = s_cl (v_S V) (a - 400) := by unfold rootOf; rw [if_neg (by omega), if_pos hv.2]
      have hrb : rootOf (v_S V) b = s_cl (v_S V) (b - 400) := by unfold rootOf; rw [if_neg (by omega), if_pos hw.2]
      have hfa : form (v_S V) a = if s_va (v_S V) (s_cl (v_S V) (a - 400)) = 100 then 400 + s_cl (v_S V) (a - 400) else s_va (v_S V) (s_cl (v_S V) (a - 400)) := by
        unfold form
        rw [if_neg (by omega), if_pos (by omega)]
      have hfb : form (v_S V) b = if s_va (v_S V) (s_cl (v_S V) (b - 400)) = 100 then 400 + s_cl (v_S V) (b - 400) else s_va (v_S V) (s_cl (v_S V) (b - 400)) := by
        unfold form
        rw [if_neg (by omega), if_pos (by omega)]
      have e3 := m_va hK hR.1 hG k1.1 k1.2 (z := 61 + s_cl (v_S V) (a - 400)) rfl
      have e4 := m_va hK hR.1 hG k2.1 k2.2 (z := 61 + s_cl (v_S V) (b - 400)) rfl
      have v1 := hG.2.2.1 _ k1.1 k1.2
      have v2 := hG.2.2.1 _ k2.1 k2.2
      have htq : tellEq V a b = (if (uni (v_S V) a b).1 = -1 then ((uni (v_S V) a b).2.2, v_fr V, v_hi V, v_fi V, v_ac V, v_fl V || (uni (v_S V) a b).2.1) else ((uni (v_S V) a b).2.2, .inr (.inl (0, wmask (uni (v_S V) a b).2.2 (uni (v_S V) a b).1)) :: v_fr V, v_hi V, v_fi V, v_ac V, v_fl V || (uni (v_S V) a b).2.1)) := rfl
      have h34 := m_eq34 (δ := δ) hK (a := a) (b := b) (by omega) (by omega) (by omega) (by omega) v1 v2 e1 e2 e3 e4
      generalize s_cl (v_S V) (a - 400) = one at e1 e3 k1 hra hfa v1 h34
      generalize s_cl (v_S V) (b - 400) = oth at e2 e4 k2 hrb hfb v2 h34
      by_cases ce : one = oth
      · have ht : tellEq V a b = V := by
          have hu : uni (v_S V) a b = (-1, false, v_S V) := by rw [hun, hra, hrb, if_neg (show ¬ (form (v_S V) a < 400 ∧ form (v_S V) b < 400 ∧ ¬ form (v_S V) a = form (v_S V) b) by rw [hfa, hfb, ce]; exact fun h => h.2.2 rfl), if_pos ce]
          rw [htq, hu, if_pos rfl, Bool.or_false]
        rw [ht]
        refine ⟨δ, ?_, hR, FM.rf⟩
        rw [h34, if_pos ce]
      · rw [if_neg ce] at h34
        generalize hx : s_va (v_S V) one = x at e3 hfa v1 h34
        generalize hy : s_va (v_S V) oth = y at e4 hfb v2 h34
        by_cases cf : ¬ x = 100 ∧ ¬ y = 100 ∧ ¬ x = y
        · rw [if_neg cf.1] at hfa
          rw [if_neg cf.2.1] at hfb
          have ht : tellEq V a b = (v_S V, v_fr V, v_hi V, v_fi V, v_ac V, true) := by
            have hu : uni (v_S V) a b = (-1, true, v_S V) := by rw [hun, hfa, hfb, if_pos (show x < 400 ∧ y < 400 ∧ ¬ x = y by omega)]
            rw [htq, hu, if_pos rfl, Bool.or_true]
          rw [ht]
          obtain ⟨q1, q2⟩ := RVm_fl hK hR hG hh (b := true)
          refine ⟨(u2 δ.1 mo 35 (bi true), δ.2), ?_, q1, q2⟩
          rw [h34, if_pos cf]
        · have hkn : knw (form (v_S V) a) (form (v_S V) b) = if x = 100 then y else x := by
            rw [hfa, hfb]
            unfold knw
            by_cases hx1 : x = 100
            · rw [if_pos hx1, if_pos hx1, if_neg (by omega)]
              by_cases hy1 : y = 100
              · rw [if_pos hy1, if_neg (by omega), hy1]
              · rw [if_neg hy1, if_pos (by omega)]
            · rw [if_neg hx1, if_neg hx1, if_pos (by omega)]
          have hu : uni (v_S V) a b = (mni one oth, false, joinv (v_S V) (mni one oth) (mxi one oth) (if x = 100 then y else x)) := by
            rw [hun, hra, hrb, hkn, if_neg (by
              rw [hfa, hfb]
              by_cases hx1 : x = 100
              · rw [if_pos hx1]; omega
              · by_cases hy1 : y = 100
                · rw [if_neg hx1, if_pos hy1]; omega
                · rw [if_neg hx1, if_neg hy1]; omega), if_neg ce]
            unfold uniA
            rw [if_pos (by omega)]
          have hmn : 0 ≤ mni one oth ∧ mni one oth < s_nv (v_S V) := by unfold mni; split <;> omega
          have hmx : 0 ≤ mxi one oth ∧ mxi one oth < s_nv (v_S V) := by unfold mxi; split <;> omega
          have ht : tellEq V a b = (joinv (v_S V) (mni one oth) (mxi one oth) (if x = 100 then y else x), .inr (.inl (0, wmask (joinv (v_S V) (mni one oth) (mxi one oth) (if x = 100 then y else x)) (mni one oth))) :: v_fr V, v_hi V, v_fi V, v_ac V, v_fl V) := by
            rw [htq, hu, if_neg (show ¬ mni one oth = -1 by omega), Bool.or_false]
          rw [ht]
          obtain ⟨D, eD, hD⟩ := m_eq283 hK hR hG hl hh hmn.1 hmn.2 hmx.1 hmx.2 (kn := if x = 100 then y else x) (by split <;> omega)
          refine ⟨D, ?_, hD⟩
          rw [h34, if_neg cf, m_eq232 hK k1.1 (by omega) k2.1 (by omega) v1 v2 ce, eD]
end
