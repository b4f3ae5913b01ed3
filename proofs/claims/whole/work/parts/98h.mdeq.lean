/-! THE REFERENCE: an agent goes out of a list -/
/-- only one list of level J is written -/
def LVF (arr cnt J : Nat) (δ d : Dy) : Prop := Fr (fun r => r = arr ∨ r = cnt) δ d ∧ (∀ k, ¬ (500 * J ≤ k ∧ k < 500 * J + 500) → d.1 arr k = δ.1 arr k) ∧ ∀ k, ¬ k = J → d.1 cnt k = δ.1 cnt k
theorem LVF.rf {arr cnt J : Nat} {δ : Dy} : LVF arr cnt J δ δ := ⟨Fr.rf, fun _ _ => rfl, fun _ _ => rfl⟩
theorem LVF.tr {arr cnt J : Nat} {δ d e : Dy} (h : LVF arr cnt J δ d) (k : LVF arr cnt J d e) : LVF arr cnt J δ e := ⟨h.1.tr k.1, fun i hi => (k.2.1 i hi).trans (h.2.1 i hi), fun i hi => (k.2.2 i hi).trans (h.2.2 i hi)⟩
/-- which lists there are -/
def ACm (mo arr cnt : Nat) : Prop := (arr = mo + 18 ∨ arr = mo + 20 ∨ arr = mo + 22 ∨ arr = mo + 24) ∧ cnt = arr + 1
/-- a piece of a list is shifted -/
def SHI (arr J i : Nat) (δ : Dy) (z : Int) (d : Dy) : Prop := (∀ k : Nat, d.1 arr k = if 500 * J + i ≤ k ∧ (k : Int) < 500 * J + z then δ.1 arr (k + 1) else δ.1 arr k) ∧ Fr (fun r => r = arr) δ d
section
variable {σ : St} {δ d : Dy} {mo g n n' J j arr cnt arr' cnt' i : Nat} {E : Ev} {a : Ag} {l l' : Lv} {ls : List Lv} {q q' : List Ag} {W : Wo} {ch : Nat → Nat}
theorem LVF_G (h : LVF arr cnt J δ d) (hac : ACm mo arr cnt) : GFm mo δ d := by
  unfold ACm at hac
  exact GFm_of (h.1.wk (fun r p => by omega))
theorem LVF_low (h : LVF arr cnt J δ d) (hac : ACm mo arr cnt) : LOW mo J n δ d := by
  obtain ⟨h1, h2, h3⟩ := h
  unfold ACm at hac
  have A : ∀ r k, k < 500 * J → ¬ r = cnt → d.1 r k = δ.1 r k := fun r k hk hr => by
    by_cases c : r = arr
    · rw [c]; exact h2 k (by omega)
    · rw [(h1 r (by omega)).1]
  have C : ∀ r k, k < J → ¬ r = arr → d.1 r k = δ.1 r k := fun r k hk hr => by
    by_cases c : r = cnt
    · rw [c]; exact h3 k (by omega)
    · rw [(h1 r (by omega)).1]
  exact ⟨fun k hk => ⟨A _ k hk (by omega), A _ k hk (by omega), A _ k hk (by omega), A _ k hk (by omega)⟩, fun k hk => ⟨C _ k hk (by omega), C _ k hk (by omega), C _ k hk (by omega), C _ k hk (by omega), C _ k hk (by omega)⟩, fun k _ => by rw [(h1 _ (by omega)).1], fun k _ => by rw [(h1 _ (by omega)).1]⟩
theorem LVF_RQ (h : LVF arr cnt J δ d) (hac : ACm mo arr cnt) (hac' : ACm mo arr' cnt') (hne : ¬ arr' = arr) (hq : RQm δ mo arr' cnt' n j q) : RQm d mo arr' cnt' n j q := by
  unfold ACm at hac hac'
  exact RQm_eq hq (Nat.le_refl _) (by rw [(h.1 _ (by omega)).1]) (fun k _ _ => by rw [(h.1 _ (by omega)).1]) (fun k _ => by rw [(h.1 _ (by omega)).1])
theorem LVF_RA (h : LVF arr cnt J δ d) (hac : ACm mo arr cnt) (hA : RAm δ mo g a) : RAm d mo g a := by
  unfold ACm at hac
  exact RAm_eq hA (fun k _ _ => by rw [(h.1 _ (by omega)).1])
theorem LVF_sv (h : LVF arr cnt J δ d) (hac : ACm mo arr cnt) (hs : RSvm δ mo n E j l) (hl : l'.2.2.2.2 = l.2.2.2.2) : RSvm d mo n E j l' := by
  unfold ACm at hac
  have e : ∀ r, (r = mo + 17 ∨ r = mo + 26 ∨ r = mo + 27) → d.1 r = δ.1 r := fun r hr => (h.1 _ (by omega)).1
  unfold RSvm l_sv l_hn l_ow at hs ⊢
  rw [hl]
  obtain ⟨k1, k2, k3, g, a, k4, k5, k6, k7⟩ := hs
  have k6' : RAm d mo g a := RAm_eq k6 (fun k _ _ => by rw [e _ (Or.inl rfl)])
  rw [e (mo + 27) (by omega), e (mo + 26) (by omega)]
  exact ⟨k1, k2, k3, g, a, k4, k5, k6', k7⟩
theorem RG_q (h : RGm δ mo n E (l :: ls)) (hF : LVF (mo + 18) (mo + 19) ls.length δ d) (hq : RQm d mo (mo + 18) (mo + 19) n ls.length q') : RGm d mo n E ((q', l.2) :: ls) := by
  obtain ⟨h33, h22, ⟨q1, q2, q3, q4, q5⟩, hls⟩ := h
  have ac : ACm mo (mo + 18) (mo + 19) := ⟨Or.inl rfl, rfl⟩
  have em : d.1 mo = δ.1 mo := (hF.1 mo (by omega)).1
  exact ⟨by rw [em]; exact h33, by rw [em]; exact h22, ⟨hq, LVF_RQ hF ac ⟨Or.inr (Or.inl rfl), rfl⟩ (by omega) q2, LVF_RQ hF ac ⟨Or.inr (Or.inr (Or.inl rfl)), rfl⟩ (by omega) q3, LVF_RQ hF ac ⟨Or.inr (Or.inr (Or.inr rfl)), rfl⟩ (by omega) q4, fun hj => LVF_sv hF ac (q5 hj) rfl⟩, RLsm_low hls (Nat.le_refl _) (LVF_low hF ac)⟩
theorem RG_w (h : RGm δ mo n E (l :: ls)) (hF : LVF (mo + 20) (mo + 21) ls.length δ d) (hq : RQm d mo (mo + 20) (mo + 21) n ls.length q') : RGm d mo n E ((l_q l, q', l.2.2) :: ls) := by
  obtain ⟨h33, h22, ⟨q1, q2, q3, q4, q5⟩, hls⟩ := h
  have ac : ACm mo (mo + 20) (mo + 21) := ⟨Or.inr (Or.inl rfl), rfl⟩
  have em : d.1 mo = δ.1 mo := (hF.1 mo (by omega)).1
  exact ⟨by rw [em]; exact h33, by rw [em]; exact h22, ⟨LVF_RQ hF ac ⟨Or.inl rfl, rfl⟩ (by omega) q1, hq, LVF_RQ hF ac ⟨Or.inr (Or.inr (Or.inl rfl)), rfl⟩ (by omega) q3, LVF_RQ hF ac ⟨Or.inr (Or.inr (Or.inr rfl)), rfl⟩ (by omega) q4, fun hj => LVF_sv hF ac (q5 hj) rfl⟩, RLsm_low hls (Nat.le_refl _) (LVF_low hF ac)⟩
theorem RQm_erase (h : RQm δ mo arr cnt n j q) (hi : i < q.length) (e1 : d.1 cnt j = ii ((q.length : Int) - 1)) (e2 : ∀ k : Nat, d.1 arr k = if 500 * j + i ≤ k ∧ (k : Int) < 500 * j + ((q.length : Int) - 1) then δ.1 arr (k + 1) else δ.1 arr k) (e3 : d.1 (mo + 17) = δ.1 (mo + 17)) : RQm d mo arr cnt n j (q.eraseIdx i) := by
  obtain ⟨h1, h2, h3⟩ := h
  have hlen : (q.eraseIdx i).length = q.length - 1 := List.length_eraseIdx_of_lt hi
  refine ⟨by omega, by rw [e1, hlen]; exact congrArg ii (by omega), fun t x hx => ?_⟩
  have ht := (List.getElem?_eq_some_iff.mp hx).1
  rw [List.getElem?_eraseIdx] at hx
  by_cases c : t < i
  · rw [if_pos c] at hx
    obtain ⟨g, k1, k2, k3⟩ := h3 t x hx
    exact ⟨g, k1, by rw [e2, if_neg (by omega)]; exact k2, RAm_eq k3 (fun k _ _ => by rw [e3])⟩
  · rw [if_neg c] at hx
    obtain ⟨g, k1, k2, k3⟩ := h3 (t + 1) x hx
    exact ⟨g, k1, by rw [e2, if_pos (by omega)]; exact k2, RAm_eq k3 (fun k _ _ => by rw [e3])⟩
theorem SHI_step {z : Int} (h : SHI arr J i δ z d) (z0 : (i : Int) ≤ z) : SHI arr J i δ (z + 1) (u2 d.1 arr (500 * J + z.toNat) (δ.1 arr (500 * J + z.toNat + 1)), d.2) := by
  refine ⟨fun k => ?_, h.2.tr (Fr_u2 rfl)⟩
  dsimp only
  by_cases c : k = 500 * J + z.toNat
  · rw [c, if_pos (by omega)]
    simp only [u2, and_self, ↓reduceIte]
  · simp (disch := omega) only [u2, if_neg]
    rw [h.1 k]
    by_cases c2 : 500 * J + i ≤ k ∧ (k : Int) < 500 * J + z
    · rw [if_pos c2, if_pos (by omega)]
    · rw [if_neg c2, if_neg (by omega)]
theorem m_deq51 (hK : KM σ mo) (h : RGm δ mo n E (l :: ls)) (hJ : ls.length < 4) (hi : i < (l_q l).length) (ha : (l_q l)[i]? = some a) : Ok (m_X12_dequeue_b51 σ mo (ii i) δ) (fun r => ∃ g : Nat, g < n ∧ r.1 = ii g ∧ RGm r.2 mo n E (dropQ l i :: ls) ∧ RAm r.2 mo g a ∧ GFm mo δ r.2 ∧ r.2.1 mo = δ.1 mo) := by
  have h33' : δ.1 mo 33 = ii ls.length := by rw [h.1, List.length_cons]; exact congrArg ii (by omega)
  have q1 := h.2.2.1.1
  obtain ⟨g, g1, g2, g3⟩ := q1.2.2 i a ha
  have ql := q1.1
  have r1 : rI σ δ (mo + 18) (ii (500 * ls.length + i)) = some (ii g) := rst (md23 hK) (by omega) (by omega) (by omega) g2
  have r2 : rI σ δ (mo + 19) (ii ls.length) = some (ii (l_q l).length) := rst (md24 hK) (by omega) (by omega) (by omega) q1.2.1
  have w1 : wI σ δ (mo + 19) (ii ls.length) (ii (((l_q l).length : Int) - 1)) = some (u2 δ.1 (mo + 19) ls.length (ii (((l_q l).length : Int) - 1)), δ.2) := by rw [wI_kd (md24 hK) (by omega) (by omega)]; rfl
  unfold m_X12_dequeue_b51
  rw [gI_ko hK.1, ob_some, h33', mg23 hK, ob_some, show ((500 : Int32)) = ii 500 from rfl, show ((1 : Int32)) = ii 1 from rfl, ii_mul, ii_add, r1, ob_some, mg24 hK, ob_some, ob_some, r2, ob_some, ii_sub, w1, ob_some]
  have hF0 : LVF (mo + 18) (mo + 19) ls.length δ (u2 δ.1 (mo + 19) ls.length (ii (((l_q l).length : Int) - 1)), δ.2) := ⟨Fr_u2 (Or.inr rfl), fun k _ => by dsimp only; rw [u2_ne (by omega)], fun k hk => by simp (disch := omega) only [u2, if_neg]⟩
  have e0 : (u2 δ.1 (mo + 19) ls.length (ii (((l_q l).length : Int) - 1)), δ.2).1 (mo + 19) ls.length = ii (((l_q l).length : Int) - 1) := by simp only [u2, and_self, ↓reduceIte]
  have e18 : (u2 δ.1 (mo + 19) ls.length (ii (((l_q l).length : Int) - 1)), δ.2).1 (mo + 18) = δ.1 (mo + 18) := by dsimp only; rw [u2_ne (by omega)]
  generalize (u2 δ.1 (mo + 19) ls.length (ii (((l_q l).length : Int) - 1)), δ.2) = d0 at hF0 e0 e18 ⊢
  unfold m_X12_dequeue_b85
  refine Ok_for (fun z s => s.1 = ii z ∧ SHI (mo + 18) ls.length i d0 z s.2) i (((l_q l).length : Int) - 1) (by omega) (by omega) ?_ ?_ ⟨rfl, fun k => by rw [if_neg (by omega)], Fr.rf⟩
  · rintro z ⟨s1, d⟩ z0 z1 ⟨hs, hF⟩
    dsimp only at hs hF ⊢
    subst hs
    have un : ∀ r, ¬ r = mo + 18 → d.1 r = d0.1 r := fun r hr => (hF.2 r hr).1
    have e33 : d.1 mo 33 = ii ls.length := by rw [un _ (by omega), (hF0.1 mo (by omega)).1]; exact h33'
    have x1 : rI σ d (mo + 19) (ii ls.length) = some (ii (((l_q l).length : Int) - 1)) := rst (md24 hK) (by omega) (by omega) (show ((ls.length : Int)).toNat = ls.length by omega) (by rw [un _ (by omega)]; exact e0)
    have x2 : rI σ d (mo + 18) (ii (500 * ls.length + z + 1)) = some (d0.1 (mo + 18) (500 * ls.length + z.toNat + 1)) := rst (md23 hK) (by omega) (by omega) (show (500 * (ls.length : Int) + z + 1).toNat = 500 * ls.length + z.toNat + 1 by omega) (by rw [hF.1, if_neg (by omega)])
    have x3 : wI σ d (mo + 18) (ii (500 * ls.length + z)) (d0.1 (mo + 18) (500 * ls.length + z.toNat + 1)) = some (u2 d.1 (mo + 18) (500 * ls.length + z.toNat) (d0.1 (mo + 18) (500 * ls.length + z.toNat + 1)), d.2) := by rw [wI_kd (md23 hK) (by omega) (by omega), show (500 * (ls.length : Int) + z).toNat = 500 * ls.length + z.toNat by omega]
    refine Ok_inl (s' := (ii (z + 1), (u2 d.1 (mo + 18) (500 * ls.length + z.toNat) (d0.1 (mo + 18) (500 * ls.length + z.toNat + 1)), d.2))) ?_ ⟨rfl, SHI_step hF z0⟩
    rw [mg24 hK, ob_some, gI_ko hK.1, ob_some, e33, x1, ob_some, if_neg (show ¬ ii (((l_q l).length : Int) - 1) ≤ ii z by rw [ii_le (by omega) (by omega) (by omega) (by omega)]; omega), mg23 hK, ob_some, ob_some, show ((1 : Int32)) = ii 1 from rfl, ii_add, ii_add, x2, ob_some, x3, ob_some, ii_add]
  · rintro ⟨s1, d⟩ ⟨hs, hF⟩
    dsimp only at hs hF ⊢
    subst hs
    have un : ∀ r, ¬ r = mo + 18 → d.1 r = d0.1 r := fun r hr => (hF.2 r hr).1
    have e33 : d.1 mo 33 = ii ls.length := by rw [un _ (by omega), (hF0.1 mo (by omega)).1]; exact h33'
    have x1 : rI σ d (mo + 19) (ii ls.length) = some (ii (((l_q l).length : Int) - 1)) := rst (md24 hK) (by omega) (by omega) (show ((ls.length : Int)).toNat = ls.length by omega) (by rw [un _ (by omega)]; exact e0)
    have hFd : LVF (mo + 18) (mo + 19) ls.length δ d := hF0.tr ⟨hF.2.wk (fun r p => Or.inl p), fun k hk => by rw [hF.1, if_neg (by omega)], fun k _ => by rw [un _ (by omega)]⟩
    refine Ok_inr (r := (ii g, d)) ?_ ⟨g, g1, rfl, RG_q h hFd ?_, LVF_RA hFd ⟨Or.inl rfl, rfl⟩ g3, LVF_G hFd ⟨Or.inl rfl, rfl⟩, (hFd.1 mo (by omega)).1⟩
    · rw [mg24 hK, ob_some, gI_ko hK.1, ob_some, e33, x1, ob_some, if_pos (show ii (((l_q l).length : Int) - 1) ≤ ii (((l_q l).length : Int) - 1) by rw [ii_le (by omega) (by omega) (by omega) (by omega)]; omega)]
    · exact RQm_erase q1 hi (by rw [un _ (by omega)]; exact e0) (fun k => by rw [hF.1 k, e18]) (by rw [un _ (by omega), (hF0.1 _ (by omega)).1])
theorem m_dropWait (hK : KM σ mo) (h : RGm δ mo n E (l :: ls)) (hJ : ls.length < 4) (hi : i < (l_w l).length) : Ok (m_X12_dropWait σ mo (ii i) δ) (fun d => RGm d mo n E ((l_q l, (l_w l).eraseIdx i, l.2.2) :: ls) ∧ GFm mo δ d ∧ d.1 mo = δ.1 mo ∧ d.1 (mo + 17) = δ.1 (mo + 17)) := by
  have h33' : δ.1 mo 33 = ii ls.length := by rw [h.1, List.length_cons]; exact congrArg ii (by omega)
  have q1 := h.2.2.1.2.1
  have ql := q1.1
  have r2 : rI σ δ (mo + 21) (ii ls.length) = some (ii (l_w l).length) := rst (md26 hK) (by omega) (by omega) (by omega) q1.2.1
  have w1 : wI σ δ (mo + 21) (ii ls.length) (ii (((l_w l).length : Int) - 1)) = some (u2 δ.1 (mo + 21) ls.length (ii (((l_w l).length : Int) - 1)), δ.2) := by rw [wI_kd (md26 hK) (by omega) (by omega)]; rfl
  unfold m_X12_dropWait
  rw [mg26 hK, ob_some, gI_ko hK.1, ob_some, h33', r2, ob_some, show ((1 : Int32)) = ii 1 from rfl, ii_sub, w1, ob_some]
  have hF0 : LVF (mo + 20) (mo + 21) ls.length δ (u2 δ.1 (mo + 21) ls.length (ii (((l_w l).length : Int) - 1)), δ.2) := ⟨Fr_u2 (Or.inr rfl), fun k _ => by dsimp only; rw [u2_ne (by omega)], fun k hk => by simp (disch := omega) only [u2, if_neg]⟩
  have e0 : (u2 δ.1 (mo + 21) ls.length (ii (((l_w l).length : Int) - 1)), δ.2).1 (mo + 21) ls.length = ii (((l_w l).length : Int) - 1) := by simp only [u2, and_self, ↓reduceIte]
  have e18 : (u2 δ.1 (mo + 21) ls.length (ii (((l_w l).length : Int) - 1)), δ.2).1 (mo + 20) = δ.1 (mo + 20) := by dsimp only; rw [u2_ne (by omega)]
  generalize (u2 δ.1 (mo + 21) ls.length (ii (((l_w l).length : Int) - 1)), δ.2) = d0 at hF0 e0 e18 ⊢
  unfold m_X12_dropWait_b15
  refine Ok_for (fun z s => s.1 = ii z ∧ SHI (mo + 20) ls.length i d0 z s.2) i (((l_w l).length : Int) - 1) (by omega) (by omega) ?_ ?_ ⟨rfl, fun k => by rw [if_neg (by omega)], Fr.rf⟩
  · rintro z ⟨s1, d⟩ z0 z1 ⟨hs, hF⟩
    dsimp only at hs hF ⊢
    subst hs
    have un : ∀ r, ¬ r = mo + 20 → d.1 r = d0.1 r := fun r hr => (hF.2 r hr).1
    have e33 : d.1 mo 33 = ii ls.length := by rw [un _ (by omega), (hF0.1 mo (by omega)).1]; exact h33'
    have x1 : rI σ d (mo + 21) (ii ls.length) = some (ii (((l_w l).length : Int) - 1)) := rst (md26 hK) (by omega) (by omega) (show ((ls.length : Int)).toNat = ls.length by omega) (by rw [un _ (by omega)]; exact e0)
    have x2 : rI σ d (mo + 20) (ii (500 * ls.length + z + 1)) = some (d0.1 (mo + 20) (500 * ls.length + z.toNat + 1)) := rst (md25 hK) (by omega) (by omega) (show (500 * (ls.length : Int) + z + 1).toNat = 500 * ls.length + z.toNat + 1 by omega) (by rw [hF.1, if_neg (by omega)])
    have x3 : wI σ d (mo + 20) (ii (500 * ls.length + z)) (d0.1 (mo + 20) (500 * ls.length + z.toNat + 1)) = some (u2 d.1 (mo + 20) (500 * ls.length + z.toNat) (d0.1 (mo + 20) (500 * ls.length + z.toNat + 1)), d.2) := by rw [wI_kd (md25 hK) (by omega) (by omega), show (500 * (ls.length : Int) + z).toNat = 500 * ls.length + z.toNat by omega]
    refine Ok_inl (s' := (ii (z + 1), (u2 d.1 (mo + 20) (500 * ls.length + z.toNat) (d0.1 (mo + 20) (500 * ls.length + z.toNat + 1)), d.2))) ?_ ⟨rfl, SHI_step hF z0⟩
    rw [mg26 hK, ob_some, gI_ko hK.1, ob_some, e33, x1, ob_some, if_neg (show ¬ ii (((l_w l).length : Int) - 1) ≤ ii z by rw [ii_le (by omega) (by omega) (by omega) (by omega)]; omega), mg25 hK, ob_some, ob_some, ob_some, ob_some, show ((500 : Int32)) = ii 500 from rfl, show ((1 : Int32)) = ii 1 from rfl, ii_mul, ii_add, ii_add, x2, ob_some, x3, ob_some, ii_add]
  · rintro ⟨s1, d⟩ ⟨hs, hF⟩
    dsimp only at hs hF ⊢
    subst hs
    have un : ∀ r, ¬ r = mo + 20 → d.1 r = d0.1 r := fun r hr => (hF.2 r hr).1
    have e33 : d.1 mo 33 = ii ls.length := by rw [un _ (by omega), (hF0.1 mo (by omega)).1]; exact h33'
    have x1 : rI σ d (mo + 21) (ii ls.length) = some (ii (((l_w l).length : Int) - 1)) := rst (md26 hK) (by omega) (by omega) (show ((ls.length : Int)).toNat = ls.length by omega) (by rw [un _ (by omega)]; exact e0)
    have hFd : LVF (mo + 20) (mo + 21) ls.length δ d := hF0.tr ⟨hF.2.wk (fun r p => Or.inl p), fun k hk => by rw [hF.1, if_neg (by omega)], fun k _ => by rw [un _ (by omega)]⟩
    refine Ok_inr (r := d) ?_ ⟨RG_w h hFd ?_, LVF_G hFd ⟨Or.inr (Or.inl rfl), rfl⟩, (hFd.1 mo (by omega)).1, (hFd.1 _ (by omega)).1⟩
    · rw [mg26 hK, ob_some, gI_ko hK.1, ob_some, e33, x1, ob_some, if_pos (show ii (((l_w l).length : Int) - 1) ≤ ii (((l_w l).length : Int) - 1) by rw [ii_le (by omega) (by omega) (by omega) (by omega)]; omega)]
    · exact RQm_erase q1 hi (by rw [un _ (by omega)]; exact e0) (fun k => by rw [hF.1 k, e18]) (by rw [un _ (by omega), (hF0.1 _ (by omega)).1])
/-- which agent acts, and what stands then -/
theorem m_dequeue (hK : KM σ mo) (h : RWm δ mo n E ch (w_setlv W (l :: ls))) (hG : GS (v_S (w_V W))) (hh : (v_hi (w_V W)).length ≤ 2000) (hJ : ls.length < 4) (hi : i = if ls.length = 0 then ch (w_lg W).length else 0) (hil : i < (l_q l).length) (hlg : (w_lg W).length < 70) (ha : (l_q l)[i]? = some a) : Ok (m_X12_dequeue σ mo δ) (fun r => ∃ g : Nat, g < n ∧ r.1 = ii g ∧ RWm r.2 mo n E ch (w_setlv (if ls.length = 0 then w_log W (l_q l).length else W) (dropQ l i :: ls)) ∧ RAm r.2 mo g a ∧ RF mo δ r.2) := by
  obtain ⟨hV, hRG, hRX, hRC⟩ : RVm δ mo (e_Rs E) (w_V W) ∧ RGm δ mo n E (l :: ls) ∧ RXm δ mo (w_x W) (w_pw W) (w_tk W) (w_ck W) ∧ RCm δ mo ch (w_lg W) := h
  have h33' : δ.1 mo 33 = ii ls.length := by rw [hRG.1, List.length_cons]; exact congrArg ii (by omega)
  have q1 := hRG.2.2.1.1
  have ql := q1.1
  -- where nothing is chosen
  have plain : i = 0 → (δ.1 mo 41 = 0 ∨ ¬ ls.length = 0) → (δ.1 mo 41 = 0 → ∀ k, ch k = 0) → Ok (m_X12_dequeue_b51 σ mo (0 : Int32) δ) (fun r => ∃ g : Nat, g < n ∧ r.1 = ii g ∧ RWm r.2 mo n E ch (w_setlv (if ls.length = 0 then w_log W (l_q l).length else W) (dropQ l i :: ls)) ∧ RAm r.2 mo g a ∧ RF mo δ r.2) := by
    intro hi0 hor hch
    subst hi0
    obtain ⟨r, e, g, g1, g2, g3, g4, g5, g6⟩ := m_deq51 hK hRG hJ hil ha
    refine ⟨r, e, g, g1, g2, ?_, g4, RF_G g5⟩
    have b1 := RVm_G hV hG hh g5
    have b2 := RXm_G hRX g5
    have b3 := RCm_G hRC g5
    by_cases c : ls.length = 0
    · rw [if_pos c]
      have c41 : δ.1 mo 41 = 0 := hor.resolve_right (fun h => h c)
      exact ⟨b1, g3, b2, Or.inl ⟨by rw [g6]; exact c41, hch c41⟩⟩
    · rw [if_neg c]
      exact ⟨b1, g3, b2, b3⟩
  unfold m_X12_dequeue
  rw [gI_ko hK.1, ob_some]
  rcases hRC with ⟨c41, hch⟩ | ⟨c41, c44, hch, hsz⟩
  · rw [if_pos c41]
    refine plain ?_ (Or.inl c41) (fun _ => hch)
    rw [hi]
    by_cases c : ls.length = 0
    · rw [if_pos c]; exact hch _
    · rw [if_neg c]
  · rw [if_neg (show ¬ δ.1 mo 41 = 0 by rw [c41]; decide), gI_ko hK.1, ob_some, h33']
    by_cases c : ls.length = 0
    · rw [if_pos c] at hi
      rw [if_pos (show ii (ls.length : Int) = 0 by rw [c]; rfl)]
      have r1 : rI σ δ (mo + 32) (ii (w_lg W).length) = some (ii (ch (w_lg W).length)) := rst (md42 hK) (by omega) (by omega) (by omega) (hch _ hlg)
      have r2 : rI σ δ (mo + 19) (ii 0) = some (ii (l_q l).length) := rst (md24 hK) (by omega) (by omega) rfl (by rw [← q1.2.1, c]; rfl)
      have w1 : wI σ δ (mo + 33) (ii (w_lg W).length) (ii (l_q l).length) = some (u2 δ.1 (mo + 33) (w_lg W).length (ii (l_q l).length), δ.2) := by rw [wI_kd (md43 hK) (by omega) (by omega)]; rfl
      have e44 : (u2 δ.1 (mo + 33) (w_lg W).length (ii (l_q l).length), δ.2).1 mo 44 = ii (w_lg W).length := by dsimp only; rw [u2_ne (by omega)]; exact c44
      have p1 : pI σ (u2 δ.1 (mo + 33) (w_lg W).length (ii (l_q l).length), δ.2) 12 mo 44 (ii (((w_lg W).length : Int) + 1)) = some (u2 (u2 δ.1 (mo + 33) (w_lg W).length (ii (l_q l).length)) mo 44 (ii (((w_lg W).length : Int) + 1)), δ.2) := pI_ko hK.1
      rw [mg42 hK, ob_some, gI_ko hK.1, ob_some, c44, r1, ob_some, mg43 hK, ob_some, ob_some, mg24 hK, ob_some, show ((0 : Int32)) = ii 0 from rfl, r2, ob_some, w1, ob_some, gI_ko hK.1, ob_some, e44, show ((1 : Int32)) = ii 1 from rfl, ii_add, p1, ob_some]
      have hF0 : Fr (fun r => r = mo ∨ r = mo + 33) δ (u2 (u2 δ.1 (mo + 33) (w_lg W).length (ii (l_q l).length)) mo 44 (ii (((w_lg W).length : Int) + 1)), δ.2) := (Fr_u2 (P := fun r => r = mo ∨ r = mo + 33) (Or.inr rfl)).tr (Fr_u2 (P := fun r => r = mo ∨ r = mo + 33) (δ := (u2 δ.1 (mo + 33) (w_lg W).length (ii (l_q l).length), δ.2)) (Or.inl rfl))
      have eo : ∀ k, ¬ k = 44 → (u2 (u2 δ.1 (mo + 33) (w_lg W).length (ii (l_q l).length)) mo 44 (ii (((w_lg W).length : Int) + 1)), δ.2).1 mo k = δ.1 mo k := fun k hk => by simp (disch := omega) only [u2, if_neg]
      have e44' : (u2 (u2 δ.1 (mo + 33) (w_lg W).length (ii (l_q l).length)) mo 44 (ii (((w_lg W).length : Int) + 1)), δ.2).1 mo 44 = ii (((w_lg W).length : Int) + 1) := by simp only [u2, and_self, ↓reduceIte]
      have e33 : ∀ k, (u2 (u2 δ.1 (mo + 33) (w_lg W).length (ii (l_q l).length)) mo 44 (ii (((w_lg W).length : Int) + 1)), δ.2).1 (mo + 33) k = if k = (w_lg W).length then ii (l_q l).length else δ.1 (mo + 33) k := fun k => by
        by_cases ck : k = (w_lg W).length
        · rw [if_pos ck, ck]
          simp (disch := omega) only [u2, if_neg, and_self, ↓reduceIte]
        · rw [if_neg ck]
          simp (disch := omega) only [u2, if_neg]
      generalize (u2 (u2 δ.1 (mo + 33) (w_lg W).length (ii (l_q l).length)) mo 44 (ii (((w_lg W).length : Int) + 1)), δ.2) = d at hF0 eo e44' e33 ⊢
      have un : ∀ r, ¬ (r = mo ∨ r = mo + 33) → d.1 r = δ.1 r := fun r hr => (hF0 r hr).1
      have hRGd : RGm d mo n E (l :: ls) := RGm_eq hRG (eo 33 (by decide)) (eo 22 (by decide)) (fun r _ _ => un r (by omega))
      have hRF : RF mo δ d := ⟨hF0.wk (fun r p => by omega), fun k hk => eo k (by omega), fun k _ _ => by rw [un _ (by omega)]⟩
      have hVd : RVm d mo (e_Rs E) (w_V W) := by
        obtain ⟨s1, ⟨s2, s3, s4⟩, s5, s6, s7⟩ := hV
        exact ⟨RSm_eq s1 hG (fun k _ => by rw [un _ (by omega)]), ⟨by rw [eo 34 (by decide)]; exact s2, by rw [eo 35 (by decide)]; exact s3, by rw [eo 37 (by decide)]; exact s4⟩, RMfr_eq s5 (fun k _ => by rw [un _ (by omega)]), RMh_eq s6 (fun k _ _ => by rw [un _ (by omega)]) hh, fun w hw => by rw [un _ (by omega)]; exact s7 w hw⟩
      have hXd : RXm d mo (w_x W) (w_pw W) (w_tk W) (w_ck W) := RXm_eq hRX (fun k _ => by rw [un _ (by omega)])
      rw [← hi]
      obtain ⟨r, e, g, g1, g2, g3, g4, g5, g6⟩ := m_deq51 hK hRGd hJ hil ha
      refine ⟨r, e, g, g1, g2, ?_, g4, hRF.tr (RF_G g5)⟩
      have u32 : r.2.1 (mo + 32) = δ.1 (mo + 32) := by rw [(g5.1 _ (by omega)).1, un _ (by omega)]
      have u33 : r.2.1 (mo + 33) = d.1 (mo + 33) := (g5.1 _ (by omega)).1
      rw [if_pos c]
      refine ⟨RVm_G hVd hG hh g5, g3, RXm_G hXd g5, Or.inr ⟨by rw [g6, eo 41 (by decide)]; exact c41, ?_, fun k hk => by rw [u32]; exact hch k hk, fun k x hx => ?_⟩⟩
      · rw [g6, e44']
        show ii _ = ii ((w_lg W ++ [((l_q l).length : Int)]).length : Nat)
        rw [List.length_append, List.length_singleton]
        rfl
      · have hx' : (w_lg W ++ [((l_q l).length : Int)])[k]? = some x := hx
        have hk := (List.getElem?_eq_some_iff.mp hx').1
        rw [List.length_append, List.length_singleton] at hk
        rw [u33, e33]
        by_cases ck : k < (w_lg W).length
        · rw [List.getElem?_append_left ck] at hx'
          rw [if_neg (by omega)]
          exact hsz k x hx'
        · have hk2 : k = (w_lg W).length := by omega
          rw [if_pos hk2]
          subst hk2
          rw [List.getElem?_append_right (Nat.le_refl _), Nat.sub_self] at hx'
          exact congrArg ii (Option.some.inj hx')
    · rw [if_neg c] at hi
      rw [if_neg (show ¬ ii (ls.length : Int) = 0 by rw [show ((0 : Int32)) = ii 0 from rfl, ii_eq (by omega) (by omega) (by omega) (by omega)]; omega)]
      exact plain hi (Or.inr c) (fun h => by rw [c41] at h; exact absurd h (by decide))
end
