/-! THE REFERENCE: its view; variables, frames, tokens told -/
def RMf (Rs : Int → Rl) (δ : Dy) (mo : Nat) (i : Nat) (f : Frm) : Prop := match f with
  | .inl (t, p) => δ.1 (mo + 28) (12 * i) = ii 0 ∧ δ.1 (mo + 28) (12 * i + 1) = ii t ∧ ∃ r h o : Int, p = 200 * r + 100 * h + o ∧ (0 ≤ r ∧ 0 ≤ h ∧ 100 * h + o ≤ 200 ∧ 0 ≤ o ∧ o ≤ 100 ∧ (h = 0 ∨ h ≤ l_hd (Rs r))) ∧ δ.1 (mo + 28) (12 * i + 2) = ii r ∧ δ.1 (mo + 28) (12 * i + 3) = ii h ∧ δ.1 (mo + 28) (12 * i + 4) = ii o
  | .inr (.inl (a, m)) => δ.1 (mo + 28) (12 * i) = ii 2 ∧ δ.1 (mo + 28) (12 * i + 1) = ii a ∧ B32 (fun k => δ.1 (mo + 28) (12 * i + 2 + k)) m
  | .inr (.inr (w, k, bd, sl, la)) => δ.1 (mo + 28) (12 * i) = ii 1 ∧ δ.1 (mo + 28) (12 * i + 1) = ii w ∧ δ.1 (mo + 28) (12 * i + 2) = ii k ∧ (∀ z : Nat, z < 4 → δ.1 (mo + 28) (12 * i + 3 + z) = ii (if bd z = 1000 then 300 else bd z)) ∧ B32 (fun z => δ.1 (mo + 28) (12 * i + 7 + z)) sl ∧ δ.1 (mo + 28) (12 * i + 11) = bi la
def RMfr (Rs : Int → Rl) (δ : Dy) (mo : Nat) : List Frm → Prop
  | [] => True
  | f :: fs => RMf Rs δ mo fs.length f ∧ RMfr Rs δ mo fs
def RMh (δ : Dy) (mo : Nat) (Rs : Int → Rl) (hi : Hst) : Prop := δ.1 (mo + 1) 1022 = ii hi.length ∧ ∀ (j : Nat) (e : Int × Int × Int), hi[j]? = some e → δ.1 (mo + 1) (1023 + 3 * j) = ii e.1 ∧ δ.1 (mo + 1) (1024 + 3 * j) = ii e.2.1 ∧ δ.1 (mo + 1) (1025 + 3 * j) = ii (if l_hd (Rs e.1) < 2 then -1 else e.2.2)
def RVm (δ : Dy) (mo : Nat) (Rs : Int → Rl) (V : Vw) : Prop := RSm δ mo (v_S V) ∧ (δ.1 mo 34 = ii (v_ac V) ∧ δ.1 mo 35 = bi (v_fl V) ∧ δ.1 mo 37 = ii (v_fr V).length) ∧ RMfr Rs δ mo (v_fr V) ∧ RMh δ mo Rs (v_hi V) ∧ ∀ w : Nat, w < 8 → δ.1 (mo + 1) (7023 + w) = ii (v_fi V w)
/-- what the settling writes -/
def FM (mo : Nat) (δ d : Dy) : Prop := (∀ r, ¬ (r = mo ∨ r = mo + 1 ∨ r = mo + 28 ∨ r = mo + 29 ∨ r = mo + 30) → d.1 r = δ.1 r ∧ d.2 r = δ.2 r) ∧ (∀ k, ¬ (k = 34 ∨ k = 35 ∨ k = 37) → d.1 mo k = δ.1 mo k) ∧ ∀ k, 7031 ≤ k → d.1 (mo + 1) k = δ.1 (mo + 1) k
theorem FM.rf {mo : Nat} {δ : Dy} : FM mo δ δ := ⟨fun _ _ => ⟨rfl, rfl⟩, fun _ _ => rfl, fun _ _ => rfl⟩
theorem FM.tr {mo : Nat} {δ d e : Dy} (h : FM mo δ d) (k : FM mo d e) : FM mo δ e := ⟨fun r hr => ⟨(k.1 r hr).1.trans (h.1 r hr).1, (k.1 r hr).2.trans (h.1 r hr).2⟩, fun i hi => (k.2.1 i hi).trans (h.2.1 i hi), fun i hi => (k.2.2 i hi).trans (h.2.2 i hi)⟩
theorem bit_t32 : ∀ t : Fin 32, (1 : Int32) <<< ((ii ((t : Nat) : Int)) &&& 31) = Int32.ofBitVec (1#32 <<< (t : Nat)) := by decide +kernel
theorem bit_32 {z : Int} (h0 : 0 ≤ z) (h1 : z < 32) (k : Nat) (hk : k < 32) : ((1 : Int32) <<< ((ii z) &&& 31)).toBitVec.getLsbD k = decide (k = z.toNat) := by
  have := bit_t32 ⟨z.toNat, by omega⟩
  rw [show ((⟨z.toNat, by omega⟩ : Fin 32) : Nat) = z.toNat from rfl, show ((z.toNat : Nat) : Int) = z by omega] at this
  rw [this]
  show (1#32 <<< z.toNat).getLsbD k = _
  rw [BitVec.getLsbD_shiftLeft]
  by_cases h : k = z.toNat
  · rw [decide_eq_true h, decide_eq_true hk, h]
    simp
  · rw [decide_eq_false h]
    by_cases h2 : k < z.toNat
    · simp [h2]
    · have h3 : ¬ k - z.toNat = 0 := by omega
      simp [h2, h3, BitVec.getLsbD_one]
theorem RSm_eq {δ d : Dy} {mo : Nat} {S : Sto} (h : RSm δ mo S) (hG : GS S) (e : ∀ k, k < 1022 → d.1 (mo + 1) k = δ.1 (mo + 1) k) : RSm d mo S := by
  have gn := hG.1
  obtain ⟨r1, r2, r3, r4, r5, r6, r7, r8, r9, r10⟩ := h
  refine ⟨by rw [e 0 (by omega)]; exact r1, fun v v0 v1 => by rw [e _ (by omega)]; exact r2 v v0 v1, fun v v0 v1 => by rw [e _ (by omega)]; exact r3 v v0 v1, by rw [e 121 (by omega)]; exact r4, fun v v0 v1 => by rw [e _ (by omega)]; exact r5 v v0 v1, fun v v0 v1 => by rw [e _ (by omega)]; exact r6 v v0 v1, fun v v0 v1 => by rw [e _ (by omega)]; exact r7 v v0 v1, fun v v0 v1 => by rw [e _ (by omega)]; exact r8 v v0 v1, fun v v0 v1 => by rw [e _ (by omega)]; exact r9 v v0 v1, fun t t0 t1 k s hk hs => ?_⟩
  show (d.1 (mo + 1) (622 + 4 * t + k).toNat).toBitVec.getLsbD s = _
  rw [e _ (by omega)]
  exact r10 t t0 t1 k s hk hs
theorem RMf_eq {Rs : Int → Rl} {δ d : Dy} {mo i : Nat} {f : Frm} (h : RMf Rs δ mo i f) (e : ∀ k, 12 * i ≤ k → k < 12 * i + 12 → d.1 (mo + 28) k = δ.1 (mo + 28) k) : RMf Rs d mo i f := by
  rcases f with ⟨t, p⟩ | ⟨a, m⟩ | ⟨w, k, bd, sl, la⟩
  · obtain ⟨h1, h2, r, hh, o, h3, h4, h5, h6, h7⟩ := h
    exact ⟨by rw [e _ (by omega) (by omega)]; exact h1, by rw [e _ (by omega) (by omega)]; exact h2, r, hh, o, h3, h4, by rw [e _ (by omega) (by omega)]; exact h5, by rw [e _ (by omega) (by omega)]; exact h6, by rw [e _ (by omega) (by omega)]; exact h7⟩
  · obtain ⟨h1, h2, h3⟩ := h
    refine ⟨by rw [e _ (by omega) (by omega)]; exact h1, by rw [e _ (by omega) (by omega)]; exact h2, fun k t hk ht => ?_⟩
    show (d.1 (mo + 28) (12 * i + 2 + k)).toBitVec.getLsbD t = _
    rw [e _ (by omega) (by omega)]
    exact h3 k t hk ht
  · obtain ⟨h1, h2, h3, h4, h5, h6⟩ := h
    refine ⟨by rw [e _ (by omega) (by omega)]; exact h1, by rw [e _ (by omega) (by omega)]; exact h2, by rw [e _ (by omega) (by omega)]; exact h3, fun z hz => by rw [e _ (by omega) (by omega)]; exact h4 z hz, fun k t hk ht => ?_, by rw [e _ (by omega) (by omega)]; exact h6⟩
    show (d.1 (mo + 28) (12 * i + 7 + k)).toBitVec.getLsbD t = _
    rw [e _ (by omega) (by omega)]
    exact h5 k t hk ht
theorem RMfr_eq {Rs : Int → Rl} {δ d : Dy} {mo : Nat} : ∀ {fs : List Frm}, RMfr Rs δ mo fs → (∀ k, k < 12 * fs.length → d.1 (mo + 28) k = δ.1 (mo + 28) k) → RMfr Rs d mo fs := by
  intro fs
  induction fs with
  | nil => intro _ _; trivial
  | cons f fs ih =>
    intro h e
    rw [List.length_cons] at e
    exact ⟨RMf_eq h.1 (fun k h1 h2 => e k (by omega)), ih h.2 (fun k hk => e k (by omega))⟩
theorem RMh_eq {δ d : Dy} {mo : Nat} {Rs : Int → Rl} {hi : Hst} (h : RMh δ mo Rs hi) (e : ∀ k, 1022 ≤ k → k < 7023 → d.1 (mo + 1) k = δ.1 (mo + 1) k) (hl : hi.length ≤ 2000) : RMh d mo Rs hi := by
  refine ⟨by rw [e _ (by omega) (by omega)]; exact h.1, fun j x hx => ?_⟩
  have hj := (List.getElem?_eq_some_iff.mp hx).1
  rw [e _ (by omega) (by omega), e _ (by omega) (by omega), e _ (by omega) (by omega)]
  exact h.2 j x hx
section
variable {σ : St} {δ : Dy} {mo : Nat} {S : Sto} {V : Vw} {Rs : Int → Rl}
theorem m_mkvar (hK : KM σ mo) (hR : RSm δ mo S) (hG : GS S) (hn : s_nv S < 60) : Ok (m_X12_makeVariable σ mo δ) (fun r => r.1 = ii (s_nv S) ∧ RSm r.2 mo (mkvar S) ∧ (∀ q, ¬ q = mo + 1 → r.2.1 q = δ.1 q) ∧ r.2.2 = δ.2 ∧ ∀ k, 121 ≤ k → r.2.1 (mo + 1) k = δ.1 (mo + 1) k) := by
  have gn := hG.1
  obtain ⟨n1, n2⟩ := m_n hK hR
  obtain ⟨r1, r2, r3, r4, r5, r6, r7, r8, r9, r10⟩ := id hR
  unfold m_X12_makeVariable
  have e0 : (u2 (u2 δ.1 (mo + 1) (1 + s_nv S).toNat (ii (s_nv S))) (mo + 1) (61 + s_nv S).toNat (ii 100)) (mo + 1) 0 = ii (s_nv S) := by simp (disch := omega) only [u2, if_neg]; exact r1
  have n3 : rI σ (u2 (u2 δ.1 (mo + 1) (1 + s_nv S).toNat (ii (s_nv S))) (mo + 1) (61 + s_nv S).toNat (ii 100), δ.2) (mo + 1) (ii 0) = some (ii (s_nv S)) := rst (md0 hK) (by omega) (by omega) rfl e0
  have hA : ∀ k, (u2 (u2 (u2 δ.1 (mo + 1) (1 + s_nv S).toNat (ii (s_nv S))) (mo + 1) (61 + s_nv S).toNat (ii 100)) (mo + 1) (0 : Int).toNat (ii (s_nv S + 1))) (mo + 1) k = if k = 0 then ii (s_nv S + 1) else if k = (61 + s_nv S).toNat then ii 100 else if k = (1 + s_nv S).toNat then ii (s_nv S) else δ.1 (mo + 1) k := by
    intro k
    simp only [u2, true_and, Int.toNat_zero]
  refine ⟨(ii (s_nv S), (u2 (u2 (u2 δ.1 (mo + 1) (1 + s_nv S).toNat (ii (s_nv S))) (mo + 1) (61 + s_nv S).toNat (ii 100)) (mo + 1) (0 : Int).toNat (ii (s_nv S + 1)), δ.2)), ?_, rfl, ?_, fun q hq => ?_, rfl, fun k hk => ?_⟩
  · simp (disch := omega) only [mg0 hK, ob_some, ii_lit, n1, ii_eq, if_neg, ii_add, wI_kd (md0 hK), n3]
  · dsimp only
    unfold RSm
    dsimp only
    simp only [hA]
    refine ⟨if_pos trivial, fun v v0 v1 => ?_, fun v v0 v1 => ?_, ?_, fun v v0 v1 => ?_, fun v v0 v1 => ?_, fun v v0 v1 => ?_, fun v v0 v1 => ?_, fun v v0 v1 => ?_, fun t t0 t1 k s hk hs => ?_⟩
    · have v1' : v < s_nv S + 1 := v1
      show _ = ii (upf (s_cl S) (s_nv S) (s_nv S) v)
      unfold upf
      rw [if_neg (by omega), if_neg (by omega)]
      by_cases hv : v = s_nv S
      · rw [if_pos (by omega), if_pos hv]
      · rw [if_neg (by omega), if_neg hv]
        exact r2 v v0 (by omega)
    · have v1' : v < s_nv S + 1 := v1
      show _ = ii (upf (s_va S) (s_nv S) 100 v)
      unfold upf
      rw [if_neg (by omega)]
      by_cases hv : v = s_nv S
      · rw [if_pos (by omega), if_pos hv]
      · rw [if_neg (by omega), if_neg (by omega), if_neg hv]
        exact r3 v v0 (by omega)
    · rw [if_neg (by omega), if_neg (by omega), if_neg (by omega)]
      exact r4
    · rw [if_neg (by omega), if_neg (by omega), if_neg (by omega)]
      exact r5 v v0 v1
    · rw [if_neg (by omega), if_neg (by omega), if_neg (by omega)]
      exact r6 v v0 v1
    · rw [if_neg (by omega), if_neg (by omega), if_neg (by omega)]
      exact r7 v v0 v1
    · rw [if_neg (by omega), if_neg (by omega), if_neg (by omega)]
      exact r8 v v0 v1
    · rw [if_neg (by omega), if_neg (by omega), if_neg (by omega)]
      exact r9 v v0 v1
    · have t1' : t < s_nt S := t1
      dsimp only
      rw [if_neg (by omega), if_neg (by omega), if_neg (by omega)]
      exact r10 t t0 t1' k s hk hs
  · dsimp only
    rw [u2_ne (by omega), u2_ne (by omega), u2_ne (by omega)]
  · dsimp only
    rw [hA, if_neg (by omega), if_neg (by omega), if_neg (by omega)]
theorem m_mkvarF (hK : KM σ mo) (hR : RSm δ mo S) (hn : s_nv S = 60) : m_X12_makeVariable σ mo δ = some (ii 0, (u2 δ.1 mo 35 (ii 1), δ.2)) := by
  obtain ⟨n1, n2⟩ := m_n hK hR
  unfold m_X12_makeVariable
  have epz : pZ σ δ 12 mo 35 (ii 1) = some (u2 δ.1 mo 35 (ii 1), δ.2) := pZ_ko hK.1 (Or.inr rfl)
  simp (disch := omega) only [mg0 hK, ob_some, ii_lit, n1, hn, ↓reduceIte, epz]
theorem m_pushFrame (hK : KM σ mo) {n : Nat} (hn : n < 500) (ht : δ.1 mo 37 = ii n) {kd : Int32} : Ok (m_X12_pushFrame σ mo kd δ) (fun d => (∀ k, d.1 (mo + 28) k = if k = 12 * n then kd else if 12 * n < k ∧ k < 12 * n + 12 then ii 0 else δ.1 (mo + 28) k) ∧ d.1 mo 37 = ii ((n : Int) + 1) ∧ (∀ k, ¬ k = 37 → d.1 mo k = δ.1 mo k) ∧ Fr (fun r => r = mo ∨ r = mo + 28) δ d) := by
  unfold m_X12_pushFrame m_X12_pushFrame_b2
  refine Ok_for (fun z s => s.1 = ii z ∧ (∀ k, s.2.1 (mo + 28) k = if 12 * n ≤ k ∧ (k : Int) < 12 * n + z then ii 0 else δ.1 (mo + 28) k) ∧ Fr (fun r => r = mo + 28) δ s.2) 0 12 (by omega) (by omega) ?_ ?_ ⟨rfl, fun k => by rw [if_neg (by omega)], Fr.rf⟩
  · rintro z ⟨s1, d⟩ z0 z1 ⟨hs, hk, hF⟩
    dsimp only at hs hk hF ⊢
    subst hs
    have ht' : d.1 mo 37 = ii n := by rw [(hF mo (by omega)).1]; exact ht
    refine Ok_inl (s' := (ii (z + 1), (u2 d.1 (mo + 28) (12 * (n : Int) + z).toNat (ii 0), d.2))) ?_ ⟨rfl, fun k => ?_, hF.tr (Fr_u2 rfl)⟩
    · simp (disch := omega) only [ii_lit, ii_le, if_neg, mg36 hK, ob_some, gI_ko hK.1, ht', ii_mul, ii_add, wI_kd (md36 hK)]
    · dsimp only
      by_cases hkz : k = (12 * (n : Int) + z).toNat
      · rw [if_pos (by omega), hkz]
        simp only [u2, and_self, ↓reduceIte]
      · simp (disch := omega) only [u2, if_neg]
        rw [hk]
        by_cases h : 12 * n ≤ k ∧ (k : Int) < 12 * n + z
        · rw [if_pos h, if_pos (by omega)]
        · rw [if_neg h, if_neg (by omega)]
  · rintro ⟨s1, d⟩ ⟨hs, hk, hF⟩
    dsimp only at hs hk hF ⊢
    subst hs
    have ht' : d.1 mo 37 = ii n := by rw [(hF mo (by omega)).1]; exact ht
    have ht2 : u2 d.1 (mo + 28) (12 * (n : Int)).toNat kd mo 37 = ii n := by rw [u2_ne (by omega)]; exact ht'
    refine Ok_inr (r := (u2 (u2 d.1 (mo + 28) (12 * (n : Int)).toNat kd) mo 37 (ii ((n : Int) + 1)), d.2)) ?_ ⟨fun k => ?_, ?_, fun k hk2 => ?_, ?_⟩
    · simp (disch := omega) only [ii_lit, ii_le, if_pos, mg36 hK, ob_some, gI_ko hK.1, ht', ht2, ii_mul, ii_add, wI_kd (md36 hK), pI_ko hK.1]
    · dsimp only
      rw [u2_ne (by omega)]
      by_cases hkz : k = 12 * n
      · rw [if_pos hkz, hkz]
        exact if_pos ⟨rfl, by omega⟩
      · rw [if_neg hkz]
        simp (disch := omega) only [u2, if_neg]
        rw [hk]
        by_cases h : 12 * n < k ∧ k < 12 * n + 12
        · rw [if_pos h, if_pos (by omega)]
        · rw [if_neg h, if_neg (by omega)]
    · simp only [u2, and_self, ↓reduceIte]
    · simp (disch := omega) only [u2, if_neg]
      rw [(hF mo (by omega)).1]
    · exact (hF.wk (fun r p => Or.inr p)).tr ((Fr_u2 (Or.inr rfl)).tr (Fr_u2 (δ := (u2 d.1 (mo + 28) (12 * (n : Int)).toNat kd, d.2)) (Or.inl rfl)))
theorem m_pushActive (hK : KM σ mo) {n : Nat} (hn : n < 500) (ht : δ.1 mo 37 = ii n) {t : Int} : Ok (m_X12_pushActive σ mo (ii t) δ) (fun d => (∀ k, d.1 (mo + 28) k = if k = 12 * n + 1 then ii t else if 12 * n ≤ k ∧ k < 12 * n + 12 then ii 0 else δ.1 (mo + 28) k) ∧ d.1 mo 37 = ii ((n : Int) + 1) ∧ (∀ k, ¬ k = 37 → d.1 mo k = δ.1 mo k) ∧ Fr (fun r => r = mo ∨ r = mo + 28) δ d) := by
  obtain ⟨d, e, h1, h2, h3, h4⟩ := m_pushFrame hK hn ht (kd := ii 0)
  unfold m_X12_pushActive
  refine ⟨(u2 d.1 (mo + 28) (12 * ((n : Int) + 1) - 11).toNat (ii t), d.2), ?_, fun k => ?_, ?_, fun k hk => ?_, h4.tr (Fr_u2 (Or.inr rfl))⟩
  · simp (disch := omega) only [ii_lit, chk_ko hK.1, ob_some, e, mg36 hK, gI_ko hK.1, h2, ii_mul, ii_sub, wI_kd (md36 hK)]
  · dsimp only
    by_cases hkz : k = 12 * n + 1
    · rw [if_pos hkz]
      exact if_pos ⟨rfl, by omega⟩
    · rw [if_neg hkz]
      simp (disch := omega) only [u2, if_neg]
      rw [h1]
      by_cases h : k = 12 * n
      · rw [if_pos h, if_pos (by omega)]
      · rw [if_neg h]
        by_cases h' : 12 * n < k ∧ k < 12 * n + 12
        · rw [if_pos h', if_pos (by omega)]
        · rw [if_neg h', if_neg (by omega)]
  · simp (disch := omega) only [u2, if_neg]
    exact h2
  · simp (disch := omega) only [u2, if_neg]
    exact h3 k hk
end
