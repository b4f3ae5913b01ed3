/-! THE REWRITER in the class: forgetting; partners; firing -/
/-- not by rfl alone: simp is to leave a step behind -/
theorem ob_some {α β : Type} (a : α) (f : α → Option β) : (some a).bind f = f a := (Eq.refl ((some a).bind f)).trans (id rfl)
section
variable {σ : St} {δ : Dy} {rw st ro base : Nat} {hi : Hst}
theorem not_bit {v : Int64} {x : Int} (h0 : -1 ≤ x) (h1 : x < 128) (k : Nat) (hk : k < 64) : (v &&& (hbt x ^^^ (-1 : Int64))).toBitVec.getLsbD k = if k = (mx0 x % 64).toNat then false else v.toBitVec.getLsbD k := by
  have ho : (-1 : Int64).toBitVec = BitVec.allOnes 64 := by decide
  rw [Int64.toBitVec_and, BitVec.getLsbD_and, Int64.toBitVec_xor, BitVec.getLsbD_xor, hbt_bit h0 h1 k hk, ho, BitVec.getLsbD_allOnes]
  by_cases hk2 : k = (mx0 x % 64).toNat
  · rw [if_pos hk2, decide_eq_true hk2, decide_eq_true hk]
    simp
  · rw [if_neg hk2, decide_eq_false hk2, decide_eq_true hk]
    simp
theorem take_dec {hi : Hst} (hn : hi.Nodup) {n : Nat} {e : Int × Int × Int} (he : hi[n]? = some e) : hi.take (n + 1) = hi.take n ++ [e] ∧ ¬ e ∈ hi.take n := by
  obtain ⟨hl, hg⟩ := List.getElem?_eq_some_iff.mp he
  have e1 : hi.take (n + 1) = hi.take n ++ [e] := by rw [List.take_succ, he]; rfl
  refine ⟨e1, fun hm => ?_⟩
  have h2 : (hi.take (n + 1)).Nodup := (List.take_sublist _ _).nodup hn
  rw [e1, List.nodup_append] at h2
  exact h2.2.2 e hm e (List.mem_singleton.mpr rfl) rfl
def gHe (e : Int × Int × Int) : Prop := (0 ≤ e.1 ∧ e.1 < 8) ∧ (0 ≤ e.2.1 ∧ e.2.1 < 100) ∧ (0 ≤ e.2.2 ∧ e.2.2 < 100)
theorem t_forget (hW : KW σ rw st ro) (hH : HiR δ (rw + 3) hi) (hb : base ≤ hi.length) (hl : hi.length ≤ base + 60) (h7 : δ.1 rw 7 = ii ((hi.length : Int) - base)) (hc : RcR δ (rw + 4) base hi) (hn : hi.Nodup) (hg : ∀ e ∈ hi, gHe e) {want : Nat} (hw : base + want ≤ hi.length) : Ok (m_X6_forget σ rw (ii want) δ) (fun d => HiR d (rw + 3) (hi.take (base + want)) ∧ d.1 rw 7 = ii (want : Int) ∧ (∀ k, ¬ k = 7 → d.1 rw k = δ.1 rw k) ∧ Fr (fun r => r = rw ∨ r = rw + 3) δ d) := by
  obtain ⟨w0, ⟨w1, w2, w3, w4, w5, w6, w7⟩, x1, x2, x3, x4, x5, xf⟩ := hW
  unfold m_X6_forget m_X6_forget_b0
  refine Ok_for (fun z s => HiR s (rw + 3) (hi.take (hi.length - z.toNat)) ∧ s.1 rw 7 = ii ((hi.length : Int) - base - z) ∧ (∀ k, ¬ k = 7 → s.1 rw k = δ.1 rw k) ∧ Fr (fun r => r = rw ∨ r = rw + 3) δ s) 0 ((hi.length : Int) - base - want) (by omega) (by omega) ?_ ?_ ⟨?_, by rw [Int.sub_zero]; exact h7, fun _ _ => rfl, Fr.rf⟩
  · rintro z s z0 z1 ⟨hH, h7, hk, hF⟩
    have hnn : hi.length - z.toNat = (hi.length - (z + 1).toNat) + 1 := by omega
    obtain ⟨e, he⟩ : ∃ e, hi[hi.length - (z + 1).toNat]? = some e := ⟨_, List.getElem?_eq_getElem (by omega)⟩
    obtain ⟨t1, t2⟩ := take_dec hn he
    rw [hnn, t1] at hH
    generalize hi.take (hi.length - (z + 1).toNat) = hi' at hH t2 ⊢
    have hge := hg e (List.mem_of_getElem? he)
    obtain ⟨w, o, x⟩ := e
    obtain ⟨⟨a0, a1⟩, ⟨b0, b1⟩, ⟨c0, c1⟩⟩ := hge
    dsimp only at a0 a1 b0 b1 c0 c1
    have hv : s.1 (rw + 4) ((hi.length : Int) - base - z - 1).toNat = ii ((w * 100 + o) * 100 + x) := by
      rw [(hF _ (by omega)).1]
      have := hc (hi.length - (z + 1).toNat - base) (w, o, x) (by rw [show base + (hi.length - (z + 1).toNat - base) = hi.length - (z + 1).toNat by omega]; exact he)
      exact (congrArg (δ.1 (rw + 4)) (show ((hi.length : Int) - base - z - 1).toNat = hi.length - (z + 1).toNat - base by omega)).trans this
    have q := hro_rng (x := x) ⟨a0, a1⟩ ⟨b0, b1⟩
    have hmx : mx0 x = x := by unfold mx0; rw [if_neg (by omega)]
    have th := t_hrow (σ := σ) (δ := s) (w := w) (o := o) (x := x) ⟨a0, a1⟩ ⟨b0, b1⟩ (by omega) (by omega)
    have tb := t_hbit (σ := σ) (δ := s) (x := x) (by omega) (by omega)
    rw [hmx] at th
    have r1 : ((w * 100 + o) * 100 + x) % 100 = x := by omega
    have r2 : ((w * 100 + o) * 100 + x) / 100 = w * 100 + o := by omega
    have r3 : (w * 100 + o) / 100 = w := by omega
    have r4 : (w * 100 + o) % 100 = o := by omega
    refine Ok_inl (s' := (u2 s.1 rw 7 (ii ((hi.length : Int) - base - z - 1)), u2 s.2 (rw + 3) (hro w o x).toNat (s.2 (rw + 3) (hro w o x).toNat &&& (hbt x ^^^ (-1 : Int64))))) ?_ ⟨?_, ?_, ?_, ?_⟩
    · simp (disch := omega) only [gI_ko w0, h7, ob_some, ii_lit, ii_le, if_neg, gR_ko w0 w6, gR_ko w0 w5, ii_sub, rI_kd x4, hv, rmI_ii, dvI_ii, r1, r2, r3, r4, th, tb, rL_kd x3, wLo_kd x3, pI_ko w0]
    · refine HiR_u2 (hi := hi' ++ [(w, o, x)]) hH ⟨a0, a1⟩ ⟨b0, b1⟩ ⟨c0, by omega⟩ (b := false) (fun k hk => ?_) (decide_eq_false t2) (fun e he => ?_)
      · rw [not_bit (by omega) (by omega) k hk, hmx]
      · rw [List.mem_append, List.mem_singleton]
        exact ⟨Or.inl, fun h => h.resolve_right he⟩
    · simp only [u2, and_self, ↓reduceIte]
      congr 1
      omega
    · intro k hk2
      simp (disch := omega) only [u2, if_neg]
      exact hk k hk2
    · refine hF.tr (fun r hr => ?_)
      exact ⟨by simp (disch := omega) only [u2_ne], by simp (disch := omega) only [u2_ne]⟩
  · rintro s ⟨hH, h7, hk, hF⟩
    refine Ok_inr (r := s) ?_ ⟨?_, ?_, hk, hF⟩
    · simp (disch := omega) only [gI_ko w0, h7, ob_some, ii_le, if_pos]
    · rw [show base + want = hi.length - ((hi.length : Int) - base - want).toNat by omega]
      exact hH
    · rw [h7]
      congr 1
      omega
  · rw [show hi.length - (0 : Int).toNat = hi.length by simp, List.take_length]
    exact hH
/-! the rules' row -/
def KRs (σ : St) (ro : Nat) : Prop := KD σ ro 104 9 ∧ ∀ i : Nat, i < 9 → srv σ ro i = some (ro + 6 + 6 * i) ∧ KRu σ (ro + 6 + 6 * i)
def RRs (δ : Dy) (ro : Nat) (made : Int) (Rs : Int → Rl) : Prop := ∀ w : Int, 0 ≤ w → w < made → RRu δ (ro + 6 + 6 * w.toNat) (Rs w)
theorem RRs_of_Fr {δ' : Dy} {made : Int} {Rs : Int → Rl} {P : Nat → Prop} (hR : RRs δ ro made Rs) (hm : made ≤ 8) (hF : Fr P δ δ') (hd : ∀ r, ro + 6 ≤ r → r < ro + 54 → ¬ P r) : RRs δ' ro made Rs := fun w w0 w1 => RRu_of_Fr (hR w w0 w1) hF (fun r h1 h2 => hd r (by omega) (by omega))
theorem rA_rule (hK : KRs σ ro) {w : Int} (w0 : 0 ≤ w) (w1 : w < 8) : rA σ 104 ro (ii w) = some (ro + 6 + 6 * w.toNat) := by
  obtain ⟨⟨y1, y2, y3⟩, h⟩ := hK
  unfold rA
  rw [y2, if_pos ⟨y1, ii_inb w0 (by omega) (by decide)⟩, ii_nat w0 (by omega)]
  exact (h _ (by omega)).1
variable {S : Sto} {ac : Int} {fl : Bool} {ru : Nat} {R : Rl}
theorem t_partn (hW : KW σ rw st ro) (hKS : KS σ st) (hKR : KRu σ ru) (hS : RS δ st S ac fl) (hGS : GS S) (hR : RRu δ ru R) (hGR : GR R) {h t o : Int} (h0 : 0 ≤ h ∧ h ≤ 1) (t0 : 0 ≤ t ∧ t < s_nt S) (o0 : 2 ≤ l_hd R → 0 ≤ o ∧ o < s_nt S) : m_X6_isPartner σ rw ru (ii h) (ii t) (ii o) δ = some (bi (partn S R h t o)) := by
  obtain ⟨w0, ⟨w1, w2, w3, w4, w5, w6, w7⟩, x1, x2, -⟩ := hW
  obtain ⟨k0, ⟨k1, k2, k3, k4, k5⟩, d1, d2, d3, d4, d5⟩ := hKR
  obtain ⟨r1, r2, r3, r4, r5, r6, r7, r8, r9⟩ := hR
  obtain ⟨⟨g1, g2⟩, g3, g4, -⟩ := hGR
  obtain ⟨m0, ⟨m1, m2, m3, m4, m5, m6, m7, m8, m9⟩, b1, b2, b3, b4, b5, b6, b7, -⟩ := hKS
  obtain ⟨s1, s2, s3, s4, s5, s6, s7, s8, s9, -⟩ := hS
  have gn := hGS.1
  have gso := hGS.2.2.2.1
  unfold m_X6_isPartner partn
  by_cases hd : l_hd R < 2
  · rw [decide_eq_true hd]
    simp (disch := omega) only [↓reduceIte, ii_lit, ii_add, ii_sub, ii_mul, ii_neg, ii_lt, ii_le, ii_eq, if_pos, if_neg, Option.bind_some, gI_ko k0, r1, bi_t, Bool.true_or]
  · have oo := o0 (by omega)
    have e9 := s9 o oo.1 oo.2
    have e5 := s5 o oo.1 oo.2
    have q5 := gso o oo.1 oo.2
    rw [decide_eq_false hd]
    by_cases c1 : o = t
    · rw [decide_eq_true c1]
      simp (disch := omega) only [↓reduceIte, ii_lit, ii_add, ii_sub, ii_mul, ii_neg, ii_lt, ii_le, ii_eq, if_pos, if_neg, Option.bind_some, gI_ko k0, r1, bi_f, Bool.false_or, Bool.not_true, Bool.false_and]
    · rw [decide_eq_false c1]
      cases hsd : s_sd S o with
      | false =>
        rw [hsd] at e9
        simp (disch := omega) only [↓reduceIte, ii_lit, ii_add, ii_sub, ii_mul, ii_neg, ii_lt, ii_le, ii_eq, if_pos, if_neg, Option.bind_some, gI_ko k0, r1, gR_ko w0 w1, gR_ko m0 m7, rZ_kd b7, e9, bi_f, Bool.false_or, Bool.false_and, Bool.and_false]
      | true =>
        rw [hsd] at e9
        by_cases c2 : h = 0
        · have e2 := r2 1 (by omega) (by omega)
          have q2 := g3 1 (by omega) (by omega)
          rw [if_pos c2]
          by_cases c3 : s_so S o = l_so R 1
          · rw [decide_eq_true c3]
            simp (disch := omega) only [↓reduceIte, ii_lit, ii_add, ii_sub, ii_mul, ii_neg, ii_lt, ii_le, ii_eq, if_pos, if_neg, Option.bind_some, gI_ko k0, r1, gR_ko w0 w1, gR_ko m0 m7, gR_ko m0 m3, gR_ko k0 k1, rZ_kd b7, rI_kd b3, rI_kd d1, e9, e5, e2, bi_t, Bool.false_or, Bool.and_true, Bool.not_false, m_X6_isPartner_b50]
          · rw [decide_eq_false c3]
            simp (disch := omega) only [↓reduceIte, ii_lit, ii_add, ii_sub, ii_mul, ii_neg, ii_lt, ii_le, ii_eq, if_pos, if_neg, Option.bind_some, gI_ko k0, r1, gR_ko w0 w1, gR_ko m0 m7, gR_ko m0 m3, gR_ko k0 k1, rZ_kd b7, rI_kd b3, rI_kd d1, e9, e5, e2, bi_t, bi_f, Bool.false_or, Bool.and_true, Bool.and_false, Bool.not_false, m_X6_isPartner_b50]
        · have e2 := r2 0 (by omega) (by omega)
          have q2 := g3 0 (by omega) (by omega)
          rw [if_neg c2]
          by_cases c3 : s_so S o = l_so R 0
          · rw [decide_eq_true c3]
            simp (disch := omega) only [↓reduceIte, ii_lit, ii_add, ii_sub, ii_mul, ii_neg, ii_lt, ii_le, ii_eq, if_pos, if_neg, Option.bind_some, gI_ko k0, r1, gR_ko w0 w1, gR_ko m0 m7, gR_ko m0 m3, gR_ko k0 k1, rZ_kd b7, rI_kd b3, rI_kd d1, e9, e5, e2, bi_t, Bool.false_or, Bool.and_true, Bool.not_false, m_X6_isPartner_b50]
          · rw [decide_eq_false c3]
            simp (disch := omega) only [↓reduceIte, ii_lit, ii_add, ii_sub, ii_mul, ii_neg, ii_lt, ii_le, ii_eq, if_pos, if_neg, Option.bind_some, gI_ko k0, r1, gR_ko w0 w1, gR_ko m0 m7, gR_ko m0 m3, gR_ko k0 k1, rZ_kd b7, rI_kd b3, rI_kd d1, e9, e5, e2, bi_t, bi_f, Bool.false_or, Bool.and_true, Bool.and_false, Bool.not_false, m_X6_isPartner_b50]
end
