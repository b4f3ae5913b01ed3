/-! THE REWRITER in the class: the memory of it, pushing, telling -/
def FAt (δ : Dy) (fo : Nat) (f : Frm) : Prop := match f with
  | .inl (t, p) => δ.1 fo 1 = ii 0 ∧ δ.1 fo 2 = ii t ∧ δ.1 fo 3 = ii p
  | .inr (.inl (a, m)) => δ.1 fo 1 = ii 1 ∧ δ.1 fo 2 = ii a ∧ B64 (δ.2 fo 7) (δ.2 fo 8) m
  | .inr (.inr (w, k, bd, sl, la)) => δ.1 fo 1 = ii 2 ∧ δ.1 fo 4 = ii w ∧ δ.1 fo 5 = ii k ∧ RB δ (fo + 1) bd ∧ B64 (δ.2 fo 7) (δ.2 fo 8) sl ∧ δ.1 fo 6 = bi la
def RFr (δ : Dy) (rw : Nat) : List Frm → Prop
  | [] => True
  | f :: fs => FAt δ (rw + 6 + 2 * fs.length) f ∧ RFr δ rw fs
def HiR (δ : Dy) (hr : Nat) (hi : Hst) : Prop := ∀ w o x : Int, 0 ≤ w → w < 8 → 0 ≤ o → o < 100 → 0 ≤ x → x < 128 → (δ.2 hr (2 * (100 * w + o) + (if x < 64 then 0 else 1)).toNat).toBitVec.getLsbD (x % 64).toNat = decide ((w, o, x) ∈ hi)
def RcR (δ : Dy) (rc base : Nat) (hi : Hst) : Prop := ∀ (j : Nat) (e : Int × Int × Int), hi[base + j]? = some e → δ.1 rc j = ii ((e.1 * 100 + e.2.1) * 100 + e.2.2)
def RWr (δ : Dy) (rw base : Nat) (ac : Int) (fr : List Frm) (hi : Hst) (fi : Int → Int) (made : Int) : Prop := δ.1 rw 3 = ii fr.length ∧ RFr δ rw fr ∧ HiR δ (rw + 3) hi ∧ (base ≤ hi.length ∧ (hi.length : Int) ≤ base + ac ∧ δ.1 rw 7 = ii ((hi.length : Int) - base)) ∧ RcR δ (rw + 4) base hi ∧ (∀ z : Int, 0 ≤ z → z < 8 → δ.1 (rw + 5) z.toNat = ii (fi z)) ∧ δ.1 rw 9 = ii made
def RVv (δ : Dy) (rw st base : Nat) (made : Int) (V : Vw) : Prop := RS δ st (v_S V) (v_ac V) (v_fl V) ∧ RWr δ rw base (v_ac V) (v_fr V) (v_hi V) (v_fi V) made
def PVr (rw st : Nat) : Nat → Prop := fun r => (st ≤ r ∧ r < st + 10) ∨ (rw ≤ r ∧ r < rw + 372)
theorem B64_cg {a b : Int64} {f g : Nat → Bool} (h : B64 a b f) (e : ∀ k, k < 128 → f k = g k) : B64 a b g := fun t ht => ⟨(h t ht).1.trans (e t (by omega)), (h t ht).2.trans (e (64 + t) (by omega))⟩
theorem FAt_eq {δ δ' : Dy} {fo : Nat} {f : Frm} (h : FAt δ fo f) (h1 : δ'.1 fo = δ.1 fo) (h2 : δ'.2 fo = δ.2 fo) (h3 : δ'.1 (fo + 1) = δ.1 (fo + 1)) : FAt δ' fo f := by
  rcases f with ⟨t, p⟩ | ⟨a, m⟩ | ⟨w, k, bd, sl, la⟩
  · show δ'.1 fo 1 = _ ∧ δ'.1 fo 2 = _ ∧ δ'.1 fo 3 = _
    rw [h1]; exact h
  · show δ'.1 fo 1 = _ ∧ δ'.1 fo 2 = _ ∧ B64 (δ'.2 fo 7) (δ'.2 fo 8) m
    rw [h1, h2]; exact h
  · show δ'.1 fo 1 = _ ∧ δ'.1 fo 4 = _ ∧ δ'.1 fo 5 = _ ∧ (∀ z : Int, 0 ≤ z → z < 4 → δ'.1 (fo + 1) z.toNat = ii (bd z)) ∧ B64 (δ'.2 fo 7) (δ'.2 fo 8) sl ∧ δ'.1 fo 6 = bi la
    rw [h1, h2, h3]; exact h
theorem RFr_eq {δ δ' : Dy} {rw : Nat} : ∀ {fs : List Frm}, RFr δ rw fs → (∀ r, rw + 6 ≤ r → r < rw + 6 + 2 * fs.length → δ'.1 r = δ.1 r ∧ δ'.2 r = δ.2 r) → RFr δ' rw fs := by
  intro fs
  induction fs with
  | nil => intro _ _; trivial
  | cons f fs ih =>
    intro h k
    rw [List.length_cons] at k
    refine ⟨FAt_eq h.1 (k _ (by omega) (by omega)).1 (k _ (by omega) (by omega)).2 (k _ (by omega) (by omega)).1, ih h.2 (fun r h1 h2 => k r h1 (by omega))⟩
section
variable {σ : St} {δ : Dy} {rw st ro base : Nat} {made : Int} {Rs : Int → Rl} {V : Vw}
theorem t_push (hW : KW σ rw st ro) {n : Nat} (hn : n < 183) (h3 : δ.1 rw 3 = ii n) {kd : Int32} : Ok (m_X6_push σ rw kd δ) (fun r => r.1 = rw + 6 + 2 * n ∧ r.2.1 rw 3 = ii ((n : Int) + 1) ∧ (∀ k, ¬ k = 3 → r.2.1 rw k = δ.1 rw k) ∧ (r.2.1 (rw + 6 + 2 * n) 1 = kd ∧ r.2.1 (rw + 6 + 2 * n) 2 = ii 0 ∧ r.2.1 (rw + 6 + 2 * n) 3 = ii 0 ∧ r.2.1 (rw + 6 + 2 * n) 5 = ii 0 ∧ r.2.2 (rw + 6 + 2 * n) 7 = 0 ∧ r.2.2 (rw + 6 + 2 * n) 8 = 0) ∧ Fr (fun q => q = rw ∨ q = rw + 6 + 2 * n) δ r.2 ∧ r.2.2 rw = δ.2 rw) := by
  obtain ⟨w0, ⟨w1, w2, w3, w4, w5, w6, w7⟩, x1, x2, x3, x4, x5, xf⟩ := hW
  obtain ⟨f1, f2, f3, f4⟩ := xf n hn
  have hrA : rA σ 105 (rw + 1) (ii (n : Int)) = some (rw + 6 + 2 * n) := by
    obtain ⟨y1, y2, y3⟩ := x1
    unfold rA
    rw [y2, if_pos ⟨y1, ii_inb (by omega) (by omega) (by decide)⟩, ii_nat (by omega) (by omega)]
    exact f1
  unfold m_X6_push
  refine ⟨_, by
    simp (disch := omega) only [ii_lit, ii_lt, if_pos, gI_ko w0, h3, Option.bind_some, gR_ko w0 w3, hrA, pI_ko w0, ii_add, pI_ko f2, pL_ko f2]
    rfl, rfl, ?_, fun k hk => ?_, ⟨?_, ?_, ?_, ?_, ?_, ?_⟩, ?_, ?_⟩
  · simp (disch := omega) only [u2, if_neg, and_self, ↓reduceIte]
  · simp (disch := omega) only [u2, if_neg]
  · simp (disch := omega) only [u2, if_neg, and_self, ↓reduceIte]
  · simp (disch := omega) only [u2, if_neg, and_self, ↓reduceIte]
  · simp (disch := omega) only [u2, if_neg, and_self, ↓reduceIte]
  · simp (disch := omega) only [u2, if_neg, and_self, ↓reduceIte]
  · simp (disch := omega) only [u2, if_neg, and_self, ↓reduceIte]
  · simp (disch := omega) only [u2, if_neg, and_self, ↓reduceIte]
  · intro q hq
    exact ⟨by simp (disch := omega) only [u2_ne], by simp (disch := omega) only [u2_ne]⟩
  · simp (disch := omega) only [u2_ne]
theorem RWr_wk {δ' : Dy} {fr fr' : List Frm} {hi : Hst} {fi : Int → Int} {ac ac' : Int} (h : RWr δ rw base ac fr hi fi made) (ha : ac ≤ ac') (h3 : δ'.1 rw 3 = ii fr'.length) (hf : RFr δ' rw fr') (h7 : δ'.1 rw 7 = δ.1 rw 7) (h9 : δ'.1 rw 9 = δ.1 rw 9) (hh : δ'.2 (rw + 3) = δ.2 (rw + 3)) (hc : δ'.1 (rw + 4) = δ.1 (rw + 4)) (hi5 : δ'.1 (rw + 5) = δ.1 (rw + 5)) : RWr δ' rw base ac' fr' hi fi made := by
  obtain ⟨q1, q2, q3, ⟨q4, q5, q6⟩, q7, q8, q9⟩ := h
  refine ⟨h3, hf, ?_, ⟨q4, by omega, h7.trans q6⟩, ?_, ?_, h9.trans q9⟩
  · unfold HiR
    rw [hh]
    exact q3
  · unfold RcR
    rw [hc]
    exact q7
  · rw [hi5]
    exact q8
theorem t_tellTok (hW : KW σ rw st ro) (hKS : KS σ st) (hd : st + 10 ≤ rw) (hR : RVv δ rw st base made V) (hG : GV Rs made V) (ht : top2 (v_fr V)) {so a b : Int} {la : Bool} {lo hi : Int64} {sl : Nat → Bool} (hb : B64 lo hi sl) : Ok (m_X6_tellToken σ rw (ii so) (ii a) (ii b) (bi la) lo hi δ) (fun d => RVv d rw st base made (tellTok V so a b la sl) ∧ Fr (PVr rw st) δ d) := by
  have hW' := hW
  obtain ⟨w0, ⟨w1, w2, w3, w4, w5, w6, w7⟩, x1, x2, x3, x4, x5, xf⟩ := hW
  obtain ⟨hS, hV⟩ := hR
  obtain ⟨g1, g2, g3, g4, g5, g6, g7, g8⟩ := hG
  have gn := g1.1
  unfold m_X6_tellToken tellTok
  by_cases hn : s_nt (v_S V) = 100
  · rw [if_pos hn]
    obtain ⟨⟨x, d⟩, e, h1, h2, h3⟩ := t_addtokF hKS hS hn (so := ii so) (a := ii a) (b := ii b) (la := bi la) (lo := lo) (hi := hi)
    dsimp only at h1 h2 h3
    subst h1
    refine Ok_of (v := d) (by simp (disch := omega) only [↓reduceIte, ii_lit, ii_neg, gR_ko w0 w1, Option.bind_some, chk_ko hKS.1, e, if_pos]) ⟨⟨h2, ?_⟩, h3.wk (fun r hr => Or.inl hr)⟩
    have hq : ∀ r, rw ≤ r → d.1 r = δ.1 r ∧ d.2 r = δ.2 r := fun r hr => h3 r (by unfold blk; omega)
    exact RWr_wk hV (Int.le_refl _) (by rw [(hq rw (by omega)).1]; exact hV.1) (RFr_eq hV.2.1 (fun r h1 _ => hq r (by omega))) (by rw [(hq rw (by omega)).1]) (by rw [(hq rw (by omega)).1]) (hq _ (by omega)).2 (hq _ (by omega)).1 (hq _ (by omega)).1
  · rw [if_neg hn]
    obtain ⟨⟨x, d⟩, e, h1, h2, h3⟩ := t_addtok hKS hS g1 (by omega) (so := so) (a := a) (b := b) (la := la) hb
    dsimp only at h1 h2 h3
    subst h1
    have hq : ∀ r, rw ≤ r → d.1 r = δ.1 r ∧ d.2 r = δ.2 r := fun r hr => h3 r (by unfold blk; omega)
    have hlen : (v_fr V).length < 183 := by
      have := okF_len (okF_pushA (t := 0) (p := 0) g6 ht)
      have e1 : nBo (Sum.inl ((0 : Int), (0 : Int)) :: v_fr V) = nBo (v_fr V) := rfl
      rw [e1, List.length_cons] at this
      omega
    obtain ⟨⟨fo, D⟩, e2, p1, p2, p3, ⟨p4, p5, p6, -, -, -⟩, p7, -⟩ := t_push (δ := d) hW' hlen (by rw [(hq rw (by omega)).1]; exact hV.1) (kd := ii 0)
    dsimp only at p1 p2 p3 p4 p5 p6 p7
    subst p1
    obtain ⟨-, f2, -, -⟩ := xf _ hlen
    refine Ok_of (v := (u2 D.1 (rw + 6 + 2 * (v_fr V).length) 2 (ii (s_nt (v_S V))), D.2)) (by simp (disch := omega) only [↓reduceIte, ii_lit, ii_neg, gR_ko w0 w1, Option.bind_some, chk_ko hKS.1, e, ii_eq, if_neg, chk_ko w0, e2, pI_ko f2]) ⟨⟨?_, ?_⟩, ?_⟩
    · exact RS_of_Fr h2 (p7.tr (Fr_u2 (P := fun q => q = rw ∨ q = rw + 6 + 2 * (v_fr V).length) (Or.inr rfl))) (fun r h1 h2 => by omega)
    · have hz : ∀ r, ¬ r = rw → ¬ r = rw + 6 + 2 * (v_fr V).length → rw ≤ r → D.1 r = δ.1 r ∧ D.2 r = δ.2 r := fun r a1 a2 a3 => ⟨((p7 r (by omega)).1).trans (hq r a3).1, ((p7 r (by omega)).2).trans (hq r a3).2⟩
      refine RWr_wk hV (Int.le_refl _) ?_ ⟨⟨?_, ?_, ?_⟩, RFr_eq hV.2.1 (fun r h1 h2 => ?_)⟩ ?_ ?_ ?_ ?_ ?_
      · show u2 D.1 (rw + 6 + 2 * (v_fr V).length) 2 (ii (s_nt (v_S V))) rw 3 = ii (((v_fr V).length + 1 : Nat) : Int)
        rw [u2_ne (by omega), p2]
        rfl
      · simp (disch := omega) only [u2, if_neg]
        exact p4
      · simp only [u2, and_self, ↓reduceIte]
      · simp (disch := omega) only [u2, if_neg]
        exact p6
      · dsimp only
        rw [u2_ne (by omega)]
        exact hz r (by omega) (by omega) (by omega)
      · dsimp only
        rw [u2_ne (by omega), p3 7 (by decide), (hq rw (by omega)).1]
      · dsimp only
        rw [u2_ne (by omega), p3 9 (by decide), (hq rw (by omega)).1]
      · exact (hz _ (by omega) (by omega) (by omega)).2
      · dsimp only
        rw [u2_ne (by omega)]; exact (hz _ (by omega) (by omega) (by omega)).1
      · dsimp only
        rw [u2_ne (by omega)]; exact (hz _ (by omega) (by omega) (by omega)).1
    · refine (h3.wk (fun r hr => Or.inl hr)).tr ((p7.wk (fun r hr => Or.inr (by omega))).tr (Fr_u2 (Or.inr (by omega))))
end
