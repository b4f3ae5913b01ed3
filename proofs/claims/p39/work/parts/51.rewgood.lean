/-! THE REWRITER: what stays good -/
section
variable {Rs : Int → Rl} {made : Int} {V : Vw}
theorem pushA_ok {fs : List Frm} {t p ac : Int} (h : okF fs) (hb : nBo fs ≤ ac) : okF (.inl (t, p) :: fs) ∧ nBo (.inl (t, p) :: fs) ≤ ac ∨ True := Or.inr trivial
/-- a frame may be pushed on what is below: by the kind of the top -/
def top2 : List Frm → Prop
  | [] => True
  | .inr (.inl _) :: _ => True
  | .inr (.inr _) :: _ => True
  | .inl _ :: _ => False
theorem okF_pushA {fs : List Frm} {t p : Int} (h : okF fs) (ht : top2 fs) : okF (.inl (t, p) :: fs) := by
  refine ⟨h, ?_⟩
  show (fs.length : Int) + 1 ≤ 3 * nBo fs + 2
  cases fs with
  | nil => exact (by decide)
  | cons f fs =>
    have h2 := h.2
    rcases f with f | f | f
    · exact ht.elim
    · have e : fcap (.inr (.inl f)) = 1 := rfl
      rw [e] at h2
      rw [List.length_cons]
      omega
    · have e : fcap (.inr (.inr f)) = 0 := rfl
      rw [e] at h2
      rw [List.length_cons]
      omega
def top3 : List Frm → Prop
  | [] => True
  | .inr (.inr _) :: _ => True
  | _ :: _ => False
theorem okF_pushW {fs : List Frm} {a : Int} {m : Nat → Bool} (h : okF fs) (ht : top3 fs) : okF (.inr (.inl (a, m)) :: fs) := by
  refine ⟨h, ?_⟩
  show (fs.length : Int) + 1 ≤ 3 * nBo fs + 1
  cases fs with
  | nil => exact (by decide)
  | cons f fs =>
    have h2 := h.2
    rcases f with f | f | f
    · exact ht.elim
    · exact ht.elim
    · have e : fcap (.inr (.inr f)) = 0 := rfl
      rw [e] at h2
      rw [List.length_cons]
      omega
theorem okF_pushB {fs : List Frm} {x : Int × Int × (Int → Int) × (Nat → Bool) × Bool} (h : okF fs) : okF (.inr (.inr x) :: fs) := by
  refine ⟨h, ?_⟩
  show (fs.length : Int) + 1 ≤ 3 * (nBo fs + 1) + 0
  have := okF_len h
  omega
theorem top3_2 {fs : List Frm} (h : top3 fs) : top2 fs := by
  cases fs with
  | nil => trivial
  | cons f fs =>
    rcases f with f | f | f
    · exact h.elim
    · exact h.elim
    · trivial
theorem GV_tellTok (hG : GV Rs made V) (ht : top2 (v_fr V)) {so a b : Int} {la : Bool} {sl : Nat → Bool} (h1 : 0 ≤ so ∧ so ≤ 5) (h2 : tm (s_nv (v_S V)) a) (h3 : tm (s_nv (v_S V)) b) : GV Rs made (tellTok V so a b la sl) := by
  obtain ⟨g1, g2, g3, g4, g5, g6, g7, g8⟩ := hG
  unfold tellTok
  split
  · exact ⟨g1, g2, g3, g4, g5, g6, g7, g8⟩
  · rename_i hn
    have hn2 : s_nt (v_S V) < 100 := by have := g1.1; omega
    refine ⟨GS_addtok g1 hn2 h1 h2 h3, g2, g3, g4, fun f hf => ?_, okF_pushA g6 ht, g7, g8⟩
    rcases List.mem_cons.mp hf with rfl | hf
    · have := g1.1
      exact ⟨⟨this.2.2.1, by show s_nt (v_S V) < s_nt (v_S V) + 1; omega⟩, by omega, by omega⟩
    · exact gFrm_mono (g5 f hf) (by show s_nt (v_S V) ≤ s_nt (v_S V) + 1; omega) (Int.le_refl _)
theorem GV_tellEq (hG : GV Rs made V) (ht : top3 (v_fr V)) {a b : Int} (h2 : tm (s_nv (v_S V)) a) (h3 : tm (s_nv (v_S V)) b) : GV Rs made (tellEq V a b) := by
  obtain ⟨g1, g2, g3, g4, g5, g6, g7, g8⟩ := hG
  obtain ⟨u1, u2, u3, u4, u5⟩ := GS_uni g1 h2 h3
  have hm : ∀ f ∈ v_fr V, gFrm (uni (v_S V) a b).2.2 Rs made f := fun f hf => gFrm_mono (g5 f hf) (by rw [u3]; exact Int.le_refl _) (by rw [u2]; exact Int.le_refl _)
  unfold tellEq
  split
  · exact ⟨u1, g2, g3, g4, hm, g6, g7, g8⟩
  · refine ⟨u1, g2, g3, g4, fun f hf => ?_, okF_pushW g6 ht, g7, g8⟩
    rcases List.mem_cons.mp hf with rfl | hf
    · exact ⟨Int.le_refl _, by omega⟩
    · exact hm f hf
theorem mstep_inv {S : Sto} {n pat arg : Int} {bd bd' : Int → Int} (h : mstep S pat arg bd = some bd') (harg : tm n arg) (hn : n ≤ 60) (hB : BDr bd) (hT : ∀ z, 0 ≤ z → z < 4 → ¬ bd z = 1000 → tm n (bd z)) : BDr bd' ∧ (∀ z, 0 ≤ z → z < 4 → ¬ bd' z = 1000 → tm n (bd' z)) ∧ (∀ z, 0 ≤ z → z < 4 → ¬ bd z = 1000 → ¬ bd' z = 1000) ∧ (slot pat → ¬ bd' (pat - 200) = 1000) := by
  have hr := tm_rng harg hn
  unfold mstep at h
  by_cases c1 : pat = 300
  · rw [if_pos c1] at h
    cases h
    exact ⟨hB, hT, fun z _ _ h => h, fun hs => by unfold slot at hs; omega⟩
  · rw [if_neg c1] at h
    by_cases c2 : (200 ≤ pat ∧ pat < 204) ∧ bd (pat - 200) = 1000
    · rw [if_pos c2] at h
      cases h
      refine ⟨fun z z0 z1 => ?_, fun z z0 z1 hz => ?_, fun z z0 z1 hz => ?_, fun hs => ?_⟩
      · unfold upf
        split
        · omega
        · exact hB z z0 z1
      · unfold upf at hz ⊢
        by_cases hc : z = pat - 200
        · rw [if_pos hc]; exact harg
        · rw [if_neg hc] at hz ⊢
          exact hT z z0 z1 hz
      · unfold upf
        by_cases hc : z = pat - 200
        · rw [if_pos hc]; omega
        · rw [if_neg hc]; exact hz
      · unfold upf
        rw [if_pos rfl]
        omega
    · rw [if_neg c2] at h
      by_cases c3 : form S (resB bd pat) = form S arg
      · rw [if_pos c3] at h
        cases h
        exact ⟨hB, hT, fun z _ _ h => h, fun hs hb => c2 ⟨hs, hb⟩⟩
      · rw [if_neg c3] at h
        cases h
theorem mrun_inv {S : Sto} {R : Rl} {one two n0 : Int} (hn : n0 ≤ 60) : ∀ (n : Nat) (p : Int) (bd bd' : Int → Int), mrun S R one two n p bd = some bd' → (∀ q, p ≤ q → q < p + n → tm n0 (marg S one two q)) → BDr bd → (∀ z, 0 ≤ z → z < 4 → ¬ bd z = 1000 → tm n0 (bd z)) → BDr bd' ∧ (∀ z, 0 ≤ z → z < 4 → ¬ bd' z = 1000 → tm n0 (bd' z)) ∧ (∀ z, 0 ≤ z → z < 4 → ¬ bd z = 1000 → ¬ bd' z = 1000) ∧ (∀ q, p ≤ q → q < p + n → slot (l_pa R q) → ¬ bd' (l_pa R q - 200) = 1000) := by
  intro n
  induction n with
  | zero =>
    intro p bd bd' h _ hB hT
    cases h
    exact ⟨hB, hT, fun z _ _ h => h, fun q q0 q1 => by omega⟩
  | succ n ih =>
    intro p bd bd' h ha hB hT
    obtain ⟨b1, h1, h2⟩ := Option.bind_eq_some_iff.mp h
    obtain ⟨i1, i2, i3, i4⟩ := mstep_inv h1 (ha p (Int.le_refl _) (by omega)) hn hB hT
    obtain ⟨j1, j2, j3, j4⟩ := ih (p + 1) b1 bd' h2 (fun q q0 q1 => ha q (by omega) (by omega)) i1 i2
    refine ⟨j1, j2, fun z z0 z1 hz => j3 z z0 z1 (i3 z z0 z1 hz), fun q q0 q1 hs => ?_⟩
    by_cases hq : q = p
    · subst hq
      have hs' := hs
      unfold slot at hs'
      exact j3 _ (by omega) (by omega) (i4 hs)
    · exact j4 q (by omega) (by omega) hs
theorem matchR_inv {S : Sto} {R : Rl} {one two : Int} {bd : Int → Int} (hG : GS S) (hR : GR R) (h : matchR S R one two = some bd) (o0 : 0 ≤ one ∧ one < s_nt S) (t0 : 1 < l_hd R → 0 ≤ two ∧ two < s_nt S) : BDr bd ∧ ∀ t, bnd R t → tm (s_nv S) (bd (t - 200)) := by
  unfold matchR at h
  obtain ⟨b1, h1, h2⟩ := Option.bind_eq_some_iff.mp h
  have hb : b1 = bd := by
    by_cases hg : guardOk S R b1 = true
    · rw [if_pos hg] at h2
      exact Option.some.inj h2
    · rw [if_neg hg] at h2
      cases h2
  subst hb
  have hhd := hR.1
  have hm : ∀ q, 0 ≤ q → q < 0 + ((2 * l_hd R).toNat : Int) → tm (s_nv S) (marg S one two q) := by
    intro q q0 q1
    have ht : 0 ≤ (if 2 ≤ q then two else one) ∧ (if 2 ≤ q then two else one) < s_nt S := by
      split
      · exact t0 (by omega)
      · exact o0
    unfold marg
    split
    · exact hG.2.2.2.2.1 _ ht.1 ht.2
    · exact hG.2.2.2.2.2 _ ht.1 ht.2
  obtain ⟨i1, i2, -, i4⟩ := mrun_inv hG.1.2.1 _ _ _ _ h1 hm (fun z _ _ => ⟨by show (-1000 : Int) ≤ 1000; omega, by show (1000 : Int) ≤ 1000; omega⟩) (fun z _ _ h => absurd rfl h)
  refine ⟨i1, fun t ht => ?_⟩
  obtain ⟨hs, p, p0, p1, hp⟩ := ht
  have hs' := hs
  unfold slot at hs'
  exact i2 _ (by omega) (by omega) (by
    have := i4 p p0 (by omega) (by rw [hp]; exact hs)
    rw [hp] at this
    exact this)
end
