/-! THE REWRITER in the class: an active token's advance -/
theorem fnd_skip {P : Int → Bool} : ∀ (k n : Nat) (a : Int), k ≤ n → (∀ z, a ≤ z → z < a + k → P z = false) → fnd P n a = fnd P (n - k) (a + k) := by
  intro k
  induction k with
  | zero => intro n a _ _; simp
  | succ k ih =>
    intro n a hn h
    obtain ⟨m, rfl⟩ : ∃ m, n = m + 1 := ⟨n - 1, by omega⟩
    have h1 : fnd P (m + 1) a = fnd P m (a + 1) := by
      show (if P a = true then a else fnd P m (a + 1)) = _
      rw [if_neg (by rw [h a (Int.le_refl _) (by omega)]; decide)]
    rw [h1, ih m (a + 1) (by omega) (fun z h2 h3 => h z (by omega) (by omega))]
    rw [show m + 1 - (k + 1) = m - k by omega, show a + 1 + (k : Int) = a + ((k + 1 : Nat) : Int) by omega]
section
variable {σ : St} {δ : Dy} {rw st ro base ru : Nat} {S : Sto} {ac made : Int} {fl : Bool} {R : Rl} {Rs : Int → Rl} {V : Vw}
theorem RVv_cg {δ' : Dy} (hR : RVv δ rw st base made V) (hl : (v_fr V).length ≤ 183) (h : ∀ r, ¬ r = rw + 2 → ((st ≤ r ∧ r < st + 10) ∨ (rw ≤ r ∧ r < rw + 372)) → δ'.1 r = δ.1 r ∧ δ'.2 r = δ.2 r) (hd1 : st + 10 ≤ rw) : RVv δ' rw st base made V := by
  obtain ⟨hS, hV⟩ := hR
  refine ⟨RS_of_Fr (P := fun r => ¬ (st ≤ r ∧ r < st + 10)) hS (fun r hr => h r (by omega) (by omega)) (fun r a b => by omega), ?_⟩
  exact RWr_wk hV (Int.le_refl _) (by rw [(h rw (by omega) (by omega)).1]; exact hV.1) (RFr_eq hV.2.1 (fun r a b => h r (by omega) (by omega))) (by rw [(h rw (by omega) (by omega)).1]) (by rw [(h rw (by omega) (by omega)).1]) (h _ (by omega) (by omega)).2 (h _ (by omega) (by omega)).1 (h _ (by omega) (by omega)).1
theorem RVv_pop {f : Frm} {rest : List Frm} (hR : RVv δ rw st base made (v_setfr V (f :: rest))) (hl : rest.length < 183) (hd1 : st + 10 ≤ rw) : RVv (u2 δ.1 rw 3 (ii rest.length), δ.2) rw st base made (v_setfr V rest) := by
  obtain ⟨hS, hV⟩ := hR
  have hF : Fr (fun r => r = rw) δ (u2 δ.1 rw 3 (ii rest.length), δ.2) := Fr_u2 rfl
  refine ⟨RS_of_Fr hS hF (fun r a b => by omega), ?_⟩
  refine RWr_wk hV (Int.le_refl _) ?_ (RFr_eq hV.2.1.2 (fun r a b => hF r (by omega))) ?_ ?_ rfl (hF _ (by omega)).1 (hF _ (by omega)).1
  · simp only [u2, and_self, ↓reduceIte]
    rfl
  · simp (disch := omega) only [u2, if_neg]
  · simp (disch := omega) only [u2, if_neg]
theorem RVv_place {t p q : Int} {rest : List Frm} (hR : RVv δ rw st base made (v_setfr V (.inl (t, p) :: rest))) (hl : rest.length < 183) (hd1 : st + 10 ≤ rw) : RVv (u2 δ.1 (rw + 6 + 2 * rest.length) 3 (ii q), δ.2) rw st base made (v_setfr V (.inl (t, q) :: rest)) := by
  obtain ⟨hS, hV⟩ := hR
  have hF : Fr (fun r => r = rw + 6 + 2 * rest.length) δ (u2 δ.1 (rw + 6 + 2 * rest.length) 3 (ii q), δ.2) := Fr_u2 rfl
  refine ⟨RS_of_Fr hS hF (fun r a b => by omega), ?_⟩
  obtain ⟨f1, f2, f3⟩ := hV.2.1.1
  refine RWr_wk hV (Int.le_refl _) (by rw [(hF rw (by omega)).1]; exact hV.1) ⟨⟨?_, ?_, ?_⟩, RFr_eq hV.2.1.2 (fun r a b => hF r (by omega))⟩ (by rw [(hF rw (by omega)).1]) (by rw [(hF rw (by omega)).1]) rfl (hF _ (by omega)).1 (hF _ (by omega)).1
  · simp (disch := omega) only [u2, if_neg]
    exact f1
  · simp (disch := omega) only [u2, if_neg]
    exact f2
  · simp only [u2, and_self, ↓reduceIte]
theorem canF_h {hi : Hst} {t p : Int} (h : l_hd (Rs (p / 200)) ≤ p / 100 % 2) : canF S Rs hi t p = none := by
  unfold canF
  rw [if_pos h]
theorem canF_s {hi : Hst} {t p : Int} (h : ¬ l_so (Rs (p / 200)) (p / 100 % 2) = s_so S t) : canF S Rs hi t p = none := by
  unfold canF
  rw [if_pos h]
  split <;> rfl
theorem canF_b {hi : Hst} {t p : Int} (h : (if 2 ≤ l_hd (Rs (p / 200)) then s_nt S else 1) ≤ p % 100) : canF S Rs hi t p = none := by
  unfold canF
  rw [if_pos h]
  split
  · rfl
  · split <;> rfl
/-- what the loop of an active token keeps -/
def Ia (rw st base : Nat) (made : Int) (V : Vw) (Rs : Int → Rl) (t p : Int) (rest : List Frm) (δ : Dy) (d : Dy) : Prop := ∃ p' : Int, (p ≤ p' ∧ (p' ≤ p ∨ p' ≤ aEnd (v_S V) made t)) ∧ fnd (fun z => (canF (v_S V) Rs (v_hi V) t z).isSome) (aEnd (v_S V) made t - p').toNat p' = aNext V Rs made t p ∧ RVv d rw st base made (v_setfr V (.inl (t, p') :: rest)) ∧ Fr (PVr rw st) δ d
theorem t_skip (hW : KW σ rw st ro) (hd1 : st + 10 ≤ rw) {t p p' : Int} {rest : List Frm} (hl : rest.length < 183) {d : Dy} (hp : (p ≤ p' ∧ (p' ≤ p ∨ p' ≤ aEnd (v_S V) made t))) (h0 : 0 ≤ p') (hlt : p' < aEnd (v_S V) made t) (hm : aEnd (v_S V) made t = made * 200) (hfn : fnd (fun z => (canF (v_S V) Rs (v_hi V) t z).isSome) (aEnd (v_S V) made t - p').toNat p' = aNext V Rs made t p) (hRV : RVv d rw st base made (v_setfr V (.inl (t, p') :: rest))) (hFr : Fr (PVr rw st) δ d) (hno : ∀ z, p' ≤ z → z < p' - p' % 100 + 100 → canF (v_S V) Rs (v_hi V) t z = none) {x y : Int32} : Ok (m_X6_advanceActive_b136 σ rw (rw + 6 + 2 * rest.length) x y (ii p') (ii (p' % 100)) d) (PL (fun s => Ia rw st base made V Rs t p rest δ s ∧ s.1 (rw + 6 + 2 * rest.length) 3 = ii (p' - p' % 100 + 100)) (fun _ => False)) := by
  obtain ⟨w0, ⟨w1, w2, w3, w4, w5, w6, w7⟩, x1, x2, x3, x4, x5, xf⟩ := hW
  obtain ⟨f1, f2, f3, f4⟩ := xf _ hl
  unfold m_X6_advanceActive_b136
  refine Ok_inl (s' := (u2 d.1 (rw + 6 + 2 * rest.length) 3 (ii (p' - p' % 100 + 100)), d.2)) (by simp (disch := omega) only [ii_lit, ii_sub, ii_add, pI_ko f2, ob_some]) ⟨⟨p' - p' % 100 + 100, ⟨by omega, by omega⟩, ?_, RVv_place hRV hl hd1, hFr.tr (Fr_u2 (by unfold PVr; omega))⟩, by simp only [u2, and_self, ↓reduceIte]⟩
  rw [← hfn, fnd_skip (100 - p' % 100).toNat _ p' (by omega) (fun z a b => by
    show (canF (v_S V) Rs (v_hi V) t z).isSome = false
    rw [hno z a (by omega)]; rfl)]
  rw [show p' + ((100 - p' % 100).toNat : Int) = p' - p' % 100 + 100 by omega, show (aEnd (v_S V) made t - (p' - p' % 100 + 100)).toNat = (aEnd (v_S V) made t - p').toNat - (100 - p' % 100).toNat by omega]
end
