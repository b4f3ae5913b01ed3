/-! THE REFERENCE: lists of agents, levels -/
def RLm (δ : Dy) (mo arr n b : Nat) (l : List Ag) : Prop := ∀ (j : Nat) (a : Ag), l[j]? = some a → ∃ g : Nat, g < n ∧ δ.1 arr (b + j) = ii g ∧ RAm δ mo g a
def RQm (δ : Dy) (mo arr cnt n j : Nat) (l : List Ag) : Prop := l.length ≤ 400 ∧ δ.1 cnt j = ii l.length ∧ RLm δ mo arr n (500 * j) l
def RSvm (δ : Dy) (mo n : Nat) (E : Ev) (j : Nat) (l : Lv) : Prop := (δ.1 (mo + 27) (225 * (j - 1)) = ii (l_sv l).1 ∧ δ.1 (mo + 27) (225 * (j - 1) + 1) = ii (l_sv l).2.1 ∧ δ.1 (mo + 27) (225 * (j - 1) + 2) = ii (l_hn l)) ∧
  (∀ v : Nat, v < 60 → (v : Int) < (l_sv l).1 → δ.1 (mo + 27) (225 * (j - 1) + 3 + v) = ii ((l_sv l).2.2.1 v) ∧ δ.1 (mo + 27) (225 * (j - 1) + 63 + v) = ii ((l_sv l).2.2.2.1 v)) ∧
  (∀ t : Nat, t < 100 → (t : Int) < (l_sv l).2.1 → δ.1 (mo + 27) (225 * (j - 1) + 123 + t) = bi ((l_sv l).2.2.2.2 t)) ∧
  ∃ (g : Nat) (a : Ag), g < n ∧ δ.1 (mo + 26) j = ii g ∧ RAm δ mo g a ∧ gNode E a.1 ∧ e_kd E a.1 = 13 ∧ l_ow l = (e_ot E a.1, a.2)
def RLvm (δ : Dy) (mo n : Nat) (E : Ev) (j : Nat) (l : Lv) : Prop := RQm δ mo (mo + 18) (mo + 19) n j (l_q l) ∧ RQm δ mo (mo + 20) (mo + 21) n j (l_w l) ∧ RQm δ mo (mo + 22) (mo + 23) n j (l_as l) ∧ RQm δ mo (mo + 24) (mo + 25) n j (l_nx l) ∧ (1 ≤ j → RSvm δ mo n E j l)
def RLsm (δ : Dy) (mo n : Nat) (E : Ev) : List Lv → Prop
  | [] => True
  | l :: ls => RLvm δ mo n E ls.length l ∧ RLsm δ mo n E ls
/-- below level J nothing is written, and no agent that there is -/
def LOW (mo J n : Nat) (δ d : Dy) : Prop := (∀ k, k < 500 * J → d.1 (mo + 18) k = δ.1 (mo + 18) k ∧ d.1 (mo + 20) k = δ.1 (mo + 20) k ∧ d.1 (mo + 22) k = δ.1 (mo + 22) k ∧ d.1 (mo + 24) k = δ.1 (mo + 24) k) ∧ (∀ k, k < J → d.1 (mo + 19) k = δ.1 (mo + 19) k ∧ d.1 (mo + 21) k = δ.1 (mo + 21) k ∧ d.1 (mo + 23) k = δ.1 (mo + 23) k ∧ d.1 (mo + 25) k = δ.1 (mo + 25) k ∧ d.1 (mo + 26) k = δ.1 (mo + 26) k) ∧ (∀ k, k + 225 < 225 * J → d.1 (mo + 27) k = δ.1 (mo + 27) k) ∧ ∀ k, k < 9 * n → d.1 (mo + 17) k = δ.1 (mo + 17) k
def RGm (δ : Dy) (mo n : Nat) (E : Ev) (ls : List Lv) : Prop := δ.1 mo 33 = ii ((ls.length : Int) - 1) ∧ δ.1 mo 22 = ii n ∧ RLsm δ mo n E ls
/-- what the agents' methods write -/
def GFm (mo : Nat) (δ d : Dy) : Prop := Fr (fun r => r = mo ∨ (mo + 17 ≤ r ∧ r ≤ mo + 27)) δ d ∧ ∀ k, ¬ (k = 22 ∨ k = 33) → d.1 mo k = δ.1 mo k
theorem GFm.rf {mo : Nat} {δ : Dy} : GFm mo δ δ := ⟨Fr.rf, fun _ _ => rfl⟩
theorem GFm.tr {mo : Nat} {δ d e : Dy} (h : GFm mo δ d) (k : GFm mo d e) : GFm mo δ e := ⟨h.1.tr k.1, fun i hi => (k.2 i hi).trans (h.2 i hi)⟩
theorem GFm_of {mo : Nat} {δ d : Dy} (h : Fr (fun r => mo + 17 ≤ r ∧ r ≤ mo + 27) δ d) : GFm mo δ d := ⟨h.wk (fun r p => Or.inr p), fun k _ => by rw [(h mo (by omega)).1]⟩
theorem GFm_AF {mo n : Nat} {δ d : Dy} (h : AF mo n δ d) : GFm mo δ d := ⟨h.1.wk (fun r p => by omega), fun k hk => h.2.1 k (by omega)⟩
theorem LOW_AF {mo n J : Nat} {δ d : Dy} (h : AF mo n δ d) : LOW mo J n δ d := by
  have e : ∀ r, mo + 18 ≤ r → d.1 r = δ.1 r := fun r hr => (h.1 r (by omega)).1
  refine ⟨fun k _ => ?_, fun k _ => ?_, fun k _ => by rw [e _ (by omega)], fun k hk => h.2.2 k (by omega)⟩
  · rw [e (mo + 18) (by omega), e (mo + 20) (by omega), e (mo + 22) (by omega), e (mo + 24) (by omega)]
    exact ⟨rfl, rfl, rfl, rfl⟩
  · rw [e (mo + 19) (by omega), e (mo + 21) (by omega), e (mo + 23) (by omega), e (mo + 25) (by omega), e (mo + 26) (by omega)]
    exact ⟨rfl, rfl, rfl, rfl, rfl⟩
section
variable {σ : St} {δ d : Dy} {mo g n n' j arr cnt : Nat} {E : Ev} {a : Ag} {l l' : Lv} {ls : List Lv} {q : List Ag} {m : Int}
theorem RQm_eq (h : RQm δ mo arr cnt n j q) (hn : n ≤ n') (e1 : d.1 cnt j = δ.1 cnt j) (e2 : ∀ k, 500 * j ≤ k → k < 500 * j + 500 → d.1 arr k = δ.1 arr k) (e3 : ∀ k, k < 9 * n → d.1 (mo + 17) k = δ.1 (mo + 17) k) : RQm d mo arr cnt n' j q := by
  obtain ⟨h1, h2, h3⟩ := h
  refine ⟨h1, by rw [e1]; exact h2, fun i x hx => ?_⟩
  have hi := (List.getElem?_eq_some_iff.mp hx).1
  obtain ⟨g, k1, k2, k3⟩ := h3 i x hx
  exact ⟨g, by omega, by rw [e2 _ (by omega) (by omega)]; exact k2, RAm_eq k3 (fun k _ hk => e3 k (by omega))⟩
theorem RQm_push (h : RQm δ mo arr cnt n j q) (hq : q.length < 400) (hn : n ≤ n') (hg : g < n') (hA : RAm d mo g a) (e1 : d.1 cnt j = ii ((q.length : Int) + 1)) (e2 : ∀ k, 500 * j ≤ k → k < 500 * j + 500 → d.1 arr k = if k = 500 * j + q.length then ii g else δ.1 arr k) (e3 : ∀ k, k < 9 * n → d.1 (mo + 17) k = δ.1 (mo + 17) k) : RQm d mo arr cnt n' j (q ++ [a]) := by
  obtain ⟨h1, h2, h3⟩ := h
  refine ⟨by rw [List.length_append, List.length_singleton]; omega, by rw [e1, List.length_append, List.length_singleton]; rfl, fun i x hx => ?_⟩
  have hi := (List.getElem?_eq_some_iff.mp hx).1
  rw [List.length_append, List.length_singleton] at hi
  by_cases c : i < q.length
  · rw [List.getElem?_append_left c] at hx
    obtain ⟨g', k1, k2, k3⟩ := h3 i x hx
    exact ⟨g', by omega, by rw [e2 _ (by omega) (by omega), if_neg (by omega)]; exact k2, RAm_eq k3 (fun k _ hk => e3 k (by omega))⟩
  · have hi2 : i = q.length := by omega
    subst hi2
    rw [List.getElem?_append_right (Nat.le_refl _), Nat.sub_self] at hx
    have hx' : a = x := Option.some.inj hx
    subst hx'
    exact ⟨g, hg, by rw [e2 _ (by omega) (by omega), if_pos rfl], hA⟩
theorem RSvm_low (h : RSvm δ mo n E j l) (hj : 1 ≤ j) (hn : n ≤ n') (e : LOW mo (j + 1) n δ d) : RSvm d mo n' E j l := by
  obtain ⟨⟨h1, h2, h3⟩, h4, h5, g, a, h6, h7, h8, h9⟩ := h
  obtain ⟨e1, e2, e3, e4⟩ := e
  refine ⟨⟨by rw [e3 _ (by omega)]; exact h1, by rw [e3 _ (by omega)]; exact h2, by rw [e3 _ (by omega)]; exact h3⟩, fun v v60 hv => ?_, fun t t100 ht => by rw [e3 _ (by omega)]; exact h5 t t100 ht, g, a, by omega, by rw [(e2 j (by omega)).2.2.2.2]; exact h7, RAm_eq h8 (fun k _ hk => e4 k (by omega)), h9⟩
  rw [e3 _ (by omega), e3 _ (by omega)]
  exact h4 v v60 hv
theorem RLvm_low (h : RLvm δ mo n E j l) (hn : n ≤ n') (e : LOW mo (j + 1) n δ d) : RLvm d mo n' E j l := by
  obtain ⟨h1, h2, h3, h4, h5⟩ := h
  have e' := e
  obtain ⟨e1, e2, e3, e4⟩ := e
  have c := e2 j (by omega)
  exact ⟨RQm_eq h1 hn c.1 (fun k _ hk => (e1 k (by omega)).1) e4, RQm_eq h2 hn c.2.1 (fun k _ hk => (e1 k (by omega)).2.1) e4, RQm_eq h3 hn c.2.2.1 (fun k _ hk => (e1 k (by omega)).2.2.1) e4, RQm_eq h4 hn c.2.2.2.1 (fun k _ hk => (e1 k (by omega)).2.2.2) e4, fun hj => RSvm_low (h5 hj) hj hn e'⟩
theorem LOW.wk {J J' : Nat} (h : LOW mo J n δ d) (hJ : J' ≤ J) : LOW mo J' n δ d := by
  obtain ⟨e1, e2, e3, e4⟩ := h
  exact ⟨fun k hk => e1 k (by omega), fun k hk => e2 k (by omega), fun k hk => e3 k (by omega), e4⟩
theorem RLsm_low : ∀ {ls : List Lv}, RLsm δ mo n E ls → n ≤ n' → LOW mo ls.length n δ d → RLsm d mo n' E ls := by
  intro ls
  induction ls with
  | nil => intro _ _ _; trivial
  | cons l ls ih =>
    intro h hn e
    exact ⟨RLvm_low h.1 hn e, ih h.2 hn (e.wk (by rw [List.length_cons]; omega))⟩
/-- a list grows at its end -/
def pushG (σ : St) (mo fa fc : Nat) (x : Int32) (δ : Dy) : Option Dy :=
  (gR σ 12 mo fa).bind fun v1 =>
  (gI σ δ 12 mo 33).bind fun v2 =>
  (gR σ 12 mo fc).bind fun v3 =>
  (gI σ δ 12 mo 33).bind fun v4 =>
  (rI σ δ v3 v4).bind fun v5 =>
  (wI σ δ v1 (((500 : Int32) * v2) + v5) x).bind fun d6 =>
  (gR σ 12 mo fc).bind fun v7 =>
  (gI σ d6 12 mo 33).bind fun v8 =>
  (rI σ d6 v7 v8).bind fun v9 =>
  (wI σ d6 v7 v8 (v9 + (1 : Int32))).bind fun d10 =>
  some d10
theorem pushG_eq {fa fc : Nat} {x : Int32} {c : Nat} (h0 : KO σ mo 12) (ha : gR σ 12 mo fa = some arr) (hc : gR σ 12 mo fc = some cnt) (da : KD σ arr 100 2000) (dc : KD σ cnt 100 4) (h1 : ¬ arr = mo) (h2 : ¬ arr = cnt) (h33 : δ.1 mo 33 = ii j) (hj : j < 4) (hq : δ.1 cnt j = ii c) (hcl : c < 500) : pushG σ mo fa fc x δ = some (u2 (u2 δ.1 arr (500 * j + c) x) cnt j (ii ((c : Int) + 1)), δ.2) := by
  have e33 : (u2 δ.1 arr (500 * j + c) x) mo 33 = ii j := by rw [u2_ne (fun h => h1 h.symm)]; exact h33
  have ec : (u2 δ.1 arr (500 * j + c) x) cnt j = ii c := by rw [u2_ne (fun h => h2 h.symm)]; exact hq
  have r1 : rI σ δ cnt (ii j) = some (ii c) := rst dc (by omega) (by omega) (by omega) hq
  have w1 : wI σ δ arr (ii (500 * j + c)) x = some (u2 δ.1 arr (500 * j + c) x, δ.2) := by
    rw [wI_kd da (by omega) (by omega), show (500 * (j : Int) + c).toNat = 500 * j + c by omega]
  have r2 : rI σ (u2 δ.1 arr (500 * j + c) x, δ.2) cnt (ii j) = some (ii c) := rst dc (by omega) (by omega) (by omega) ec
  have w2 : wI σ (u2 δ.1 arr (500 * j + c) x, δ.2) cnt (ii j) (ii ((c : Int) + 1)) = some (u2 (u2 δ.1 arr (500 * j + c) x) cnt j (ii ((c : Int) + 1)), δ.2) := by
    rw [wI_kd dc (by omega) (by omega), show ((j : Int)).toNat = j by omega]
  unfold pushG
  rw [show ((500 : Int32)) = ii 500 from rfl, show ((1 : Int32)) = ii 1 from rfl, ha, ob_some, gI_ko h0, ob_some, hc, ob_some, ob_some, h33, r1, ob_some, ii_mul, ii_add, w1, ob_some, ob_some, gI_ko h0, ob_some]
  dsimp only
  rw [e33, r2, ob_some, ii_add, w2, ob_some]
theorem enq_G {x : Int32} : m_X12_enqueue σ mo x δ = pushG σ mo 23 24 x δ := rfl
theorem wait_G {x : Int32} : m_X12_waitFor σ mo x δ = pushG σ mo 25 26 x δ := rfl
theorem next_G {x : Int32} : m_X12_forNext σ mo x δ = pushG σ mo 29 30 x δ := rfl
theorem push_low {arr cnt c : Nat} {x y : Int32} (hac : (arr = mo + 18 ∧ cnt = mo + 19) ∨ (arr = mo + 20 ∧ cnt = mo + 21) ∨ (arr = mo + 22 ∧ cnt = mo + 23) ∨ (arr = mo + 24 ∧ cnt = mo + 25)) : LOW mo j n δ (u2 (u2 δ.1 arr (500 * j + c) x) cnt j y, δ.2) := by
  refine ⟨fun k hk => ?_, fun k hk => ?_, fun k hk => ?_, fun k hk => ?_⟩
  · rcases hac with ⟨rfl, rfl⟩ | ⟨rfl, rfl⟩ | ⟨rfl, rfl⟩ | ⟨rfl, rfl⟩ <;> (dsimp only; simp (disch := omega) only [u2, if_neg, and_self])
  · rcases hac with ⟨rfl, rfl⟩ | ⟨rfl, rfl⟩ | ⟨rfl, rfl⟩ | ⟨rfl, rfl⟩ <;> (dsimp only; simp (disch := omega) only [u2, if_neg, and_self])
  · rcases hac with ⟨rfl, rfl⟩ | ⟨rfl, rfl⟩ | ⟨rfl, rfl⟩ | ⟨rfl, rfl⟩ <;> (dsimp only; rw [u2_ne (by omega), u2_ne (by omega)])
  · rcases hac with ⟨rfl, rfl⟩ | ⟨rfl, rfl⟩ | ⟨rfl, rfl⟩ | ⟨rfl, rfl⟩ <;> (dsimp only; rw [u2_ne (by omega), u2_ne (by omega)])
/-- how it stands after a push at level j -/
theorem push_q (h : RQm δ mo arr cnt n j q) (hac : (arr = mo + 18 ∧ cnt = mo + 19) ∨ (arr = mo + 20 ∧ cnt = mo + 21) ∨ (arr = mo + 22 ∧ cnt = mo + 23) ∨ (arr = mo + 24 ∧ cnt = mo + 25)) (hq : q.length < 400) (hg : g < n) (hA : RAm δ mo g a) : RQm (u2 (u2 δ.1 arr (500 * j + q.length) (ii g)) cnt j (ii ((q.length : Int) + 1)), δ.2) mo arr cnt n j (q ++ [a]) := by
  have h17 : ∀ k, (u2 (u2 δ.1 arr (500 * j + q.length) (ii g)) cnt j (ii ((q.length : Int) + 1))) (mo + 17) k = δ.1 (mo + 17) k := fun k => by
    rw [u2_ne (by omega), u2_ne (by omega)]
  refine RQm_push h hq (Nat.le_refl _) hg (RAm_eq hA (fun k _ _ => h17 k)) ?_ (fun k k0 k1 => ?_) (fun k _ => h17 k)
  · simp only [u2, and_self, ↓reduceIte]
  · dsimp only
    rw [u2_ne (by omega)]
    by_cases hk : k = 500 * j + q.length
    · rw [if_pos hk, hk]
      simp only [u2, and_self, ↓reduceIte]
    · rw [if_neg hk]
      simp (disch := omega) only [u2, if_neg]
theorem push_o {arr' cnt' c : Nat} {x y : Int32} (h : RQm δ mo arr' cnt' n j q) (h0 : ¬ arr = mo + 17) (h0' : ¬ cnt = mo + 17) (h1 : ¬ arr' = arr) (h2 : ¬ arr' = cnt) (h3 : ¬ cnt' = arr) (h4 : ¬ cnt' = cnt) : RQm (u2 (u2 δ.1 arr (500 * j + c) x) cnt j y, δ.2) mo arr' cnt' n j q := by
  refine RQm_eq h (Nat.le_refl _) ?_ (fun k _ _ => ?_) (fun k _ => ?_)
  · dsimp only; rw [u2_ne h4, u2_ne h3]
  · dsimp only; rw [u2_ne h2, u2_ne h1]
  · dsimp only; rw [u2_ne (fun h => h0' h.symm), u2_ne (fun h => h0 h.symm)]
theorem push_sv {arr cnt c : Nat} {x y : Int32} (h : RSvm δ mo n E j l) (hl : l'.2.2.2.2 = l.2.2.2.2) (hj : 1 ≤ j) (h1 : mo + 18 ≤ arr ∧ arr ≤ mo + 25) (h2 : mo + 18 ≤ cnt ∧ cnt ≤ mo + 25) : RSvm (u2 (u2 δ.1 arr (500 * j + c) x) cnt j y, δ.2) mo n E j l' := by
  have e : ∀ r, (r = mo + 17 ∨ r = mo + 26 ∨ r = mo + 27) → (u2 (u2 δ.1 arr (500 * j + c) x) cnt j y) r = δ.1 r := fun r hr => by rw [u2_ne (by omega), u2_ne (by omega)]
  unfold RSvm l_sv l_hn l_ow at h ⊢
  rw [hl]
  obtain ⟨k1, k2, k3, g, a, k4, k5, k6, k7⟩ := h
  have k6' : RAm (u2 (u2 δ.1 arr (500 * j + c) x) cnt j y, δ.2) mo g a := RAm_eq k6 (fun k _ _ => by dsimp only; rw [e _ (Or.inl rfl)])
  dsimp only
  rw [e (mo + 27) (by omega), e (mo + 26) (by omega)]
  exact ⟨k1, k2, k3, g, a, k4, k5, k6', k7⟩
theorem m_push (hK : KM σ mo) (h : RGm δ mo n E (l :: ls)) (hJ : ls.length < 4) (hg : g < n) (hA : RAm δ mo g a) : ((l_q l).length < 400 → Ok (m_X12_enqueue σ mo (ii g) δ) (fun d => RGm d mo n E (qAdd l a :: ls) ∧ GFm mo δ d ∧ d.1 (mo + 17) = δ.1 (mo + 17))) ∧ ((l_w l).length < 400 → Ok (m_X12_waitFor σ mo (ii g) δ) (fun d => RGm d mo n E (wAdd l a :: ls) ∧ GFm mo δ d ∧ d.1 (mo + 17) = δ.1 (mo + 17))) ∧ ((l_nx l).length < 400 → Ok (m_X12_forNext σ mo (ii g) δ) (fun d => RGm d mo n E (nAdd l a :: ls) ∧ GFm mo δ d ∧ d.1 (mo + 17) = δ.1 (mo + 17))) ∧ ((l_as l).length < 400 → Ok (pushG σ mo 27 28 (ii g) δ) (fun d => RGm d mo n E ((l_q l, l_w l, l_as l ++ [a], l.2.2.2) :: ls) ∧ GFm mo δ d ∧ d.1 (mo + 17) = δ.1 (mo + 17))) := by
  obtain ⟨h33, h22, ⟨q1, q2, q3, q4, q5⟩, hls⟩ := h
  have h33' : δ.1 mo 33 = ii ls.length := by rw [h33, List.length_cons]; exact congrArg ii (by omega)
  have keep : ∀ {arr cnt c : Nat} {x y : Int32}, (mo + 18 ≤ arr ∧ arr ≤ mo + 25) → (mo + 18 ≤ cnt ∧ cnt ≤ mo + 25) → (∀ k, (u2 (u2 δ.1 arr (500 * ls.length + c) x) cnt ls.length y) mo k = δ.1 mo k) ∧ GFm mo δ (u2 (u2 δ.1 arr (500 * ls.length + c) x) cnt ls.length y, δ.2) ∧ (u2 (u2 δ.1 arr (500 * ls.length + c) x) cnt ls.length y) (mo + 17) = δ.1 (mo + 17) := by
    intro arr cnt c x y h1 h2
    exact ⟨fun k => by rw [u2_ne (by omega), u2_ne (by omega)], GFm_of ((Fr_u2 (by omega)).tr (Fr_u2 (δ := (u2 δ.1 arr (500 * ls.length + c) x, δ.2)) (by omega))), by rw [u2_ne (by omega), u2_ne (by omega)]⟩
  refine ⟨fun hq => ?_, fun hq => ?_, fun hq => ?_, fun hq => ?_⟩
  · obtain ⟨f1, f2⟩ := keep (arr := mo + 18) (cnt := mo + 19) (c := (l_q l).length) (x := ii g) (y := ii (((l_q l).length : Int) + 1)) (by omega) (by omega)
    refine ⟨_, enq_G.trans (pushG_eq hK.1 (mg23 hK) (mg24 hK) (md23 hK) (md24 hK) (by omega) (by omega) h33' hJ q1.2.1 (by omega)), ⟨(f1 33).trans h33, (f1 22).trans h22, ⟨?_, ?_, ?_, ?_, ?_⟩, RLsm_low hls (Nat.le_refl _) (push_low (Or.inl ⟨rfl, rfl⟩))⟩, f2⟩
    · exact push_q q1 (Or.inl ⟨rfl, rfl⟩) hq hg hA
    · exact push_o q2 (by omega) (by omega) (by omega) (by omega) (by omega) (by omega)
    · exact push_o q3 (by omega) (by omega) (by omega) (by omega) (by omega) (by omega)
    · exact push_o q4 (by omega) (by omega) (by omega) (by omega) (by omega) (by omega)
    · exact fun hj => push_sv (q5 hj) rfl hj (by omega) (by omega)
  · obtain ⟨f1, f2⟩ := keep (arr := mo + 20) (cnt := mo + 21) (c := (l_w l).length) (x := ii g) (y := ii (((l_w l).length : Int) + 1)) (by omega) (by omega)
    refine ⟨_, wait_G.trans (pushG_eq hK.1 (mg25 hK) (mg26 hK) (md25 hK) (md26 hK) (by omega) (by omega) h33' hJ q2.2.1 (by omega)), ⟨(f1 33).trans h33, (f1 22).trans h22, ⟨?_, ?_, ?_, ?_, ?_⟩, RLsm_low hls (Nat.le_refl _) (push_low (Or.inr (Or.inl ⟨rfl, rfl⟩)))⟩, f2⟩
    · exact push_o q1 (by omega) (by omega) (by omega) (by omega) (by omega) (by omega)
    · exact push_q q2 (Or.inr (Or.inl ⟨rfl, rfl⟩)) hq hg hA
    · exact push_o q3 (by omega) (by omega) (by omega) (by omega) (by omega) (by omega)
    · exact push_o q4 (by omega) (by omega) (by omega) (by omega) (by omega) (by omega)
    · exact fun hj => push_sv (q5 hj) rfl hj (by omega) (by omega)
  · obtain ⟨f1, f2⟩ := keep (arr := mo + 24) (cnt := mo + 25) (c := (l_nx l).length) (x := ii g) (y := ii (((l_nx l).length : Int) + 1)) (by omega) (by omega)
    refine ⟨_, next_G.trans (pushG_eq hK.1 (mg29 hK) (mg30 hK) (md29 hK) (md30 hK) (by omega) (by omega) h33' hJ q4.2.1 (by omega)), ⟨(f1 33).trans h33, (f1 22).trans h22, ⟨?_, ?_, ?_, ?_, ?_⟩, RLsm_low hls (Nat.le_refl _) (push_low (Or.inr (Or.inr (Or.inr ⟨rfl, rfl⟩))))⟩, f2⟩
    · exact push_o q1 (by omega) (by omega) (by omega) (by omega) (by omega) (by omega)
    · exact push_o q2 (by omega) (by omega) (by omega) (by omega) (by omega) (by omega)
    · exact push_o q3 (by omega) (by omega) (by omega) (by omega) (by omega) (by omega)
    · exact push_q q4 (Or.inr (Or.inr (Or.inr ⟨rfl, rfl⟩))) hq hg hA
    · exact fun hj => push_sv (q5 hj) rfl hj (by omega) (by omega)
  · obtain ⟨f1, f2⟩ := keep (arr := mo + 22) (cnt := mo + 23) (c := (l_as l).length) (x := ii g) (y := ii (((l_as l).length : Int) + 1)) (by omega) (by omega)
    refine ⟨_, pushG_eq hK.1 (mg27 hK) (mg28 hK) (md27 hK) (md28 hK) (by omega) (by omega) h33' hJ q3.2.1 (by omega), ⟨(f1 33).trans h33, (f1 22).trans h22, ⟨?_, ?_, ?_, ?_, ?_⟩, RLsm_low hls (Nat.le_refl _) (push_low (Or.inr (Or.inr (Or.inl ⟨rfl, rfl⟩))))⟩, f2⟩
    · exact push_o q1 (by omega) (by omega) (by omega) (by omega) (by omega) (by omega)
    · exact push_o q2 (by omega) (by omega) (by omega) (by omega) (by omega) (by omega)
    · exact push_q q3 (Or.inr (Or.inr (Or.inl ⟨rfl, rfl⟩))) hq hg hA
    · exact push_o q4 (by omega) (by omega) (by omega) (by omega) (by omega) (by omega)
    · exact fun hj => push_sv (q5 hj) rfl hj (by omega) (by omega)
/-- a new agent that is in no list yet -/
theorem RGm_new (h : RGm δ mo n E ls) (hF : AF mo n δ d) (h22 : d.1 mo 22 = ii ((n : Int) + 1)) : RGm d mo (n + 1) E ls := ⟨by rw [hF.2.1 33 (by decide)]; exact h.1, h22, RLsm_low h.2.2 (Nat.le_succ _) (LOW_AF hF)⟩
theorem m_newq (hK : KM σ mo) (h : RGm δ mo n E (l :: ls)) (hJ : ls.length < 4) (hg : g < n) (hn : n < 1990) (hA : RAm δ mo g a) (hq : (l_q l).length < 400) : Ok ((m_X12_another σ mo (ii g) (ii m) δ).bind fun r => m_X12_enqueue σ mo r.1 r.2) (fun d => RGm d mo (n + 1) E (qAdd l (m, a.2) :: ls) ∧ GFm mo δ d) := by
  obtain ⟨⟨r1, d⟩, e, h1, h2, h3, h4⟩ := m_another hK hA (m := m) hg hn h.2.1
  dsimp only at h1 h2 h3 h4
  subst h1
  obtain ⟨D, eD, k1, k2, -⟩ := (m_push hK (RGm_new h h4 h3) hJ (Nat.lt_succ_self n) h2).1 hq
  exact ⟨D, by rw [e, ob_some]; exact eD, k1, (GFm_AF h4).tr k2⟩
/-- two at once, as the texts have them -/
theorem m_newq2 (hK : KM σ mo) (h : RGm δ mo n E (l :: ls)) (hJ : ls.length < 4) (hg : g < n) (hn : n < 1990) (hA : RAm δ mo g a) (hq : (l_q l).length < 400) : ∃ d1 D, m_X12_another σ mo (ii g) (ii m) δ = some (ii n, d1) ∧ m_X12_enqueue σ mo (ii n) d1 = some D ∧ RGm D mo (n + 1) E (qAdd l (m, a.2) :: ls) ∧ GFm mo δ D ∧ RAm D mo g a := by
  obtain ⟨⟨r1, d⟩, e, h1, h2, h3, h4⟩ := m_another hK hA (m := m) hg hn h.2.1
  dsimp only at h1 h2 h3 h4
  subst h1
  obtain ⟨D, eD, k1, k2, k3⟩ := (m_push hK (RGm_new h h4 h3) hJ (Nat.lt_succ_self n) h2).1 hq
  exact ⟨d, D, e, eD, k1, (GFm_AF h4).tr k2, RAm_eq hA (fun k _ hk => by rw [k3]; exact h4.2.2 k (by omega))⟩
end
