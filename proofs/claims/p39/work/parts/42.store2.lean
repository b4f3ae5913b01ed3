/-! THE STORE: what writes, and the rest that reads -/
abbrev s_setcl (S : Sto) (f : Int → Int) : Sto := (s_nv S, f, s_va S, s_nt S, s_so S, s_fi S, s_se S, s_sd S, s_la S, s_sl S)
abbrev s_setva (S : Sto) (f : Int → Int) : Sto := (s_nv S, s_cl S, f, s_nt S, s_so S, s_fi S, s_se S, s_sd S, s_la S, s_sl S)
abbrev s_setsd (S : Sto) (f : Int → Bool) : Sto := (s_nv S, s_cl S, s_va S, s_nt S, s_so S, s_fi S, s_se S, f, s_la S, s_sl S)
def mkvar (S : Sto) : Sto := (s_nv S + 1, upf (s_cl S) (s_nv S) (s_nv S), upf (s_va S) (s_nv S) 100, s_nt S, s_so S, s_fi S, s_se S, s_sd S, s_la S, s_sl S)
def addtok (S : Sto) (so a b : Int) (la : Bool) (sl : Nat → Bool) : Sto := (s_nv S, s_cl S, s_va S, s_nt S + 1, upf (s_so S) (s_nt S) so, upf (s_fi S) (s_nt S) a, upf (s_se S) (s_nt S) b, upf (s_sd S) (s_nt S) true, upf (s_la S) (s_nt S) la, upf (s_sl S) (s_nt S) sl)
def touched (S : Sto) (root t : Int) : Bool := s_sd S t && (decide (rootOf S (s_fi S t) = root) || decide (rootOf S (s_se S t) = root))
def cnt (P : Int → Bool) : Nat → Int
  | 0 => 0
  | n + 1 => cnt P n + (if P n = true then 1 else 0)
theorem cnt_rng (P : Int → Bool) : ∀ n : Nat, 0 ≤ cnt P n ∧ cnt P n ≤ n := by
  intro n
  induction n with
  | zero => exact ⟨Int.le_refl _, Int.le_refl _⟩
  | succ n ih =>
    unfold cnt
    split <;> omega
def joinv (S : Sto) (root gone known : Int) : Sto := s_setva (s_setcl S (fun v => if v < s_nv S ∧ s_cl S v = gone then root else s_cl S v)) (upf (s_va S) root known)
def uniB (S : Sto) (mx known : Int) : Int × Bool × Sto := if s_va S mx = 100 then (mx, false, s_setva S (upf (s_va S) mx known)) else (-1, false, S)
def mxi (a b : Int) : Int := if a < b then b else a
def mni (a b : Int) : Int := if b < a then b else a
def uniA (S : Sto) (one other known : Int) : Int × Bool × Sto := if ¬ one = -1 ∧ ¬ other = -1 then (mni one other, false, joinv S (mni one other) (mxi one other) known) else uniB S (mxi one other) known
def knw (l r : Int) : Int := if l < 400 then l else if r < 400 then r else 100
def uni (S : Sto) (a b : Int) : Int × Bool × Sto :=
  if form S a < 400 ∧ form S b < 400 ∧ ¬ form S a = form S b then (-1, true, S)
  else if rootOf S a = rootOf S b then (-1, false, S)
  else uniA S (rootOf S a) (rootOf S b) (knw (form S a) (form S b))
theorem rootOf_rng {S : Sto} (hG : GS S) (t : Int) : -1 ≤ rootOf S t ∧ rootOf S t < s_nv S := by
  obtain ⟨⟨g1, g2, g3, g4⟩, g5, g6, g7, g8, g9⟩ := hG
  unfold rootOf
  by_cases ha : t - 400 < 0
  · rw [if_pos ha]; omega
  · rw [if_neg ha]
    by_cases hb : t - 400 < s_nv S
    · rw [if_pos hb]
      have h5 := g5 (t - 400) (by omega) hb
      omega
    · rw [if_neg hb]; omega
section
variable {σ : St} {δ : Dy} {st : Nat} {S : Sto} {ac : Int} {fl : Bool}
theorem RS_wcl {y v : Int} (hR : RS δ st S ac fl) (hy : 0 ≤ y) : RS (u2 δ.1 (st + 1) y.toNat (ii v), δ.2) st (s_setcl S (upf (s_cl S) y v)) ac fl := by
  obtain ⟨r1, r2, r3, r4, r5, r6, r7, r8, r9, r10, r11, r12, r13, r14⟩ := hR
  refine ⟨?_, ?_, fun z z0 z1 => ?_, fun z z0 z1 => ?_, fun z z0 z1 => ?_, fun z z0 z1 => ?_, fun z z0 z1 => ?_, fun z z0 z1 => ?_, fun z z0 z1 => ?_, fun z z0 z1 => ?_, ?_, ?_, fun k => ?_, fun k => ?_⟩
  case refine_3 =>
    by_cases hz : z = y
    · subst hz
      simp only [s_cl, s_setcl, u2, upf, and_self, ↓reduceIte]
    · simp (disch := omega) only [s_cl, s_setcl, u2, upf, if_neg]
      exact r3 _ z0 z1
  all_goals first | (first | exact r1 | exact r2 | exact r3 _ z0 z1 | exact r4 _ z0 z1 | exact r5 _ z0 z1 | exact r6 _ z0 z1 | exact r7 _ z0 z1 | exact r8 _ z0 z1 | exact r9 _ z0 z1 | exact r10 _ z0 z1 | exact r11 | exact r12 | exact r13 _ | exact r14 _) | (simp (disch := omega) only [u2, if_neg]; first | done | (first | exact r1 | exact r2 | exact r3 _ z0 z1 | exact r4 _ z0 z1 | exact r5 _ z0 z1 | exact r6 _ z0 z1 | exact r7 _ z0 z1 | exact r8 _ z0 z1 | exact r9 _ z0 z1 | exact r10 _ z0 z1 | exact r11 | exact r12 | exact r13 _ | exact r14 _))
theorem RS_wva {y v : Int} (hR : RS δ st S ac fl) (hy : 0 ≤ y) : RS (u2 δ.1 (st + 2) y.toNat (ii v), δ.2) st (s_setva S (upf (s_va S) y v)) ac fl := by
  obtain ⟨r1, r2, r3, r4, r5, r6, r7, r8, r9, r10, r11, r12, r13, r14⟩ := hR
  refine ⟨?_, ?_, fun z z0 z1 => ?_, fun z z0 z1 => ?_, fun z z0 z1 => ?_, fun z z0 z1 => ?_, fun z z0 z1 => ?_, fun z z0 z1 => ?_, fun z z0 z1 => ?_, fun z z0 z1 => ?_, ?_, ?_, fun k => ?_, fun k => ?_⟩
  case refine_4 =>
    by_cases hz : z = y
    · subst hz
      simp only [s_va, s_setva, u2, upf, and_self, ↓reduceIte]
    · simp (disch := omega) only [s_va, s_setva, u2, upf, if_neg]
      exact r4 _ z0 z1
  all_goals first | (first | exact r1 | exact r2 | exact r3 _ z0 z1 | exact r4 _ z0 z1 | exact r5 _ z0 z1 | exact r6 _ z0 z1 | exact r7 _ z0 z1 | exact r8 _ z0 z1 | exact r9 _ z0 z1 | exact r10 _ z0 z1 | exact r11 | exact r12 | exact r13 _ | exact r14 _) | (simp (disch := omega) only [u2, if_neg]; first | done | (first | exact r1 | exact r2 | exact r3 _ z0 z1 | exact r4 _ z0 z1 | exact r5 _ z0 z1 | exact r6 _ z0 z1 | exact r7 _ z0 z1 | exact r8 _ z0 z1 | exact r9 _ z0 z1 | exact r10 _ z0 z1 | exact r11 | exact r12 | exact r13 _ | exact r14 _))
theorem RS_wsd {y : Int} {v : Bool} (hR : RS δ st S ac fl) (hy : 0 ≤ y) : RS (u2 δ.1 (st + 7) y.toNat (bi v), δ.2) st (s_setsd S (upf (s_sd S) y v)) ac fl := by
  obtain ⟨r1, r2, r3, r4, r5, r6, r7, r8, r9, r10, r11, r12, r13, r14⟩ := hR
  refine ⟨?_, ?_, fun z z0 z1 => ?_, fun z z0 z1 => ?_, fun z z0 z1 => ?_, fun z z0 z1 => ?_, fun z z0 z1 => ?_, fun z z0 z1 => ?_, fun z z0 z1 => ?_, fun z z0 z1 => ?_, ?_, ?_, fun k => ?_, fun k => ?_⟩
  case refine_9 =>
    by_cases hz : z = y
    · subst hz
      simp only [s_sd, s_setsd, u2, upf, and_self, ↓reduceIte]
    · simp (disch := omega) only [s_sd, s_setsd, u2, upf, if_neg]
      exact r9 _ z0 z1
  case refine_14 =>
    by_cases hk : k = y.toNat
    · subst hk
      simp only [u2, and_self, ↓reduceIte]
      exact bi_01 v
    · simp (disch := omega) only [u2, if_neg]
      exact r14 k
  all_goals first | (first | exact r1 | exact r2 | exact r3 _ z0 z1 | exact r4 _ z0 z1 | exact r5 _ z0 z1 | exact r6 _ z0 z1 | exact r7 _ z0 z1 | exact r8 _ z0 z1 | exact r9 _ z0 z1 | exact r10 _ z0 z1 | exact r11 | exact r12 | exact r13 _ | exact r14 _) | (simp (disch := omega) only [u2, if_neg]; first | done | (first | exact r1 | exact r2 | exact r3 _ z0 z1 | exact r4 _ z0 z1 | exact r5 _ z0 z1 | exact r6 _ z0 z1 | exact r7 _ z0 z1 | exact r8 _ z0 z1 | exact r9 _ z0 z1 | exact r10 _ z0 z1 | exact r11 | exact r12 | exact r13 _ | exact r14 _))
theorem RS_wac {a : Int} (hR : RS δ st S ac fl) : RS (u2 δ.1 st 11 (ii a), δ.2) st S a fl := by
  obtain ⟨r1, r2, r3, r4, r5, r6, r7, r8, r9, r10, r11, r12, r13, r14⟩ := hR
  refine ⟨?_, ?_, fun z z0 z1 => ?_, fun z z0 z1 => ?_, fun z z0 z1 => ?_, fun z z0 z1 => ?_, fun z z0 z1 => ?_, fun z z0 z1 => ?_, fun z z0 z1 => ?_, fun z z0 z1 => ?_, ?_, ?_, fun k => ?_, fun k => ?_⟩
  case refine_11 => simp only [u2, and_self, ↓reduceIte]
  all_goals first | (first | exact r1 | exact r2 | exact r3 _ z0 z1 | exact r4 _ z0 z1 | exact r5 _ z0 z1 | exact r6 _ z0 z1 | exact r7 _ z0 z1 | exact r8 _ z0 z1 | exact r9 _ z0 z1 | exact r10 _ z0 z1 | exact r11 | exact r12 | exact r13 _ | exact r14 _) | (simp (disch := omega) only [u2, if_neg]; first | done | (first | exact r1 | exact r2 | exact r3 _ z0 z1 | exact r4 _ z0 z1 | exact r5 _ z0 z1 | exact r6 _ z0 z1 | exact r7 _ z0 z1 | exact r8 _ z0 z1 | exact r9 _ z0 z1 | exact r10 _ z0 z1 | exact r11 | exact r12 | exact r13 _ | exact r14 _))
theorem RS_wfl {v : Bool} (hR : RS δ st S ac fl) : RS (u2 δ.1 st 12 (bi v), δ.2) st S ac v := by
  obtain ⟨r1, r2, r3, r4, r5, r6, r7, r8, r9, r10, r11, r12, r13, r14⟩ := hR
  refine ⟨?_, ?_, fun z z0 z1 => ?_, fun z z0 z1 => ?_, fun z z0 z1 => ?_, fun z z0 z1 => ?_, fun z z0 z1 => ?_, fun z z0 z1 => ?_, fun z z0 z1 => ?_, fun z z0 z1 => ?_, ?_, ?_, fun k => ?_, fun k => ?_⟩
  case refine_12 => simp only [u2, and_self, ↓reduceIte]
  all_goals first | (first | exact r1 | exact r2 | exact r3 _ z0 z1 | exact r4 _ z0 z1 | exact r5 _ z0 z1 | exact r6 _ z0 z1 | exact r7 _ z0 z1 | exact r8 _ z0 z1 | exact r9 _ z0 z1 | exact r10 _ z0 z1 | exact r11 | exact r12 | exact r13 _ | exact r14 _) | (simp (disch := omega) only [u2, if_neg]; first | done | (first | exact r1 | exact r2 | exact r3 _ z0 z1 | exact r4 _ z0 z1 | exact r5 _ z0 z1 | exact r6 _ z0 z1 | exact r7 _ z0 z1 | exact r8 _ z0 z1 | exact r9 _ z0 z1 | exact r10 _ z0 z1 | exact r11 | exact r12 | exact r13 _ | exact r14 _))
theorem Fr_u2 {r k : Nat} {x : Int32} {P : Nat → Prop} (h : P r) : Fr P δ (u2 δ.1 r k x, δ.2) := fun q hq => ⟨u2_ne (fun e => hq (e ▸ h)), rfl⟩
theorem Fr_u2L {r k : Nat} {x : Int64} {P : Nat → Prop} (h : P r) : Fr P δ (δ.1, u2 δ.2 r k x) := fun q hq => ⟨rfl, u2_ne (fun e => hq (e ▸ h))⟩
theorem t_mayAct (hK : KS σ st) (hR : RS δ st S ac fl) (h0 : 0 ≤ ac) (h1 : ac ≤ 60) : Ok (m_X8_mayAct σ st δ) (fun r => r.1 = bi (decide (ac < 60)) ∧ RS r.2 st S (if ac < 60 then ac + 1 else ac) (if ac < 60 then fl else true) ∧ Fr (blk st 10) δ r.2) := by
  have hR' := hR
  obtain ⟨k0, ⟨k1, k2, k3, k4, k5, k6, k7, k8, k9⟩, d1, d2, d3, d4, d5, d6, d7, d8, d9⟩ := hK
  obtain ⟨r1, r2, r3, r4, r5, r6, r7, r8, r9, r10, r11, r12, r13, r14⟩ := hR
  unfold m_X8_mayAct
  by_cases h : ac < 60
  · refine Ok_of (v := (ii 1, (u2 δ.1 st 11 (ii (ac + 1)), δ.2))) (by simp (disch := omega) only [↓reduceIte, ii_lit, ii_add, ii_sub, ii_mul, ii_neg, ii_lt, ii_le, ii_eq, if_pos, if_neg, Option.bind_some, gI_ko k0, chk_ko k0, pI_ko k0, gR_ko k0 k1, gR_ko k0 k2, gR_ko k0 k3, gR_ko k0 k4, gR_ko k0 k5, gR_ko k0 k6, gR_ko k0 k7, gR_ko k0 k8, gR_ko k0 k9, rI_kd d1, rI_kd d2, rI_kd d3, rI_kd d4, rI_kd d5, rZ_kd d6, rZ_kd d7, rL_kd d8, rL_kd d9, r1, r2, r3, r4, r5, r6, r7, r8, r9, r11, r12]) ⟨?_, ?_, ?_⟩
    · rw [decide_eq_true h]; rfl
    · rw [if_pos h, if_pos h]; exact RS_wac hR'
    · exact Fr_u2 (by unfold blk; omega)
  · refine Ok_of (v := (ii 0, (u2 δ.1 st 12 (bi true), δ.2))) (by simp (disch := omega) only [↓reduceIte, ii_lit, ii_add, ii_sub, ii_mul, ii_neg, ii_lt, ii_le, ii_eq, if_pos, if_neg, Option.bind_some, gI_ko k0, chk_ko k0, pI_ko k0, gR_ko k0 k1, gR_ko k0 k2, gR_ko k0 k3, gR_ko k0 k4, gR_ko k0 k5, gR_ko k0 k6, gR_ko k0 k7, gR_ko k0 k8, gR_ko k0 k9, rI_kd d1, rI_kd d2, rI_kd d3, rI_kd d4, rI_kd d5, rZ_kd d6, rZ_kd d7, rL_kd d8, rL_kd d9, r1, r2, r3, r4, r5, r6, r7, r8, r9, r11, r12, pZ_ko k0 (x := ii 1) (Or.inr rfl), bi_t]) ⟨?_, ?_, ?_⟩
    · rw [decide_eq_false h]; rfl
    · rw [if_neg h, if_neg h]; exact RS_wfl hR'
    · exact Fr_u2 (by unfold blk; omega)
theorem t_entl (hK : KS σ st) (hR : RS δ st S ac fl) (hG : GS S) {c a b : Int} (h0 : -100000 ≤ a) (h1 : a ≤ 100000) (h2 : -100000 ≤ b) (h3 : b ≤ 100000) (h4 : 0 ≤ c) (h5 : c ≤ 15) (h6 : c ≤ 3 ∨ 10 ≤ c) : m_X8_isEntailed σ st (ii c) (ii a) (ii b) δ = some (bi (entl S c a b)) := by
  have e1 := t_form hK hR hG h0 h1
  have e2 := t_form hK hR hG h2 h3
  have q1 := form_rng hG h0 h1
  have q2 := form_rng hG h2 h3
  have k0 := hK.1
  unfold m_X8_isEntailed entl
  by_cases hc : c < 10
  · simp (disch := omega) only [↓reduceIte, ii_lit, ii_add, ii_sub, ii_mul, ii_neg, ii_lt, ii_le, ii_eq, if_pos, if_neg, Option.bind_some, chk_ko k0, e1, e2]
    generalize form S a = l at q1 ⊢
    generalize form S b = r at q2 ⊢
    unfold m_X8_isEntailed_b60 m_X8_isEntailed_b61
    rcases (show c = 0 ∨ c = 1 ∨ c = 2 ∨ c = 3 by omega) with rfl | rfl | rfl | rfl <;> by_cases c1 : 400 ≤ l <;> by_cases c2 : 400 ≤ r <;> by_cases c3 : l = r <;> by_cases c4 : l < r <;> first | omega | (simp (disch := omega) only [↓reduceIte, ii_lit, ii_add, ii_sub, ii_mul, ii_neg, ii_lt, ii_le, ii_eq, if_pos, if_neg, Option.bind_some, bi_ii, decide_eq_true_eq])
  · have e3 := t_lowest hK hR hG (w := c - 10) h0 h1 h2 h3 (by omega) (by omega)
    have hl : lowest S (c - 10) a b = -1 ∨ 0 ≤ lowest S (c - 10) a b ∧ lowest S (c - 10) a b < 2147483648 := by
      obtain ⟨⟨g1, g2, g3, g4⟩, g5, g6, g7, g8, g9⟩ := hG
      rcases fnd_spec (P := isTok S (c - 10) (form S a) (form S b)) (s_nt S).toNat 0 with ⟨h, -⟩ | ⟨x1, x2, -⟩
      · exact Or.inl h
      · refine Or.inr ⟨x1, ?_⟩
        show fnd _ _ _ < _
        omega
    simp (disch := omega) only [↓reduceIte, ii_lit, ii_add, ii_sub, ii_mul, ii_neg, ii_lt, ii_le, ii_eq, if_pos, if_neg, Option.bind_some, chk_ko k0, e3]
    by_cases hm : lowest S (c - 10) a b = -1
    · rw [hm]
      simp (disch := omega) only [↓reduceIte, ii_lit, ii_add, ii_sub, ii_mul, ii_neg, ii_lt, ii_le, ii_eq, if_pos, if_neg, Option.bind_some, bi_ii, decide_eq_true_eq]
      rfl
    · simp (disch := omega) only [↓reduceIte, ii_lit, ii_add, ii_sub, ii_mul, ii_neg, ii_lt, ii_le, ii_eq, if_pos, if_neg, Option.bind_some, bi_ii, decide_eq_true_eq]
theorem t_isTouched (hK : KS σ st) (hR : RS δ st S ac fl) (hG : GS S) {t root : Int} (h0 : 0 ≤ t) (h1 : t < s_nt S) (h2 : -1 ≤ root) (h3 : root ≤ 60) : m_X8_isTouched σ st (ii t) (ii root) δ = some (bi (touched S root t)) := by
  have e : ∀ x, -100000 ≤ x → x ≤ 100000 → m_X8_rootOf σ st (ii x) δ = some (ii (rootOf S x)) := fun x a b => t_rootOf hK hR hG a b
  have q := rootOf_rng hG
  obtain ⟨k0, ⟨k1, k2, k3, k4, k5, k6, k7, k8, k9⟩, d1, d2, d3, d4, d5, d6, d7, d8, d9⟩ := hK
  obtain ⟨r1, r2, r3, r4, r5, r6, r7, r8, r9, r10, r11, r12, r13, r14⟩ := hR
  obtain ⟨⟨g1, g2, g3, g4⟩, g5, g6, g7, g8, g9⟩ := hG
  have h8 := tm_rng (g8 t h0 h1) g2
  have h9 := tm_rng (g9 t h0 h1) g2
  have e1 := e (s_fi S t) (by omega) (by omega)
  have e2 := e (s_se S t) (by omega) (by omega)
  have q1 := q (s_fi S t)
  have q2 := q (s_se S t)
  unfold m_X8_isTouched touched
  cases hsd : s_sd S t with
  | false => simp (disch := omega) only [↓reduceIte, ii_lit, ii_add, ii_sub, ii_mul, ii_neg, ii_lt, ii_le, ii_eq, if_pos, if_neg, Option.bind_some, gI_ko k0, chk_ko k0, pI_ko k0, gR_ko k0 k1, gR_ko k0 k2, gR_ko k0 k3, gR_ko k0 k4, gR_ko k0 k5, gR_ko k0 k6, gR_ko k0 k7, gR_ko k0 k8, gR_ko k0 k9, rI_kd d1, rI_kd d2, rI_kd d3, rI_kd d4, rI_kd d5, rZ_kd d6, rZ_kd d7, rL_kd d8, rL_kd d9, r1, r2, r3, r4, r5, r6, r7, r8, r9, r11, r12, hsd, bi_t, bi_f, Bool.false_and]
  | true =>
    by_cases c1 : rootOf S (s_fi S t) = root
    · simp (disch := omega) only [↓reduceIte, ii_lit, ii_add, ii_sub, ii_mul, ii_neg, ii_lt, ii_le, ii_eq, if_pos, if_neg, Option.bind_some, gI_ko k0, chk_ko k0, pI_ko k0, gR_ko k0 k1, gR_ko k0 k2, gR_ko k0 k3, gR_ko k0 k4, gR_ko k0 k5, gR_ko k0 k6, gR_ko k0 k7, gR_ko k0 k8, gR_ko k0 k9, rI_kd d1, rI_kd d2, rI_kd d3, rI_kd d4, rI_kd d5, rZ_kd d6, rZ_kd d7, rL_kd d8, rL_kd d9, r1, r2, r3, r4, r5, r6, r7, r8, r9, r11, r12, hsd, bi_t, bi_f, e1, c1, decide_true, Bool.true_or, Bool.true_and]
    · by_cases c2 : rootOf S (s_se S t) = root
      · simp (disch := omega) only [↓reduceIte, ii_lit, ii_add, ii_sub, ii_mul, ii_neg, ii_lt, ii_le, ii_eq, if_pos, if_neg, Option.bind_some, gI_ko k0, chk_ko k0, pI_ko k0, gR_ko k0 k1, gR_ko k0 k2, gR_ko k0 k3, gR_ko k0 k4, gR_ko k0 k5, gR_ko k0 k6, gR_ko k0 k7, gR_ko k0 k8, gR_ko k0 k9, rI_kd d1, rI_kd d2, rI_kd d3, rI_kd d4, rI_kd d5, rZ_kd d6, rZ_kd d7, rL_kd d8, rL_kd d9, r1, r2, r3, r4, r5, r6, r7, r8, r9, r11, r12, hsd, bi_t, bi_f, e1, e2, c2, decide_true, Bool.or_true, Bool.true_and]
      · simp (disch := omega) only [↓reduceIte, ii_lit, ii_add, ii_sub, ii_mul, ii_neg, ii_lt, ii_le, ii_eq, if_pos, if_neg, Option.bind_some, gI_ko k0, chk_ko k0, pI_ko k0, gR_ko k0 k1, gR_ko k0 k2, gR_ko k0 k3, gR_ko k0 k4, gR_ko k0 k5, gR_ko k0 k6, gR_ko k0 k7, gR_ko k0 k8, gR_ko k0 k9, rI_kd d1, rI_kd d2, rI_kd d3, rI_kd d4, rI_kd d5, rZ_kd d6, rZ_kd d7, rL_kd d8, rL_kd d9, r1, r2, r3, r4, r5, r6, r7, r8, r9, r11, r12, hsd, bi_t, bi_f, e1, e2, c1, c2, decide_false, Bool.or_self, Bool.and_false]
theorem t_count (hK : KS σ st) (hR : RS δ st S ac fl) (hG : GS S) : m_X8_countStanding σ st δ = some (ii (cnt (s_sd S) (s_nt S).toNat)) := by
  obtain ⟨k0, ⟨k1, k2, k3, k4, k5, k6, k7, k8, k9⟩, d1, d2, d3, d4, d5, d6, d7, d8, d9⟩ := hK
  obtain ⟨r1, r2, r3, r4, r5, r6, r7, r8, r9, r10, r11, r12, r13, r14⟩ := hR
  obtain ⟨⟨g1, g2, g3, g4⟩, g5, g6, g7, g8, g9⟩ := hG
  unfold m_X8_countStanding m_X8_countStanding_b4
  apply Ok_eq
  refine Ok_for (fun z s => s = (ii (cnt (s_sd S) z.toNat), ii z)) 0 (s_nt S) g3 (by omega) ?_ ?_ rfl
  · rintro z s z0 z1 rfl
    have hc := cnt_rng (s_sd S) z.toNat
    have hs : cnt (s_sd S) (z + 1).toNat = cnt (s_sd S) z.toNat + (if s_sd S z = true then 1 else 0) := by
      rw [show (z + 1).toNat = z.toNat + 1 by omega]
      show cnt (s_sd S) z.toNat + (if s_sd S (z.toNat : Int) = true then 1 else 0) = _
      rw [show ((z.toNat : Nat) : Int) = z by omega]
    cases hsd : s_sd S z with
    | false => exact Ok_inl (s' := (ii (cnt (s_sd S) z.toNat), ii (z + 1))) (by simp (disch := omega) only [↓reduceIte, ii_lit, ii_add, ii_sub, ii_mul, ii_neg, ii_lt, ii_le, ii_eq, if_pos, if_neg, Option.bind_some, gI_ko k0, chk_ko k0, pI_ko k0, gR_ko k0 k1, gR_ko k0 k2, gR_ko k0 k3, gR_ko k0 k4, gR_ko k0 k5, gR_ko k0 k6, gR_ko k0 k7, gR_ko k0 k8, gR_ko k0 k9, rI_kd d1, rI_kd d2, rI_kd d3, rI_kd d4, rI_kd d5, rZ_kd d6, rZ_kd d7, rL_kd d8, rL_kd d9, r1, r2, r3, r4, r5, r6, r7, r8, r9, r11, r12, hsd, bi_t, bi_f, m_X8_countStanding_b24]) (by rw [hs, hsd]; simp only [Bool.false_eq_true, ↓reduceIte, Int.add_zero])
    | true => exact Ok_inl (s' := (ii (cnt (s_sd S) z.toNat + 1), ii (z + 1))) (by simp (disch := omega) only [↓reduceIte, ii_lit, ii_add, ii_sub, ii_mul, ii_neg, ii_lt, ii_le, ii_eq, if_pos, if_neg, Option.bind_some, gI_ko k0, chk_ko k0, pI_ko k0, gR_ko k0 k1, gR_ko k0 k2, gR_ko k0 k3, gR_ko k0 k4, gR_ko k0 k5, gR_ko k0 k6, gR_ko k0 k7, gR_ko k0 k8, gR_ko k0 k9, rI_kd d1, rI_kd d2, rI_kd d3, rI_kd d4, rI_kd d5, rZ_kd d6, rZ_kd d7, rL_kd d8, rL_kd d9, r1, r2, r3, r4, r5, r6, r7, r8, r9, r11, r12, hsd, bi_t, bi_f, m_X8_countStanding_b24]) (by rw [hs, hsd]; simp only [↓reduceIte])
  · rintro s rfl
    exact Ok_inr (r := ii (cnt (s_sd S) (s_nt S).toNat)) (by simp (disch := omega) only [↓reduceIte, ii_lit, ii_add, ii_sub, ii_mul, ii_neg, ii_lt, ii_le, ii_eq, if_pos, if_neg, Option.bind_some, gI_ko k0, chk_ko k0, pI_ko k0, gR_ko k0 k1, gR_ko k0 k2, gR_ko k0 k3, gR_ko k0 k4, gR_ko k0 k5, gR_ko k0 k6, gR_ko k0 k7, gR_ko k0 k8, gR_ko k0 k9, rI_kd d1, rI_kd d2, rI_kd d3, rI_kd d4, rI_kd d5, rZ_kd d6, rZ_kd d7, rL_kd d8, rL_kd d9, r1, r2, r3, r4, r5, r6, r7, r8, r9, r11, r12]) rfl
end
