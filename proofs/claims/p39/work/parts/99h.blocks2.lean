/-! THE LAW'S BLOCKS: a turn -/
section
variable {σ : St} {δ d : Dy} {kk N : Nat} {xs : Nat → Int32} {E F : Ev} {S S0 : Sto} {hi : Hst} {fi : Int → Int} {jr : List Jn} {ac x k k0 st told due stand stand' act acts u v nd : Int} {pw tk : Int → Int} {p3 p4 p6 p7 p8 : Int32} {fst : Bool} {lv : List Lv} {lg : List Int} {I0 : Iw}
theorem ActP_due (h : ActP k told due stand stand' act acts fst S) : (act = 0 ∧ due = 1) ∨ (act = 1 ∧ due = (if fst = true then 2 else 1)) ∨ (act = 2 ∧ due = 2) := by
  rcases h.2 with ⟨a1, a2, -⟩ | ⟨a1, -⟩
  · exact Or.inr (Or.inr ⟨a1, a2⟩)
  · rcases a1 with q | q
    · exact Or.inl q
    · exact Or.inr (Or.inl q)
theorem m_b331 (hA : CoA σ δ kk E ((S, [], hi, fi, ac, false), x, drwP (if fst = true then u else v) (u + v) pw, tk, [], k + 1, st) jr) (hk : kk < 511) (hQ : Q0 S k0 (told + due) stand') (h0 : 0 ≤ told) (h1 : told + due ≤ 100) (hkk : 0 ≤ k ∧ k < 12) (hP : ActP k told due stand stand' act acts fst S) (hu : 1 ≤ u ∧ u ≤ 9) (hv : 1 ≤ v ∧ v ≤ 9) (hx : 0 ≤ x ∧ x ≤ 65536) (bA : PN (upE pw) 7 < 72057594037927936) (bB : PN (dnE pw) 7 < 72057594037927936) : ∃ D jr', m_law_b331 xs N σ 0 (ii 0) p3 p4 p6 p7 p8 (ii x) (il (PN (dnE pw) 7 : Nat)) (ii told) (ii stand) (ii k) (ii u) (ii v) (ii act) (bi false) (1 : Int32) (ii acts) (bi fst) (il (PN (upE pw) 7 : Nat)) ((ii (if fst = true then u else v)).toInt64) δ = some (.inl (ii x, il (PN (upE (drwP (if fst = true then u else v) (u + v) pw)) 7 : Nat), il (PN (dnE (drwP (if fst = true then u else v) (u + v) pw)) 7 : Nat), ii told + ii due, ii stand', ii k + 1, D)) ∧ CoA σ D (kk + 1) E ((S, [], hi, fi, ac, false), x, drwP (if fst = true then u else v) (u + v) pw, tk, [], k + 1, st) jr' := by
  have T := hA.t
  have hT := T.1
  have hd := ActP_due hP
  have hf : 1 ≤ (if fst = true then u else v) ∧ (if fst = true then u else v) ≤ 9 := by split <;> omega
  generalize hfe : (if fst = true then u else v) = f at hA T hf ⊢
  obtain ⟨h, hh0, hF, hG, hg⟩ := draw_frac (pw := pw) (f := f) (g := u + v) (by omega) (by omega) (by omega) (by omega)
  have bF : PN (upE (drwP f (u + v) pw)) 7 * h < 4611686018427387904 := by
    have : ((PN (upE pw) 7 : Nat) : Int) * f ≤ ((PN (upE pw) 7 : Nat) : Int) * 18 := Int.mul_le_mul_of_nonneg_left (by omega) (by omega)
    rw [hF] at this
    omega
  have bG : PN (dnE (drwP f (u + v) pw)) 7 * h < 4611686018427387904 := by
    have : ((PN (dnE pw) 7 : Nat) : Int) * (u + v) ≤ ((PN (dnE pw) 7 : Nat) : Int) * 18 := Int.mul_le_mul_of_nonneg_left (by omega) (by omega)
    rw [hG] at this
    omega
  have bh : h ≤ PN (upE (drwP f (u + v) pw)) 7 * h := Nat.le_mul_of_pos_left h (PN_pos _ _)
  have bF' : PN (upE (drwP f (u + v) pw)) 7 ≤ PN (upE (drwP f (u + v) pw)) 7 * h := Nat.le_mul_of_pos_right _ hh0
  have bG' : PN (dnE (drwP f (u + v) pw)) 7 ≤ PN (dnE (drwP f (u + v) pw)) 7 * h := Nat.le_mul_of_pos_right _ hh0
  have eF : il (PN (upE pw) 7 : Nat) * (ii f).toInt64 = il ((PN (upE (drwP f (u + v) pw)) 7 * h : Nat) : Int) := by
    rw [il_ii (by omega) (by omega), il_mul, hF]
  have eG : il (PN (dnE pw) 7 : Nat) * (ii u + ii v).toInt64 = il ((PN (dnE (drwP f (u + v) pw)) 7 * h : Nat) : Int) := by
    rw [ii_add, il_ii (by omega) (by omega), il_mul, hG]
  have e1 : m_L_gcd σ (il ((PN (upE (drwP f (u + v) pw)) 7 * h : Nat) : Int)) (il ((PN (dnE (drwP f (u + v) pw)) 7 * h : Nat) : Int)) δ = some (il (h : Nat)) := by
    rw [gcd_ok bF bG, hg]
  have e2 : dvL (il ((PN (upE (drwP f (u + v) pw)) 7 * h : Nat) : Int)) (il (h : Nat)) = some (il (PN (upE (drwP f (u + v) pw)) 7 : Nat)) := by
    rw [dvL_il (by omega) (by omega) (by omega) (by omega), Int.natCast_mul, Int.mul_ediv_cancel _ (by omega)]
  have e3 : dvL (il ((PN (dnE (drwP f (u + v) pw)) 7 * h : Nat) : Int)) (il (h : Nat)) = some (il (PN (dnE (drwP f (u + v) pw)) 7 : Nat)) := by
    rw [dvL_il (by omega) (by omega) (by omega) (by omega), Int.natCast_mul, Int.mul_ediv_cancel _ (by omega)]
  have e4 : m_X11_hasFailed σ 0 δ = some (bi false) := T_hasFailed T
  have e5 : m_X11_chance σ 0 (1 : Int32) δ = some (ii ((PN (upE (drwP f (u + v) pw)) 7 % 1000003 : Nat) : Int)) := (T_chance T (up := true)).trans (congrArg some (chance_up _))
  have e6 : m_X11_chance σ 0 (0 : Int32) δ = some (ii ((PN (dnE (drwP f (u + v) pw)) 7 % 1000003 : Nat) : Int)) := (T_chance T (up := false)).trans (congrArg some (chance_dn _))
  have rm : ∀ y : Nat, y < 4611686018427387904 → rmL (il (y : Nat)) (1000003 : Int64) = some (il ((y % 1000003 : Nat) : Int)) := fun y hy => by
    rw [show (1000003 : Int64) = il 1000003 from rfl, rmL_il (by omega) (by omega) (by omega) (by omega)]
    congr 2
  have lgz : ∀ y : Nat, lg_cmp (ii ((y % 1000003 : Nat) : Int)).toInt64 (il ((y % 1000003 : Nat) : Int)) = 0 := fun y => by
    rw [lg_iff, il_ii (by omega) (by omega)]
  obtain ⟨D1, e7, hD1⟩ := A_seed hA (by omega) (x := x) (by omega) hx
  have e7' : m_X11_seed σ 0 (ii x) δ = some (.inl (ii x), D1) := e7
  obtain ⟨D, e8, hD⟩ := m_b460 (xs := xs) (N := N) (p3 := p3) (p4 := p4) (p6 := p6) (p7 := p7) (p8 := p8) (p9 := ii x) (p10 := il (PN (upE (drwP f (u + v) pw)) 7 : Nat)) (p12 := il (PN (dnE (drwP f (u + v) pw)) 7 : Nat)) (σ := σ) (δ := D1) (kk := kk + 1) (E := E) (S := S) (hi := hi) (fi := fi) (ac := ac) (x := x) (pw := drwP f (u + v) pw) (tk := tk) (st := st) hD1 (by omega) hQ h0 h1 (by rcases hd with q | q | q; omega; (have := q.2; split at this <;> omega); omega) hkk hP
  refine ⟨D, _, ?_, hD⟩
  unfold m_law_b331
  rw [eF, eG, e1, ob_some, e2, ob_some, e3, ob_some, if_pos (show bi false = 0 from rfl), if_pos rfl, chk_ko hT.1, ob_some, e4, ob_some, if_pos (show bi false = 0 from rfl), ob_some, e5, ob_some, rm _ (by omega), ob_some, if_pos (lgz _), ob_some, e6, ob_some, rm _ (by omega), ob_some, if_pos (lgz _), ob_some, e7', ob_some]
  dsimp only
  rw [xok_l, if_pos rfl]
  rcases hd with ⟨q1, q2⟩ | ⟨q1, q2⟩ | ⟨q1, q2⟩
  · subst q1
    subst q2
    rw [if_pos (show ii 0 = (0 : Int32) from rfl)]
    exact e8
  · subst q1
    rw [if_neg (show ¬ ii 1 = (0 : Int32) by decide), if_pos (show ii 1 = (1 : Int32) from rfl)]
    cases fst with
    | true =>
      rw [if_pos rfl] at q2
      subst q2
      rw [if_neg (show ¬ bi true = 0 by decide)]
      exact e8
    | false =>
      rw [if_neg Bool.false_ne_true] at q2
      subst q2
      rw [if_pos (show bi false = 0 from rfl)]
      exact e8
  · subst q1
    subst q2
    rw [if_neg (show ¬ ii 2 = (0 : Int32) by decide), if_neg (show ¬ ii 2 = (1 : Int32) by decide)]
    exact e8
theorem m_b313 (hA : CoA σ δ kk E ((S, [], hi, fi, ac, false), x, drwP (if fst = true then u else v) (u + v) pw, tk, [], k + 1, st) jr) (hk : kk < 511) (hQ : Q0 S k0 (told + due) stand') (h0 : 0 ≤ told) (h1 : told + due ≤ 100) (hkk : 0 ≤ k ∧ k < 12) (hP : ActP k told due stand stand' act acts fst S) (hu : 1 ≤ u ∧ u ≤ 9) (hv : 1 ≤ v ∧ v ≤ 9) (hx : 0 ≤ x ∧ x ≤ 65536) (bA : PN (upE pw) 7 < 72057594037927936) (bB : PN (dnE pw) 7 < 72057594037927936) : ∃ D jr', m_law_b313 xs N σ 0 (ii 0) p3 p4 p6 p7 p8 (ii x) (il (PN (upE pw) 7 : Nat)) (il (PN (dnE pw) 7 : Nat)) (ii told) (ii stand) (ii k) (ii u) (ii v) (ii act) (bi false) (1 : Int32) (ii acts) (bi fst) δ = some (.inl (ii x, il (PN (upE (drwP (if fst = true then u else v) (u + v) pw)) 7 : Nat), il (PN (dnE (drwP (if fst = true then u else v) (u + v) pw)) 7 : Nat), ii told + ii due, ii stand', ii k + 1, D)) ∧ CoA σ D (kk + 1) E ((S, [], hi, fi, ac, false), x, drwP (if fst = true then u else v) (u + v) pw, tk, [], k + 1, st) jr' := by
  obtain ⟨D, jr', e, hD⟩ := m_b331 (xs := xs) (N := N) (p3 := p3) (p4 := p4) (p6 := p6) (p7 := p7) (p8 := p8) hA hk hQ h0 h1 hkk hP hu hv hx bA bB
  refine ⟨D, jr', ?_, hD⟩
  rw [← e]
  unfold m_law_b313
  cases fst with
  | true => rw [if_neg (show ¬ bi true = 0 by decide), if_pos rfl]
  | false => rw [if_pos (show bi false = 0 from rfl), if_neg Bool.false_ne_true]
theorem m_b269 (hA : CoA σ δ kk E I0 jr) (hk : kk < 510) (g1 : v_fl (i_V I0) = false) (g2 : i_st I0 < 30) (hr : ∀ F, AgE E F → RunEnd F (fun _ => 0) (startW I0) ((S, [], hi, fi, acts, false), nextX x, lotP x u v pw, tk, lv, true, (k + 1, st), lg)) (hlv : topNx lv = []) (hQ : Q0 S k0 (told + due) stand') (h0 : 0 ≤ told) (h1 : told + due ≤ 100) (hkk : 0 ≤ k ∧ k < 12) (hP : ActP k told due stand stand' act acts (isFi x u v) S) (hu : 1 ≤ u ∧ u ≤ 9) (hv : 1 ≤ v ∧ v ≤ 9) (hx : 0 ≤ x ∧ x ≤ 65536) (bA : PN (upE pw) 7 < 72057594037927936) (bB : PN (dnE pw) 7 < 72057594037927936) : ∃ D jr', m_law_b269 xs N σ 0 (ii 0) p3 p4 p6 p7 p8 (ii x) (il (PN (upE pw) 7 : Nat)) (il (PN (dnE pw) 7 : Nat)) (ii told) (ii stand) (ii k) (ii u) (ii v) (ii act) (bi false) (1 : Int32) δ = some (.inl (ii (nextX x), il (PN (upE (lotP x u v pw)) 7 : Nat), il (PN (dnE (lotP x u v pw)) 7 : Nat), ii told + ii due, ii stand', ii k + 1, D)) ∧ CoA σ D (kk + 2) E ((S, [], hi, fi, acts, false), nextX x, lotP x u v pw, tk, [], k + 1, st) jr' := by
  have hT := hA.t.1
  obtain ⟨D1, e1, hD1⟩ := A_step hA (by omega) g1 g2 hr
  have e1' : m_X11_step σ 0 δ = some (.inl (ii acts), D1) := e1
  have hI : endI ((S, [], hi, fi, acts, false), nextX x, lotP x u v pw, tk, lv, true, (k + 1, st), lg) = ((S, [], hi, fi, acts, false), nextX x, drwP (if isFi x u v = true then u else v) (u + v) pw, tk, [], k + 1, st) := by
    unfold endI
    rw [show topNx (w_lv ((S, ([] : List Frm), hi, fi, acts, false), nextX x, lotP x u v pw, tk, lv, true, (k + 1, st), lg)) = [] from hlv]
    rfl
  rw [hI] at hD1
  have hnx : 0 ≤ nextX x ∧ nextX x ≤ 65536 := by
    unfold nextX
    omega
  have eN : rmL (((75 : Int64) * (ii x).toInt64) + (74 : Int64)) (65537 : Int64) = some (il (nextX x)) := by
    rw [il_ii (by omega) (by omega), show ((75 : Int64)) = il 75 from rfl, show ((74 : Int64)) = il 74 from rfl, show ((65537 : Int64)) = il 65537 from rfl, il_mul, il_add, rmL_il (by omega) (by omega) (by omega) (by omega)]
    unfold nextX
    rw [Int.mul_comm 75 x]
  have eM : rmI (il (nextX x)).toInt32 (ii u + ii v) = some (ii (nextX x % (u + v))) := by
    rw [ii_il, ii_add, rmI_ii hnx.1 (by omega) (by omega) (by omega)]
  have hm0 : 0 ≤ nextX x % (u + v) := Int.emod_nonneg _ (by omega)
  have hm1 : nextX x % (u + v) < u + v := Int.emod_lt_of_pos _ (by omega)
  obtain ⟨D, jr', e2, hD⟩ := m_b313 (xs := xs) (N := N) (p3 := p3) (p4 := p4) (p6 := p6) (p7 := p7) (p8 := p8) hD1 (by omega) hQ h0 h1 hkk hP hu hv hnx bA bB
  refine ⟨D, jr', ?_, hD⟩
  unfold m_law_b269
  rw [chk_ko hT.1, ob_some, e1', ob_some]
  dsimp only
  rw [xok_l, eN, ob_some, eM, ob_some, ii_il]
  by_cases hc : nextX x % (u + v) < u
  · have hf : isFi x u v = true := decide_eq_true hc
    rw [hf] at e2
    rw [if_neg (show ¬ ii u ≤ ii (nextX x % (u + v)) by rw [ii_le (by omega) (by omega) (by omega) (by omega)]; omega)]
    refine Eq.trans e2 ?_
    unfold lotP
    rw [hf]
    rfl
  · have hf : isFi x u v = false := decide_eq_false hc
    rw [hf] at e2
    rw [if_pos (show ii u ≤ ii (nextX x % (u + v)) by rw [ii_le (by omega) (by omega) (by omega) (by omega)]; omega)]
    refine Eq.trans e2 ?_
    unfold lotP
    rw [hf]
    rfl
theorem m_b213 {fi0 : Int → Int} {ac0 : Int} (hA : CoA σ δ kk E ((S0, [], hi, fi0, ac0, false), x, pw, tk, [], k, k) jr) (hk : kk < 509) (hn : gNode E nd) (hnv : s_nv S0 = 1) (hr : ∀ F, AgE E F → RunEnd F (fun _ => 0) (startW (admI ((S0, [], hi, fi0, ac0, false), x, pw, tk, [], k, k) nd k 9)) ((S, [], hi, fi, acts, false), nextX x, lotP x u v pw, tk, lv, true, (k + 1, k + 1), lg)) (hlv : topNx lv = []) (hlg : act = 0 → lg = [1, 1]) (hQ : Q0 S k0 (told + due) stand') (h0 : 0 ≤ told) (h1 : told + due ≤ 100) (hkk : 0 ≤ k ∧ k < 12) (hP : ActP k told due stand stand' act acts (isFi x u v) S) (hu : 1 ≤ u ∧ u ≤ 9) (hv : 1 ≤ v ∧ v ≤ 9) (hx : 0 ≤ x ∧ x ≤ 65536) (bA : PN (upE pw) 7 < 72057594037927936) (bB : PN (dnE pw) 7 < 72057594037927936) (hct : e_ct E ≤ 60) : ∃ D jr', m_law_b213 xs N σ 0 (ii 0) p3 p4 p6 p7 p8 (ii x) (il (PN (upE pw) 7 : Nat)) (il (PN (dnE pw) 7 : Nat)) (ii told) (ii stand) (ii k) (ii u) (ii v) (ii act) (ii nd) δ = some (.inl (ii (nextX x), il (PN (upE (lotP x u v pw)) 7 : Nat), il (PN (dnE (lotP x u v pw)) 7 : Nat), ii told + ii due, ii stand', ii k + 1, D)) ∧ CoA σ D (kk + 3) E ((S, [], hi, fi, acts, false), nextX x, lotP x u v pw, tk, [], k + 1, k + 1) jr' := by
  have hT := hA.t.1
  have hn' : 0 ≤ nd ∧ nd < e_ct E := hn
  obtain ⟨D1, w, e1, hD1, hw⟩ := A_ends hA rfl
  have nw0 : ¬ ii w = (0 : Int32) := by
    rw [show (0 : Int32) = ii 0 from rfl, ii_eq (by omega) (by omega) (by omega) (by omega)]
    omega
  have nw1 : (-1 : Int32) ≤ ii w := by
    rw [show (-1 : Int32) = ii (-1) from rfl, ii_le (by omega) (by omega) (by omega) (by omega)]
    omega
  obtain ⟨D2, e2, hD2⟩ := A_begin hD1 (by omega) (n := nd) (a := k) (b := 9) (by omega) (by omega) (by omega) ⟨hn, Or.inl ⟨by omega, by omega⟩, Or.inl ⟨by omega, by omega⟩, rfl, by show ([] : List Ag).length < 30; decide⟩
  have e2' : m_X11_begin σ 0 (ii nd) (ii k) (9 : Int32) D1 = some (.inl 1, D2) := e2
  have e3 : m_X11_hasFailed σ 0 D2 = some (bi false) := T_hasFailed hD2.t
  have hst : i_st (admI ((S0, [], hi, fi0, ac0, false), x, pw, tk, [], k, k) nd k 9) < 30 := by
    show k < 30
    omega
  unfold m_law_b213
  rw [chk_ko hT.1, ob_some, e1, ob_some]
  dsimp only
  rw [xok_l, if_neg nw0, if_pos nw1, ob_some, e2', ob_some]
  dsimp only
  rw [xok_l, if_pos rfl, ob_some, e3, ob_some]
  by_cases ha : act = 0
  · obtain ⟨D3, e4, hD3⟩ := A_ends1 hD2 rfl (hr E AgE_rf) (hlg ha)
    have e4' : m_X11_ends σ 0 D2 = some (.inl (1 : Int32), D3) := e4
    obtain ⟨D, jr', e5, hD⟩ := m_b269 (xs := xs) (N := N) (p3 := p3) (p4 := p4) (p6 := p6) (p7 := p7) (p8 := p8) hD3 (by omega) rfl hst hr hlv hQ h0 h1 hkk hP hu hv hx bA bB
    refine ⟨D, jr', ?_, hD⟩
    rw [if_pos (show ii act = (0 : Int32) by rw [ha]; rfl), ob_some, e4', ob_some]
    dsimp only
    rw [xok_l]
    exact e5
  · obtain ⟨D, jr', e5, hD⟩ := m_b269 (xs := xs) (N := N) (p3 := p3) (p4 := p4) (p6 := p6) (p7 := p7) (p8 := p8) hD2 (by omega) rfl hst hr hlv hQ h0 h1 hkk hP hu hv hx bA bB
    refine ⟨D, jr', ?_, hD⟩
    have hd := ActP_due hP
    rw [if_neg (show ¬ ii act = (0 : Int32) by rw [show (0 : Int32) = ii 0 from rfl, ii_eq (by omega) (by omega) (by omega) (by omega)]; exact ha)]
    exact e5
end
