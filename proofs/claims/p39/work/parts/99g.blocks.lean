/-! THE LAW'S BLOCKS -/
section
variable {σ : St} {δ d : Dy} {kk N : Nat} {xs : Nat → Int32} {E F : Ev} {S : Sto} {hi : Hst} {fi : Int → Int} {jr : List Jn} {ac x k k0 st told due stand stand' act acts u v : Int} {pw tk : Int → Int} {p3 p4 p6 p7 p8 p9 p14 p30 : Int32} {p10 p12 : Int64} {fst : Bool}
theorem i100 : ((100 : Int32) = (100 : Int32)) = True := eq_true rfl
theorem e_ii (a : Int) : (ii a = ii a) = True := eq_true rfl
theorem m_b664 (hA : CoA σ δ kk E ((S, [], hi, fi, ac, false), x, pw, tk, [], k + 1, st) jr) (hk : kk ≤ 512) (hQ : Q0 S k0 told stand) : ∃ D, m_law_b664 xs N σ 0 (ii 0) p3 p4 p6 p7 p8 p9 p10 p12 p14 (ii stand) (ii k) p30 δ = some (.inl (p9, p10, p12, p14 + p30, ii stand, ii k + 1, D)) ∧ CoA σ D kk E ((S, [], hi, fi, ac, false), x, pw, tk, [], k + 1, st) jr := by
  have T := hA.t
  have hT := T.1
  have hc : cnt (s_sd S) (s_nt S).toNat = stand := by rw [hQ.2.2.1]; exact hQ.2.2.2.2.1
  have e1 : m_X11_standing σ 0 δ = some (ii stand) := by
    refine (T_standing T).trans ?_
    show some (ii (cnt (s_sd S) (s_nt S).toNat)) = _
    rw [hc]
  obtain ⟨D, e2, hD⟩ := A_anew hA hk
  have e2' : m_X11_standingAnew σ 0 δ = some (ii stand, D) := by
    refine e2.trans ?_
    show some (ii (cnt (s_sd S) (s_nt S).toNat), D) = _
    rw [hc]
  have e3 : m_X11_clock σ 0 D = some (ii (k + 1)) := T_clock hD.t
  have e4 : m_X11_waiting σ 0 D = some (0 : Int32) := T_waiting hD.t
  have e5 : m_X11_value σ 0 (ii 0) D = some (.inl 100) := T_value hD.t (z := 0) (by omega) ⟨by omega, by show 0 < s_nv S; rw [hQ.1]; omega⟩ (by show s_va S (s_cl S 0) = 100; rw [hQ.2.1.1]; exact hQ.2.1.2)
  have c3 : ii (k + 1) = ii k + (1 : Int32) := by rw [show (1 : Int32) = ii 1 from rfl, ii_add]
  rw [c3] at e3
  refine ⟨D, ?_, hD⟩
  unfold m_law_b664
  rw [chk_ko hT.1, ob_some, e1, ob_some, if_pos rfl, ob_some, e2', ob_some]
  dsimp only
  rw [if_pos rfl, ob_some, e3, ob_some, if_pos rfl, ob_some, e4, ob_some, if_pos rfl, ob_some, e5, ob_some, xok_l, if_pos rfl]
/-- what a step must have told -/
def ActP (k told due stand stand' act acts : Int) (fst : Bool) (S : Sto) : Prop :=
  s_so S told = (if fst = true then 0 else 1) ∧ ((act = 2 ∧ due = 2 ∧ stand' = stand + 1 ∧ acts = 7 ∧ s_sd S told = false ∧ s_so S (told + 1) = 2 ∧ s_sl S (told + 1) told.toNat = false) ∨
    ((act = 0 ∧ due = 1 ∨ act = 1 ∧ due = (if fst = true then 2 else 1)) ∧ (act = 0 → acts = 2) ∧ stand' = stand + due ∧ s_fi S told = k ∧ s_se S told = 9 ∧ s_sd S told = true ∧ (due = 2 → s_so S (told + 1) = 2 ∧ s_sl S (told + 1) told.toNat = true)))
theorem m_b460 (hA : CoA σ δ kk E ((S, [], hi, fi, ac, false), x, pw, tk, [], k + 1, st) jr) (hk : kk ≤ 512) (hQ : Q0 S k0 (told + due) stand') (h0 : 0 ≤ told) (h1 : told + due ≤ 100) (hd : due = 1 ∨ due = 2) (hkk : 0 ≤ k ∧ k < 12) (hP : ActP k told due stand stand' act acts fst S) : ∃ D, m_law_b460 xs N σ 0 (ii 0) p3 p4 p6 p7 p8 p9 p10 p12 (ii told) (ii stand) (ii k) (ii act) (ii acts) (bi fst) (ii due) δ = some (.inl (p9, p10, p12, ii told + ii due, ii stand', ii k + 1, D)) ∧ CoA σ D kk E ((S, [], hi, fi, ac, false), x, pw, tk, [], k + 1, st) jr := by
  have T := hA.t
  have hT := T.1
  have hnt : s_nt S = told + due := hQ.2.2.1
  have e0 : m_X11_tokens σ 0 δ = some (ii told + ii due) := by
    refine (T_tokens T).trans ?_
    show some (ii (s_nt S)) = _
    rw [hnt, ii_add]
  obtain ⟨t0, t1, t2, t3⟩ := T_part T (z := told) (by omega) ⟨h0, by show told < s_nt S; omega⟩
  obtain ⟨hw, hP⟩ := hP
  have e1 : m_X11_part σ 0 (ii told) (0 : Int32) δ = some (.inl (if fst = true then 0 else 1 : Int32)) := by
    refine t0.trans ?_
    show some (Sum.inl (ii (s_so S told))) = _
    rw [hw]
    cases fst <;> rfl
  have s1 : ii told + (1 : Int32) = ii (told + 1) := by rw [show (1 : Int32) = ii 1 from rfl, ii_add]
  unfold m_law_b460
  rw [chk_ko hT.1, ob_some, e0, ob_some, if_pos rfl]
  rcases hP with ⟨a1, a2, a3, a4, a5, a6, a7⟩ | ⟨a1, a2, a3, a4, a5, a6, a7⟩
  · subst a1
    subst a2
    subst a3
    subst a4
    obtain ⟨u0, -, -, -⟩ := T_part T (z := told + 1) (by omega) ⟨by omega, by show told + 1 < s_nt S; omega⟩
    have e2 : m_X11_part σ 0 (ii told) (3 : Int32) δ = some (.inl 0) := by
      refine t3.trans ?_
      show some (Sum.inl (bi (s_sd S told))) = _
      rw [a5]
      rfl
    have e3 : m_X11_part σ 0 (ii (told + 1)) (0 : Int32) δ = some (.inl 2) := by
      refine u0.trans ?_
      show some (Sum.inl (ii (s_so S (told + 1)))) = _
      rw [a6]
      rfl
    have e4 : m_X11_isMadeBy σ 0 (ii (told + 1)) (ii told) δ = some (.inl 0) := by
      refine (T_isMadeBy T (by omega) (by omega) ⟨by omega, by show told + 1 < s_nt S; omega⟩ ⟨h0, by show told < s_nt S; omega⟩).trans ?_
      show some (Sum.inl (bi (s_sl S (told + 1) told.toNat))) = _
      rw [a7]
      rfl
    have s2 : ii stand + (1 : Int32) = ii (stand + 1) := by rw [show (1 : Int32) = ii 1 from rfl, ii_add]
    obtain ⟨D, eD, hD⟩ := m_b664 (xs := xs) (N := N) (p3 := p3) (p4 := p4) (p6 := p6) (p7 := p7) (p8 := p8) (p9 := p9) (p10 := p10) (p12 := p12) (p14 := ii told) (p30 := ii 2) hA hk hQ
    refine ⟨D, ?_, hD⟩
    have key : ∀ q : Int32, q = (if fst = true then 0 else 1 : Int32) → m_law_b499 xs N σ 0 (ii 0) p3 p4 p6 p7 p8 p9 p10 p12 (ii told) (ii stand) (ii k) (ii 7) (ii 2) (if fst = true then 0 else 1 : Int32) q δ = some (.inl (p9, p10, p12, ii told + ii 2, ii (stand + 1), ii k + 1, D)) := by
      intro q hq
      subst hq
      unfold m_law_b499
      rw [if_pos rfl, chk_ko hT.1, ob_some, e2, ob_some, xok_l, if_pos rfl, ob_some, s1, e3, ob_some, xok_l, if_pos rfl, ob_some, e4, ob_some, xok_l, if_pos rfl, if_pos (show ii 7 = (7 : Int32) from rfl), s2]
      exact eD
    rw [if_pos (show ii 2 = (2 : Int32) from rfl), ob_some, e1, ob_some, xok_l]
    cases fst with
    | true =>
      rw [if_neg (show ¬ bi true = 0 by decide)]
      exact key 0 rfl
    | false =>
      rw [if_pos (show bi false = 0 from rfl)]
      exact key 1 rfl
  · have hact : act = 0 ∨ act = 1 := by rcases a1 with ⟨q, -⟩ | ⟨q, -⟩ <;> omega
    subst a3
    have na : ¬ ii act = (2 : Int32) := by rw [show (2 : Int32) = ii 2 from rfl, ii_eq (by omega) (by omega) (by omega) (by omega)]; omega
    have e2 : m_X11_part σ 0 (ii told) (1 : Int32) δ = some (.inl (ii k)) := by
      refine t1.trans ?_
      show some (Sum.inl (ii (form S (s_fi S told)))) = _
      rw [a4, form_v (by omega)]
    have e3 : m_X11_part σ 0 (ii told) (2 : Int32) δ = some (.inl 9) := by
      refine t2.trans ?_
      show some (Sum.inl (ii (form S (s_se S told)))) = _
      rw [a5, form_v (by omega)]
      rfl
    have e4 : m_X11_part σ 0 (ii told) (3 : Int32) δ = some (.inl 1) := by
      refine t3.trans ?_
      show some (Sum.inl (bi (s_sd S told))) = _
      rw [a6]
      rfl
    have s2 : ii stand + ii due = ii (stand + due) := by rw [ii_add]
    obtain ⟨D, eD, hD⟩ := m_b664 (xs := xs) (N := N) (p3 := p3) (p4 := p4) (p6 := p6) (p7 := p7) (p8 := p8) (p9 := p9) (p10 := p10) (p12 := p12) (p14 := ii told) (p30 := ii due) hA hk hQ
    refine ⟨D, ?_, hD⟩
    have k644 : m_law_b644 xs N σ 0 (ii 0) p3 p4 p6 p7 p8 p9 p10 p12 (ii told) (ii stand) (ii k) (ii act) (ii acts) (ii due) δ = some (.inl (p9, p10, p12, ii told + ii due, ii (stand + due), ii k + 1, D)) := by
      have k657 : m_law_b657 xs N σ 0 (ii 0) p3 p4 p6 p7 p8 p9 p10 p12 (ii told) (ii stand) (ii k) (ii due) δ = some (.inl (p9, p10, p12, ii told + ii due, ii (stand + due), ii k + 1, D)) := by
        unfold m_law_b657
        rw [s2]
        exact eD
      unfold m_law_b644
      rcases hact with q | q
      · rw [a2 q, q, if_pos (show ii 0 = 0 from rfl), if_pos (show ii 2 = (2 : Int32) from rfl)]
        exact k657
      · rw [q, if_neg (show ¬ ii 1 = 0 by decide)]
        exact k657
    have key : ∀ q : Int32, q = (if fst = true then 0 else 1 : Int32) → m_law_b570 xs N σ 0 (ii 0) p3 p4 p6 p7 p8 p9 p10 p12 (ii told) (ii stand) (ii k) (ii act) (ii acts) (ii due) (if fst = true then 0 else 1 : Int32) q δ = some (.inl (p9, p10, p12, ii told + ii due, ii (stand + due), ii k + 1, D)) := by
      intro q hq
      subst hq
      unfold m_law_b570
      rw [if_pos rfl, chk_ko hT.1, ob_some, e2, ob_some, xok_l, if_pos rfl, ob_some, e3, ob_some, xok_l, if_pos rfl, ob_some, e4, ob_some, xok_l, if_pos rfl]
      rcases hd with q | q
      · rw [if_neg (show ¬ ii due = (2 : Int32) by rw [q]; decide)]
        exact k644
      · obtain ⟨b1, b2⟩ := a7 q
        obtain ⟨u0, -, -, -⟩ := T_part T (z := told + 1) (by omega) ⟨by omega, by show told + 1 < s_nt S; omega⟩
        have e5 : m_X11_part σ 0 (ii (told + 1)) (0 : Int32) δ = some (.inl 2) := by
          refine u0.trans ?_
          show some (Sum.inl (ii (s_so S (told + 1)))) = _
          rw [b1]
          rfl
        have e6 : m_X11_isMadeBy σ 0 (ii (told + 1)) (ii told) δ = some (.inl 1) := by
          refine (T_isMadeBy T (by omega) (by omega) ⟨by omega, by show told + 1 < s_nt S; omega⟩ ⟨h0, by show told < s_nt S; omega⟩).trans ?_
          show some (Sum.inl (bi (s_sl S (told + 1) told.toNat))) = _
          rw [b2]
          rfl
        rw [if_pos (show ii due = (2 : Int32) by rw [q]; rfl), ob_some, s1, e5, ob_some, xok_l, if_pos rfl, ob_some, e6, ob_some, xok_l, if_neg (show ¬ (1 : Int32) = 0 by decide)]
        exact k644
    rw [if_neg na, ob_some, e1, ob_some, xok_l]
    cases fst with
    | true =>
      rw [if_neg (show ¬ bi true = 0 by decide)]
      exact key 0 rfl
    | false =>
      rw [if_pos (show bi false = 0 from rfl)]
      exact key 1 rfl
end
