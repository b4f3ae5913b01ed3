/-! THE LAW'S LOOP -/
section
variable {σ : St} {δ d : Dy} {N : Nat} {xs : Nat → Int32} {E F : Ev} {S : Sto} {hi : Hst} {fi : Int → Int} {jr : List Jn} {ac x k told stand u v n : Int} {pw tk : Int → Int} {fst : Bool} {sl sl2 : Nat → Bool}
theorem ap_one (hQ : Q0 S (k - 1) told stand) (h0 : 0 ≤ k) {w : Int} : Q0 (dropS (addtok S w k 9 true sl)) k (told + 1) (stand + 1) ∧ s_so (dropS (addtok S w k 9 true sl)) told = w ∧ s_fi (dropS (addtok S w k 9 true sl)) told = k ∧ s_se (dropS (addtok S w k 9 true sl)) told = 9 ∧ s_sd (dropS (addtok S w k 9 true sl)) told = true := by
  have h1 := Q0_add (so := w) (b := 9) (sl := sl) (Q0_mono (k' := k) hQ (by omega)) h0
  have hnt : s_nt S = told := hQ.2.2.1
  have ht := hQ.2.2.2.1
  obtain ⟨c1, c2, c3, c4, c5⟩ := tok_at (S := S) (so := w) (kk := k) (b := 9) (sl := sl)
  rw [hnt] at c1 c2 c3 c4 c5
  exact ⟨Q0_drop h1, c1, c2, c3, (sd_drop h1 ht (by omega)).trans c4⟩
theorem ap0 (hQ : Q0 S (k - 1) told stand) (h0 : 0 ≤ k) : Q0 (dropS (addtok S (wOf x u v) k 9 true sl)) k (told + 1) (stand + 1) ∧ ActP k told 1 stand (stand + 1) 0 2 (isFi x u v) (dropS (addtok S (wOf x u v) k 9 true sl)) := by
  obtain ⟨h1, h2, h3, h4, h5⟩ := ap_one (sl := sl) (w := wOf x u v) hQ h0
  exact ⟨h1, h2, Or.inr ⟨Or.inl ⟨rfl, rfl⟩, fun _ => rfl, rfl, h3, h4, h5, fun q => absurd q (by decide)⟩⟩
theorem ap1n (hQ : Q0 S (k - 1) told stand) (h0 : 0 ≤ k) (hf : isFi x u v = false) : Q0 (dropS (addtok S (wOf x u v) k 9 true sl)) k (told + 1) (stand + 1) ∧ ActP k told 1 stand (stand + 1) 1 4 (isFi x u v) (dropS (addtok S (wOf x u v) k 9 true sl)) := by
  obtain ⟨h1, h2, h3, h4, h5⟩ := ap_one (sl := sl) (w := wOf x u v) hQ h0
  exact ⟨h1, h2, Or.inr ⟨Or.inr ⟨rfl, by rw [hf]; rfl⟩, fun q => absurd q (by decide), rfl, h3, h4, h5, fun q => absurd q (by decide)⟩⟩
theorem ap1y (hQ : Q0 S (k - 1) told stand) (h0 : 0 ≤ k) (hf : isFi x u v = true) (hs : sl2 told.toNat = true) : Q0 (dropS (addtok (addtok S (wOf x u v) k 9 true sl) 2 k 9 true sl2)) k (told + 2) (stand + 2) ∧ ActP k told 2 stand (stand + 2) 1 6 (isFi x u v) (dropS (addtok (addtok S (wOf x u v) k 9 true sl) 2 k 9 true sl2)) := by
  have h1 := Q0_add (so := wOf x u v) (b := 9) (sl := sl) (Q0_mono (k' := k) hQ (by omega)) h0
  have h2 := Q0_add (so := 2) (b := 9) (sl := sl2) h1 h0
  rw [show told + 1 + 1 = told + 2 by omega, show stand + 1 + 1 = stand + 2 by omega] at h2
  have hnt : s_nt S = told := hQ.2.2.1
  have ht := hQ.2.2.2.1
  obtain ⟨c1, c2, c3, c4, c5⟩ := tok_at (S := S) (so := wOf x u v) (kk := k) (b := 9) (sl := sl)
  rw [hnt] at c1 c2 c3 c4 c5
  obtain ⟨e1, e2, e3, e4, e5⟩ := tok_ne (S := addtok S (wOf x u v) k 9 true sl) (so := 2) (kk := k) (b := 9) (sl := sl2) (t := told) (by show ¬ told = s_nt S + 1; omega)
  obtain ⟨f1, f2, f3, f4, f5⟩ := tok_at (S := addtok S (wOf x u v) k 9 true sl) (so := 2) (kk := k) (b := 9) (sl := sl2)
  rw [nt_add, hnt] at f1 f2 f3 f4 f5
  refine ⟨Q0_drop h2, e1.trans c1, Or.inr ⟨Or.inr ⟨rfl, by rw [hf]; rfl⟩, fun q => absurd q (by decide), rfl, e2.trans c2, e3.trans c3, (sd_drop h2 ht (by omega)).trans (e4.trans c4), fun _ => ⟨f1, ?_⟩⟩⟩
  show s_sl (addtok (addtok S (wOf x u v) k 9 true sl) 2 k 9 true sl2) (told + 1) told.toNat = true
  rw [f5]
  exact hs
theorem ap2 (hQ : Q0 S (k - 1) told stand) (h0 : 0 ≤ k) (hs : sl told.toNat = false) : Q0 (dropS (addtok (restS (addtok S (wOf x u v) k 9 true sl) (savS S)) 2 k 9 true sl)) k (told + 2) (stand + 1) ∧ ActP k told 2 stand (stand + 1) 2 7 (isFi x u v) (dropS (addtok (restS (addtok S (wOf x u v) k 9 true sl) (savS S)) 2 k 9 true sl)) := by
  obtain ⟨h1, hf⟩ := Q0_rest (so := wOf x u v) (b := 9) (sl := sl) (Q0_mono (k' := k) hQ (by omega)) h0
  have h2 := Q0_add (so := 2) (b := 9) (sl := sl) h1 h0
  rw [show told + 1 + 1 = told + 2 by omega] at h2
  have hnt : s_nt S = told := hQ.2.2.1
  have ht := hQ.2.2.2.1
  obtain ⟨c1, c2, c3, c4, c5⟩ := tok_at (S := S) (so := wOf x u v) (kk := k) (b := 9) (sl := sl)
  rw [hnt] at c1 c2 c3 c4 c5
  have hnt2 : s_nt (restS (addtok S (wOf x u v) k 9 true sl) (savS S)) = told + 1 := h1.2.2.1
  obtain ⟨e1, e2, e3, e4, e5⟩ := tok_ne (S := restS (addtok S (wOf x u v) k 9 true sl) (savS S)) (so := 2) (kk := k) (b := 9) (sl := sl) (t := told) (by rw [hnt2]; omega)
  obtain ⟨f1, f2, f3, f4, f5⟩ := tok_at (S := restS (addtok S (wOf x u v) k 9 true sl) (savS S)) (so := 2) (kk := k) (b := 9) (sl := sl)
  rw [hnt2] at f1 f2 f3 f4 f5
  refine ⟨Q0_drop h2, e1.trans c1, Or.inl ⟨rfl, rfl, rfl, rfl, (sd_drop h2 ht (by omega)).trans (e4.trans hf), f1, ?_⟩⟩
  show s_sl (addtok (restS (addtok S (wOf x u v) k 9 true sl) (savS S)) 2 k 9 true sl) (told + 1) told.toNat = false
  rw [f5]
  exact hs
theorem drw_le (hu : 1 ≤ u ∧ u ≤ 9) (hv : 1 ≤ v ∧ v ≤ 9) : PN (upE (lotP x u v pw)) 7 ≤ PN (upE pw) 7 * 9 ∧ PN (dnE (lotP x u v pw)) 7 ≤ PN (dnE pw) 7 * 18 := by
  have hl : lotP x u v pw = drwP (if isFi x u v = true then u else v) (u + v) pw := rfl
  rw [hl]
  have hf : 1 ≤ (if isFi x u v = true then u else v) ∧ (if isFi x u v = true then u else v) ≤ 9 := by split <;> omega
  generalize (if isFi x u v = true then u else v) = f at hf ⊢
  obtain ⟨h, hh0, hF, hG, -⟩ := draw_frac (pw := pw) (f := f) (g := u + v) (by omega) (by omega) (by omega) (by omega)
  have bF' : PN (upE (drwP f (u + v) pw)) 7 ≤ PN (upE (drwP f (u + v) pw)) 7 * h := Nat.le_mul_of_pos_right _ hh0
  have bG' : PN (dnE (drwP f (u + v) pw)) 7 ≤ PN (dnE (drwP f (u + v) pw)) 7 * h := Nat.le_mul_of_pos_right _ hh0
  have m1 : ((PN (upE pw) 7 : Nat) : Int) * f ≤ ((PN (upE pw) 7 : Nat) : Int) * 9 := Int.mul_le_mul_of_nonneg_left (by omega) (by omega)
  have m2 : ((PN (dnE pw) 7 : Nat) : Int) * (u + v) ≤ ((PN (dnE pw) 7 : Nat) : Int) * 18 := Int.mul_le_mul_of_nonneg_left (by omega) (by omega)
  rw [hF] at m1
  rw [hG] at m2
  omega
abbrev LawS : Type := Int32 × Int64 × Int64 × Int32 × Int32 × Int32 × Dy
def LInv (σ : St) (s : LawS) : Prop := ∃ (k : Nat) (E : Ev) (S : Sto) (hi : Hst) (fi : Int → Int) (ac x : Int) (pw tk : Int → Int) (told stand : Int) (jr : List Jn), k ≤ 12 ∧ s = (ii x, il (PN (upE pw) 7 : Nat), il (PN (dnE pw) 7 : Nat), ii told, ii stand, ii (k : Int), s.2.2.2.2.2.2) ∧ CoA σ s.2.2.2.2.2.2 (1 + 3 * k) E ((S, [], hi, fi, ac, false), x, pw, tk, [], (k : Int), (k : Int)) jr ∧ Nds E ∧ (6 ≤ e_ct E ∧ e_ct E ≤ 6 + 3 * (k : Int)) ∧ Q0 S ((k : Int) - 1) told stand ∧ told ≤ 2 * (k : Int) ∧ PN (upE pw) 7 ≤ 9 ^ k ∧ PN (dnE pw) 7 ≤ 18 ^ k ∧ (0 ≤ x ∧ x ≤ 65536)
def lmu (s : LawS) : Nat := (12 - s.2.2.2.2.2.1.toInt).toNat
theorem lmu_ii {a : Int32} {b c : Int64} {e f : Int32} {k : Int} {δ : Dy} (h0 : 0 ≤ k) (h1 : k ≤ 12) : lmu (a, b, c, e, f, ii k, δ) = (12 - k).toNat := by
  unfold lmu
  dsimp only
  rw [show (ii k).toInt = k from Int32.toInt_ofInt_of_le (by omega) (by omega)]
theorem l_close {k : Nat} {m : Option (LawS ⊕ Unit)} {due stand' acts : Int} (hk : k < 12) (h : ∃ D jr', m = some (.inl (ii (nextX x), il (PN (upE (lotP x u v pw)) 7 : Nat), il (PN (dnE (lotP x u v pw)) 7 : Nat), ii told + ii due, ii stand', ii (k : Int) + 1, D)) ∧ CoA σ D (1 + 3 * k + 3) E ((S, [], hi, fi, acts, false), nextX x, lotP x u v pw, tk, [], (k : Int) + 1, (k : Int) + 1) jr') (hN : Nds E) (hct : 6 ≤ e_ct E ∧ e_ct E ≤ 6 + 3 * (k : Int) + 3) (hQ : Q0 S (k : Int) (told + due) stand') (ht : told + due ≤ 2 * (k : Int) + 2) (hu : 1 ≤ u ∧ u ≤ 9) (hv : 1 ≤ v ∧ v ≤ 9) (bA : PN (upE pw) 7 ≤ 9 ^ k) (bB : PN (dnE pw) 7 ≤ 18 ^ k) : Ok m (PL (fun s' => LInv σ s' ∧ lmu s' < (12 - (k : Int)).toNat) (fun _ => True)) := by
  obtain ⟨D, jr', e, hA⟩ := h
  obtain ⟨d1, d2⟩ := drw_le (x := x) (pw := pw) hu hv
  have e1 : ii told + ii due = ii (told + due) := by rw [ii_add]
  have e2 : ii (k : Int) + 1 = ii ((k + 1 : Nat) : Int) := by
    rw [show (1 : Int32) = ii 1 from rfl, ii_add]
    rfl
  have hx : 0 ≤ nextX x ∧ nextX x ≤ 65536 := by
    unfold nextX
    omega
  rw [e1, e2] at e
  refine Ok_inl e ⟨⟨k + 1, E, S, hi, fi, acts, nextX x, lotP x u v pw, tk, told + due, stand', jr', by omega, rfl, ?_, hN, ⟨hct.1, by omega⟩, by rw [show ((k + 1 : Nat) : Int) - 1 = k by omega]; exact hQ, by omega, ?_, ?_, hx⟩, ?_⟩
  · rw [show 1 + 3 * (k + 1) = 1 + 3 * k + 3 by omega]
    exact hA
  · rw [Nat.pow_succ]
    exact Nat.le_trans d1 (Nat.mul_le_mul_right 9 bA)
  · rw [Nat.pow_succ]
    exact Nat.le_trans d2 (Nat.mul_le_mul_right 18 bB)
  · rw [lmu_ii (by omega) (by omega)]
    omega
theorem law_loop (hN : N ≤ 260) {p9 : Int32} {p10 p12 : Int64} {p14 p15 p16 : Int32} (h : LInv σ (p9, p10, p12, p14, p15, p16, δ)) : Ok (m_law_b106 xs N σ 0 (ii 0) (ii 0) (ii 1) (ii 3) (ii 4) (ii 5) p9 p10 p12 p14 p15 p16 δ) (fun _ => True) := by
  unfold m_law_b106
  refine Ok_lp (LInv σ) lmu ?_ h ?_
  · rintro ⟨s1, s2, s3, s4, s5, s6, dd⟩ ⟨k, E, S, hi, fi, ac, x, pw, tk, told, stand, jr, hk, hs, hA, hNd, hct, hQ, htk, bA, bB, hx⟩
    dsimp only at hs hA
    obtain ⟨y1, z1⟩ := Prod.mk.inj hs
    obtain ⟨y2, z2⟩ := Prod.mk.inj z1
    obtain ⟨y3, z3⟩ := Prod.mk.inj z2
    obtain ⟨y4, z4⟩ := Prod.mk.inj z3
    obtain ⟨y5, z5⟩ := Prod.mk.inj z4
    obtain ⟨y6, z6⟩ := Prod.mk.inj z5
    clear hs z1 z2 z3 z4 z5 z6
    subst y1 y2 y3 y4 y5 y6
    rw [lmu_ii (by omega) (by omega)]
    dsimp only
    by_cases h12 : k = 12
    · subst h12
      exact Ok_inr (r := ()) (if_pos (by decide)) trivial
    · have hk' : k < 12 := by omega
      have hT := hA.t.1
      have ht0 : 0 ≤ told := hQ.2.2.2.1
      have hnt : s_nt S = told := hQ.2.2.1
      have nt90 : s_nt S < 90 := by omega
      have nt0 : 0 ≤ s_nt S := by omega
      have pA : (9 : Nat) ^ k ≤ 9 ^ 12 := Nat.pow_le_pow_right (by decide) (by omega)
      have pB : (18 : Nat) ^ k ≤ 18 ^ 12 := Nat.pow_le_pow_right (by decide) (by omega)
      have qA : (9 : Nat) ^ 12 = 282429536481 := by decide
      have qB : (18 : Nat) ^ 12 = 1156831381426176 := by decide
      rw [qA] at pA
      rw [qB] at pB
      have cA : PN (upE pw) 7 < 72057594037927936 := Nat.lt_of_le_of_lt (Nat.le_trans bA pA) (by decide)
      have cB : PN (dnE pw) 7 < 72057594037927936 := Nat.lt_of_le_of_lt (Nat.le_trans bB pB) (by decide)
      rw [if_neg (show ¬ (12 : Int32) ≤ ii (k : Int) by rw [show (12 : Int32) = ii 12 from rfl, ii_le (by omega) (by omega) (by omega) (by omega)]; omega)]
      obtain ⟨v1, e1⟩ := cell_ok xs hN (k := (k : Int)) (by omega) (by omega)
      obtain ⟨r1, e2, r10, r11⟩ := at_ok (σ := σ) (δ := dd) (v1 &&& (2147483647 : Int32)) (n := 9) (by omega) (by omega)
      obtain ⟨r2, e3, r20, r21⟩ := at_ok (σ := σ) (δ := dd) ((v1 &&& (2147483647 : Int32)) >>> ((5 : Int32) &&& 31)) (n := 9) (by omega) (by omega)
      have e2' : m_L_at σ (v1 &&& (2147483647 : Int32)) (9 : Int32) dd = some (ii r1) := e2
      have e3' : m_L_at σ ((v1 &&& (2147483647 : Int32)) >>> ((5 : Int32) &&& 31)) (9 : Int32) dd = some (ii r2) := e3
      have a1 : (1 : Int32) + ii r1 = ii (1 + r1) := by rw [show (1 : Int32) = ii 1 from rfl, ii_add]
      have a2 : (1 : Int32) + ii r2 = ii (1 + r2) := by rw [show (1 : Int32) = ii 1 from rfl, ii_add]
      obtain ⟨D1, e4, hD1⟩ := A_lot hA (a := 1 + r1) (p := 0) (b := 1 + r2) (q := 1) (by omega) (by omega) (by omega) (by omega) ⟨by omega, by omega⟩ ⟨by omega, by omega⟩ (by omega) (by omega) (by omega)
      obtain ⟨r3, e5, r30, r31⟩ := at_ok (σ := σ) (δ := D1) ((v1 &&& (2147483647 : Int32)) >>> ((10 : Int32) &&& 31)) (n := 3) (by omega) (by omega)
      have e5' : m_L_at σ ((v1 &&& (2147483647 : Int32)) >>> ((10 : Int32) &&& 31)) (3 : Int32) D1 = some (ii r3) := e5
      rw [e1, ob_some, e2', ob_some, e3', ob_some, chk_ko hT.1, ob_some, a1, a2, e4, ob_some]
      dsimp only
      rw [xok_l, e5', ob_some]
      have hu : 1 ≤ 1 + r1 ∧ 1 + r1 ≤ 9 := by omega
      have hv : 1 ≤ 1 + r2 ∧ 1 + r2 ≤ 9 := by omega
      generalize 1 + r1 = u at hu e4 hD1 ⊢
      generalize 1 + r2 = v at hv e4 hD1 ⊢
      have hN1 := Nds_new (kk := 12) (w := 0) (a := u) (b := v) (on := 0) (ot := 1) hNd hct.1
      have hL1 : LotN (newE E 12 0 u v 0 1) (e_ct E) u v := ⟨newE_new.1, newE_new.2.2.1, newE_new.2.2.2.1, newE_new.2.2.2.2.1, newE_new.2.2.2.2.2⟩
      have ct1 : e_ct (newE E 12 0 u v 0 1) = e_ct E + 1 := rfl
      generalize hE1 : newE E 12 0 u v 0 1 = E1 at hN1 hL1 ct1 hD1
      have g6 : 6 ≤ e_ct E1 := by omega
      have gn : gNode E1 (e_ct E) := ⟨by omega, by omega⟩
      by_cases c0 : r3 = 0
      · subst c0
        rw [if_pos (show ii 0 = (0 : Int32) from rfl)]
        obtain ⟨q1, q2⟩ := ap0 (x := x) (u := u) (v := v) (sl := fun _ => false) hQ (by omega)
        exact l_close hk' (m_b213 (xs := xs) (N := N) (lv := [lv0 []]) (lg := [1, 1]) hD1 (by omega) gn hQ.1 (fun F hF => run0 (Nds_ag hN1 g6 hF) (LotN_ag hL1 gn hF) nt90) rfl (fun _ => rfl) q1 ht0 (by omega) ⟨by omega, by omega⟩ q2 hu hv hx cA cB (by omega)) hN1 ⟨g6, by omega⟩ q1 (by omega) hu hv bA bB
      · rw [if_neg (show ¬ ii r3 = (0 : Int32) by rw [show (0 : Int32) = ii 0 from rfl, ii_eq (by omega) (by omega) (by omega) (by omega)]; exact c0)]
        by_cases c1 : r3 = 1
        · subst c1
          rw [if_pos (show ii 1 = (1 : Int32) from rfl)]
          obtain ⟨D2, e6, hD2⟩ := A_both hD1 (p := 5) (q := e_ct E) (by omega) (by omega) ⟨by omega, by omega⟩ gn (by omega)
          rw [ob_some, e6, ob_some]
          dsimp only
          rw [xok_l]
          have hN2 := Nds_new (kk := 3) (w := 0) (a := 0) (b := 0) (on := 5) (ot := e_ct E) hN1 g6
          have hL2 := LotN_new (kk := 3) (w := 0) (a := 0) (b := 0) (on := 5) (ot := e_ct E) hL1 gn.2
          have hB2 : TwoN (newE E1 3 0 0 0 5 (e_ct E)) (e_ct E1) 3 5 (e_ct E) := ⟨newE_new.1, newE_new.2.2.2.2.1, newE_new.2.2.2.2.2⟩
          have ct2 : e_ct (newE E1 3 0 0 0 5 (e_ct E)) = e_ct E1 + 1 := rfl
          generalize hE2 : newE E1 3 0 0 0 5 (e_ct E) = E2 at hN2 hL2 hB2 ct2 hD2
          have gb : gNode E2 (e_ct E1) := ⟨by omega, by omega⟩
          have gn2 : gNode E2 (e_ct E) := ⟨by omega, by omega⟩
          have g62 : 6 ≤ e_ct E2 := by omega
          have l0 : lowest S 0 (k : Int) 9 = -1 := low_no hQ (by omega) (by omega)
          by_cases hf : isFi x u v = true
          · have hw : wOf x u v = 0 := if_pos hf
            have l1 : lowest (addtok S (wOf x u v) (k : Int) 9 true (fun _ => false)) 0 (k : Int) 9 = s_nt S := by
              rw [hw]
              exact low_add_eq hQ (by omega) (by omega) (by omega)
            obtain ⟨q1, q2⟩ := ap1y (x := x) (u := u) (v := v) (sl := fun _ => false) (sl2 := fun j => false || (decide (j = (s_nt S).toNat) || s_sl (addtok S (wOf x u v) (k : Int) 9 true (fun _ => false)) (s_nt S) j)) hQ (by omega) hf (by rw [hnt, decide_eq_true rfl]; rfl)
            exact l_close hk' (m_b213 (xs := xs) (N := N) (lv := [lv0 []]) (lg := [1, 2, 1, 1, 1, 1]) hD2 (by omega) gb hQ.1 (fun F hF => run1y (Nds_ag hN2 g62 hF) (LotN_ag hL2 gn2 hF) (TwoN_ag hB2 gb hF) nt90 l0 nt0 l1) rfl (fun q => absurd q (by decide)) q1 ht0 (by omega) ⟨by omega, by omega⟩ q2 hu hv hx cA cB (by omega)) hN2 ⟨g62, by omega⟩ q1 (by omega) hu hv bA bB
          · have hf' : isFi x u v = false := by
              cases hq : isFi x u v
              · rfl
              · exact absurd hq hf
            have hw : wOf x u v = 1 := if_neg hf
            have l1 : lowest (addtok S (wOf x u v) (k : Int) 9 true (fun _ => false)) 0 (k : Int) 9 = -1 := by
              rw [hw]
              exact low_add_ne hQ (by omega) (by omega) (by decide)
            obtain ⟨q1, q2⟩ := ap1n (x := x) (u := u) (v := v) (sl := fun _ => false) hQ (by omega) hf'
            exact l_close hk' (m_b213 (xs := xs) (N := N) (lv := [([], [(5, (fun z : Int => if z = 0 then (k : Int) else if z = 1 then 9 else 0), fun _ => false)], (lv0 []).2.2)]) (lg := [1, 2, 1, 1]) hD2 (by omega) gb hQ.1 (fun F hF => run1n (Nds_ag hN2 g62 hF) (LotN_ag hL2 gn2 hF) (TwoN_ag hB2 gb hF) nt90 l0 l1) rfl (fun q => absurd q (by decide)) q1 ht0 (by omega) ⟨by omega, by omega⟩ q2 hu hv hx cA cB (by omega)) hN2 ⟨g62, by omega⟩ q1 (by omega) hu hv bA bB
        · have c2 : r3 = 2 := by omega
          subst c2
          rw [if_neg (show ¬ ii 2 = (1 : Int32) by decide)]
          obtain ⟨D2, e6, hD2⟩ := A_both hD1 (p := e_ct E) (q := 3) (by omega) (by omega) gn ⟨by omega, by omega⟩ (by omega)
          rw [ob_some, e6, ob_some]
          dsimp only
          rw [xok_l]
          have hN2 := Nds_new (kk := 3) (w := 0) (a := 0) (b := 0) (on := e_ct E) (ot := 3) hN1 g6
          have hL2 := LotN_new (kk := 3) (w := 0) (a := 0) (b := 0) (on := e_ct E) (ot := 3) hL1 gn.2
          have hB2 : TwoN (newE E1 3 0 0 0 (e_ct E) 3) (e_ct E1) 3 (e_ct E) 3 := ⟨newE_new.1, newE_new.2.2.2.2.1, newE_new.2.2.2.2.2⟩
          have ct2 : e_ct (newE E1 3 0 0 0 (e_ct E) 3) = e_ct E1 + 1 := rfl
          generalize hE2 : newE E1 3 0 0 0 (e_ct E) 3 = E2 at hN2 hL2 hB2 ct2 hD2
          have g62 : 6 ≤ e_ct E2 := by omega
          obtain ⟨D3, e7, hD3⟩ := A_attempt hD2 (p := e_ct E1) (q := 4) (by omega) (by omega) ⟨by omega, by omega⟩ ⟨by omega, by omega⟩ (by omega)
          rw [ob_some, e7, ob_some]
          dsimp only
          rw [xok_l]
          have hN3 := Nds_new (kk := 13) (w := 0) (a := 0) (b := 0) (on := e_ct E1) (ot := 4) hN2 g62
          have hL3 := LotN_new (kk := 13) (w := 0) (a := 0) (b := 0) (on := e_ct E1) (ot := 4) hL2 (by omega)
          have hB3 := TwoN_new (kk := 13) (w := 0) (a := 0) (b := 0) (on := e_ct E1) (ot := 4) hB2 (by omega)
          have hC3 : TwoN (newE E2 13 0 0 0 (e_ct E1) 4) (e_ct E2) 13 (e_ct E1) 4 := ⟨newE_new.1, newE_new.2.2.2.2.1, newE_new.2.2.2.2.2⟩
          have ct3 : e_ct (newE E2 13 0 0 0 (e_ct E1) 4) = e_ct E2 + 1 := rfl
          generalize hE3 : newE E2 13 0 0 0 (e_ct E1) 4 = E3 at hN3 hL3 hB3 hC3 ct3 hD3
          have g63 : 6 ≤ e_ct E3 := by omega
          have ga : gNode E3 (e_ct E2) := ⟨by omega, by omega⟩
          have gb3 : gNode E3 (e_ct E1) := ⟨by omega, by omega⟩
          have gn3 : gNode E3 (e_ct E) := ⟨by omega, by omega⟩
          obtain ⟨q1, q2⟩ := ap2 (x := x) (u := u) (v := v) (sl := fun _ => false) hQ (by omega) rfl
          exact l_close hk' (m_b213 (xs := xs) (N := N) (lv := [lv0 []]) (lg := [1, 1]) hD3 (by omega) ga hQ.1 (fun F hF => run2 (Nds_ag hN3 g63 hF) (LotN_ag hL3 gn3 hF) (TwoN_ag hB3 gb3 hF) (TwoN_ag hC3 ga hF) nt90) rfl (fun q => absurd q (by decide)) q1 ht0 (by omega) ⟨by omega, by omega⟩ q2 hu hv hx cA cB (by omega)) hN3 ⟨g63, by omega⟩ q1 (by omega) hu hv bA bB
  · unfold lmu
    dsimp only
    have := Int32.le_toInt p16
    have := Int32.toInt_lt p16
    omega
end
