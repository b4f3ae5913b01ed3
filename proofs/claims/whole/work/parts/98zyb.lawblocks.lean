/-! THE LAW: the blocks of its loop (made by genlaw2.py) -/
section
variable {σ : St} {δ d : Dy} {mo p3 k N : Nat} {xs : Nat → Int32} {p4 : Int32}
theorem LXP.lx {mL : Option (Int32 × Dy)} {mX : Dy → Option (Int32 × Dy)} {P : Int32 → Prop} {Q : Dy → Prop} (h : LXP mo p3 mL mX P Q) : LX mo p3 mL mX Q := by
  obtain ⟨c, d1, v, d2, e1, e2, e3, e4, -, e6⟩ := h
  exact ⟨c, d1, v, d2, e1, e2, e3, e4, e6⟩
theorem LXP_lawB (hK : KM σ mo) (h3 : KD σ p3 102 1) {mL : Option (Int32 × Dy)} {mX : Dy → Option (Int32 × Dy)} {Q : Dy → Prop} (h : LXP mo p3 mL mX (fun v => v = 0 ∨ v = 1) Q) {ρ : Type} {K : Dy → Option ρ} {Q' : ρ → Prop} (hQ : ∀ d, Q d → Ok (K d) Q') : Ok (mL.bind fun v3 => (chk σ 12 mo).bind fun _ => (mX v3.2).bind fun v4 => (chk σ 12 mo).bind fun _ => (m_X12_thrown σ mo v4.2).bind fun v5 => if v5 = v3.1 then if v3.1 = 0 then (rL σ v4.2 p3 (0 : Int32)).bind fun v6 => if v4.1 = 0 then (if (lg_cmp v6 (0 : Int64)) = 0 then K v4.2 else none) else (if (lg_cmp v6 (1 : Int64)) = 0 then K v4.2 else none) else K v4.2 else none) Q' := by
  obtain ⟨c, d1, v, d2, e1, e2, e3, e4, e5, hq⟩ := h
  rw [e1, ob_some, chk_ko hK.1, ob_some]
  dsimp only
  rw [e2, ob_some, ob_some]
  unfold m_X12_thrown
  rw [gI_ko hK.1, ob_some, ob_some]
  dsimp only
  rw [if_pos e3]
  by_cases h0 : c = 0
  · have hr : rL σ d2 p3 (0 : Int32) = some (d2.2 p3 0) := rL_kd (z := 0) h3 (by omega) (by omega)
    rw [if_pos h0, hr, ob_some, e4 h0]
    rcases e5 h0 with hv | hv
    · rw [if_pos hv, hv, show ((0 : Int32)).toInt64 = (0 : Int64) from rfl, lg_self, if_pos rfl]
      exact hQ d2 hq
    · rw [if_neg (by rw [hv]; decide), hv, show ((1 : Int32)).toInt64 = (1 : Int64) from rfl, lg_self, if_pos rfl]
      exact hQ d2 hq
  · rw [if_neg h0]
    exact hQ d2 hq
/-- the call's words -/
def RdL (xs : Nat → Int32) (N : Nat) (p4 : Int32) : Prop := ∀ j : Int, 0 ≤ j → j < 6 → ∃ z, rng z ∧ rS xs N (p4 + ii j) = some (ii z)
def LG (σ : St) (mo p3 k : Nat) (p4 : Int32) : ((Nat × Int32 × Dy) ⊕ Unit) → Prop := PL (fun s => s.1 = k + 1 ∧ s.2.1 = p4 + 6 ∧ InvL σ mo p3 (k + 1) s.2.2) (fun _ => True)
theorem finL (h : InvL σ mo p3 (k + 1) d) : Ok (m_law_b2400 xs N σ k 0 mo p3 p4 d) (LG σ mo p3 k p4) := Ok_inl (s' := (k + 1, p4 + 6, d)) rfl ⟨rfl, rfl, h⟩
/-- a question -/
theorem qL (hI : InvL σ mo p3 k δ) {tq : Option Int32} {mq : Option (Int32 × Dy)} (h : ∀ E bd R I jr, Ctx σ δ mo p3 k E bd R I jr → LQ tq mq (fun d => Core d mo k E bd R I jr)) : LQ tq mq (fun d => InvL σ mo p3 (k + 1) d) := by
  obtain ⟨hK, E, bd, R, hI⟩ := hI
  obtain ⟨I0', jr0, hC0⟩ := hI E AgE_rf
  obtain ⟨v, d, e1, e2, -⟩ := h _ _ _ _ _ ⟨hK, hC0⟩
  refine ⟨v, d, e1, e2, hK, E, bd, R, fun F hF => ?_⟩
  obtain ⟨I, jr, hC⟩ := hI F hF
  obtain ⟨v', d', f1, f2, f3⟩ := h _ _ _ _ _ ⟨hK, hC⟩
  have g : (v, d) = (v', d') := Option.some.inj (e2.symm.trans f2)
  obtain ⟨rfl, rfl⟩ := Prod.mk.inj g
  exact ⟨I, jr, Core_k f3 (Nat.le_succ k)⟩
theorem B_variable (hI : InvL σ mo p3 k δ) (hk : k < 512) : Ok (m_law_b200 xs N σ k 0 mo p3 p4 δ) (LG σ mo p3 k p4) := by
  unfold m_law_b200
  exact LX_law (mX := _) hI.1.2.1 hI.1.2.2.1 (b_variable hI hk ).lx (fun d hd => finL hd)
theorem B_equate (hI : InvL σ mo p3 k δ) (hRd : RdL xs N p4) : Ok (m_law_b244 xs N σ k 0 mo p3 p4 δ) (LG σ mo p3 k p4) := by
  obtain ⟨z1, h1, r1⟩ := hRd 1 (by omega) (by omega)
  have r1 : rS xs N (p4 + (1 : Int32)) = some (ii z1) := r1
  obtain ⟨z2, h2, r2⟩ := hRd 2 (by omega) (by omega)
  have r2 : rS xs N (p4 + (2 : Int32)) = some (ii z2) := r2
  unfold m_law_b244
  simp only [r1, r2, ob_some]
  exact LX_law (mX := _) hI.1.2.1 hI.1.2.2.1 (b_equate hI h1 h2).lx (fun d hd => finL hd)
theorem B_both (hI : InvL σ mo p3 k δ) (hRd : RdL xs N p4) : Ok (m_law_b420 xs N σ k 0 mo p3 p4 δ) (LG σ mo p3 k p4) := by
  obtain ⟨z1, h1, r1⟩ := hRd 1 (by omega) (by omega)
  have r1 : rS xs N (p4 + (1 : Int32)) = some (ii z1) := r1
  obtain ⟨z2, h2, r2⟩ := hRd 2 (by omega) (by omega)
  have r2 : rS xs N (p4 + (2 : Int32)) = some (ii z2) := r2
  unfold m_law_b420
  simp only [r1, r2, ob_some]
  exact LX_law (mX := _) hI.1.2.1 hI.1.2.2.1 (b_both hI h1 h2).lx (fun d hd => finL hd)
theorem B_when (hI : InvL σ mo p3 k δ) (hRd : RdL xs N p4) : Ok (m_law_b488 xs N σ k 0 mo p3 p4 δ) (LG σ mo p3 k p4) := by
  obtain ⟨z1, h1, r1⟩ := hRd 1 (by omega) (by omega)
  have r1 : rS xs N (p4 + (1 : Int32)) = some (ii z1) := r1
  obtain ⟨z2, h2, r2⟩ := hRd 2 (by omega) (by omega)
  have r2 : rS xs N (p4 + (2 : Int32)) = some (ii z2) := r2
  obtain ⟨z3, h3, r3⟩ := hRd 3 (by omega) (by omega)
  have r3 : rS xs N (p4 + (3 : Int32)) = some (ii z3) := r3
  obtain ⟨z4, h4, r4⟩ := hRd 4 (by omega) (by omega)
  have r4 : rS xs N (p4 + (4 : Int32)) = some (ii z4) := r4
  unfold m_law_b488
  simp only [r1, r2, r3, r4, ob_some]
  exact LX_law (mX := _) hI.1.2.1 hI.1.2.2.1 (b_when hI h1 h2 h3 h4).lx (fun d hd => finL hd)
theorem B_either (hI : InvL σ mo p3 k δ) (hRd : RdL xs N p4) : Ok (m_law_b580 xs N σ k 0 mo p3 p4 δ) (LG σ mo p3 k p4) := by
  obtain ⟨z1, h1, r1⟩ := hRd 1 (by omega) (by omega)
  have r1 : rS xs N (p4 + (1 : Int32)) = some (ii z1) := r1
  obtain ⟨z2, h2, r2⟩ := hRd 2 (by omega) (by omega)
  have r2 : rS xs N (p4 + (2 : Int32)) = some (ii z2) := r2
  obtain ⟨z3, h3, r3⟩ := hRd 3 (by omega) (by omega)
  have r3 : rS xs N (p4 + (3 : Int32)) = some (ii z3) := r3
  obtain ⟨z4, h4, r4⟩ := hRd 4 (by omega) (by omega)
  have r4 : rS xs N (p4 + (4 : Int32)) = some (ii z4) := r4
  unfold m_law_b580
  simp only [r1, r2, r3, r4, ob_some]
  exact LX_law (mX := _) hI.1.2.1 hI.1.2.2.1 (b_either hI h1 h2 h3 h4).lx (fun d hd => finL hd)
theorem B_hide (hI : InvL σ mo p3 k δ) (hRd : RdL xs N p4) : Ok (m_law_b672 xs N σ k 0 mo p3 p4 δ) (LG σ mo p3 k p4) := by
  obtain ⟨z1, h1, r1⟩ := hRd 1 (by omega) (by omega)
  have r1 : rS xs N (p4 + (1 : Int32)) = some (ii z1) := r1
  obtain ⟨z2, h2, r2⟩ := hRd 2 (by omega) (by omega)
  have r2 : rS xs N (p4 + (2 : Int32)) = some (ii z2) := r2
  unfold m_law_b672
  simp only [r1, r2, ob_some]
  exact LX_law (mX := _) hI.1.2.1 hI.1.2.2.1 (b_hide hI h1 h2).lx (fun d hd => finL hd)
theorem B_call (hI : InvL σ mo p3 k δ) (hRd : RdL xs N p4) : Ok (m_law_b740 xs N σ k 0 mo p3 p4 δ) (LG σ mo p3 k p4) := by
  obtain ⟨z1, h1, r1⟩ := hRd 1 (by omega) (by omega)
  have r1 : rS xs N (p4 + (1 : Int32)) = some (ii z1) := r1
  obtain ⟨z2, h2, r2⟩ := hRd 2 (by omega) (by omega)
  have r2 : rS xs N (p4 + (2 : Int32)) = some (ii z2) := r2
  obtain ⟨z3, h3, r3⟩ := hRd 3 (by omega) (by omega)
  have r3 : rS xs N (p4 + (3 : Int32)) = some (ii z3) := r3
  unfold m_law_b740
  simp only [r1, r2, r3, ob_some]
  exact LX_law (mX := _) hI.1.2.1 hI.1.2.2.1 (b_call hI h1 h2 h3).lx (fun d hd => finL hd)
theorem B_next (hI : InvL σ mo p3 k δ) (hRd : RdL xs N p4) : Ok (m_law_b820 xs N σ k 0 mo p3 p4 δ) (LG σ mo p3 k p4) := by
  obtain ⟨z1, h1, r1⟩ := hRd 1 (by omega) (by omega)
  have r1 : rS xs N (p4 + (1 : Int32)) = some (ii z1) := r1
  unfold m_law_b820
  simp only [r1, ob_some]
  exact LX_law (mX := _) hI.1.2.1 hI.1.2.2.1 (b_next hI h1).lx (fun d hd => finL hd)
theorem B_each (hI : InvL σ mo p3 k δ) (hRd : RdL xs N p4) : Ok (m_law_b876 xs N σ k 0 mo p3 p4 δ) (LG σ mo p3 k p4) := by
  obtain ⟨z1, h1, r1⟩ := hRd 1 (by omega) (by omega)
  have r1 : rS xs N (p4 + (1 : Int32)) = some (ii z1) := r1
  unfold m_law_b876
  simp only [r1, ob_some]
  exact LX_law (mX := _) hI.1.2.1 hI.1.2.2.1 (b_each hI h1).lx (fun d hd => finL hd)
theorem B_lot (hI : InvL σ mo p3 k δ) (hRd : RdL xs N p4) : Ok (m_law_b1052 xs N σ k 0 mo p3 p4 δ) (LG σ mo p3 k p4) := by
  obtain ⟨z1, h1, r1⟩ := hRd 1 (by omega) (by omega)
  have r1 : rS xs N (p4 + (1 : Int32)) = some (ii z1) := r1
  obtain ⟨z2, h2, r2⟩ := hRd 2 (by omega) (by omega)
  have r2 : rS xs N (p4 + (2 : Int32)) = some (ii z2) := r2
  obtain ⟨z3, h3, r3⟩ := hRd 3 (by omega) (by omega)
  have r3 : rS xs N (p4 + (3 : Int32)) = some (ii z3) := r3
  obtain ⟨z4, h4, r4⟩ := hRd 4 (by omega) (by omega)
  have r4 : rS xs N (p4 + (4 : Int32)) = some (ii z4) := r4
  unfold m_law_b1052
  simp only [r1, r2, r3, r4, ob_some]
  exact LX_law (mX := _) hI.1.2.1 hI.1.2.2.1 (b_lot hI h1 h2 h3 h4).lx (fun d hd => finL hd)
theorem B_attempt (hI : InvL σ mo p3 k δ) (hRd : RdL xs N p4) : Ok (m_law_b1144 xs N σ k 0 mo p3 p4 δ) (LG σ mo p3 k p4) := by
  obtain ⟨z1, h1, r1⟩ := hRd 1 (by omega) (by omega)
  have r1 : rS xs N (p4 + (1 : Int32)) = some (ii z1) := r1
  obtain ⟨z2, h2, r2⟩ := hRd 2 (by omega) (by omega)
  have r2 : rS xs N (p4 + (2 : Int32)) = some (ii z2) := r2
  unfold m_law_b1144
  simp only [r1, r2, ob_some]
  exact LX_law (mX := _) hI.1.2.1 hI.1.2.2.1 (b_attempt hI h1 h2).lx (fun d hd => finL hd)
theorem B_define (hI : InvL σ mo p3 k δ) (hk : k < 512) (hRd : RdL xs N p4) : Ok (m_law_b1212 xs N σ k 0 mo p3 p4 δ) (LG σ mo p3 k p4) := by
  obtain ⟨z1, h1, r1⟩ := hRd 1 (by omega) (by omega)
  have r1 : rS xs N (p4 + (1 : Int32)) = some (ii z1) := r1
  obtain ⟨z2, h2, r2⟩ := hRd 2 (by omega) (by omega)
  have r2 : rS xs N (p4 + (2 : Int32)) = some (ii z2) := r2
  unfold m_law_b1212
  simp only [r1, r2, ob_some]
  exact LX_law (mX := _) hI.1.2.1 hI.1.2.2.1 (b_define hI hk h1 h2).lx (fun d hd => finL hd)
theorem B_body (hI : InvL σ mo p3 k δ) (hRd : RdL xs N p4) : Ok (m_law_b1590 xs N σ k 0 mo p3 p4 δ) (LG σ mo p3 k p4) := by
  obtain ⟨z1, h1, r1⟩ := hRd 1 (by omega) (by omega)
  have r1 : rS xs N (p4 + (1 : Int32)) = some (ii z1) := r1
  obtain ⟨z2, h2, r2⟩ := hRd 2 (by omega) (by omega)
  have r2 : rS xs N (p4 + (2 : Int32)) = some (ii z2) := r2
  obtain ⟨z3, h3, r3⟩ := hRd 3 (by omega) (by omega)
  have r3 : rS xs N (p4 + (3 : Int32)) = some (ii z3) := r3
  unfold m_law_b1590
  simp only [r1, r2, r3, ob_some]
  exact LX_law (mX := _) hI.1.2.1 hI.1.2.2.1 (b_body hI h1 h2 h3).lx (fun d hd => finL hd)
theorem B_rule (hI : InvL σ mo p3 k δ) (hk : k < 512) : Ok (m_law_b1670 xs N σ k 0 mo p3 p4 δ) (LG σ mo p3 k p4) := by
  unfold m_law_b1670
  exact LX_law (mX := _) hI.1.2.1 hI.1.2.2.1 (b_rule hI hk ).lx (fun d hd => finL hd)
theorem B_begin (hI : InvL σ mo p3 k δ) (hk : k < 512) (hRd : RdL xs N p4) : Ok (m_law_b1714 xs N σ k 0 mo p3 p4 δ) (LG σ mo p3 k p4) := by
  obtain ⟨z1, h1, r1⟩ := hRd 1 (by omega) (by omega)
  have r1 : rS xs N (p4 + (1 : Int32)) = some (ii z1) := r1
  obtain ⟨z2, h2, r2⟩ := hRd 2 (by omega) (by omega)
  have r2 : rS xs N (p4 + (2 : Int32)) = some (ii z2) := r2
  obtain ⟨z3, h3, r3⟩ := hRd 3 (by omega) (by omega)
  have r3 : rS xs N (p4 + (3 : Int32)) = some (ii z3) := r3
  unfold m_law_b1714
  simp only [r1, r2, r3, ob_some]
  exact LX_law (mX := _) hI.1.2.1 hI.1.2.2.1 (b_begin hI hk h1 h2 h3).lx (fun d hd => finL hd)
theorem B_step (hI : InvL σ mo p3 k δ) (hk : k < 512) : Ok (m_law_b1794 xs N σ k 0 mo p3 p4 δ) (LG σ mo p3 k p4) := by
  unfold m_law_b1794
  exact LX_law (mX := _) hI.1.2.1 hI.1.2.2.1 (b_step hI hk ).lx (fun d hd => finL hd)
theorem B_seed (hI : InvL σ mo p3 k δ) (hk : k < 512) (hRd : RdL xs N p4) : Ok (m_law_b1838 xs N σ k 0 mo p3 p4 δ) (LG σ mo p3 k p4) := by
  obtain ⟨z1, h1, r1⟩ := hRd 1 (by omega) (by omega)
  have r1 : rS xs N (p4 + (1 : Int32)) = some (ii z1) := r1
  unfold m_law_b1838
  simp only [r1, ob_some]
  exact LX_law (mX := _) hI.1.2.1 hI.1.2.2.1 (b_seed hI hk h1).lx (fun d hd => finL hd)
theorem B_ends (hI : InvL σ mo p3 k δ) : Ok (m_law_b1894 xs N σ k 0 mo p3 p4 δ) (LG σ mo p3 k p4) := by
  unfold m_law_b1894
  exact LX_law (mX := _) hI.1.2.1 hI.1.2.2.1 (b_ends hI ).lx (fun d hd => finL hd)
theorem B_value (hI : InvL σ mo p3 k δ) (hRd : RdL xs N p4) : Ok (m_law_b1977 xs N σ k 0 mo p3 p4 δ) (LG σ mo p3 k p4) := by
  obtain ⟨z1, h1, r1⟩ := hRd 1 (by omega) (by omega)
  have r1 : rS xs N (p4 + (1 : Int32)) = some (ii z1) := r1
  unfold m_law_b1977
  simp only [r1, ob_some]
  exact LX_law (mX := _) hI.1.2.1 hI.1.2.2.1 (b_value hI h1).lx (fun d hd => finL hd)
theorem B_part (hI : InvL σ mo p3 k δ) (hRd : RdL xs N p4) : Ok (m_law_b2121 xs N σ k 0 mo p3 p4 δ) (LG σ mo p3 k p4) := by
  obtain ⟨z1, h1, r1⟩ := hRd 1 (by omega) (by omega)
  have r1 : rS xs N (p4 + (1 : Int32)) = some (ii z1) := r1
  obtain ⟨z2, h2, r2⟩ := hRd 2 (by omega) (by omega)
  have r2 : rS xs N (p4 + (2 : Int32)) = some (ii z2) := r2
  unfold m_law_b2121
  simp only [r1, r2, ob_some]
  exact LX_law (mX := _) hI.1.2.1 hI.1.2.2.1 (b_part hI h1 h2).lx (fun d hd => finL hd)
theorem B_fired (hI : InvL σ mo p3 k δ) (hRd : RdL xs N p4) : Ok (m_law_b2303 xs N σ k 0 mo p3 p4 δ) (LG σ mo p3 k p4) := by
  obtain ⟨z1, h1, r1⟩ := hRd 1 (by omega) (by omega)
  have r1 : rS xs N (p4 + (1 : Int32)) = some (ii z1) := r1
  unfold m_law_b2303
  simp only [r1, ob_some]
  exact LX_law (mX := _) hI.1.2.1 hI.1.2.2.1 (b_fired hI h1).lx (fun d hd => finL hd)
theorem B_guard (hI : InvL σ mo p3 k δ) (hRd : RdL xs N p4) : Ok (m_law_b1503 xs N σ k 0 mo p3 p4 δ) (LG σ mo p3 k p4) := by
  obtain ⟨z1, h1, r1⟩ := hRd 1 (by omega) (by omega)
  have r1 : rS xs N (p4 + (1 : Int32)) = some (ii z1) := r1
  obtain ⟨z2, h2, r2⟩ := hRd 2 (by omega) (by omega)
  have r2 : rS xs N (p4 + (2 : Int32)) = some (ii z2) := r2
  obtain ⟨z3, h3, r3⟩ := hRd 3 (by omega) (by omega)
  have r3 : rS xs N (p4 + (3 : Int32)) = some (ii z3) := r3
  unfold m_law_b1503
  simp only [r1, r2, r3, ob_some, m_law_b1581]
  exact LXP_lawB hI.1.2.1 hI.1.2.2.1 (b_guard hI h1 h2 h3) (fun d hd => finL hd)
theorem B_areOne (hI : InvL σ mo p3 k δ) (hRd : RdL xs N p4) : Ok (m_law_b2033 xs N σ k 0 mo p3 p4 δ) (LG σ mo p3 k p4) := by
  obtain ⟨z1, h1, r1⟩ := hRd 1 (by omega) (by omega)
  have r1 : rS xs N (p4 + (1 : Int32)) = some (ii z1) := r1
  obtain ⟨z2, h2, r2⟩ := hRd 2 (by omega) (by omega)
  have r2 : rS xs N (p4 + (2 : Int32)) = some (ii z2) := r2
  unfold m_law_b2033
  simp only [r1, r2, ob_some, m_law_b2099]
  exact LXP_lawB hI.1.2.1 hI.1.2.2.1 (b_areOne hI h1 h2) (fun d hd => finL hd)
theorem B_isMadeBy (hI : InvL σ mo p3 k δ) (hRd : RdL xs N p4) : Ok (m_law_b2189 xs N σ k 0 mo p3 p4 δ) (LG σ mo p3 k p4) := by
  obtain ⟨z1, h1, r1⟩ := hRd 1 (by omega) (by omega)
  have r1 : rS xs N (p4 + (1 : Int32)) = some (ii z1) := r1
  obtain ⟨z2, h2, r2⟩ := hRd 2 (by omega) (by omega)
  have r2 : rS xs N (p4 + (2 : Int32)) = some (ii z2) := r2
  unfold m_law_b2189
  simp only [r1, r2, ob_some, m_law_b2255]
  exact LXP_lawB hI.1.2.1 hI.1.2.2.1 (b_isMadeBy hI h1 h2) (fun d hd => finL hd)
theorem B_token (hI : InvL σ mo p3 k δ) (hRd : RdL xs N p4) : Ok (m_law_b312 xs N σ k 0 mo p3 p4 δ) (LG σ mo p3 k p4) := by
  obtain ⟨z1, h1, r1⟩ := hRd 1 (by omega) (by omega)
  have r1 : rS xs N (p4 + (1 : Int32)) = some (ii z1) := r1
  obtain ⟨z2, h2, r2⟩ := hRd 2 (by omega) (by omega)
  have r2 : rS xs N (p4 + (2 : Int32)) = some (ii z2) := r2
  obtain ⟨z3, h3, r3⟩ := hRd 3 (by omega) (by omega)
  have r3 : rS xs N (p4 + (3 : Int32)) = some (ii z3) := r3
  obtain ⟨z4, h4, r4⟩ := hRd 4 (by omega) (by omega)
  have r4 : rS xs N (p4 + (4 : Int32)) = some (ii z4) := r4
  by_cases c : ii z4 = 0
  · have c' := eq_true c
    unfold m_law_b312
    simp only [r1, r2, r3, r4, ob_some, c', ↓reduceIte, m_law_b345, m_law_b384]
    exact LX_law hI.1.2.1 hI.1.2.2.1 (b_token0 hI h1 h2 h3).lx (fun d hd => finL hd)
  · have c' := eq_false c
    unfold m_law_b312
    simp only [r1, r2, r3, r4, ob_some, c', ↓reduceIte, m_law_b345, m_law_b384]
    exact LX_law hI.1.2.1 hI.1.2.2.1 (b_token1 hI h1 h2 h3).lx (fun d hd => finL hd)
theorem B_other (hI : InvL σ mo p3 k δ) (hRd : RdL xs N p4) : Ok (m_law_b1395 xs N σ k 0 mo p3 p4 δ) (LG σ mo p3 k p4) := by
  obtain ⟨z1, h1, r1⟩ := hRd 1 (by omega) (by omega)
  have r1 : rS xs N (p4 + (1 : Int32)) = some (ii z1) := r1
  obtain ⟨z2, h2, r2⟩ := hRd 2 (by omega) (by omega)
  have r2 : rS xs N (p4 + (2 : Int32)) = some (ii z2) := r2
  obtain ⟨z3, h3, r3⟩ := hRd 3 (by omega) (by omega)
  have r3 : rS xs N (p4 + (3 : Int32)) = some (ii z3) := r3
  obtain ⟨z4, h4, r4⟩ := hRd 4 (by omega) (by omega)
  have r4 : rS xs N (p4 + (4 : Int32)) = some (ii z4) := r4
  by_cases c : ii z4 = 0
  · have c' := eq_true c
    unfold m_law_b1395
    simp only [r1, r2, r3, r4, ob_some, c', ↓reduceIte, m_law_b1428, m_law_b1467]
    exact LX_law hI.1.2.1 hI.1.2.2.1 (b_other (kp := false) hI h1 h2 h3).lx (fun d hd => finL hd)
  · have c' := eq_false c
    unfold m_law_b1395
    simp only [r1, r2, r3, r4, ob_some, c', ↓reduceIte, m_law_b1428, m_law_b1467]
    exact LX_law hI.1.2.1 hI.1.2.2.1 (b_other (kp := true) hI h1 h2 h3).lx (fun d hd => finL hd)
theorem B_head (hI : InvL σ mo p3 k δ) (hRd : RdL xs N p4) : Ok (m_law_b1280 xs N σ k 0 mo p3 p4 δ) (LG σ mo p3 k p4) := by
  obtain ⟨z1, h1, r1⟩ := hRd 1 (by omega) (by omega)
  have r1 : rS xs N (p4 + (1 : Int32)) = some (ii z1) := r1
  obtain ⟨z2, h2, r2⟩ := hRd 2 (by omega) (by omega)
  have r2 : rS xs N (p4 + (2 : Int32)) = some (ii z2) := r2
  obtain ⟨z3, h3, r3⟩ := hRd 3 (by omega) (by omega)
  have r3 : rS xs N (p4 + (3 : Int32)) = some (ii z3) := r3
  obtain ⟨z4, h4, r4⟩ := hRd 4 (by omega) (by omega)
  have r4 : rS xs N (p4 + (4 : Int32)) = some (ii z4) := r4
  by_cases c : ii z4 = 0
  · have c' := eq_true c
    unfold m_law_b1280
    simp only [r1, r2, r3, r4, ob_some, c', ↓reduceIte, m_law_b1313, m_law_b1352, m_law_b1386]
    exact LXP_lawB hI.1.2.1 hI.1.2.2.1 (b_head (kp := false) hI h1 h2 h3) (fun d hd => finL hd)
  · have c' := eq_false c
    unfold m_law_b1280
    simp only [r1, r2, r3, r4, ob_some, c', ↓reduceIte, m_law_b1313, m_law_b1352, m_law_b1386]
    exact LXP_lawB hI.1.2.1 hI.1.2.2.1 (b_head (kp := true) hI h1 h2 h3) (fun d hd => finL hd)
theorem B_unless (hI : InvL σ mo p3 k δ) (hRd : RdL xs N p4) : Ok (m_law_b932 xs N σ k 0 mo p3 p4 δ) (LG σ mo p3 k p4) := by
  obtain ⟨z1, h1, r1⟩ := hRd 1 (by omega) (by omega)
  have r1 : rS xs N (p4 + (1 : Int32)) = some (ii z1) := r1
  obtain ⟨z2, h2, r2⟩ := hRd 2 (by omega) (by omega)
  have r2 : rS xs N (p4 + (2 : Int32)) = some (ii z2) := r2
  obtain ⟨z3, h3, r3⟩ := hRd 3 (by omega) (by omega)
  have r3 : rS xs N (p4 + (3 : Int32)) = some (ii z3) := r3
  obtain ⟨z4, h4, r4⟩ := hRd 4 (by omega) (by omega)
  have r4 : rS xs N (p4 + (4 : Int32)) = some (ii z4) := r4
  obtain ⟨z5, h5, r5⟩ := hRd 5 (by omega) (by omega)
  have r5 : rS xs N (p4 + (5 : Int32)) = some (ii z5) := r5
  by_cases c : ii z1 = 0
  · have c' := eq_true c
    unfold m_law_b932
    simp only [r1, r2, r3, r4, r5, ob_some, c', ↓reduceIte, m_law_b947, m_law_b992]
    exact LX_law hI.1.2.1 hI.1.2.2.1 (b_unless0 hI h2 h3 h4 h5).lx (fun d hd => finL hd)
  · have c' := eq_false c
    unfold m_law_b932
    simp only [r1, r2, r3, r4, r5, ob_some, c', ↓reduceIte, m_law_b947, m_law_b992]
    exact LX_law hI.1.2.1 hI.1.2.2.1 (b_unless1 hI h2 h3 h4 h5).lx (fun d hd => finL hd)
theorem B_clock (hI : InvL σ mo p3 k δ) : Ok (m_law_b1938 xs N σ k 0 mo p3 p4 δ) (LG σ mo p3 k p4) := by
  obtain ⟨v, d, e1, e2, hd⟩ := qL hI (fun E bd R I jr h => q_clock h)
  unfold m_law_b1938
  simp only [chk_ko hI.1.1.1, chk_ko hI.1.2.1.1, ob_some, e1, e2, ↓reduceIte]
  exact finL hd
theorem B_hasFailed (hI : InvL σ mo p3 k δ) : Ok (m_law_b1951 xs N σ k 0 mo p3 p4 δ) (LG σ mo p3 k p4) := by
  obtain ⟨v, d, e1, e2, hd⟩ := qL hI (fun E bd R I jr h => q_hasFailed h)
  unfold m_law_b1951
  simp only [chk_ko hI.1.1.1, chk_ko hI.1.2.1.1, ob_some, e1, e2, ↓reduceIte]
  exact finL hd
theorem B_variables (hI : InvL σ mo p3 k δ) : Ok (m_law_b1964 xs N σ k 0 mo p3 p4 δ) (LG σ mo p3 k p4) := by
  obtain ⟨v, d, e1, e2, hd⟩ := qL hI (fun E bd R I jr h => q_variables h)
  unfold m_law_b1964
  simp only [chk_ko hI.1.1.1, chk_ko hI.1.2.1.1, ob_some, e1, e2, ↓reduceIte]
  exact finL hd
theorem B_tokens (hI : InvL σ mo p3 k δ) : Ok (m_law_b2108 xs N σ k 0 mo p3 p4 δ) (LG σ mo p3 k p4) := by
  obtain ⟨v, d, e1, e2, hd⟩ := qL hI (fun E bd R I jr h => q_tokens h)
  unfold m_law_b2108
  simp only [chk_ko hI.1.1.1, chk_ko hI.1.2.1.1, ob_some, e1, e2, ↓reduceIte]
  exact finL hd
theorem B_standing (hI : InvL σ mo p3 k δ) : Ok (m_law_b2264 xs N σ k 0 mo p3 p4 δ) (LG σ mo p3 k p4) := by
  obtain ⟨v, d, e1, e2, hd⟩ := qL hI (fun E bd R I jr h => q_standing h)
  unfold m_law_b2264
  simp only [chk_ko hI.1.1.1, chk_ko hI.1.2.1.1, ob_some, e1, e2, ↓reduceIte]
  exact finL hd
theorem B_waiting (hI : InvL σ mo p3 k δ) : Ok (m_law_b2290 xs N σ k 0 mo p3 p4 δ) (LG σ mo p3 k p4) := by
  obtain ⟨v, d, e1, e2, hd⟩ := qL hI (fun E bd R I jr h => q_waiting h)
  unfold m_law_b2290
  simp only [chk_ko hI.1.1.1, chk_ko hI.1.2.1.1, ob_some, e1, e2, ↓reduceIte]
  exact finL hd
theorem B_standingAnew (hI : InvL σ mo p3 k δ) (hk : k < 512) : Ok (m_law_b2277 xs N σ k 0 mo p3 p4 δ) (LG σ mo p3 k p4) := by
  have hI' := hI
  obtain ⟨hK, E, bd, R, hI⟩ := hI
  obtain ⟨I0', jr0, hC0⟩ := hI E AgE_rf
  obtain ⟨v, d1, d, e1, e2, -⟩ := q_anew (p3 := p3) ⟨hK, hC0⟩ (by omega)
  have hd : InvL σ mo p3 (k + 1) d := by
    refine ⟨hK, E, bd, R, fun F hF => ?_⟩
    obtain ⟨I, jr, hC⟩ := hI F hF
    obtain ⟨v', d1', d', f1, f2, f3⟩ := q_anew (p3 := p3) ⟨hK, hC⟩ (by omega)
    have g1 : (v, d1) = (v', d1') := Option.some.inj (e1.symm.trans f1)
    obtain ⟨rfl, rfl⟩ := Prod.mk.inj g1
    have g : (v, d) = (v, d') := Option.some.inj (e2.symm.trans f2)
    obtain ⟨-, rfl⟩ := Prod.mk.inj g
    exact ⟨I, jr, Core_k f3 (Nat.le_succ k)⟩
  unfold m_law_b2277
  simp only [chk_ko hK.1.1, chk_ko hK.2.1.1, ob_some, e1, e2, ↓reduceIte]
  exact finL hd
theorem B_chance (hI : InvL σ mo p3 k δ) (hRd : RdL xs N p4) : Ok (m_law_b2359 xs N σ k 0 mo p3 p4 δ) (LG σ mo p3 k p4) := by
  obtain ⟨z1, h1, r1⟩ := hRd 1 (by omega) (by omega)
  have r1 : rS xs N (p4 + (1 : Int32)) = some (ii z1) := r1
  by_cases c : ii z1 = 0
  · have c' := eq_true c
    obtain ⟨v, d, e1, e2, hd⟩ := qL hI (fun E bd R I jr h => q_chance h (up := false))
    have e1 : m_X11_chance σ 0 (0 : Int32) δ = some v := e1
    have e2 : m_X12_chance σ mo (0 : Int32) δ = some (v, d) := e2
    unfold m_law_b2359
    simp only [r1, ob_some, c', ↓reduceIte, m_law_b2374, m_law_b2392, chk_ko hI.1.1.1, chk_ko hI.1.2.1.1, e1, e2]
    exact finL hd
  · have c' := eq_false c
    obtain ⟨v, d, e1, e2, hd⟩ := qL hI (fun E bd R I jr h => q_chance h (up := true))
    have e1 : m_X11_chance σ 0 (1 : Int32) δ = some v := e1
    have e2 : m_X12_chance σ mo (1 : Int32) δ = some (v, d) := e2
    unfold m_law_b2359
    simp only [r1, ob_some, c', ↓reduceIte, m_law_b2374, m_law_b2392, chk_ko hI.1.1.1, chk_ko hI.1.2.1.1, e1, e2]
    exact finL hd
end
