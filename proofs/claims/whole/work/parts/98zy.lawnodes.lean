/-! THE LAW: the calls that make a node (made by genlaw.py) -/
section
variable {σ : St} {δ : Dy} {mo p3 k : Nat} {E F : Ev} {a b c p q s : Int}
theorem gNode_ag (h : AgE E F) : gNode F p ↔ gNode E p := by
  unfold gNode
  rw [h.1]
theorem InvL_mk (hK : KT σ ∧ KM σ mo ∧ KD σ p3 102 1 ∧ (1040 ≤ mo ∧ mo + 37 ≤ p3)) {mL : Option (Int32 × Dy)} {mX : Dy → Option (Int32 × Dy)} {P : Int32 → Prop} {E : Ev} {bd : Bool} {R : Rl} (h : ∀ F, AgE E F → LXP mo p3 mL mX P (fun d => ∃ I jr, Core d mo (k + 1) F bd R I jr)) : LXP mo p3 mL mX P (fun d => InvL σ mo p3 (k + 1) d) := by
  obtain ⟨c, d1, v, d2, e1, e2, e3, e4, e5, e6⟩ := LXP_all (A := fun F => AgE E F) h ⟨E, AgE_rf⟩
  exact ⟨c, d1, v, d2, e1, e2, e3, e4, e5, hK, E, bd, R, e6⟩
theorem b_equate (hI : InvL σ mo p3 k δ) (hp : rng p) (hq : rng q) : LXP mo p3 (m_L_equate σ 0 (ii p) (ii q) p3 δ) (fun d => m_X12_equate σ mo (ii p) (ii q) d) (fun _ => True) (fun d => InvL σ mo p3 (k + 1) d) := by
  obtain ⟨hK, E, bd, R, hI⟩ := hI
  obtain ⟨I0', jr0, hC0⟩ := hI E AgE_rf
  have c0 : 0 ≤ e_ct E := hC0.1.1.1.1
  by_cases g : ((gTm p ∧ gTm q) ∧ e_ct E < 60)
  · obtain ⟨g1, hrm⟩ := g
    refine InvL_mk (E := newE E 0 0 p q (-1) (-1)) (bd := bd) (R := R) hK (fun F hF => ?_)
    obtain ⟨a1, a2, a3⟩ := newE_back c0 hF
    obtain ⟨I, jr, hC⟩ := hI _ a1
    have := o_equate_y ⟨hK, hC⟩ hp hq g1 hrm a2
    rw [a3] at this
    exact this.p (fun d hd => ⟨I, jr, Core_k hd (Nat.le_succ k)⟩)
  · refine InvL_mk (E := E) (bd := bd) (R := R) hK (fun F hF => ?_)
    obtain ⟨I, jr, hC⟩ := hI F hF
    exact (o_equate_n ⟨hK, hC⟩ hp hq (fun ⟨q0, q9⟩ => g ⟨q0, by rw [← hF.1]; exact q9⟩)).p (fun d hd => ⟨I, jr, Core_k hd (Nat.le_succ k)⟩)
theorem b_both (hI : InvL σ mo p3 k δ) (hp : rng p) (hq : rng q) : LXP mo p3 (m_L_both σ 0 (ii p) (ii q) p3 δ) (fun d => m_X12_both σ mo (ii p) (ii q) d) (fun _ => True) (fun d => InvL σ mo p3 (k + 1) d) := by
  obtain ⟨hK, E, bd, R, hI⟩ := hI
  obtain ⟨I0', jr0, hC0⟩ := hI E AgE_rf
  have c0 : 0 ≤ e_ct E := hC0.1.1.1.1
  by_cases g : (gNode E p ∧ gNode E q ∧ e_ct E < 60)
  · obtain ⟨g1, g2, hrm⟩ := g
    refine InvL_mk (E := newE E 3 0 0 0 p q) (bd := bd) (R := R) hK (fun F hF => ?_)
    obtain ⟨a1, a2, a3⟩ := newE_back c0 hF
    obtain ⟨I, jr, hC⟩ := hI _ a1
    have := o_both_y ⟨hK, hC⟩ hp hq g1 g2 hrm a2
    rw [a3] at this
    exact this.p (fun d hd => ⟨I, jr, Core_k hd (Nat.le_succ k)⟩)
  · refine InvL_mk (E := E) (bd := bd) (R := R) hK (fun F hF => ?_)
    obtain ⟨I, jr, hC⟩ := hI F hF
    exact (o_both_n ⟨hK, hC⟩ hp hq (fun ⟨q0, q1, q9⟩ => g ⟨(gNode_ag hF).mp q0, (gNode_ag hF).mp q1, by rw [← hF.1]; exact q9⟩)).p (fun d hd => ⟨I, jr, Core_k hd (Nat.le_succ k)⟩)
theorem b_when (hI : InvL σ mo p3 k δ) (hc : rng c) (ha : rng a) (hb : rng b) (hp : rng p) : LXP mo p3 (m_L_when σ 0 (ii c) (ii a) (ii b) (ii p) p3 δ) (fun d => m_X12_when σ mo (ii c) (ii a) (ii b) (ii p) d) (fun _ => True) (fun d => InvL σ mo p3 (k + 1) d) := by
  obtain ⟨hK, E, bd, R, hI⟩ := hI
  obtain ⟨I0', jr0, hC0⟩ := hI E AgE_rf
  have c0 : 0 ≤ e_ct E := hC0.1.1.1.1
  by_cases g : (gNode E p ∧ gAsk c a b ∧ e_ct E < 60)
  · obtain ⟨g1, g2, hrm⟩ := g
    refine InvL_mk (E := newE E 4 c a (if c = 3 then 0 else b) p (-1)) (bd := bd) (R := R) hK (fun F hF => ?_)
    obtain ⟨a1, a2, a3⟩ := newE_back c0 hF
    obtain ⟨I, jr, hC⟩ := hI _ a1
    have := o_when_y ⟨hK, hC⟩ hc ha hb hp g1 g2 hrm a2
    rw [a3] at this
    exact this.p (fun d hd => ⟨I, jr, Core_k hd (Nat.le_succ k)⟩)
  · refine InvL_mk (E := E) (bd := bd) (R := R) hK (fun F hF => ?_)
    obtain ⟨I, jr, hC⟩ := hI F hF
    exact (o_when_n ⟨hK, hC⟩ hc ha hb hp (fun ⟨q0, q1, q9⟩ => g ⟨(gNode_ag hF).mp q0, q1, by rw [← hF.1]; exact q9⟩)).p (fun d hd => ⟨I, jr, Core_k hd (Nat.le_succ k)⟩)
theorem b_either (hI : InvL σ mo p3 k δ) (hp : rng p) (ha : rng a) (hq : rng q) (hb : rng b) : LXP mo p3 (m_L_either σ 0 (ii p) (ii a) (ii q) (ii b) p3 δ) (fun d => m_X12_either σ mo (ii p) (ii a) (ii q) (ii b) d) (fun _ => True) (fun d => InvL σ mo p3 (k + 1) d) := by
  obtain ⟨hK, E, bd, R, hI⟩ := hI
  obtain ⟨I0', jr0, hC0⟩ := hI E AgE_rf
  have c0 : 0 ≤ e_ct E := hC0.1.1.1.1
  by_cases g : (gNode E p ∧ gNode E q ∧ (e_kd E p = 4 ∧ e_kd E q = 4) ∧ (0 ≤ a ∧ a ≤ 9) ∧ (0 ≤ b ∧ b ≤ 9) ∧ e_ct E < 60)
  · obtain ⟨g1, g2, g3, g4, g5, hrm⟩ := g
    refine InvL_mk (E := newE E 5 0 a b p q) (bd := bd) (R := R) hK (fun F hF => ?_)
    obtain ⟨a1, a2, a3⟩ := newE_back c0 hF
    obtain ⟨I, jr, hC⟩ := hI _ a1
    have g3' : e_kd (backN F (e_ct E)) p = 4 ∧ e_kd (backN F (e_ct E)) q = 4 := ⟨(a1.2.2.2.1 p g1).1.trans g3.1, (a1.2.2.2.1 q g2).1.trans g3.2⟩
    have := o_either_y ⟨hK, hC⟩ hp ha hq hb g1 g2 g3' g4 g5 hrm a2
    rw [a3] at this
    exact this.p (fun d hd => ⟨I, jr, Core_k hd (Nat.le_succ k)⟩)
  · refine InvL_mk (E := E) (bd := bd) (R := R) hK (fun F hF => ?_)
    obtain ⟨I, jr, hC⟩ := hI F hF
    exact (o_either_n ⟨hK, hC⟩ hp ha hq hb (fun ⟨q1, q2, q3, q4, q5, q6⟩ => g ⟨(gNode_ag hF).mp q1, (gNode_ag hF).mp q2, ⟨(hF.2.2.2.1 p ((gNode_ag hF).mp q1)).1.symm.trans q3.1, (hF.2.2.2.1 q ((gNode_ag hF).mp q2)).1.symm.trans q3.2⟩, q4, q5, by rw [← hF.1]; exact q6⟩)).p (fun d hd => ⟨I, jr, Core_k hd (Nat.le_succ k)⟩)
theorem b_hide (hI : InvL σ mo p3 k δ) (hs : rng s) (hp : rng p) : LXP mo p3 (m_L_hide σ 0 (ii s) (ii p) p3 δ) (fun d => m_X12_hide σ mo (ii s) (ii p) d) (fun _ => True) (fun d => InvL σ mo p3 (k + 1) d) := by
  obtain ⟨hK, E, bd, R, hI⟩ := hI
  obtain ⟨I0', jr0, hC0⟩ := hI E AgE_rf
  have c0 : 0 ≤ e_ct E := hC0.1.1.1.1
  by_cases g : (gNode E p ∧ (0 ≤ s ∧ s ≤ 3) ∧ e_ct E < 60)
  · obtain ⟨g1, g2, hrm⟩ := g
    refine InvL_mk (E := newE E 6 s 0 0 p (-1)) (bd := bd) (R := R) hK (fun F hF => ?_)
    obtain ⟨a1, a2, a3⟩ := newE_back c0 hF
    obtain ⟨I, jr, hC⟩ := hI _ a1
    have := o_hide_y ⟨hK, hC⟩ hs hp g1 g2 hrm a2
    rw [a3] at this
    exact this.p (fun d hd => ⟨I, jr, Core_k hd (Nat.le_succ k)⟩)
  · refine InvL_mk (E := E) (bd := bd) (R := R) hK (fun F hF => ?_)
    obtain ⟨I, jr, hC⟩ := hI F hF
    exact (o_hide_n ⟨hK, hC⟩ hs hp (fun ⟨q0, q1, q9⟩ => g ⟨(gNode_ag hF).mp q0, q1, by rw [← hF.1]; exact q9⟩)).p (fun d hd => ⟨I, jr, Core_k hd (Nat.le_succ k)⟩)
theorem b_call (hI : InvL σ mo p3 k δ) (hs : rng s) (hp : rng p) (hq : rng q) : LXP mo p3 (m_L_call σ 0 (ii s) (ii p) (ii q) p3 δ) (fun d => m_X12_call σ mo (ii s) (ii p) (ii q) d) (fun _ => True) (fun d => InvL σ mo p3 (k + 1) d) := by
  obtain ⟨hK, E, bd, R, hI⟩ := hI
  obtain ⟨I0', jr0, hC0⟩ := hI E AgE_rf
  have c0 : 0 ≤ e_ct E := hC0.1.1.1.1
  by_cases g : ((0 ≤ s ∧ s ≤ 5) ∧ (gTm p ∧ gTm q) ∧ e_ct E < 60)
  · obtain ⟨g1, g2, hrm⟩ := g
    refine InvL_mk (E := newE E 7 s p q (-1) (-1)) (bd := bd) (R := R) hK (fun F hF => ?_)
    obtain ⟨a1, a2, a3⟩ := newE_back c0 hF
    obtain ⟨I, jr, hC⟩ := hI _ a1
    have := o_call_y ⟨hK, hC⟩ hs hp hq g1 g2 hrm a2
    rw [a3] at this
    exact this.p (fun d hd => ⟨I, jr, Core_k hd (Nat.le_succ k)⟩)
  · refine InvL_mk (E := E) (bd := bd) (R := R) hK (fun F hF => ?_)
    obtain ⟨I, jr, hC⟩ := hI F hF
    exact (o_call_n ⟨hK, hC⟩ hs hp hq (fun ⟨q0, q1, q9⟩ => g ⟨q0, q1, by rw [← hF.1]; exact q9⟩)).p (fun d hd => ⟨I, jr, Core_k hd (Nat.le_succ k)⟩)
theorem b_next (hI : InvL σ mo p3 k δ) (hp : rng p) : LXP mo p3 (m_L_next σ 0 (ii p) p3 δ) (fun d => m_X12_next σ mo (ii p) d) (fun _ => True) (fun d => InvL σ mo p3 (k + 1) d) := by
  obtain ⟨hK, E, bd, R, hI⟩ := hI
  obtain ⟨I0', jr0, hC0⟩ := hI E AgE_rf
  have c0 : 0 ≤ e_ct E := hC0.1.1.1.1
  by_cases g : (gNode E p ∧ e_ct E < 60)
  · obtain ⟨g1, hrm⟩ := g
    refine InvL_mk (E := newE E 8 0 0 0 p (-1)) (bd := bd) (R := R) hK (fun F hF => ?_)
    obtain ⟨a1, a2, a3⟩ := newE_back c0 hF
    obtain ⟨I, jr, hC⟩ := hI _ a1
    have := o_next_y ⟨hK, hC⟩ hp g1 hrm a2
    rw [a3] at this
    exact this.p (fun d hd => ⟨I, jr, Core_k hd (Nat.le_succ k)⟩)
  · refine InvL_mk (E := E) (bd := bd) (R := R) hK (fun F hF => ?_)
    obtain ⟨I, jr, hC⟩ := hI F hF
    exact (o_next_n ⟨hK, hC⟩ hp (fun ⟨q0, q9⟩ => g ⟨(gNode_ag hF).mp q0, by rw [← hF.1]; exact q9⟩)).p (fun d hd => ⟨I, jr, Core_k hd (Nat.le_succ k)⟩)
theorem b_each (hI : InvL σ mo p3 k δ) (hp : rng p) : LXP mo p3 (m_L_each σ 0 (ii p) p3 δ) (fun d => m_X12_each σ mo (ii p) d) (fun _ => True) (fun d => InvL σ mo p3 (k + 1) d) := by
  obtain ⟨hK, E, bd, R, hI⟩ := hI
  obtain ⟨I0', jr0, hC0⟩ := hI E AgE_rf
  have c0 : 0 ≤ e_ct E := hC0.1.1.1.1
  by_cases g : (gNode E p ∧ e_ct E < 60)
  · obtain ⟨g1, hrm⟩ := g
    refine InvL_mk (E := newE E 9 0 0 0 p (-1)) (bd := bd) (R := R) hK (fun F hF => ?_)
    obtain ⟨a1, a2, a3⟩ := newE_back c0 hF
    obtain ⟨I, jr, hC⟩ := hI _ a1
    have := o_each_y ⟨hK, hC⟩ hp g1 hrm a2
    rw [a3] at this
    exact this.p (fun d hd => ⟨I, jr, Core_k hd (Nat.le_succ k)⟩)
  · refine InvL_mk (E := E) (bd := bd) (R := R) hK (fun F hF => ?_)
    obtain ⟨I, jr, hC⟩ := hI F hF
    exact (o_each_n ⟨hK, hC⟩ hp (fun ⟨q0, q9⟩ => g ⟨(gNode_ag hF).mp q0, by rw [← hF.1]; exact q9⟩)).p (fun d hd => ⟨I, jr, Core_k hd (Nat.le_succ k)⟩)
theorem b_lot (hI : InvL σ mo p3 k δ) (ha : rng a) (hp : rng p) (hb : rng b) (hq : rng q) : LXP mo p3 (m_L_lot σ 0 (ii a) (ii p) (ii b) (ii q) p3 δ) (fun d => m_X12_lot σ mo (ii a) (ii p) (ii b) (ii q) d) (fun _ => True) (fun d => InvL σ mo p3 (k + 1) d) := by
  obtain ⟨hK, E, bd, R, hI⟩ := hI
  obtain ⟨I0', jr0, hC0⟩ := hI E AgE_rf
  have c0 : 0 ≤ e_ct E := hC0.1.1.1.1
  by_cases g : (gNode E p ∧ gNode E q ∧ (1 ≤ a ∧ a ≤ 9) ∧ (1 ≤ b ∧ b ≤ 9) ∧ e_ct E < 60)
  · obtain ⟨g1, g2, g3, g4, hrm⟩ := g
    refine InvL_mk (E := newE E 12 0 a b p q) (bd := bd) (R := R) hK (fun F hF => ?_)
    obtain ⟨a1, a2, a3⟩ := newE_back c0 hF
    obtain ⟨I, jr, hC⟩ := hI _ a1
    have := o_lot_y ⟨hK, hC⟩ ha hp hb hq g1 g2 g3 g4 hrm a2
    rw [a3] at this
    exact this.p (fun d hd => ⟨I, jr, Core_k hd (Nat.le_succ k)⟩)
  · refine InvL_mk (E := E) (bd := bd) (R := R) hK (fun F hF => ?_)
    obtain ⟨I, jr, hC⟩ := hI F hF
    exact (o_lot_n ⟨hK, hC⟩ ha hp hb hq (fun ⟨q0, q1, q2, q3, q9⟩ => g ⟨(gNode_ag hF).mp q0, (gNode_ag hF).mp q1, q2, q3, by rw [← hF.1]; exact q9⟩)).p (fun d hd => ⟨I, jr, Core_k hd (Nat.le_succ k)⟩)
theorem b_attempt (hI : InvL σ mo p3 k δ) (hp : rng p) (hq : rng q) : LXP mo p3 (m_L_attempt σ 0 (ii p) (ii q) p3 δ) (fun d => m_X12_attempt σ mo (ii p) (ii q) d) (fun _ => True) (fun d => InvL σ mo p3 (k + 1) d) := by
  obtain ⟨hK, E, bd, R, hI⟩ := hI
  obtain ⟨I0', jr0, hC0⟩ := hI E AgE_rf
  have c0 : 0 ≤ e_ct E := hC0.1.1.1.1
  by_cases g : (gNode E p ∧ gNode E q ∧ e_ct E < 60)
  · obtain ⟨g1, g2, hrm⟩ := g
    refine InvL_mk (E := newE E 13 0 0 0 p q) (bd := bd) (R := R) hK (fun F hF => ?_)
    obtain ⟨a1, a2, a3⟩ := newE_back c0 hF
    obtain ⟨I, jr, hC⟩ := hI _ a1
    have := o_attempt_y ⟨hK, hC⟩ hp hq g1 g2 hrm a2
    rw [a3] at this
    exact this.p (fun d hd => ⟨I, jr, Core_k hd (Nat.le_succ k)⟩)
  · refine InvL_mk (E := E) (bd := bd) (R := R) hK (fun F hF => ?_)
    obtain ⟨I, jr, hC⟩ := hI F hF
    exact (o_attempt_n ⟨hK, hC⟩ hp hq (fun ⟨q0, q1, q9⟩ => g ⟨(gNode_ag hF).mp q0, (gNode_ag hF).mp q1, by rw [← hF.1]; exact q9⟩)).p (fun d hd => ⟨I, jr, Core_k hd (Nat.le_succ k)⟩)
theorem b_token0 (hI : InvL σ mo p3 k δ) (hs : rng s) (hp : rng p) (hq : rng q) : LXP mo p3 (m_L_token σ 0 (ii s) (ii p) (ii q) (0 : Int32) p3 δ) (fun d => m_X12_token σ mo (ii s) (ii p) (ii q) (0 : Int32) d) (fun _ => True) (fun d => InvL σ mo p3 (k + 1) d) := by
  obtain ⟨hK, E, bd, R, hI⟩ := hI
  obtain ⟨I0', jr0, hC0⟩ := hI E AgE_rf
  have c0 : 0 ≤ e_ct E := hC0.1.1.1.1
  by_cases g : ((0 ≤ s ∧ s ≤ 5) ∧ (gTm p ∧ gTm q) ∧ e_ct E < 60)
  · obtain ⟨g1, g2, hrm⟩ := g
    refine InvL_mk (E := newE E 1 s p q (-1) (-1)) (bd := bd) (R := R) hK (fun F hF => ?_)
    obtain ⟨a1, a2, a3⟩ := newE_back c0 hF
    obtain ⟨I, jr, hC⟩ := hI _ a1
    have := o_token0_y ⟨hK, hC⟩ hs hp hq g1 g2 hrm a2
    rw [a3] at this
    exact this.p (fun d hd => ⟨I, jr, Core_k hd (Nat.le_succ k)⟩)
  · refine InvL_mk (E := E) (bd := bd) (R := R) hK (fun F hF => ?_)
    obtain ⟨I, jr, hC⟩ := hI F hF
    exact (o_token0_n ⟨hK, hC⟩ hs hp hq (fun ⟨q0, q1, q9⟩ => g ⟨q0, q1, by rw [← hF.1]; exact q9⟩)).p (fun d hd => ⟨I, jr, Core_k hd (Nat.le_succ k)⟩)
theorem b_token1 (hI : InvL σ mo p3 k δ) (hs : rng s) (hp : rng p) (hq : rng q) : LXP mo p3 (m_L_token σ 0 (ii s) (ii p) (ii q) (1 : Int32) p3 δ) (fun d => m_X12_token σ mo (ii s) (ii p) (ii q) (1 : Int32) d) (fun _ => True) (fun d => InvL σ mo p3 (k + 1) d) := by
  obtain ⟨hK, E, bd, R, hI⟩ := hI
  obtain ⟨I0', jr0, hC0⟩ := hI E AgE_rf
  have c0 : 0 ≤ e_ct E := hC0.1.1.1.1
  by_cases g : ((0 ≤ s ∧ s ≤ 5) ∧ (gTm p ∧ gTm q) ∧ e_ct E < 60)
  · obtain ⟨g1, g2, hrm⟩ := g
    refine InvL_mk (E := newE E 2 s p q (-1) (-1)) (bd := bd) (R := R) hK (fun F hF => ?_)
    obtain ⟨a1, a2, a3⟩ := newE_back c0 hF
    obtain ⟨I, jr, hC⟩ := hI _ a1
    have := o_token1_y ⟨hK, hC⟩ hs hp hq g1 g2 hrm a2
    rw [a3] at this
    exact this.p (fun d hd => ⟨I, jr, Core_k hd (Nat.le_succ k)⟩)
  · refine InvL_mk (E := E) (bd := bd) (R := R) hK (fun F hF => ?_)
    obtain ⟨I, jr, hC⟩ := hI F hF
    exact (o_token1_n ⟨hK, hC⟩ hs hp hq (fun ⟨q0, q1, q9⟩ => g ⟨q0, q1, by rw [← hF.1]; exact q9⟩)).p (fun d hd => ⟨I, jr, Core_k hd (Nat.le_succ k)⟩)
theorem b_unless0 (hI : InvL σ mo p3 k δ) (hc : rng c) (ha : rng a) (hb : rng b) (hp : rng p) : LXP mo p3 (m_L_unless σ 0 (0 : Int32) (ii c) (ii a) (ii b) (ii p) p3 δ) (fun d => m_X12_unless σ mo (0 : Int32) (ii c) (ii a) (ii b) (ii p) d) (fun _ => True) (fun d => InvL σ mo p3 (k + 1) d) := by
  obtain ⟨hK, E, bd, R, hI⟩ := hI
  obtain ⟨I0', jr0, hC0⟩ := hI E AgE_rf
  have c0 : 0 ≤ e_ct E := hC0.1.1.1.1
  by_cases g : (gNode E p ∧ gAsk c a b ∧ e_ct E < 60)
  · obtain ⟨g1, g2, hrm⟩ := g
    refine InvL_mk (E := newE E 10 c a (if c = 3 then 0 else b) p (-1)) (bd := bd) (R := R) hK (fun F hF => ?_)
    obtain ⟨a1, a2, a3⟩ := newE_back c0 hF
    obtain ⟨I, jr, hC⟩ := hI _ a1
    have := o_unless0_y ⟨hK, hC⟩ hc ha hb hp g1 g2 hrm a2
    rw [a3] at this
    exact this.p (fun d hd => ⟨I, jr, Core_k hd (Nat.le_succ k)⟩)
  · refine InvL_mk (E := E) (bd := bd) (R := R) hK (fun F hF => ?_)
    obtain ⟨I, jr, hC⟩ := hI F hF
    exact (o_unless0_n ⟨hK, hC⟩ hc ha hb hp (fun ⟨q0, q1, q9⟩ => g ⟨(gNode_ag hF).mp q0, q1, by rw [← hF.1]; exact q9⟩)).p (fun d hd => ⟨I, jr, Core_k hd (Nat.le_succ k)⟩)
theorem b_unless1 (hI : InvL σ mo p3 k δ) (hc : rng c) (ha : rng a) (hb : rng b) (hp : rng p) : LXP mo p3 (m_L_unless σ 0 (1 : Int32) (ii c) (ii a) (ii b) (ii p) p3 δ) (fun d => m_X12_unless σ mo (1 : Int32) (ii c) (ii a) (ii b) (ii p) d) (fun _ => True) (fun d => InvL σ mo p3 (k + 1) d) := by
  obtain ⟨hK, E, bd, R, hI⟩ := hI
  obtain ⟨I0', jr0, hC0⟩ := hI E AgE_rf
  have c0 : 0 ≤ e_ct E := hC0.1.1.1.1
  by_cases g : (gNode E p ∧ gAsk c a b ∧ e_ct E < 60)
  · obtain ⟨g1, g2, hrm⟩ := g
    refine InvL_mk (E := newE E 11 c a (if c = 3 then 0 else b) p (-1)) (bd := bd) (R := R) hK (fun F hF => ?_)
    obtain ⟨a1, a2, a3⟩ := newE_back c0 hF
    obtain ⟨I, jr, hC⟩ := hI _ a1
    have := o_unless1_y ⟨hK, hC⟩ hc ha hb hp g1 g2 hrm a2
    rw [a3] at this
    exact this.p (fun d hd => ⟨I, jr, Core_k hd (Nat.le_succ k)⟩)
  · refine InvL_mk (E := E) (bd := bd) (R := R) hK (fun F hF => ?_)
    obtain ⟨I, jr, hC⟩ := hI F hF
    exact (o_unless1_n ⟨hK, hC⟩ hc ha hb hp (fun ⟨q0, q1, q9⟩ => g ⟨(gNode_ag hF).mp q0, q1, by rw [← hF.1]; exact q9⟩)).p (fun d hd => ⟨I, jr, Core_k hd (Nat.le_succ k)⟩)
end
