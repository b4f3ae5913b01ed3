/-! THE CLASS'S SIDE OF EACH CALL -/
section
variable {σ : St} {δ d : Dy} {k : Nat} {E E' : Ev} {I : Iw} {jr : List Jn} {kk w a b on ot p q s c n x z i : Int}
/-- what stands between two calls, of the class alone; no rule is being made -/
def CoT (σ : St) (δ : Dy) (k : Nat) (E : Ev) (I : Iw) (jr : List Jn) : Prop := KT σ ∧ Good E false R00 I ∧ RT δ E false R00 I jr ∧ jr.length ≤ k ∧ Rep E jr (e_df E, e_md E, I)
theorem xok_l {α ρ : Type} {x : α} {g : α → Option ρ} : xok (.inl x) g = g x := rfl
theorem CoT_node (h : CoT σ δ k E I jr) (hc : e_ct E < 60) (hx : HasN E kk w a b on ot) (hn : GN (bumpN E) (e_ct E)) : ∃ D, m_X5_add σ 1 (ii kk) (ii w) (ii a) (ii b) (ii on) (ii ot) δ = some (ii (e_ct E), D) ∧ CoT σ D k (bumpN E) I jr := by
  obtain ⟨hT, hGood, hRT, hlen, hRep⟩ := h
  have gE := hGood.1
  have hc0 := gE.1
  obtain ⟨hREn, hRId, hRBg, hRJ, md, I', hScr⟩ := hRT
  have hKN : KN σ 1 := hT.2.2.2.2.1.2.2.2.1
  obtain ⟨⟨r1, D1⟩, t1, t2, t3, t4⟩ := t_add hKN hREn.1 ⟨hc0.1, hc⟩ hx
  dsimp only at t2 t3 t4
  subst t2
  refine ⟨D1, t1, hT, Good_bump hGood (GE_bump gE hc hn), ⟨⟨t3, ?_, ?_⟩, RId_of_Fr hRId t4 (fun r a b => by omega), ⟨by rw [(t4 0 (by omega)).1]; exact hRBg.1, fun hb => (by cases hb)⟩, ?_, md, I', RId_of_Fr hScr t4 (fun r a b => by omega)⟩, hlen, Rep_mono (E' := bumpN E) hRep rfl rfl (by show e_ct E ≤ e_ct E + 1; omega) (Int.le_refl _)⟩
  · exact RRs_of_Fr hREn.2.1 gE.2.1.2 t4 (fun r a b => by omega)
  · intro dd a b
    rw [(t4 (68 + 13) (by omega)).1]
    exact hREn.2.2 dd a b
  · obtain ⟨q1, q2⟩ := hRJ
    exact ⟨by rw [(t4 0 (by omega)).1]; exact q1, by rw [(t4 13 (by omega)).1]; exact q2⟩
theorem T_equate (h : CoT σ δ k E I jr) (hp : rng p) (hq : rng q) (g1 : (gTm p ∧ gTm q)) (hrm : e_ct E < 60) (hx : HasN E 0 0 p q (-1) (-1)) : ∃ D, m_X11_equate σ 0 (ii p) (ii q) δ = some (.inl (ii (e_ct E)), D) ∧ CoT σ D k (bumpN E) I jr := by
  obtain ⟨hT, hGd, hRT, -⟩ := id h
  have gE := hGd.1
  have hR := hRT.1.1
  have hc0 := gE.1
  have k1 : KO σ 1 5 := hT.2.2.2.2.1.2.2.2.1.1
  obtain ⟨D, t, hD⟩ := CoT_node h hrm hx (GN_of hx ⟨by omega, ⟨g1.1, g1.2⟩, by omega, fun h => absurd h (by decide), fun h => absurd h (by decide), fun h => absurd h (by decide), fun h => absurd h (by decide), fun h => absurd h (by decide), fun h => absurd h (by decide), fun h => absurd h (by decide), fun h => absurd h (by decide)⟩)
  refine ⟨D, ?_, hD⟩
  have t' : m_X5_add σ 1 (0 : Int32) (0 : Int32) (ii p) (ii q) ((-1) : Int32) ((-1) : Int32) δ = some (ii (e_ct E), D) := t
  simp only [m_X11_equate, chk_ko hT.1, ob_some, c_terms_y hp hq g1, c_room_y hT hR ⟨hc0.1, hrm⟩, xel_l, gR_ko hT.1 hT.2.1.1, chk_ko k1, t']
theorem T_both (h : CoT σ δ k E I jr) (hp : rng p) (hq : rng q) (g1 : gNode E p) (g2 : gNode E q) (hrm : e_ct E < 60) (hx : HasN E 3 0 0 0 p q) : ∃ D, m_X11_both σ 0 (ii p) (ii q) δ = some (.inl (ii (e_ct E)), D) ∧ CoT σ D k (bumpN E) I jr := by
  obtain ⟨hT, hGd, hRT, -⟩ := id h
  have gE := hGd.1
  have hR := hRT.1.1
  have hc0 := gE.1
  have k1 : KO σ 1 5 := hT.2.2.2.2.1.2.2.2.1.1
  obtain ⟨D, t, hD⟩ := CoT_node h hrm hx (GN_of hx ⟨by omega, ⟨gT0, gT0⟩, by omega, fun h => absurd h (by decide), fun h => absurd h (by decide), fun h => absurd h (by decide), fun h => absurd h (by decide), fun h => absurd h (by decide), fun h => absurd h (by decide), fun _ => g1, fun _ => g2⟩)
  refine ⟨D, ?_, hD⟩
  have t' : m_X5_add σ 1 (3 : Int32) (0 : Int32) (0 : Int32) (0 : Int32) (ii p) (ii q) δ = some (ii (e_ct E), D) := t
  simp only [m_X11_both, chk_ko hT.1, ob_some, c_node_y hT hR hc0 hp g1, c_node_y hT hR hc0 hq g2, c_room_y hT hR ⟨hc0.1, hrm⟩, xel_l, gR_ko hT.1 hT.2.1.1, chk_ko k1, t']
theorem T_attempt (h : CoT σ δ k E I jr) (hp : rng p) (hq : rng q) (g1 : gNode E p) (g2 : gNode E q) (hrm : e_ct E < 60) (hx : HasN E 13 0 0 0 p q) : ∃ D, m_X11_attempt σ 0 (ii p) (ii q) δ = some (.inl (ii (e_ct E)), D) ∧ CoT σ D k (bumpN E) I jr := by
  obtain ⟨hT, hGd, hRT, -⟩ := id h
  have gE := hGd.1
  have hR := hRT.1.1
  have hc0 := gE.1
  have k1 : KO σ 1 5 := hT.2.2.2.2.1.2.2.2.1.1
  obtain ⟨D, t, hD⟩ := CoT_node h hrm hx (GN_of hx ⟨by omega, ⟨gT0, gT0⟩, by omega, fun h => absurd h (by decide), fun h => absurd h (by decide), fun h => absurd h (by decide), fun h => absurd h (by decide), fun h => absurd h (by decide), fun h => absurd h (by decide), fun _ => g1, fun _ => g2⟩)
  refine ⟨D, ?_, hD⟩
  have t' : m_X5_add σ 1 (13 : Int32) (0 : Int32) (0 : Int32) (0 : Int32) (ii p) (ii q) δ = some (ii (e_ct E), D) := t
  simp only [m_X11_attempt, chk_ko hT.1, ob_some, c_node_y hT hR hc0 hp g1, c_node_y hT hR hc0 hq g2, c_room_y hT hR ⟨hc0.1, hrm⟩, xel_l, gR_ko hT.1 hT.2.1.1, chk_ko k1, t']
theorem T_when (h : CoT σ δ k E I jr) (hc : rng c) (ha : rng a) (hb : rng b) (hp : rng p) (g1 : gNode E p) (g2 : gAsk c a b) (hrm : e_ct E < 60) (hx : HasN E 4 c a (if c = 3 then 0 else b) p (-1)) : ∃ D, m_X11_when σ 0 (ii c) (ii a) (ii b) (ii p) δ = some (.inl (ii (e_ct E)), D) ∧ CoT σ D k (bumpN E) I jr := by
  obtain ⟨hT, hGd, hRT, -⟩ := id h
  have gE := hGd.1
  have hR := hRT.1.1
  have hc0 := gE.1
  have k1 : KO σ 1 5 := hT.2.2.2.2.1.2.2.2.1.1
  have gc : gCond c := g2.1
  have hb2 : rng (if c = 3 then 0 else b) := by split <;> omega
  have gc2 : (0 ≤ c ∧ c ≤ 3) ∨ (10 ≤ c ∧ c ≤ 15) := g2.1
  obtain ⟨D, t, hD⟩ := CoT_node h hrm hx (GN_of hx ⟨by omega, ⟨g2.2.1, g2.2.2⟩, by omega, fun h => absurd h (by decide), fun _ => gc, fun h => absurd h (by decide), fun h => absurd h (by decide), fun h => absurd h (by decide), fun h => absurd h (by decide), fun _ => g1, fun h => absurd h (by decide)⟩)
  refine ⟨D, ?_, hD⟩
  have t' : m_X5_add σ 1 (4 : Int32) (ii c) (ii a) (ii (if c = 3 then 0 else b)) (ii p) ((-1) : Int32) δ = some (ii (e_ct E), D) := t
  simp only [m_X11_when, chk_ko hT.1, ob_some, c_node_y hT hR hc0 hp g1, c_cond_y hc g2.1, c_asked hc, c_terms_y ha hb2 g2.2, c_room_y hT hR ⟨hc0.1, hrm⟩, xel_l, gR_ko hT.1 hT.2.1.1, chk_ko k1, t']
theorem T_token (h : CoT σ δ k E I jr) (hs : rng s) (hp : rng p) (hq : rng q) (g1 : (0 ≤ s ∧ s ≤ 5)) (g2 : (gTm p ∧ gTm q)) (hrm : e_ct E < 60) (hx : HasN E 2 s p q (-1) (-1)) : ∃ D, m_X11_token σ 0 (ii s) (ii p) (ii q) (1 : Int32) δ = some (.inl (ii (e_ct E)), D) ∧ CoT σ D k (bumpN E) I jr := by
  obtain ⟨hT, hGd, hRT, -⟩ := id h
  have gE := hGd.1
  have hR := hRT.1.1
  have hc0 := gE.1
  have k1 : KO σ 1 5 := hT.2.2.2.2.1.2.2.2.1.1
  obtain ⟨D, t, hD⟩ := CoT_node h hrm hx (GN_of hx ⟨by omega, ⟨g2.1, g2.2⟩, by omega, fun _ => by omega, fun h => absurd h (by decide), fun h => absurd h (by decide), fun h => absurd h (by decide), fun h => absurd h (by decide), fun h => absurd h (by decide), fun h => absurd h (by decide), fun h => absurd h (by decide)⟩)
  refine ⟨D, ?_, hD⟩
  have t' : m_X5_add σ 1 (2 : Int32) (ii s) (ii p) (ii q) ((-1) : Int32) ((-1) : Int32) δ = some (ii (e_ct E), D) := t
  simp only [m_X11_token, chk_ko hT.1, ob_some, c_sort_y hs g1, c_terms_y hp hq g2, c_room_y hT hR ⟨hc0.1, hrm⟩, xel_l, gR_ko hT.1 hT.2.1.1, chk_ko k1, m_X11_token_b27, i10, t', ↓reduceIte]
theorem T_lot (h : CoT σ δ k E I jr) (ha : rng a) (hp : rng p) (hb : rng b) (hq : rng q) (g1 : gNode E p) (g2 : gNode E q) (g3 : (1 ≤ a ∧ a ≤ 9)) (g4 : (1 ≤ b ∧ b ≤ 9)) (hrm : e_ct E < 60) (hx : HasN E 12 0 a b p q) : ∃ D, m_X11_lot σ 0 (ii a) (ii p) (ii b) (ii q) δ = some (.inl (ii (e_ct E)), D) ∧ CoT σ D k (bumpN E) I jr := by
  obtain ⟨hT, hGd, hRT, -⟩ := id h
  have gE := hGd.1
  have hR := hRT.1.1
  have hc0 := gE.1
  have k1 : KO σ 1 5 := hT.2.2.2.2.1.2.2.2.1.1
  have va : ∀ d, m_X11_needWithin σ (ii a) (1 : Int32) (9 : Int32) d = some (.inl ()) := fun d => c_within_y (a := 1) (b := 9) ha (by omega) (by omega) g3
  have vb : ∀ d, m_X11_needWithin σ (ii b) (1 : Int32) (9 : Int32) d = some (.inl ()) := fun d => c_within_y (a := 1) (b := 9) hb (by omega) (by omega) g4
  obtain ⟨D, t, hD⟩ := CoT_node h hrm hx (GN_of hx ⟨by omega, ⟨(Or.inl ⟨by omega, by omega⟩), (Or.inl ⟨by omega, by omega⟩)⟩, by omega, fun h => absurd h (by decide), fun h => absurd h (by decide), fun h => absurd h (by decide), fun h => absurd h (by decide), fun h => absurd h (by decide), fun _ => ⟨by omega, by omega⟩, fun _ => g1, fun _ => g2⟩)
  refine ⟨D, ?_, hD⟩
  have t' : m_X5_add σ 1 (12 : Int32) (0 : Int32) (ii a) (ii b) (ii p) (ii q) δ = some (ii (e_ct E), D) := t
  simp only [m_X11_lot, chk_ko hT.1, ob_some, c_node_y hT hR hc0 hp g1, c_node_y hT hR hc0 hq g2, va, vb, c_room_y hT hR ⟨hc0.1, hrm⟩, xel_l, gR_ko hT.1 hT.2.1.1, chk_ko k1, t']
theorem T_variable (h : CoT σ δ k E I jr) (hk : k < 512) (g1 : s_nv (v_S (i_V I)) < 60) (g2 : v_fl (i_V I) = false) : ∃ D, m_X11_variable σ 0 δ = some (.inl (ii (s_nv (v_S (i_V I)))), D) ∧ CoT σ D (k + 1) E (varI I) (jr ++ [(0, 0, 0, 0)]) := by
  obtain ⟨hT, hGd, hRT, hlen, hRep⟩ := id h
  have gE := hGd.1
  have kW : KO σ 68 10 := hT.2.2.2.2.1.2.1
  have kS := hT.2.2.2.2.1.2.2.1
  have kst : KS σ (68 + 1) := hT.2.2.2.2.1.2.2.2.2.2.1
  have gS := hGd.2.1.1
  have g0 := gS.1.1
  obtain ⟨d1, e1, t1, t2, t3⟩ := t_note (a := 0) (b := 0) (c := 0) (e := 0) hT hRT.2.2.2.1 (by omega)
  have hRT1 := RT_note hRT gE.2.1 t1 t2 t3
  obtain ⟨⟨v, d2⟩, e2, t4, t5, t6⟩ := t_varI kst hRT1.2.1 gS g1
  dsimp only at t4 t5 t6
  subst t4
  have x1 : gI σ δ 8 (68 + 1) 2 = some (ii (s_nv (v_S (i_V I)))) := by rw [gI_ko kst.1]; exact congrArg some hRT.2.1.1.1
  have x2 : gI σ δ 8 (68 + 1) 12 = some (bi (v_fl (i_V I))) := by rw [gI_ko kst.1]; exact congrArg some hRT.2.1.1.2.2.2.2.2.2.2.2.2.2.2.1
  rw [g2] at x2
  refine ⟨d2, ?_, hT, ⟨gE, GI_var hGd.2.1 g1, hGd.2.2.1, hGd.2.2.2.1, hGd.2.2.2.2⟩, RT_world hRT1 gE.2.1 t5 (t6.wk (fun r p => by omega)), by rw [List.length_append, List.length_singleton]; omega, Rep_add hRep (Or.inl ⟨rfl, g1, g2, rfl⟩)⟩
  have e1' : m_X11_note σ 0 (0 : Int32) (0 : Int32) (0 : Int32) (0 : Int32) δ = some d1 := e1
  have n60 : ((60 : Int32) ≤ ii (s_nv (v_S (i_V I)))) = False := by
    rw [show ((60 : Int32)) = ii 60 from rfl, ii_le (by omega) (by omega) (by omega) (by omega)]
    exact eq_false (by omega)
  simp only [m_X11_variable, chk_ko hT.1, ob_some, gR_ko hT.1 hT.2.1.2.2.1, gR_ko kW kS.2.1, x1, n60, ↓reduceIte, x2, bf0, e1', chk_ko kst.1, e2]
theorem T_begin (h : CoT σ δ k E I jr) (hk : k < 512) (hn : rng n) (ha : rng a) (hb : rng b) (g : begOk E I n a b) : ∃ D, m_X11_begin σ 0 (ii n) (ii a) (ii b) δ = some (.inl (ii (((i_nx I).length : Int) + 1)), D) ∧ CoT σ D (k + 1) E (admI I n a b) (jr ++ [(3, n, a, b)]) := by
  obtain ⟨hT, hGd, hRT, hlen, hRep⟩ := id h
  obtain ⟨g1, g2, g3, g4, g5⟩ := g
  have gE := hGd.1
  have hc0 := gE.1
  have hR := hRT.1.1
  have kW : KO σ 68 10 := hT.2.2.2.2.1.2.1
  have kS := hT.2.2.2.2.1.2.2.1
  have kst : KS σ (68 + 1) := hT.2.2.2.2.1.2.2.2.2.2.1
  have g0' : 0 ≤ s_nv (v_S (i_V I)) ∧ s_nv (v_S (i_V I)) ≤ 60 := ⟨hGd.2.1.1.1.1, hGd.2.1.1.1.2.1⟩
  have va := tm_noV g2 g0'
  have vb := tm_noV g3 g0'
  obtain ⟨d1, e1, t1, t2, t3⟩ := t_note (a := 3) (b := n) (c := a) (e := b) hT hRT.2.2.2.1 (by omega)
  have hRT1 := RT_note hRT gE.2.1 t1 t2 t3
  obtain ⟨d2, e2, t4, t5⟩ := t_admit (n := n) (a := a) (b := b) hT.2.2.2.2.1 hRT1.2.1 (by omega)
  have F2 : Fr (fun r => (68 ≤ r ∧ r < 554) ∧ ¬ r = 81) d1 d2 := t5.wk (fun r p => by omega)
  have hRT2 := RT_world hRT1 gE.2.1 t4 F2
  have x2 : gI σ δ 8 (68 + 1) 12 = some (bi (v_fl (i_V I))) := by rw [gI_ko kst.1]; exact congrArg some hRT.2.1.1.2.2.2.2.2.2.2.2.2.2.2.1
  rw [g4] at x2
  have f1 := t_forNext hT.2.2.2.2.1 hRT.2.1
  have f2 := t_forNext hT.2.2.2.2.1 hRT2.2.1
  have hln : (i_nx (admI I n a b)).length = (i_nx I).length + 1 := by
    show (i_nx I ++ [begA n a b]).length = _
    rw [List.length_append, List.length_singleton]
  rw [hln] at f2
  refine ⟨d2, ?_, hT, ⟨gE, GI_adm hGd.2.1 g1 g2 g3 (by omega), hGd.2.2.1, hGd.2.2.2.1, hGd.2.2.2.2⟩, hRT2, by rw [List.length_append, List.length_singleton]; omega, Rep_add hRep (Or.inr (Or.inr (Or.inr (Or.inl ⟨rfl, g1, g2, g3, g4, g5, rfl⟩))))⟩
  have e1' : m_X11_note σ 0 (3 : Int32) (ii n) (ii a) (ii b) δ = some d1 := e1
  have n30 : (ii (i_nx I).length < (30 : Int32)) = True := i_lt (b := 30) (by omega) (by omega) (by omega)
  have b69 : m_X11_begin_b69 σ 0 (ii n) (ii a) (ii b) δ = some (Sum.inl (ii (((i_nx I).length : Int) + 1)), d2) := by
    simp only [m_X11_begin_b69, gR_ko hT.1 hT.2.1.2.2.1, gR_ko kW kS.2.1, ob_some, x2, bf0, ↓reduceIte, chk_ko kW, f1, n30, chk_ko hT.1, e1', e2, f2]
    rfl
  have hb0 := ((tb_terms (F := none) (σ := σ) (δ := δ) hT ha hb g0' va vb (x := ii n)).1 g2 g3).trans b69
  simp only [m_X11_begin, chk_ko hT.1, ob_some, c_node_y hT hR hc0 hn g1, xel_l, c_noV_y hT hRT.2.1 g0' ha va, c_noV_y hT hRT.2.1 g0' hb vb, ↓reduceIte, hb0]
theorem T_seed (h : CoT σ δ k E I jr) (hk : k < 512) (hx : rng x) (g : 0 ≤ x ∧ x ≤ 65536) : ∃ D, m_X11_seed σ 0 (ii x) δ = some (.inl (ii (i_x I)), D) ∧ CoT σ D (k + 1) E (seedI I x) (jr ++ [(5, x, 0, 0)]) := by
  obtain ⟨hT, hGd, hRT, hlen, hRep⟩ := id h
  have gE := hGd.1
  have kW : KO σ 68 10 := hT.2.2.2.2.1.2.1
  have kS := hT.2.2.2.2.1.2.2.1
  have kDr : KDr σ (68 + 11) := hT.2.2.2.2.1.2.2.2.2.2.2.2.1
  obtain ⟨d1, e1, t1, t2, t3⟩ := t_note (a := 5) (b := x) (c := 0) (e := 0) hT hRT.2.2.2.1 (by omega)
  have hRT1 := RT_note hRT gE.2.1 t1 t2 t3
  obtain ⟨d2, e2, t4, t5⟩ := t_seedI (x := x) kDr hRT1.2.1
  have x1 : gI σ d1 2 (68 + 11) 1 = some (ii (i_x I)) := by rw [gI_ko kDr.1]; exact congrArg some hRT1.2.1.2.2.2.2.1.1
  refine ⟨d2, ?_, hT, ⟨gE, GI_seed hGd.2.1 g, hGd.2.2.1, hGd.2.2.2.1, hGd.2.2.2.2⟩, RT_world hRT1 gE.2.1 t4 (t5.wk (fun r p => by omega)), by rw [List.length_append, List.length_singleton]; omega, Rep_add hRep (Or.inr (Or.inr (Or.inr (Or.inr (Or.inr ⟨rfl, g, rfl⟩)))))⟩
  have e1' : m_X11_note σ 0 (5 : Int32) (ii x) (0 : Int32) (0 : Int32) δ = some d1 := e1
  have w : m_X11_needWithin σ (ii x) (0 : Int32) (65536 : Int32) δ = some (.inl ()) := c_within_y (a := 0) (b := 65536) hx (by omega) (by omega) g
  simp only [m_X11_seed, chk_ko hT.1, ob_some, w, xel_l, e1', gR_ko hT.1 hT.2.1.2.2.1, gR_ko kW kS.2.2.2.1, x1, e2]
theorem T_step (h : CoT σ δ k E I jr) (hk : k < 512) (g1 : v_fl (i_V I) = false) (g2 : i_st I < 30) : ∃ D Wf, RunEnd E (fun _ => 0) (startW I) Wf ∧ m_X11_step σ 0 δ = some (.inl (ii (v_ac (w_V Wf))), D) ∧ CoT σ D (k + 1) E (endI Wf) (jr ++ [(4, 0, 0, 0)]) := by
  obtain ⟨hT, hGd, hRT, hlen, hRep⟩ := id h
  have hGd' := hGd
  obtain ⟨gE, hGI, hXI, h30, -⟩ := hGd'
  have kWo := hT.2.2.2.2.1
  have kSu := hT.2.2.2.1
  have kW : KO σ 68 10 := kWo.2.1
  have kS := kWo.2.2.1
  have kst : KS σ (68 + 1) := kWo.2.2.2.2.2.1
  obtain ⟨d1, e1, t1, t2, t3⟩ := t_note (a := 4) (b := 0) (c := 0) (e := 0) hT hRT.2.2.2.1 (by omega)
  have hRT1 := RT_note hRT gE.2.1 t1 t2 t3
  obtain ⟨d2, d3, e2, e3, ⟨Wf, y1, y2⟩, y3⟩ := t_stepI kWo kSu gE hRT1.1 hGI (by omega) hRT1.2.1 (by omega)
  have x1 : gI σ δ 8 (68 + 1) 12 = some (bi (v_fl (i_V I))) := by rw [gI_ko kst.1]; exact congrArg some hRT.2.1.1.2.2.2.2.2.2.2.2.2.2.2.1
  have x2 : gI σ δ 10 68 10 = some (ii (i_st I)) := by rw [gI_ko kW]; exact congrArg some hRT.2.1.2.2.2.2.2.2.2.2.2
  have x3 : gI σ d3 8 (68 + 1) 11 = some (ii (v_ac (w_V Wf))) := by rw [gI_ko kst.1]; exact congrArg some y2.1.2.2.2.2.2.2.2.2.2.2.1
  rw [g1] at x1
  have hmd8 := gE.2.1
  have hGf := Good_step hGd y1 g2
  have hRep' := Rep_add hRep (e := (4, 0, 0, 0)) (s' := (e_df E, e_md E, endI Wf)) (Or.inr (Or.inr (Or.inr (Or.inr (Or.inl ⟨rfl, g1, g2, Wf, y1, rfl⟩)))))
  obtain ⟨q1, q2, q3, q4, md, I', q5⟩ := id hRT1
  refine ⟨d3, Wf, y1, ?_, hT, hGf, ⟨REn_of_Fr q1 gE.2.1.2 y3 (fun r a b => by omega) (fun r a b => by omega) (by omega), y2, RBg_of_Fr q3 y3 (by omega) (fun r a b => by omega), RJn_of_Fr q4 y3 (by omega) (by omega), md, I', RId_of_Fr q5 y3 (fun r a b => by omega)⟩, by rw [List.length_append, List.length_singleton]; omega, hRep'⟩
  have e1' : m_X11_note σ 0 (4 : Int32) (0 : Int32) (0 : Int32) (0 : Int32) δ = some d1 := e1
  have n30 : (ii (i_st I) < (30 : Int32)) = True := by
    rw [show ((30 : Int32)) = ii 30 from rfl, ii_lt (by omega) (by omega) (by omega) (by omega)]
    exact eq_true g2
  simp only [m_X11_step, chk_ko hT.1, ob_some, gR_ko hT.1 hT.2.1.2.2.1, gR_ko kW kS.2.1, x1, bf0, ↓reduceIte, x2, n30, e1', gR_ko hT.1 hT.2.1.2.2.2.2.1, chk_ko kSu.2.1, e2, chk_ko kW, e3, x3]
theorem T_ends (h : CoT σ δ k E I jr) (g1 : v_fl (i_V I) = false) {n0 : Nat} (hn : (n0 : Int) = s_nv (v_S (i_V I))) : ∃ D v, m_X11_ends σ 0 δ = some (.inl (ii v), D) ∧ CoT σ D k E I jr ∧ ((∃ r es, r ≤ 8 ∧ Done E I n0 r es ∧ v = es.length) ∨ (v = -1 ∧ ∃ ch es, Rnds E I n0 8 ch es)) := by
  obtain ⟨hT, hGd, hRT, hlen, hRep⟩ := id h
  have hGd' := hGd
  obtain ⟨gE, hGI, hXI, h30, -⟩ := hGd'
  have kWo := hT.2.2.2.2.1
  have kSu := hT.2.2.2.1
  have kW : KO σ 68 10 := kWo.2.1
  have kS := kWo.2.2.1
  have kst : KS σ (68 + 1) := kWo.2.2.2.2.2.1
  have x1 : gI σ δ 8 (68 + 1) 12 = some (bi (v_fl (i_V I))) := by rw [gI_ko kst.1]; exact congrArg some hRT.2.1.1.2.2.2.2.2.2.2.2.2.2.2.1
  rw [g1] at x1
  obtain ⟨q1, q2, q3, q4, md, I', q5⟩ := id hRT
  obtain ⟨d1, e1, t1, t2, F1⟩ := t_restart (δ := δ) kSu
  have hmd8 := gE.2.1
  have hE1 : REn d1 1 8 68 E := REn_of_Fr q1 gE.2.1.2 F1 (fun r a b => by omega) (fun r a b => by omega) (by omega)
  have hR1 : RId d1 68 (e_md E) I := RId_of_Fr q2 F1 (fun r a b => by omega)
  have hS1 : RId d1 554 md I' := RId_of_Fr q5 F1 (fun r a b => by omega)
  have hE0 : TEnd E I n0 d1 [] := ⟨⟨md, I', hS1⟩, t2, fun r x hx => (by cases hx)⟩
  obtain ⟨x, e2, v, d2, hx, hv, ⟨md2, I2, hS2⟩, F2⟩ := t_endsL hT gE hE1 hGI (by omega) hXI hR1 hn hE0 ⟨fun _ => 0, 0, fun _ => 0, ⟨rfl, rfl⟩, t1, fun n => okPl_0⟩
  subst hx
  have FF : Fr PSv δ d2 := (F1.wk (fun r p => by unfold PSv; omega)).tr F2
  refine ⟨d2, v, ?_, ⟨hT, hGd, ⟨REn_of_Fr q1 gE.2.1.2 FF (fun r a b p => by unfold PSv at p; omega) (fun r a b p => by unfold PSv at p; omega) (fun p => by unfold PSv at p; omega), RId_of_Fr q2 FF (fun r a b p => by unfold PSv at p; omega), RBg_of_Fr q3 FF (fun p => by unfold PSv at p; omega) (fun r a b p => by unfold PSv at p; omega), RJn_of_Fr q4 FF (fun p => by unfold PSv at p; omega) (fun p => by unfold PSv at p; omega), md2, I2, hS2⟩, hlen, hRep⟩, hv⟩
  have e2' : m_X11_ends_b34 σ 0 (1 : Int32) (0 : Int32) d1 = some (Sum.inl (ii v), d2) := e2
  simp only [m_X11_ends, chk_ko hT.1, ob_some, gR_ko hT.1 hT.2.1.2.2.1, gR_ko kW kS.2.1, x1, bf0, ↓reduceIte, gR_ko hT.1 hT.2.1.2.2.2.2.1, chk_ko kSu.2.1, e1, e2']
theorem T_clock (h : CoT σ δ k E I jr) : m_X11_clock σ 0 δ = some (ii (i_ck I)) := by
  obtain ⟨hT, hGd, hRT, -⟩ := id h
  have kW : KO σ 68 10 := hT.2.2.2.2.1.2.1
  unfold m_X11_clock
  rw [gR_ko hT.1 hT.2.1.2.2.1, ob_some, gI_ko kW, ob_some, hRT.2.1.2.2.2.2.2.2.2.2.1]
theorem T_hasFailed (h : CoT σ δ k E I jr) : m_X11_hasFailed σ 0 δ = some (bi (v_fl (i_V I))) := by
  obtain ⟨hT, hGd, hRT, -⟩ := id h
  have kW : KO σ 68 10 := hT.2.2.2.2.1.2.1
  have kS := hT.2.2.2.2.1.2.2.1
  have kst : KS σ (68 + 1) := hT.2.2.2.2.1.2.2.2.2.2.1
  have x2 : gI σ δ 8 (68 + 1) 12 = some (bi (v_fl (i_V I))) := by rw [gI_ko kst.1]; exact congrArg some hRT.2.1.1.2.2.2.2.2.2.2.2.2.2.2.1
  simp only [m_X11_hasFailed, gR_ko hT.1 hT.2.1.2.2.1, gR_ko kW kS.2.1, ob_some, x2, zo_bi]
theorem T_tokens (h : CoT σ δ k E I jr) : m_X11_tokens σ 0 δ = some (ii (s_nt (v_S (i_V I)))) := by
  obtain ⟨hT, hGd, hRT, -⟩ := id h
  have kW : KO σ 68 10 := hT.2.2.2.2.1.2.1
  have kS := hT.2.2.2.2.1.2.2.1
  have kst : KS σ (68 + 1) := hT.2.2.2.2.1.2.2.2.2.2.1
  have x1 : gI σ δ 8 (68 + 1) 10 = some (ii (s_nt (v_S (i_V I)))) := by rw [gI_ko kst.1]; exact congrArg some hRT.2.1.1.2.1
  simp only [m_X11_tokens, gR_ko hT.1 hT.2.1.2.2.1, gR_ko kW kS.2.1, ob_some, x1]
theorem T_waiting (h : CoT σ δ k E I jr) : m_X11_waiting σ 0 δ = some (ii (i_nx I).length) := by
  obtain ⟨hT, hGd, hRT, -⟩ := id h
  have kW : KO σ 68 10 := hT.2.2.2.2.1.2.1
  have f1 := t_forNext hT.2.2.2.2.1 hRT.2.1
  simp only [m_X11_waiting, gR_ko hT.1 hT.2.1.2.2.1, ob_some, chk_ko kW, f1]
theorem T_standing (h : CoT σ δ k E I jr) : m_X11_standing σ 0 δ = some (ii (cnt (s_sd (v_S (i_V I))) (s_nt (v_S (i_V I))).toNat)) := by
  obtain ⟨hT, hGd, hRT, -⟩ := id h
  have kW : KO σ 68 10 := hT.2.2.2.2.1.2.1
  have kS := hT.2.2.2.2.1.2.2.1
  have kst : KS σ (68 + 1) := hT.2.2.2.2.1.2.2.2.2.2.1
  have x1 := t_count kst hRT.2.1.1 hGd.2.1.1
  simp only [m_X11_standing, gR_ko hT.1 hT.2.1.2.2.1, gR_ko kW kS.2.1, ob_some, chk_ko kst.1, x1]
theorem T_value (h : CoT σ δ k E I jr) (hz : rng z) (g : 0 ≤ z ∧ z < s_nv (v_S (i_V I))) (hv : s_va (v_S (i_V I)) (s_cl (v_S (i_V I)) z) = 100) : m_X11_value σ 0 (ii z) δ = some (.inl 100) := by
  obtain ⟨hT, hGd, hRT, -⟩ := id h
  have kW : KO σ 68 10 := hT.2.2.2.2.1.2.1
  have kS := hT.2.2.2.2.1.2.2.1
  have kst : KS σ (68 + 1) := hT.2.2.2.2.1.2.2.2.2.2.1
  have gS := hGd.2.1.1
  have g0 : 0 ≤ s_nv (v_S (i_V I)) ∧ s_nv (v_S (i_V I)) ≤ 60 := ⟨gS.1.1, gS.1.2.1⟩
  have e1 := t_form kst hRT.2.1.1 gS (t := 400 + z) (by omega) (by omega)
  have hcl := gS.2.1 z g.1 g.2
  have hf : form (v_S (i_V I)) (400 + z) = 400 + s_cl (v_S (i_V I)) z := by
    unfold form
    rw [if_neg (by omega), show 400 + z - 400 = z by omega, if_pos g.2, if_pos hv]
  rw [hf] at e1
  have e1' : m_X8_form σ (68 + 1) ((400 : Int32) + ii z) δ = some (ii (400 + s_cl (v_S (i_V I)) z)) := by rw [show ((400 : Int32)) = ii 400 from rfl, ii_add]; exact e1
  have n4 : ((400 : Int32) ≤ ii (400 + s_cl (v_S (i_V I)) z)) = True := i_le (a := 400) (by omega) (by omega) (by omega)
  simp only [m_X11_value, chk_ko hT.1, ob_some, (c_var hT hRT.2.1 g0 hz).1 g, xel_l, gR_ko hT.1 hT.2.1.2.2.1, gR_ko kW kS.2.1, chk_ko kst.1, e1', n4, ↓reduceIte]
theorem T_part (h : CoT σ δ k E I jr) (hz : rng z) (g : 0 ≤ z ∧ z < s_nt (v_S (i_V I))) : m_X11_part σ 0 (ii z) (0 : Int32) δ = some (.inl (ii (s_so (v_S (i_V I)) z))) ∧ m_X11_part σ 0 (ii z) (1 : Int32) δ = some (.inl (ii (form (v_S (i_V I)) (s_fi (v_S (i_V I)) z)))) ∧ m_X11_part σ 0 (ii z) (2 : Int32) δ = some (.inl (ii (form (v_S (i_V I)) (s_se (v_S (i_V I)) z)))) ∧ m_X11_part σ 0 (ii z) (3 : Int32) δ = some (.inl (bi (s_sd (v_S (i_V I)) z))) := by
  obtain ⟨hT, hGd, hRT, -⟩ := id h
  have kW : KO σ 68 10 := hT.2.2.2.2.1.2.1
  have kS := hT.2.2.2.2.1.2.2.1
  have kst : KS σ (68 + 1) := hT.2.2.2.2.1.2.2.2.2.2.1
  obtain ⟨s0, ⟨-, -, s3, s4, s5, s6, s7, -, -⟩, -, -, d3, d4, d5, d6, d7, -⟩ := id kst
  have gS := hGd.2.1.1
  have g0 : 0 ≤ s_nt (v_S (i_V I)) ∧ s_nt (v_S (i_V I)) ≤ 100 := ⟨gS.1.2.2.1, gS.1.2.2.2⟩
  obtain ⟨-, -, -, -, r5, r6, r7, r8, r9, -⟩ := hRT.2.1.1
  have ht1 := gS.2.2.2.2.1 z g.1 g.2
  have ht2 := gS.2.2.2.2.2 z g.1 g.2
  have gnv := gS.1
  have hr1 := tm_rng ht1 gnv.2.1
  have hr2 := tm_rng ht2 gnv.2.1
  have tk := (c_tok (σ := σ) (δ := δ) hT hRT.2.1 g0 hz).1 g
  refine ⟨?_, ?_, ?_, ?_⟩
  · have e : rI σ δ (68 + 1 + 3) (ii z) = some (ii (s_so (v_S (i_V I)) z)) := by rw [rI_kd d3 g.1 (by omega), r5 z g.1 g.2]
    have n : ((0 : Int32) = (0 : Int32)) = True := eq_true rfl
    simp only [m_X11_part, chk_ko hT.1, ob_some, tk, xel_l, gR_ko hT.1 hT.2.1.2.2.1, gR_ko kW kS.2.1, n, ↓reduceIte, gR_ko s0 s3, e]
  · have e : rI σ δ (68 + 1 + 4) (ii z) = some (ii (s_fi (v_S (i_V I)) z)) := by rw [rI_kd d4 g.1 (by omega), r6 z g.1 g.2]
    have n : ((1 : Int32) = (0 : Int32)) = False := eq_false (by decide)
    have n1 : ((1 : Int32) = (1 : Int32)) = True := eq_true rfl
    have f := t_form kst hRT.2.1.1 gS (t := s_fi (v_S (i_V I)) z) (by omega) (by omega)
    simp only [m_X11_part, chk_ko hT.1, ob_some, tk, xel_l, gR_ko hT.1 hT.2.1.2.2.1, gR_ko kW kS.2.1, n, n1, ↓reduceIte, gR_ko s0 s4, e, chk_ko s0, f]
  · have e : rI σ δ (68 + 1 + 5) (ii z) = some (ii (s_se (v_S (i_V I)) z)) := by rw [rI_kd d5 g.1 (by omega), r7 z g.1 g.2]
    have n : ((2 : Int32) = (0 : Int32)) = False := eq_false (by decide)
    have n1 : ((2 : Int32) = (1 : Int32)) = False := eq_false (by decide)
    have n2 : ((2 : Int32) = (2 : Int32)) = True := eq_true rfl
    have f := t_form kst hRT.2.1.1 gS (t := s_se (v_S (i_V I)) z) (by omega) (by omega)
    simp only [m_X11_part, chk_ko hT.1, ob_some, tk, xel_l, gR_ko hT.1 hT.2.1.2.2.1, gR_ko kW kS.2.1, n, n1, n2, ↓reduceIte, gR_ko s0 s5, e, chk_ko s0, f]
  · have e : rZ σ δ (68 + 1 + 7) (ii z) = some (bi (s_sd (v_S (i_V I)) z)) := by rw [rZ_kd d7 g.1 (by omega), r9 z g.1 g.2]
    have n : ((3 : Int32) = (0 : Int32)) = False := eq_false (by decide)
    have n1 : ((3 : Int32) = (1 : Int32)) = False := eq_false (by decide)
    have n2 : ((3 : Int32) = (2 : Int32)) = False := eq_false (by decide)
    have n3 : ((3 : Int32) = (3 : Int32)) = True := eq_true rfl
    cases hb : s_sd (v_S (i_V I)) z with
    | true =>
      rw [hb] at e
      simp only [m_X11_part, chk_ko hT.1, ob_some, tk, xel_l, gR_ko hT.1 hT.2.1.2.2.1, gR_ko kW kS.2.1, n, n1, n2, n3, ↓reduceIte, gR_ko s0 s7, e, bt0]
      rfl
    | false =>
      rw [hb] at e
      simp only [m_X11_part, chk_ko hT.1, ob_some, tk, xel_l, gR_ko hT.1 hT.2.1.2.2.1, gR_ko kW kS.2.1, n, n1, n2, n3, ↓reduceIte, gR_ko s0 s7, e, bf0]
      rfl
theorem T_isMadeBy (h : CoT σ δ k E I jr) (ha : rng a) (hb : rng b) (g1 : 0 ≤ a ∧ a < s_nt (v_S (i_V I))) (g2 : 0 ≤ b ∧ b < s_nt (v_S (i_V I))) : m_X11_isMadeBy σ 0 (ii a) (ii b) δ = some (.inl (bi (s_sl (v_S (i_V I)) a b.toNat))) := by
  obtain ⟨hT, hGd, hRT, -⟩ := id h
  have kW : KO σ 68 10 := hT.2.2.2.2.1.2.1
  have kS := hT.2.2.2.2.1.2.2.1
  have kst : KS σ (68 + 1) := hT.2.2.2.2.1.2.2.2.2.2.1
  obtain ⟨s0, ⟨-, -, -, -, -, -, -, s8, s9⟩, -, -, -, -, -, -, -, d8, d9⟩ := id kst
  have gS := hGd.2.1.1
  have g0 : 0 ≤ s_nt (v_S (i_V I)) ∧ s_nt (v_S (i_V I)) ≤ 100 := ⟨gS.1.2.2.1, gS.1.2.2.2⟩
  obtain ⟨-, -, -, -, -, -, -, -, -, r10, -⟩ := hRT.2.1.1
  have e1 : rL σ δ (68 + 1 + 8) (ii a) = some (δ.2 (68 + 1 + 8) a.toNat) := rL_kd d8 g1.1 (by omega)
  have e2 : rL σ δ (68 + 1 + 9) (ii a) = some (δ.2 (68 + 1 + 9) a.toNat) := rL_kd d9 g1.1 (by omega)
  have e3 := t_isIn (σ := σ) (δ := δ) (z := b) g2.1 (by omega) (r10 a g1.1 g1.2)
  simp only [m_X11_isMadeBy, chk_ko hT.1, ob_some, (c_tok hT hRT.2.1 g0 ha).1 g1, (c_tok hT hRT.2.1 g0 hb).1 g2, xel_l, gR_ko hT.1 hT.2.1.2.2.1, gR_ko kW kS.2.1, gR_ko s0 s8, gR_ko s0 s9, e1, e2, e3, zo_bi]
theorem T_chance (h : CoT σ δ k E I jr) {up : Bool} : m_X11_chance σ 0 (bi up) δ = some (lnO (ePw up (i_pw I)) 7).toInt32 := by
  obtain ⟨hT, hGd, hRT, -⟩ := id h
  have kW : KO σ 68 10 := hT.2.2.2.2.1.2.1
  have kS := hT.2.2.2.2.1.2.2.1
  have kDr : KDr σ (68 + 11) := hT.2.2.2.2.1.2.2.2.2.2.2.2.1
  have hpw := hGd.2.1.2.2.2.2.2.2.1
  have hst := hGd.2.2.2.1
  have hb : ∀ i, -1000000 ≤ i_pw I i ∧ i_pw I i ≤ 1000000 := fun i => by have := hpw i; omega
  have e1 := t_line (up := up) kDr hRT.2.1.2.2.2.2.1.2 hb
  simp only [m_X11_chance, gR_ko hT.1 hT.2.1.2.2.1, gR_ko kW kS.2.2.2.1, ob_some, chk_ko kDr.1, e1]
theorem T_anew (h : CoT σ δ k E I jr) (hk : k ≤ 512) : ∃ D, m_X11_standingAnew σ 0 δ = some (ii (cnt (s_sd (v_S (i_V I))) (s_nt (v_S (i_V I))).toNat), D) ∧ CoT σ D k E I jr := by
  obtain ⟨hT, hGd, hRT, hlen, c, c0, c1, c2⟩ := id h
  have gE := hGd.1
  have kWo := hT.2.2.2.2.2
  have kSu := hT.2.2.2.1
  have kst : KS σ 555 := kWo.2.2.2.2.2.1
  obtain ⟨q1, q2, q3, q4, md0, I', q5⟩ := id hRT
  obtain ⟨d1, e1, t1, t2, F1⟩ := t_clearI kWo q5
  have hmd := gE.2.1
  have kO := kWo.2.1
  have kS := kWo.2.2.1
  have s1 : srv σ 554 1 = some 555 := kS.2.1
  have s2 : srv σ 554 2 = some 572 := kS.2.2.1
  have s3 : srv σ 554 3 = some 565 := kS.2.2.2.1
  have s4 : srv σ 554 4 = some 567 := kS.2.2.2.2.1
  have key : Ok (m_X11_standingAnew_b9 σ 0 (ii 0) d1) (fun r => r.1 = ii (cnt (s_sd (v_S (i_V I))) (s_nt (v_S (i_V I))).toNat) ∧ RId r.2 554 (e_md E) I ∧ Fr PSc δ r.2) := by
    unfold m_X11_standingAnew_b9
    refine Ok_for (fun z s => s.1 = ii z ∧ StR s.2 (c z.toNat) ∧ Fr PSc δ s.2) 0 jr.length (by omega) (by omega) ?_ ?_ ⟨rfl, ?_, F1.wk (fun r p => by unfold PSc; omega)⟩
    · rintro z ⟨s1, d⟩ z0 z1 ⟨hs, hR, hF⟩
      dsimp only at hs hR hF ⊢
      subst hs
      have hj : z.toNat < jr.length := by omega
      have he := List.getElem?_eq_getElem hj
      obtain ⟨g, hm⟩ := rep_chain gE c0 c1 z.toNat (by omega)
      have hN : RN d 1 E := RN_of_Fr q1.1 hF (fun r a b p => by unfold PSc at p; omega)
      have hRs : RRs d 8 (e_md E) (e_Rs E) := RRs_of_Fr q1.2.1 hmd.2 hF (fun r a b p => by unfold PSc at p; omega)
      have hJn := RJn_of_Fr q4 hF (fun p => by unfold PSc at p; omega) (fun p => by unfold PSc at p; omega)
      obtain ⟨D, y1, y2, y3⟩ := t_again (A := m_X11_standingAnew_b193 σ 0) hT gE hN hRs (z := z) ⟨z0, by omega⟩ hJn.1 (by omega) z1 (hJn.2 z.toNat _ he) (c1 z.toNat _ he) g hm hR (by funext k D; rfl)
      have x6 : gI σ d 11 0 6 = some (ii jr.length) := by rw [gI_ko hT.1, hJn.1]
      have cl : (ii (jr.length : Int) ≤ ii z) = False := by
        rw [ii_le (by omega) (by omega) (by omega) (by omega)]
        exact eq_false (by omega)
      refine Ok_inl (s' := (ii z + 1, D)) ?_ ⟨by dsimp only; rw [show ((1 : Int32)) = ii 1 from rfl, ii_add], by rw [show (z + 1).toNat = z.toNat + 1 by omega]; exact y1, hF.tr y2⟩
      refine Eq.trans ?_ y3
      simp only [x6, ob_some, cl, ↓reduceIte, gR_ko hT.1 hT.2.1.2.2.2.2.2, gR_ko hT.1 hT.2.1.2.2.2.1, gR_ko kO s1, chk_ko kst.1, gR_ko kO s4, gR_ko kO s2, chk_ko kO, gR_ko hT.1 hT.2.1.2.2.2.2.1, chk_ko kSu.2.1, gR_ko kO s3]
    · rintro ⟨s1, d⟩ ⟨hs, hR, hF⟩
      dsimp only at hs hR hF ⊢
      subst hs
      rw [show (jr.length : Int).toNat = jr.length by omega, c2] at hR
      have hJn := RJn_of_Fr q4 hF (fun p => by unfold PSc at p; omega) (fun p => by unfold PSc at p; omega)
      have x6 : gI σ d 11 0 6 = some (ii jr.length) := by rw [gI_ko hT.1, hJn.1]
      have cl : (ii (jr.length : Int) ≤ ii (jr.length : Int)) = True := by
        rw [ii_le (by omega) (by omega) (by omega) (by omega)]
        exact eq_true (Int.le_refl _)
      have x1 := t_count kst hR.1.1 hGd.2.1.1
      refine Ok_inr (r := (ii (cnt (s_sd (v_S (i_V I))) (s_nt (v_S (i_V I))).toNat), d)) ?_ ⟨rfl, hR.1, hF⟩
      simp only [x6, ob_some, cl, ↓reduceIte, gR_ko hT.1 hT.2.1.2.2.2.1, gR_ko kO s1, chk_ko kst.1, x1]
    · show StR d1 (c 0)
      rw [c0]
      exact ⟨t1, t2⟩
  obtain ⟨⟨v, d2⟩, e2, y1, y2, y3⟩ := key
  dsimp only at y1 y2 y3
  subst y1
  refine ⟨d2, ?_, hT, hGd, ⟨REn_of_Fr q1 hmd.2 y3 (fun r a b p => by unfold PSc at p; omega) (fun r a b p => by unfold PSc at p; omega) (fun p => by unfold PSc at p; omega), RId_of_Fr q2 y3 (fun r a b p => by unfold PSc at p; omega), RBg_of_Fr q3 y3 (fun p => by unfold PSc at p; omega) (fun r a b p => by unfold PSc at p; omega), RJn_of_Fr q4 y3 (fun p => by unfold PSc at p; omega) (fun p => by unfold PSc at p; omega), _, _, y2⟩, hlen, c, c0, c1, c2⟩
  have e2' : m_X11_standingAnew_b9 σ 0 (0 : Int32) d1 = some (ii (cnt (s_sd (v_S (i_V I))) (s_nt (v_S (i_V I))).toNat), d2) := e2
  simp only [m_X11_standingAnew, gR_ko hT.1 hT.2.1.2.2.2.1, ob_some, chk_ko kO, e1, e2']
end
