/-! THE LAW: what stands between two calls -/
abbrev Jn : Type := Int × Int × Int × Int
/-- the class's places: itself 0, nodes 1, rules 8, survey 9, journal 13, world 68, scratch 554 -/
def KT (σ : St) : Prop := KO σ 0 11 ∧ (srv σ 0 0 = some 1 ∧ srv σ 0 1 = some 8 ∧ srv σ 0 2 = some 68 ∧ srv σ 0 3 = some 554 ∧ srv σ 0 4 = some 9 ∧ srv σ 0 5 = some 13) ∧ KD σ 13 100 2048 ∧ KSu σ 9 8 ∧ KWo σ 68 1 8 ∧ KWo σ 554 1 8
/-- the slots that a rule in the making binds -/
def RMk (x : Int32) (R : Rl) : Prop := ∀ s : Nat, s < 4 → (x.toBitVec.getLsbD s = true ↔ bnd R (200 + s))
def RBg (δ : Dy) (ru : Nat) (bd : Bool) (R : Rl) : Prop := δ.1 0 7 = bi bd ∧ (bd = true → RRu δ ru R ∧ RMk (δ.1 ru 7) R)
def RJn (δ : Dy) (jr : List Jn) : Prop := δ.1 0 6 = ii jr.length ∧ ∀ (j : Nat) (e : Jn), jr[j]? = some e → δ.1 13 (4 * j) = ii e.1 ∧ δ.1 13 (4 * j + 1) = ii e.2.1 ∧ δ.1 13 (4 * j + 2) = ii e.2.2.1 ∧ δ.1 13 (4 * j + 3) = ii e.2.2.2
def RT (δ : Dy) (E : Ev) (bd : Bool) (R : Rl) (I : Iw) (jr : List Jn) : Prop := REn δ 1 8 68 E ∧ RId δ 68 (e_md E) I ∧ RBg δ (14 + 6 * (e_md E).toNat) bd R ∧ RJn δ jr ∧ ∃ md I', RId δ 554 md I'
def RMb (δ : Dy) (mo : Nat) (bd : Bool) (R : Rl) : Prop := δ.1 mo 20 = bi bd ∧ (bd = true → δ.1 mo 18 = ii (l_hd R) ∧ δ.1 mo 19 = ii (l_nb R) ∧ (∀ h : Int, 0 ≤ h → h < l_hd R → δ.1 (mo + 14) (4 * h).toNat = ii (l_so R h) ∧ δ.1 (mo + 14) (4 * h + 1).toNat = ii (l_pa R (2 * h)) ∧ δ.1 (mo + 14) (4 * h + 2).toNat = ii (l_pa R (2 * h + 1)) ∧ δ.1 (mo + 14) (4 * h + 3).toNat = bi (l_sy R h)) ∧
  (δ.1 (mo + 15) 0 = ii (if l_gd R = true then l_gc R else -1) ∧ (l_gd R = true → δ.1 (mo + 15) 1 = ii (l_ga R) ∧ (¬ l_gc R = 3 → δ.1 (mo + 15) 2 = ii (l_gb R)))) ∧ ∀ k : Int, 0 ≤ k → k < l_nb R → δ.1 (mo + 16) (3 * k).toNat = ii (l_bs R k) ∧ δ.1 (mo + 16) (3 * k + 1).toNat = ii (l_bt R (2 * k)) ∧ δ.1 (mo + 16) (3 * k + 2).toNat = ii (l_bt R (2 * k + 1)))
def RM (δ : Dy) (mo : Nat) (E : Ev) (bd : Bool) (R : Rl) (I : Iw) : Prop := REm δ mo E ∧ RIm δ mo E I ∧ δ.1 (mo + 1) 9742 = ii (i_st I) ∧ RMb δ mo bd R
def Good (E : Ev) (bd : Bool) (R : Rl) (I : Iw) : Prop := GE E ∧ GI E (60 * i_st I) I ∧ XI E (60 * i_st I) I ∧ (0 ≤ i_st I ∧ i_st I ≤ 30) ∧ (bd = true → GR R)
/-- the environment with earlier definitions and rules -/
def stE (E : Ev) (df : Int → Int) (md : Int) : Ev := (E.1, df, E.2.2.1, md)
def varI (I : Iw) : Iw := (v_setS (i_V I) (mkvar (v_S (i_V I))), I.2)
def begA (n a b : Int) : Ag := (n, (fun z => if z = 0 then a else if z = 1 then b else 0), fun _ => false)
def admI (I : Iw) (n a b : Int) : Iw := (i_V I, i_x I, i_pw I, i_tk I, i_nx I ++ [begA n a b], i_ck I, i_st I)
def seedI (I : Iw) (x : Int) : Iw := (i_V I, x, I.2.2)
abbrev Stg : Type := (Int → Int) × Int × Iw
/-- what an entry of the journal makes of it all -/
def RepS (E : Ev) (e : Jn) (s s' : Stg) : Prop :=
  (e.1 = 0 ∧ s_nv (v_S (i_V s.2.2)) < 60 ∧ v_fl (i_V s.2.2) = false ∧ s' = (s.1, s.2.1, varI s.2.2)) ∨
  (e.1 = 1 ∧ (0 ≤ e.2.1 ∧ e.2.1 ≤ 5) ∧ gNode E e.2.2.1 ∧ s' = (upf s.1 e.2.1 e.2.2.1, s.2.1, s.2.2)) ∨
  (e.1 = 2 ∧ s.2.1 < e_md E ∧ s' = (s.1, s.2.1 + 1, s.2.2)) ∨
  (e.1 = 3 ∧ gNode E e.2.1 ∧ tm (s_nv (v_S (i_V s.2.2))) e.2.2.1 ∧ tm (s_nv (v_S (i_V s.2.2))) e.2.2.2 ∧ v_fl (i_V s.2.2) = false ∧ (i_nx s.2.2).length < 30 ∧ s' = (s.1, s.2.1, admI s.2.2 e.2.1 e.2.2.1 e.2.2.2)) ∨
  (e.1 = 4 ∧ v_fl (i_V s.2.2) = false ∧ i_st s.2.2 < 30 ∧ ∃ Wf, RunEnd (stE E s.1 s.2.1) (fun _ => 0) (startW s.2.2) Wf ∧ s' = (s.1, s.2.1, endI Wf)) ∨
  (e.1 = 5 ∧ (0 ≤ e.2.1 ∧ e.2.1 ≤ 65536) ∧ s' = (s.1, s.2.1, seedI s.2.2 e.2.1))

def I0 : Iw := ((S00, [], [], fun _ => 0, 0, false), 1, fun _ => 0, fun _ => 0, [], 0, 0)
def Rep (E : Ev) (jr : List Jn) (s : Stg) : Prop := ∃ c : Nat → Stg, c 0 = ((fun _ => -1), 0, I0) ∧ (∀ (j : Nat) (e : Jn), jr[j]? = some e → RepS E e (c j) (c (j + 1))) ∧ c jr.length = s
def Core (δ : Dy) (mo k : Nat) (E : Ev) (bd : Bool) (R : Rl) (I : Iw) (jr : List Jn) : Prop := Good E bd R I ∧ RT δ E bd R I jr ∧ RM δ mo E bd R I ∧ jr.length ≤ k ∧ Rep E jr (e_df E, e_md E, I)
/-- a call on both sides: the same code, the same answer -/
def LX (mo p3 : Nat) (mL : Option (Int32 × Dy)) (mX : Dy → Option (Int32 × Dy)) (Q : Dy → Prop) : Prop := ∃ (c : Int32) (d1 : Dy) (v : Int32) (d2 : Dy), mL = some (c, d1) ∧ mX d1 = some (v, d2) ∧ d2.1 mo 50 = c ∧ (c = 0 → d2.2 p3 0 = v.toInt64) ∧ Q d2
/-- and which answer -/
def LXV (mo p3 : Nat) (v0 : Int32) (mL : Option (Int32 × Dy)) (mX : Dy → Option (Int32 × Dy)) (Q : Dy → Prop) : Prop := ∃ (c : Int32) (d1 : Dy) (v : Int32) (d2 : Dy), mL = some (c, d1) ∧ mX d1 = some (v, d2) ∧ d2.1 mo 50 = c ∧ (c = 0 → d2.2 p3 0 = v.toInt64) ∧ Q d2 ∧ (c = 0 → v = v0)
theorem LXV.lx {mo p3 : Nat} {v0 : Int32} {mL : Option (Int32 × Dy)} {mX : Dy → Option (Int32 × Dy)} {Q : Dy → Prop} (h : LXV mo p3 v0 mL mX Q) : LX mo p3 mL mX Q := by
  obtain ⟨c, d1, v, d2, h1, h2, h3, h4, h5, -⟩ := h
  exact ⟨c, d1, v, d2, h1, h2, h3, h4, h5⟩
theorem lg_self (x : Int64) : lg_cmp x x = 0 := by
  unfold lg_cmp
  rw [if_neg (fun h => by have := Int64.lt_iff_toInt_lt.mp h; omega), if_pos rfl]
section
variable {σ : St} {δ d : Dy} {mo p3 k : Nat} {E E' : Ev} {bd : Bool} {R : Rl} {I : Iw} {jr : List Jn} {st B : Int}
theorem LX_law (hK : KM σ mo) (h3 : KD σ p3 102 1) {mL : Option (Int32 × Dy)} {mX : Dy → Option (Int32 × Dy)} {Q : Dy → Prop} (h : LX mo p3 mL mX Q) {ρ : Type} {K : Dy → Option ρ} {Q' : ρ → Prop} (hQ : ∀ d, Q d → Ok (K d) Q') : Ok (mL.bind fun v3 => (chk σ 12 mo).bind fun _ => (mX v3.2).bind fun v4 => (chk σ 12 mo).bind fun _ => (m_X12_thrown σ mo v4.2).bind fun v5 => if v5 = v3.1 then if v3.1 = 0 then (rL σ v4.2 p3 (0 : Int32)).bind fun v6 => if (lg_cmp v6 (v4.1).toInt64) = 0 then K v4.2 else none else K v4.2 else none) Q' := by
  obtain ⟨c, d1, v, d2, e1, e2, e3, e4, hq⟩ := h
  rw [e1, ob_some, chk_ko hK.1, ob_some]
  dsimp only
  rw [e2, ob_some, ob_some]
  unfold m_X12_thrown
  rw [gI_ko hK.1, ob_some, ob_some]
  dsimp only
  rw [if_pos e3]
  by_cases h0 : c = 0
  · have hr : rL σ d2 p3 (0 : Int32) = some (d2.2 p3 0) := rL_kd (z := 0) h3 (by omega) (by omega)
    rw [if_pos h0, hr, ob_some, e4 h0, lg_self, if_pos rfl]
    exact hQ d2 hq
  · rw [if_neg h0]
    exact hQ d2 hq
theorem RId_of_Fr {wp : Nat} {md : Int} {P : Nat → Prop} (h : RId δ wp md I) (hF : Fr P δ d) (hd : ∀ r, wp ≤ r → r < wp + 486 → ¬ P r) : RId d wp md I := by
  obtain ⟨r1, r2, r3, r4, ⟨r5, r5'⟩, r6, r7, r8, r9, r10⟩ := h
  refine ⟨RS_of_Fr r1 hF (fun r a b => hd r (by omega) (by omega)), ?_, ?_, ?_, ⟨?_, ?_⟩, ?_, RQ_of_Fr r7 hF (fun r a b => hd r (by omega) (by omega)), fun j hj => RLany_of_Fr (r8 j hj) hF (fun r a b => hd r (by omega) (by omega)), ?_, ?_⟩
  · unfold HiR
    rw [(hF (wp + 21) (hd _ (by omega) (by omega))).2]
    exact r2
  · rw [(hF (wp + 23) (hd _ (by omega) (by omega))).1]; exact r3
  · rw [(hF (wp + 18) (hd _ (by omega) (by omega))).1]; exact r4
  · rw [(hF (wp + 11) (hd _ (by omega) (by omega))).1]; exact r5
  · unfold RPw; rw [(hF (wp + 12) (hd _ (by omega) (by omega))).1]; exact r5'
  · unfold RTk; rw [(hF (wp + 14) (hd _ (by omega) (by omega))).1]; exact r6
  · rw [(hF wp (hd _ (by omega) (by omega))).1]; exact r9
  · rw [(hF wp (hd _ (by omega) (by omega))).1]; exact r10
theorem RT_of_Fr {P : Nat → Prop} (h : RT δ E bd R I jr) (hm : 0 ≤ e_md E ∧ e_md E ≤ 8) (hF : Fr P δ d) (hd : ∀ r, r < 1040 → ¬ P r) : RT d E bd R I jr := by
  obtain ⟨h1, h2, ⟨h3, h3'⟩, ⟨h4, h4'⟩, md, I', h5⟩ := h
  refine ⟨REn_of_Fr h1 hm.2 hF (fun r a b => hd r (by omega)) (fun r a b => hd r (by omega)) (hd _ (by omega)), RId_of_Fr h2 hF (fun r a b => hd r (by omega)), ⟨by rw [(hF 0 (hd _ (by omega))).1]; exact h3, fun hb => ?_⟩, ⟨by rw [(hF 0 (hd _ (by omega))).1]; exact h4, by rw [(hF 13 (hd _ (by omega))).1]; exact h4'⟩, md, I', RId_of_Fr h5 hF (fun r a b => hd r (by omega))⟩
  obtain ⟨q1, q2⟩ := h3' hb
  exact ⟨RRu_of_Fr q1 hF (fun r a b => hd r (by omega)), by rw [(hF _ (hd _ (by omega))).1]; exact q2⟩
theorem RIm_eq (h : RIm δ mo E I) (e : d.1 (mo + 1) = δ.1 (mo + 1)) : RIm d mo E I := by
  unfold RIm RSm RMh RXm at h ⊢
  rw [e]
  exact h
theorem RM_eq (h : RM δ mo E bd R I) (em : ∀ k, (k = 7 ∨ k = 14 ∨ k = 18 ∨ k = 19 ∨ k = 20) → d.1 mo k = δ.1 mo k) (er : ∀ r, mo + 1 ≤ r → r ≤ mo + 16 → d.1 r = δ.1 r) : RM d mo E bd R I := by
  obtain ⟨h1, h2, h3, h4⟩ := h
  refine ⟨REm_eq h1 (em 7 (by decide)) (em 14 (by decide)) (fun r a b => er r (by omega) (by omega)), RIm_eq h2 (er _ (by omega) (by omega)), by rw [er _ (by omega) (by omega)]; exact h3, ?_⟩
  unfold RMb at h4 ⊢
  rw [em 20 (by decide), em 18 (by decide), em 19 (by decide), er (mo + 14) (by omega) (by omega), er (mo + 15) (by omega) (by omega), er (mo + 16) (by omega) (by omega)]
  exact h4
/-- the reference stops a call: its code is noted, all else stays -/
theorem m_stop0 (hK : KM σ mo) {c : Int32} : ∃ d, m_X12_stop σ mo c δ = some (0, d) ∧ d.1 mo 50 = c ∧ (∀ k, ¬ k = 50 → d.1 mo k = δ.1 mo k) ∧ Fr (fun r => r = mo) δ d := by
  obtain ⟨d, e, v, o, F⟩ := pI_ex (δ := δ) (k := 50) (x := c) hK.1
  exact ⟨d, by unfold m_X12_stop; rw [e, ob_some], v, o, F⟩
theorem Core_50 (h : Core δ mo k E bd R I jr) (hmo : 1040 ≤ mo) (ho : ∀ j, ¬ j = 50 → d.1 mo j = δ.1 mo j) (hF : Fr (fun r => r = mo) δ d) : Core d mo k E bd R I jr := by
  obtain ⟨h1, h2, h3, h4, h5⟩ := h
  exact ⟨h1, RT_of_Fr h2 h1.1.2.1 hF (fun r a b => by omega), RM_eq h3 (fun j hj => ho j (by omega)) (fun r a b => (hF r (by omega)).1), h4, h5⟩
/-- a call that is refused on both sides -/
theorem LX_nov {v0 : Int32} (h : Core δ mo k E bd R I jr) (hmo : 1040 ≤ mo) {mL : Option (Int32 × Dy)} {mX : Dy → Option (Int32 × Dy)} {c v : Int32} {d : Dy} (hc : ¬ c = 0) (e1 : mL = some (c, δ)) (e2 : mX δ = some (v, d)) (e3 : d.1 mo 50 = c) (ho : ∀ j, ¬ j = 50 → d.1 mo j = δ.1 mo j) (hF : Fr (fun r => r = mo) δ d) : LXV mo p3 v0 mL mX (fun d => Core d mo k E bd R I jr) := ⟨c, δ, v, d, e1, e2, e3, fun h0 => absurd h0 hc, Core_50 h hmo ho hF, fun h0 => absurd h0 hc⟩
theorem LX_no (h : Core δ mo k E bd R I jr) (hmo : 1040 ≤ mo) {mL : Option (Int32 × Dy)} {mX : Dy → Option (Int32 × Dy)} {c v : Int32} {d : Dy} (hc : ¬ c = 0) (e1 : mL = some (c, δ)) (e2 : mX δ = some (v, d)) (e3 : d.1 mo 50 = c) (ho : ∀ j, ¬ j = 50 → d.1 mo j = δ.1 mo j) (hF : Fr (fun r => r = mo) δ d) : LX mo p3 mL mX (fun d => Core d mo k E bd R I jr) := (LX_nov (v0 := 0) h hmo hc e1 e2 e3 ho hF).lx
theorem Rep_mono {s : Stg} (h : Rep E jr s) (h1 : E'.1.2 = E.1.2) (h2 : E'.2.2.1 = E.2.2.1) (h3 : e_ct E ≤ e_ct E') (h4 : e_md E ≤ e_md E') : Rep E' jr s := by
  obtain ⟨c, c0, c1, c2⟩ := h
  have hT : ∀ df md W ch, turnW (stE E' df md) ch W = turnW (stE E df md) ch W := by
    intro df md W ch
    obtain ⟨⟨ct, N⟩, x, Rs, m⟩ := E
    obtain ⟨⟨ct', N'⟩, x', Rs', m'⟩ := E'
    have e1 : N' = N := h1
    have e2 : Rs' = Rs := h2
    subst e1
    subst e2
    rfl
  have hTs : ∀ df md ch W n, turns (stE E' df md) ch W n = turns (stE E df md) ch W n := by
    intro df md ch W n
    induction n with
    | zero => rfl
    | succ n ih =>
      show turnW (stE E' df md) ch (turns (stE E' df md) ch W n) = turnW (stE E df md) ch (turns (stE E df md) ch W n)
      rw [ih, hT]
  have gn : ∀ n, gNode E n → gNode E' n := fun n h => ⟨h.1, by have := h.2; omega⟩
  refine ⟨c, c0, fun j e he => ?_, c2⟩
  rcases c1 j e he with h | ⟨a1, a2, a3, a4⟩ | ⟨a1, a2, a3⟩ | ⟨a1, a2, a3⟩ | ⟨a1, a2, a3, Wf, ⟨n, b1, b2⟩, b3⟩ | h
  · exact Or.inl h
  · exact Or.inr (Or.inl ⟨a1, a2, gn _ a3, a4⟩)
  · exact Or.inr (Or.inr (Or.inl ⟨a1, by omega, a3⟩))
  · exact Or.inr (Or.inr (Or.inr (Or.inl ⟨a1, gn _ a2, a3⟩)))
  · exact Or.inr (Or.inr (Or.inr (Or.inr (Or.inl ⟨a1, a2, a3, Wf, ⟨n, by rw [hTs]; exact b1, b2⟩, b3⟩))))
  · exact Or.inr (Or.inr (Or.inr (Or.inr (Or.inr h))))
theorem Rep_add {s s' : Stg} {e : Jn} (h : Rep E jr s) (hs : RepS E e s s') : Rep E (jr ++ [e]) s' := by
  obtain ⟨c, c0, c1, c2⟩ := h
  refine ⟨fun j => if j ≤ jr.length then c j else s', by dsimp only; rw [if_pos (Nat.zero_le _)]; exact c0, fun j x hx => ?_, by dsimp only; rw [List.length_append, List.length_singleton, if_neg (by omega)]⟩
  have hj := (List.getElem?_eq_some_iff.mp hx).1
  rw [List.length_append, List.length_singleton] at hj
  dsimp only
  by_cases hl : j < jr.length
  · rw [if_pos (by omega), if_pos (by omega)]
    rw [List.getElem?_append_left hl] at hx
    exact c1 j x hx
  · have hj2 : j = jr.length := by omega
    subst hj2
    rw [List.getElem?_append_right (Nat.le_refl _), Nat.sub_self] at hx
    have hx' : e = x := Option.some.inj hx
    subst hx'
    rw [if_pos (Nat.le_refl _), if_neg (by omega), c2]
    exact hs
end
