abbrev Jn : Type := Int × Int × Int × Int
/-- the class's places: itself 0, nodes 1, rules 8, survey 9, journal 13, world 68, scratch 554 -/
def KT (σ : St) : Prop := KO σ 0 11 ∧ (srv σ 0 0 = some 1 ∧ srv σ 0 1 = some 8 ∧ srv σ 0 2 = some 68 ∧ srv σ 0 3 = some 554 ∧ srv σ 0 4 = some 9 ∧ srv σ 0 5 = some 13) ∧ KD σ 13 100 2048 ∧ KSu σ 9 8 ∧ KWo σ 68 1 8 ∧ KWo σ 554 1 8
/-- the slots that a rule in the making binds -/
def RMk (x : Int32) (R : Rl) : Prop := ∀ s : Nat, s < 4 → (x.toBitVec.getLsbD s = true ↔ bnd R (200 + s))
def RBg (δ : Dy) (ru : Nat) (bd : Bool) (R : Rl) : Prop := δ.1 0 7 = bi bd ∧ (bd = true → RRu δ ru R ∧ RMk (δ.1 ru 7) R)
def RJn (δ : Dy) (jr : List Jn) : Prop := δ.1 0 6 = ii jr.length ∧ ∀ (j : Nat) (e : Jn), jr[j]? = some e → δ.1 13 (4 * j) = ii e.1 ∧ δ.1 13 (4 * j + 1) = ii e.2.1 ∧ δ.1 13 (4 * j + 2) = ii e.2.2.1 ∧ δ.1 13 (4 * j + 3) = ii e.2.2.2
def RT (δ : Dy) (E : Ev) (bd : Bool) (R : Rl) (I : Iw) (jr : List Jn) : Prop := REn δ 1 8 68 E ∧ RId δ 68 (e_md E) I ∧ RBg δ (14 + 6 * (e_md E).toNat) bd R ∧ RJn δ jr ∧ ∃ md I', RId δ 554 md I'
def Good (E : Ev) (bd : Bool) (R : Rl) (I : Iw) : Prop := GE E ∧ GI E (60 * i_st I) I ∧ XI E (60 * i_st I) I ∧ (0 ≤ i_st I ∧ i_st I ≤ 30) ∧ (bd = true → GR R)
/-- the environment with earlier definitions and rules -/
def stE (E : Ev) (df : Int → Int) (md : Int) : Ev := (E.1, df, E.2.2.1, md)
def varI (I : Iw) : Iw := (v_setS (i_V I) (mkvar (v_S (i_V I))), I.2)
def begA (n a b : Int) : Ag := (n, (fun z => if z = 0 then a else if z = 1 then b else 0), fun _ => false)
def admI (I : Iw) (n a b : Int) : Iw := (i_V I, i_x I, i_pw I, i_tk I, i_nx I ++ [begA n a b], i_ck I, i_st I)
def seedI (I : Iw) (x : Int) : Iw := (i_V I, x, I.2.2)
abbrev Stg : Type := (Int → Int) × Int × Iw
/-- what an entry of the journal makes of it all -/
def RepS (E : Ev) (e : Jn) (s s' : Stg) : Prop :=
  (e.1 = 0 ∧ s_nv (v_S (i_V s.2.2)) < 60 ∧ v_fl (i_V s.2.2) = false ∧ s' = (s.1, s.2.1, varI s.2.2)) ∨
  (e.1 = 1 ∧ (0 ≤ e.2.1 ∧ e.2.1 ≤ 5) ∧ gNode E e.2.2.1 ∧ s' = (upf s.1 e.2.1 e.2.2.1, s.2.1, s.2.2)) ∨
  (e.1 = 2 ∧ s.2.1 < e_md E ∧ s' = (s.1, s.2.1 + 1, s.2.2)) ∨
  (e.1 = 3 ∧ gNode E e.2.1 ∧ tm (s_nv (v_S (i_V s.2.2))) e.2.2.1 ∧ tm (s_nv (v_S (i_V s.2.2))) e.2.2.2 ∧ v_fl (i_V s.2.2) = false ∧ (i_nx s.2.2).length < 30 ∧ s' = (s.1, s.2.1, admI s.2.2 e.2.1 e.2.2.1 e.2.2.2)) ∨
  (e.1 = 4 ∧ v_fl (i_V s.2.2) = false ∧ i_st s.2.2 < 30 ∧ ∃ Wf, RunEnd (stE E s.1 s.2.1) (fun _ => 0) (startW s.2.2) Wf ∧ s' = (s.1, s.2.1, endI Wf)) ∨
  (e.1 = 5 ∧ (0 ≤ e.2.1 ∧ e.2.1 ≤ 65536) ∧ s' = (s.1, s.2.1, seedI s.2.2 e.2.1))

def I0 : Iw := ((S00, [], [], fun _ => 0, 0, false), 1, fun _ => 0, fun _ => 0, [], 0, 0)
def Rep (E : Ev) (jr : List Jn) (s : Stg) : Prop := ∃ c : Nat → Stg, c 0 = ((fun _ => -1), 0, I0) ∧ (∀ (j : Nat) (e : Jn), jr[j]? = some e → RepS E e (c j) (c (j + 1))) ∧ c jr.length = s
section
variable {σ : St} {δ d : Dy} {mo p3 k : Nat} {E E' : Ev} {bd : Bool} {R : Rl} {I : Iw} {jr : List Jn} {st B : Int}
theorem RId_of_Fr {wp : Nat} {md : Int} {P : Nat → Prop} (h : RId δ wp md I) (hF : Fr P δ d) (hd : ∀ r, wp ≤ r → r < wp + 486 → ¬ P r) : RId d wp md I := by
  obtain ⟨r1, r2, r3, r4, ⟨r5, r5'⟩, r6, r7, r8, r9, r10⟩ := h
  refine ⟨RS_of_Fr r1 hF (fun r a b => hd r (by omega) (by omega)), ?_, ?_, ?_, ⟨?_, ?_⟩, ?_, RQ_of_Fr r7 hF (fun r a b => hd r (by omega) (by omega)), fun j hj => RLany_of_Fr (r8 j hj) hF (fun r a b => hd r (by omega) (by omega)), ?_, ?_⟩
  · unfold HiR
    rw [(hF (wp + 21) (hd _ (by omega) (by omega))).2]
    exact r2
  · rw [(hF (wp + 23) (hd _ (by omega) (by omega))).1]; exact r3
  · rw [(hF (wp + 18) (hd _ (by omega) (by omega))).1]; exact r4
  · rw [(hF (wp + 11) (hd _ (by omega) (by omega))).1]; exact r5
  · unfold RPw; rw [(hF (wp + 12) (hd _ (by omega) (by omega))).1]; exact r5'
  · unfold RTk; rw [(hF (wp + 14) (hd _ (by omega) (by omega))).1]; exact r6
  · rw [(hF wp (hd _ (by omega) (by omega))).1]; exact r9
  · rw [(hF wp (hd _ (by omega) (by omega))).1]; exact r10
theorem RT_of_Fr {P : Nat → Prop} (h : RT δ E bd R I jr) (hm : 0 ≤ e_md E ∧ e_md E ≤ 8) (hF : Fr P δ d) (hd : ∀ r, r < 1040 → ¬ P r) : RT d E bd R I jr := by
  obtain ⟨h1, h2, ⟨h3, h3'⟩, ⟨h4, h4'⟩, md, I', h5⟩ := h
  refine ⟨REn_of_Fr h1 hm.2 hF (fun r a b => hd r (by omega)) (fun r a b => hd r (by omega)) (hd _ (by omega)), RId_of_Fr h2 hF (fun r a b => hd r (by omega)), ⟨by rw [(hF 0 (hd _ (by omega))).1]; exact h3, fun hb => ?_⟩, ⟨by rw [(hF 0 (hd _ (by omega))).1]; exact h4, by rw [(hF 13 (hd _ (by omega))).1]; exact h4'⟩, md, I', RId_of_Fr h5 hF (fun r a b => hd r (by omega))⟩
  obtain ⟨q1, q2⟩ := h3' hb
  exact ⟨RRu_of_Fr q1 hF (fun r a b => hd r (by omega)), by rw [(hF _ (hd _ (by omega))).1]; exact q2⟩
theorem Rep_mono {s : Stg} (h : Rep E jr s) (h1 : E'.1.2 = E.1.2) (h2 : E'.2.2.1 = E.2.2.1) (h3 : e_ct E ≤ e_ct E') (h4 : e_md E ≤ e_md E') : Rep E' jr s := by
  obtain ⟨c, c0, c1, c2⟩ := h
  have hT : ∀ df md W ch, turnW (stE E' df md) ch W = turnW (stE E df md) ch W := by
    intro df md W ch
    obtain ⟨⟨ct, N⟩, x, Rs, m⟩ := E
    obtain ⟨⟨ct', N'⟩, x', Rs', m'⟩ := E'
    have e1 : N' = N := h1
    have e2 : Rs' = Rs := h2
    subst e1
    subst e2
    rfl
  have hTs : ∀ df md ch W n, turns (stE E' df md) ch W n = turns (stE E df md) ch W n := by
    intro df md ch W n
    induction n with
    | zero => rfl
    | succ n ih =>
      show turnW (stE E' df md) ch (turns (stE E' df md) ch W n) = turnW (stE E df md) ch (turns (stE E df md) ch W n)
      rw [ih, hT]
  have gn : ∀ n, gNode E n → gNode E' n := fun n h => ⟨h.1, by have := h.2; omega⟩
  refine ⟨c, c0, fun j e he => ?_, c2⟩
  rcases c1 j e he with h | ⟨a1, a2, a3, a4⟩ | ⟨a1, a2, a3⟩ | ⟨a1, a2, a3⟩ | ⟨a1, a2, a3, Wf, ⟨n, b1, b2⟩, b3⟩ | h
  · exact Or.inl h
  · exact Or.inr (Or.inl ⟨a1, a2, gn _ a3, a4⟩)
  · exact Or.inr (Or.inr (Or.inl ⟨a1, by omega, a3⟩))
  · exact Or.inr (Or.inr (Or.inr (Or.inl ⟨a1, gn _ a2, a3⟩)))
  · exact Or.inr (Or.inr (Or.inr (Or.inr (Or.inl ⟨a1, a2, a3, Wf, ⟨n, by rw [hTs]; exact b1, b2⟩, b3⟩))))
  · exact Or.inr (Or.inr (Or.inr (Or.inr (Or.inr h))))
theorem Rep_add {s s' : Stg} {e : Jn} (h : Rep E jr s) (hs : RepS E e s s') : Rep E (jr ++ [e]) s' := by
  obtain ⟨c, c0, c1, c2⟩ := h
  refine ⟨fun j => if j ≤ jr.length then c j else s', by dsimp only; rw [if_pos (Nat.zero_le _)]; exact c0, fun j x hx => ?_, by dsimp only; rw [List.length_append, List.length_singleton, if_neg (by omega)]⟩
  have hj := (List.getElem?_eq_some_iff.mp hx).1
  rw [List.length_append, List.length_singleton] at hj
  dsimp only
  by_cases hl : j < jr.length
  · rw [if_pos (by omega), if_pos (by omega)]
    rw [List.getElem?_append_left hl] at hx
    exact c1 j x hx
  · have hj2 : j = jr.length := by omega
    subst hj2
    rw [List.getElem?_append_right (Nat.le_refl _), Nat.sub_self] at hx
    have hx' : e = x := Option.some.inj hx
    subst hx'
    rw [if_pos (Nat.le_refl _), if_neg (by omega), c2]
    exact hs
end
