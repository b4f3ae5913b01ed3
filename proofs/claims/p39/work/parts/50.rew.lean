/-! THE REWRITER, as it is meant -/
abbrev Frm : Type := (Int × Int) ⊕ (Int × (Nat → Bool)) ⊕ (Int × Int × (Int → Int) × (Nat → Bool) × Bool)
abbrev Hst : Type := List (Int × Int × Int)
abbrev Vw : Type := Sto × List Frm × Hst × (Int → Int) × Int × Bool
abbrev v_S (V : Vw) : Sto := V.1
abbrev v_fr (V : Vw) : List Frm := V.2.1
abbrev v_hi (V : Vw) : Hst := V.2.2.1
abbrev v_fi (V : Vw) : Int → Int := V.2.2.2.1
abbrev v_ac (V : Vw) : Int := V.2.2.2.2.1
abbrev v_fl (V : Vw) : Bool := V.2.2.2.2.2
def mx0 (x : Int) : Int := if x < 0 then 0 else x
def tellTok (V : Vw) (so a b : Int) (la : Bool) (sl : Nat → Bool) : Vw := if s_nt (v_S V) = 100 then (v_S V, v_fr V, v_hi V, v_fi V, v_ac V, true) else (addtok (v_S V) so a b la sl, .inl (s_nt (v_S V), 0) :: v_fr V, v_hi V, v_fi V, v_ac V, v_fl V)
def wmask (S : Sto) (root : Int) : Nat → Bool := fun k => decide ((k : Int) < s_nt S) && touched S root k
def tellEq (V : Vw) (a b : Int) : Vw := if (uni (v_S V) a b).1 = -1 then ((uni (v_S V) a b).2.2, v_fr V, v_hi V, v_fi V, v_ac V, v_fl V || (uni (v_S V) a b).2.1) else ((uni (v_S V) a b).2.2, .inr (.inl (0, wmask (uni (v_S V) a b).2.2 (uni (v_S V) a b).1)) :: v_fr V, v_hi V, v_fi V, v_ac V, v_fl V || (uni (v_S V) a b).2.1)
def partn (S : Sto) (R : Rl) (h t o : Int) : Bool := decide (l_hd R < 2) || (!decide (o = t) && (s_sd S o && decide (s_so S o = l_so R (if h = 0 then 1 else 0))))
def cOne (R : Rl) (h t o : Int) : Int := if h = 0 then t else if 2 ≤ l_hd R then o else -1
def cTwo (R : Rl) (h t o : Int) : Int := if h = 0 then (if 2 ≤ l_hd R then o else -1) else t
def canF (S : Sto) (Rs : Int → Rl) (hi : Hst) (t p : Int) : Option (Int → Int) :=
  if l_hd (Rs (p / 200)) ≤ p / 100 % 2 then none
  else if ¬ l_so (Rs (p / 200)) (p / 100 % 2) = s_so S t then none
  else if (if 2 ≤ l_hd (Rs (p / 200)) then s_nt S else 1) ≤ p % 100 then none
  else if partn S (Rs (p / 200)) (p / 100 % 2) t (p % 100) = false then none
  else if (p / 200, cOne (Rs (p / 200)) (p / 100 % 2) t (p % 100), mx0 (cTwo (Rs (p / 200)) (p / 100 % 2) t (p % 100))) ∈ hi then none
  else matchR S (Rs (p / 200)) (cOne (Rs (p / 200)) (p / 100 % 2) t (p % 100)) (cTwo (Rs (p / 200)) (p / 100 % 2) t (p % 100))
def rmNone (R : Rl) : Bool := l_sy R 0 && (decide (l_hd R < 2) || l_sy R 1)
def fireSd (S : Sto) (R : Rl) (one two : Int) : Int → Bool := if l_hd R < 2 then upf (s_sd S) one (l_sy R 0) else upf (upf (s_sd S) one (l_sy R 0)) two (l_sy R 1)
def fireSl (S : Sto) (R : Rl) (one two : Int) : Nat → Bool := fun k => (decide (k = one.toNat) || s_sl S one k) || (!decide (l_hd R < 2) && (decide (k = two.toNat) || s_sl S two k))
def fireLa (S : Sto) (R : Rl) (one two : Int) : Bool := s_la S one && (decide (l_hd R < 2) || s_la S two)
def fireV (V : Vw) (Rs : Int → Rl) (w one two : Int) (bd : Int → Int) : Vw :=
  if v_ac V < 60 then (s_setsd (v_S V) (fireSd (v_S V) (Rs w) one two), .inr (.inr (w, 0, bd, fireSl (v_S V) (Rs w) one two, fireLa (v_S V) (Rs w) one two)) :: v_fr V, (if rmNone (Rs w) = true then v_hi V ++ [(w, one, mx0 two)] else v_hi V), upf (v_fi V) w (v_fi V w + 1), v_ac V + 1, v_fl V)
  else (v_S V, v_fr V, v_hi V, v_fi V, v_ac V, true)
def aEnd (S : Sto) (made t : Int) : Int := if s_sd S t = true then made * 200 else 0
def aNext (V : Vw) (Rs : Int → Rl) (made t p : Int) : Int := fnd (fun z => (canF (v_S V) Rs (v_hi V) t z).isSome) (aEnd (v_S V) made t - p).toNat p
def v_setfr (V : Vw) (fr : List Frm) : Vw := (v_S V, fr, v_hi V, v_fi V, v_ac V, v_fl V)
def advA (V : Vw) (Rs : Int → Rl) (made t p : Int) (rest : List Frm) : Vw :=
  if aNext V Rs made t p = -1 then v_setfr V rest
  else match canF (v_S V) Rs (v_hi V) t (aNext V Rs made t p) with
    | none => v_setfr V rest
    | some bd => fireV (v_setfr V (.inl (t, aNext V Rs made t p + 1) :: rest)) Rs (aNext V Rs made t p / 200) (cOne (Rs (aNext V Rs made t p / 200)) (aNext V Rs made t p / 100 % 2) t (aNext V Rs made t p % 100)) (cTwo (Rs (aNext V Rs made t p / 200)) (aNext V Rs made t p / 100 % 2) t (aNext V Rs made t p % 100)) bd
def wNext (S : Sto) (f : Int) (m : Nat → Bool) : Int := fnd (fun z => m z.toNat && s_sd S z) (s_nt S - f).toNat f
def advW (V : Vw) (f : Int) (m : Nat → Bool) (rest : List Frm) : Vw :=
  if wNext (v_S V) f m = -1 then v_setfr V rest
  else v_setfr V (.inl (wNext (v_S V) f m, 0) :: .inr (.inl (wNext (v_S V) f m + 1, m)) :: rest)
def advB (V : Vw) (Rs : Int → Rl) (w k : Int) (bd : Int → Int) (sl : Nat → Bool) (la : Bool) (rest : List Frm) : Vw :=
  if l_nb (Rs w) ≤ k then v_setfr V rest
  else if l_bs (Rs w) k = -1 then tellEq (v_setfr V (.inr (.inr (w, k + 1, bd, sl, la)) :: rest)) (resB bd (l_bt (Rs w) (2 * k))) (resB bd (l_bt (Rs w) (2 * k + 1)))
  else tellTok (v_setfr V (.inr (.inr (w, k + 1, bd, sl, la)) :: rest)) (l_bs (Rs w) k) (resB bd (l_bt (Rs w) (2 * k))) (resB bd (l_bt (Rs w) (2 * k + 1))) la sl
def adv (V : Vw) (Rs : Int → Rl) (made : Int) : Vw := match v_fr V with
  | [] => V
  | .inl (t, p) :: rest => advA V Rs made t p rest
  | .inr (.inl (f, m)) :: rest => advW V f m rest
  | .inr (.inr (w, k, bd, sl, la)) :: rest => advB V Rs w k bd sl la rest
/-! what stays good -/
def nBo : List Frm → Int
  | [] => 0
  | .inr (.inr _) :: fs => nBo fs + 1
  | _ :: fs => nBo fs
def fcap : Frm → Int
  | .inl _ => 2
  | .inr (.inl _) => 1
  | .inr (.inr _) => 0
def okF : List Frm → Prop
  | [] => True
  | f :: fs => okF fs ∧ ((fs.length : Int) + 1 ≤ 3 * nBo (f :: fs) + fcap f)
def gFrm (S : Sto) (Rs : Int → Rl) (made : Int) (f : Frm) : Prop := match f with
  | .inl (t, p) => (0 ≤ t ∧ t < s_nt S) ∧ 0 ≤ p ∧ p ≤ 1600
  | .inr (.inl (a, _)) => 0 ≤ a ∧ a ≤ 100
  | .inr (.inr (w, k, bd, _, _)) => (0 ≤ w ∧ w < made) ∧ (0 ≤ k ∧ k ≤ l_nb (Rs w)) ∧ BDr bd ∧ ∀ t, bnd (Rs w) t → tm (s_nv S) (bd (t - 200))
def gHi (Rs : Int → Rl) (made : Int) (hi : Hst) : Prop := hi.Nodup ∧ ∀ e ∈ hi, (0 ≤ e.1 ∧ e.1 < made) ∧ (0 ≤ e.2.1 ∧ e.2.1 < 100) ∧ (0 ≤ e.2.2 ∧ e.2.2 < 100) ∧ rmNone (Rs e.1) = true
def GV (Rs : Int → Rl) (made : Int) (V : Vw) : Prop := GS (v_S V) ∧ (0 ≤ v_ac V ∧ v_ac V ≤ 60) ∧ (0 ≤ made ∧ made ≤ 8) ∧ (∀ w, 0 ≤ w → w < made → GR (Rs w)) ∧ (∀ f ∈ v_fr V, gFrm (v_S V) Rs made f) ∧ okF (v_fr V) ∧ nBo (v_fr V) ≤ v_ac V ∧ gHi Rs made (v_hi V)
theorem nBo_nn : ∀ fs : List Frm, 0 ≤ nBo fs := by
  intro fs
  induction fs with
  | nil => exact Int.le_refl _
  | cons f fs ih =>
    rcases f with f | f | f
    · exact ih
    · exact ih
    · show 0 ≤ nBo fs + 1
      omega
theorem okF_len {fs : List Frm} (h : okF fs) : (fs.length : Int) ≤ 3 * nBo fs + 2 := by
  cases fs with
  | nil => exact (by decide)
  | cons f fs =>
    have h2 := h.2
    have : fcap f ≤ 2 := by
      rcases f with f | f | f
      · exact Int.le_refl 2
      · exact (by decide : (1 : Int) ≤ 2)
      · exact (by decide : (0 : Int) ≤ 2)
    rw [List.length_cons]
    omega
theorem tm_mono {n m x : Int} (h : tm n x) (hm : n ≤ m) : tm m x := by
  unfold tm at h ⊢
  omega
theorem gFrm_mono {S S' : Sto} {Rs : Int → Rl} {made : Int} {f : Frm} (h : gFrm S Rs made f) (h1 : s_nt S ≤ s_nt S') (h2 : s_nv S ≤ s_nv S') : gFrm S' Rs made f := by
  rcases f with ⟨t, p⟩ | ⟨a, m⟩ | ⟨w, k, bd, sl, la⟩
  · exact ⟨⟨h.1.1, by have := h.1.2; omega⟩, h.2⟩
  · exact h
  · exact ⟨h.1, h.2.1, h.2.2.1, fun t ht => tm_mono (h.2.2.2 t ht) h2⟩
theorem GS_addtok {S : Sto} (hG : GS S) {so a b : Int} {la : Bool} {sl : Nat → Bool} (hn : s_nt S < 100) (h1 : 0 ≤ so ∧ so ≤ 5) (h2 : tm (s_nv S) a) (h3 : tm (s_nv S) b) : GS (addtok S so a b la sl) := by
  obtain ⟨⟨g1, g2, g3, g4⟩, g5, g6, g7, g8, g9⟩ := hG
  refine ⟨⟨g1, g2, ?_, ?_⟩, g5, g6, fun t t0 t1 => ?_, fun t t0 t1 => ?_, fun t t0 t1 => ?_⟩
  · show 0 ≤ s_nt S + 1; omega
  · show s_nt S + 1 ≤ 100; omega
  · show 0 ≤ upf (s_so S) (s_nt S) so t ∧ upf (s_so S) (s_nt S) so t ≤ 5
    unfold upf
    have t2 : t < s_nt S + 1 := t1
    split
    · exact h1
    · exact g7 t t0 (by omega)
  · show tm (s_nv S) (upf (s_fi S) (s_nt S) a t)
    unfold upf
    have t2 : t < s_nt S + 1 := t1
    split
    · exact h2
    · exact g8 t t0 (by omega)
  · show tm (s_nv S) (upf (s_se S) (s_nt S) b t)
    unfold upf
    have t2 : t < s_nt S + 1 := t1
    split
    · exact h3
    · exact g9 t t0 (by omega)
theorem GS_mkvar {S : Sto} (hG : GS S) (hn : s_nv S < 60) : GS (mkvar S) := by
  obtain ⟨⟨g1, g2, g3, g4⟩, g5, g6, g7, g8, g9⟩ := hG
  refine ⟨⟨by show 0 ≤ s_nv S + 1; omega, by show s_nv S + 1 ≤ 60; omega, g3, g4⟩, fun t t0 t1 => ?_, fun t t0 t1 => ?_, g7, fun t t0 t1 => tm_mono (g8 t t0 t1) (by show s_nv S ≤ s_nv S + 1; omega), fun t t0 t1 => tm_mono (g9 t t0 t1) (by show s_nv S ≤ s_nv S + 1; omega)⟩
  · show 0 ≤ upf (s_cl S) (s_nv S) (s_nv S) t ∧ upf (s_cl S) (s_nv S) (s_nv S) t < s_nv S + 1
    unfold upf
    have t2 : t < s_nv S + 1 := t1
    split
    · omega
    · have := g5 t t0 (by omega)
      omega
  · show -99 ≤ upf (s_va S) (s_nv S) 100 t ∧ upf (s_va S) (s_nv S) 100 t ≤ 100
    unfold upf
    have t2 : t < s_nv S + 1 := t1
    split
    · omega
    · exact g6 t t0 (by omega)
theorem GS_setsd {S : Sto} (hG : GS S) (f : Int → Bool) : GS (s_setsd S f) := hG
theorem GS_setva {S : Sto} (hG : GS S) {x v : Int} (h1 : -99 ≤ v) (h2 : v ≤ 100) : GS (s_setva S (upf (s_va S) x v)) := by
  obtain ⟨⟨g1, g2, g3, g4⟩, g5, g6, g7, g8, g9⟩ := hG
  refine ⟨⟨g1, g2, g3, g4⟩, g5, fun t t0 t1 => ?_, g7, g8, g9⟩
  show -99 ≤ upf (s_va S) x v t ∧ upf (s_va S) x v t ≤ 100
  unfold upf
  split
  · exact ⟨h1, h2⟩
  · exact g6 t t0 t1
theorem form_val {S : Sto} (hG : GS S) {t : Int} (ht : tm (s_nv S) t) : (-99 ≤ form S t ∧ form S t ≤ 99) ∨ 400 ≤ form S t := by
  obtain ⟨⟨g1, g2, g3, g4⟩, g5, g6, g7, g8, g9⟩ := hG
  unfold tm at ht
  unfold form
  by_cases ha : t - 400 < 0
  · rw [if_pos ha]; omega
  · rw [if_neg ha]
    rw [if_pos (show t - 400 < s_nv S by omega)]
    have h5 := g5 (t - 400) (by omega) (by omega)
    have h6 := g6 _ h5.1 h5.2
    split <;> omega
theorem GS_uni {S : Sto} (hG : GS S) {a b : Int} (ha : tm (s_nv S) a) (hb : tm (s_nv S) b) : GS (uni S a b).2.2 ∧ s_nv (uni S a b).2.2 = s_nv S ∧ s_nt (uni S a b).2.2 = s_nt S ∧ -1 ≤ (uni S a b).1 ∧ (uni S a b).1 < s_nv S := by
  have q1 := form_val hG ha
  have q2 := form_val hG hb
  have q3 := rootOf_rng hG a
  have q4 := rootOf_rng hG b
  have hG' := hG
  obtain ⟨⟨g1, g2, g3, g4⟩, g5, g6, g7, g8, g9⟩ := hG
  have hk : -99 ≤ knw (form S a) (form S b) ∧ knw (form S a) (form S b) ≤ 100 := by
    unfold knw
    split
    · omega
    · split <;> omega
  unfold uni
  split
  · exact ⟨hG', rfl, rfl, by omega, by omega⟩
  · split
    · exact ⟨hG', rfl, rfl, by omega, by omega⟩
    · rename_i c1 c2
      unfold uniA
      split
      · rename_i c3
        have m1 : 0 ≤ mni (rootOf S a) (rootOf S b) ∧ mni (rootOf S a) (rootOf S b) < s_nv S := by unfold mni; split <;> omega
        refine ⟨?_, rfl, rfl, by omega, m1.2⟩
        refine ⟨⟨g1, g2, g3, g4⟩, fun t t0 t1 => ?_, fun t t0 t1 => ?_, g7, g8, g9⟩
        · show 0 ≤ (if t < s_nv S ∧ s_cl S t = mxi (rootOf S a) (rootOf S b) then mni (rootOf S a) (rootOf S b) else s_cl S t) ∧ (if t < s_nv S ∧ s_cl S t = mxi (rootOf S a) (rootOf S b) then mni (rootOf S a) (rootOf S b) else s_cl S t) < s_nv S
          split
          · exact m1
          · exact g5 t t0 t1
        · show -99 ≤ upf (s_va S) _ _ t ∧ upf (s_va S) _ _ t ≤ 100
          unfold upf
          split
          · exact hk
          · exact g6 t t0 t1
      · rename_i c3
        have m1 : 0 ≤ mxi (rootOf S a) (rootOf S b) ∧ mxi (rootOf S a) (rootOf S b) < s_nv S := by unfold mxi; split <;> omega
        unfold uniB
        split
        · exact ⟨GS_setva hG' hk.1 hk.2, rfl, rfl, by show -1 ≤ mxi _ _; omega, m1.2⟩
        · exact ⟨hG', rfl, rfl, by show (-1 : Int) ≤ -1; omega, by show (-1 : Int) < _; omega⟩
