/-! THE WORLD, as it is meant: what an advance keeps; giving up -/
theorem uni_n {S : Sto} {a b : Int} : s_nv (uni S a b).2.2 = s_nv S ∧ s_nt (uni S a b).2.2 = s_nt S := by
  unfold uni uniA uniB
  split
  · exact ⟨rfl, rfl⟩
  · split
    · exact ⟨rfl, rfl⟩
    · split
      · exact ⟨rfl, rfl⟩
      · split <;> exact ⟨rfl, rfl⟩
/-- what only grows -/
def Gr (V V' : Vw) : Prop := s_nv (v_S V) ≤ s_nv (v_S V') ∧ s_nt (v_S V) ≤ s_nt (v_S V') ∧ (v_hi V).length ≤ (v_hi V').length ∧ v_ac V ≤ v_ac V'
theorem Gr.rf {V : Vw} : Gr V V := ⟨Int.le_refl _, Int.le_refl _, Nat.le_refl _, Int.le_refl _⟩
theorem Gr_tellTok {V : Vw} {so a b : Int} {la : Bool} {sl : Nat → Bool} : Gr V (tellTok V so a b la sl) := by
  unfold tellTok
  split
  · exact Gr.rf
  · exact ⟨Int.le_refl _, by show s_nt (v_S V) ≤ s_nt (v_S V) + 1; omega, Nat.le_refl _, Int.le_refl _⟩
theorem Gr_tellEq {V : Vw} {a b : Int} : Gr V (tellEq V a b) := by
  have h := uni_n (S := v_S V) (a := a) (b := b)
  unfold tellEq
  split
  · exact ⟨Int.le_of_eq h.1.symm, Int.le_of_eq h.2.symm, Nat.le_refl _, Int.le_refl _⟩
  · exact ⟨Int.le_of_eq h.1.symm, Int.le_of_eq h.2.symm, Nat.le_refl _, Int.le_refl _⟩
theorem Gr_fire {V : Vw} {Rs : Int → Rl} {w one two : Int} {bd : Int → Int} : Gr V (fireV V Rs w one two bd) := by
  unfold fireV
  split
  · refine ⟨Int.le_refl _, Int.le_refl _, ?_, by show v_ac V ≤ v_ac V + 1; omega⟩
    show (v_hi V).length ≤ (if rmNone (Rs w) = true then v_hi V ++ [(w, one, mx0 two)] else v_hi V).length
    split
    · rw [List.length_append]; omega
    · exact Nat.le_refl _
  · exact Gr.rf
theorem Gr_adv {V : Vw} {Rs : Int → Rl} {made : Int} : Gr V (adv V Rs made) := by
  obtain ⟨S, fr, hi, fi, ac, fl⟩ := V
  cases fr with
  | nil => exact Gr.rf
  | cons f rest =>
    rcases f with ⟨t, p⟩ | ⟨a, m⟩ | ⟨w, k, bd, sl, la⟩
    · show Gr _ (advA (S, Sum.inl (t, p) :: rest, hi, fi, ac, fl) Rs made t p rest)
      unfold advA
      split
      · exact Gr.rf
      · split
        · exact Gr.rf
        · exact Gr_fire (V := v_setfr (S, Sum.inl (t, p) :: rest, hi, fi, ac, fl) _)
    · show Gr _ (advW (S, Sum.inr (Sum.inl (a, m)) :: rest, hi, fi, ac, fl) a m rest)
      unfold advW
      split
      · exact Gr.rf
      · exact Gr.rf
    · show Gr _ (advB (S, Sum.inr (Sum.inr (w, k, bd, sl, la)) :: rest, hi, fi, ac, fl) Rs w k bd sl la rest)
      unfold advB
      split
      · exact Gr.rf
      · split
        · exact Gr_tellEq (V := v_setfr (S, Sum.inr (Sum.inr (w, k, bd, sl, la)) :: rest, hi, fi, ac, fl) _)
        · exact Gr_tellTok (V := v_setfr (S, Sum.inr (Sum.inr (w, k, bd, sl, la)) :: rest, hi, fi, ac, fl) _)
theorem gAg_mono {E : Ev} {S S' : Sto} {a : Ag} (h : gAg E S a) (k : s_nv S ≤ s_nv S') : gAg E S' a := ⟨h.1, fun z z0 z1 => tm_mono (h.2 z z0 z1) k⟩
theorem gAs_mono {E : Ev} {S S' : Sto} {l : List Ag} (h : gAs E S l) (k : s_nv S ≤ s_nv S') : gAs E S' l := fun a ha => gAg_mono (h a ha) k
theorem gLv_mono {E : Ev} {S S' : Sto} {l : Lv} (h : gLv E S l) (k : s_nv S ≤ s_nv S') : gLv E S' l := ⟨gAs_mono h.1 k, gAs_mono h.2.1 k, gAs_mono h.2.2.1 k, gAs_mono h.2.2.2.1 k, h.2.2.2.2⟩
theorem gLs_mono {E : Ev} {S S' : Sto} {base : Nat} (k1 : s_nv S ≤ s_nv S') (k2 : s_nt S ≤ s_nt S') : ∀ {ls : List Lv} {n n' : Nat}, gLs E S base n ls → n ≤ n' → gLs E S' base n' ls := by
  intro ls
  induction ls with
  | nil => intro n n' h _; exact h
  | cons l ls ih =>
    intro n n' h hn
    cases ls with
    | nil => trivial
    | cons l' ls =>
      obtain ⟨⟨⟨q1, q2, q3, q4⟩, q5, q6⟩, q7⟩ := h
      exact ⟨⟨⟨⟨q1.1, by have := q1.2; omega⟩, ⟨q2.1, by have := q2.2; omega⟩, q3, q4⟩, ⟨q5.1, by have := q5.2; omega⟩, gAg_mono q6 k1⟩, ih q7 (Nat.le_refl _)⟩
theorem gLs_head {E : Ev} {S : Sto} {base n : Nat} {l l' : Lv} {ls : List Lv} (h : gLs E S base n (l :: ls)) (k : l'.2.2.2.2 = l.2.2.2.2) : gLs E S base n (l' :: ls) := by
  cases ls with
  | nil => trivial
  | cons m ms =>
    show (gSv l'.2.2.2.2.1.1 S ∧ (base ≤ l'.2.2.2.2.1.2 ∧ l'.2.2.2.2.1.2 ≤ n) ∧ gAg E S l'.2.2.2.2.2) ∧ gLs E S base l'.2.2.2.2.1.2 (m :: ms)
    rw [k]
    exact h
theorem m2_nn : ∀ ls : List Lv, 0 ≤ m2L ls := by
  intro ls
  induction ls with
  | nil => exact Int.le_refl _
  | cons l ls ih => show 0 ≤ m2L ls + (l_w l).length + (l_as l).length + (l_nx l).length; omega
theorem m1_nn : ∀ ls : List Lv, 0 ≤ m1L ls := by
  intro ls
  induction ls with
  | nil => exact Int.le_refl _
  | cons l ls ih => show 0 ≤ m1L ls + (l_q l).length + (l_w l).length; omega
theorem muL_nn : ∀ ls : List Lv, 0 ≤ muL ls := by
  intro ls
  induction ls with
  | nil => exact Int.le_refl _
  | cons l ls ih => show 0 ≤ muL ls + 2 * (l_w l).length + (l_q l).length + 3; omega
theorem wFrs_nn {S : Sto} {Rs : Int → Rl} {made : Int} : ∀ {fs : List Frm}, (∀ f ∈ fs, gFrm S Rs made f) → (∀ w, 0 ≤ w → w < made → GR (Rs w)) → 0 ≤ wFrs fs := by
  intro fs
  induction fs with
  | nil => intro _ _; exact Int.le_refl _
  | cons f fs ih =>
    intro h hr
    have h1 := ih (fun x hx => h x (List.mem_cons_of_mem _ hx)) hr
    have h2 := h f List.mem_cons_self
    show 0 ≤ wFrs fs + wFrm f
    have : 0 ≤ wFrm f := by
      rcases f with ⟨t, p⟩ | ⟨a, m⟩ | ⟨w, k, bd, sl, la⟩
      · exact (by decide : (0 : Int) ≤ 1)
      · have : 0 ≤ a ∧ a ≤ 100 := h2
        show 0 ≤ 1 + 2 * (100 - a)
        omega
      · obtain ⟨w0, k0, -⟩ := h2
        have g := (hr w w0.1 w0.2).2.2.2.1
        show 0 ≤ 1 + 202 * (2 - k)
        omega
    omega
section
variable {E : Ev} {base : Nat} {st : Int} {W : Wo}
theorem muW_pos (hG : GW E base st W) (ho : w_ov W = false) : 0 < muW W := by
  obtain ⟨g1, g2, g3, g4, g5, g6, g7, -⟩ := hG
  unfold muW
  rw [ho, if_neg (by decide)]
  have h1 := wFrs_nn g1.2.2.2.2.1 g1.2.2.2.1
  have h2 := g1.2.1
  have h3 : 3 ≤ muL (w_lv W) := by
    revert g6
    cases w_lv W with
    | nil => intro g6; exact g6.elim
    | cons l ls => intro _; have := muL_nn ls; show 3 ≤ muL ls + 2 * (l_w l).length + (l_q l).length + 3; omega
  unfold muV
  split <;> omega
theorem GW_adv (hG : GW E base st W) (hf : v_fl (w_V W) = false) (hn : ¬ (v_fr (w_V W)).length = 0) (ho : w_ov W = false) : GW E base st (w_setV W (adv (w_V W) (e_Rs E) (e_md E))) ∧ muW (w_setV W (adv (w_V W) (e_Rs E) (e_md E))) < muW W := by
  obtain ⟨g1, g2, g3, g4, g5, g6, g7, g8, g9, g10, g11⟩ := hG
  obtain ⟨a1, a2⟩ := adv_good g1 hf (fun h => hn (by rw [h]; rfl))
  obtain ⟨m1, m2, m3, m4⟩ := Gr_adv (V := w_V W) (Rs := e_Rs E) (made := e_md E)
  generalize adv (w_V W) (e_Rs E) (e_md E) = V' at a1 a2 m1 m2 m3 m4 ⊢
  rw [hf] at g10
  rw [ho, if_neg (by decide)] at g9
  refine ⟨⟨a1, Nat.le_trans g2 m3, g3, fun z => ⟨(g4 z).1, ?_⟩, fun l hl => gLv_mono (g5 l hl) m1, gLs_mono m1 m2 g6 m3, g7, ?_, ?_, ?_, fun i => ?_⟩, ?_⟩
  · have := (g4 z).2
    show w_tk W z ≤ st + v_ac V'
    omega
  · show m1L (w_lv W) + (w_lv W).length ≤ 61 + v_ac V'
    omega
  · show (if w_ov W = true then (w_lv W).length = 1 ∧ ∀ l ∈ w_lv W, ((l_nx l).length : Int) ≤ v_ac V' else m2L (w_lv W) ≤ v_ac V')
    rw [ho, if_neg (by decide)]
    omega
  · show ((w_lg W).length : Int) ≤ v_ac V' + (if v_fl V' = true ∧ (w_lv W).length = 1 then 1 else 0)
    rw [if_neg (by rintro ⟨h, -⟩; exact absurd h (by decide))] at g10
    split <;> omega
  · have := g11 i
    show -(4 * (st + v_ac V')) ≤ w_pw W i ∧ w_pw W i ≤ 4 * (st + v_ac V')
    omega
  · unfold muW
    rw [show w_ov (w_setV W V') = w_ov W from rfl, ho, if_neg (by decide), if_neg (by decide)]
    show muV V' + muL (w_lv W) < muV (w_V W) + muL (w_lv W)
    omega
theorem GS_rest {S : Sto} {v : Sav} (hG : GS S) (hv : gSv v S) : GS (restS S v) := by
  obtain ⟨⟨g1, g2, g3, g4⟩, g5, g6, g7, g8, g9⟩ := hG
  obtain ⟨v1, v2, v3, v4⟩ := hv
  refine ⟨⟨g1, g2, g3, g4⟩, fun t t0 t1 => ?_, fun t t0 t1 => ?_, g7, g8, g9⟩
  · show 0 ≤ (if t < v.1 then v.2.2.1 t else t) ∧ (if t < v.1 then v.2.2.1 t else t) < s_nv S
    split
    · have := v3 t t0 (by omega); omega
    · exact ⟨t0, t1⟩
  · show -99 ≤ (if t < v.1 then v.2.2.2.1 t else 100) ∧ (if t < v.1 then v.2.2.2.1 t else 100) ≤ 100
    split
    · exact v4 t t0 (by omega)
    · omega
theorem GW_giveUp (hG : GW E base st W) (hf : v_fl (w_V W) = true) (ho : w_ov W = false) : GW E base st (giveUp W) ∧ muW (giveUp W) < muW W := by
  have hpos := muW_pos hG ho
  obtain ⟨V, x, pw, tk, lv, ov, ck, lg⟩ := W
  obtain ⟨g1, g2, g3, g4, g5, g6, g7, g8, g9, g10, g11⟩ := hG
  dsimp only [w_V, w_x, w_pw, w_tk, w_lv, w_ov, w_cs, w_ck, w_sp, w_lg] at *
  subst ho
  rw [if_neg (by decide)] at g9
  have hG0 : GV (e_Rs E) (e_md E) (v_setfr V []) := GV_setfr g1 (fun f hf => by cases hf) trivial g1.2.1.1
  match lv, g5, g6, g7, g8, g9, g10 with
  | [], _, g6, _, _, _, _ => exact g6.elim
  | [l], g5, g6, g7, g8, g9, g10 =>
    refine ⟨⟨hG0, g2, g3, g4, g5, g6, g7, g8, ⟨rfl, fun m hm => ?_⟩, g10, g11⟩, ?_⟩
    · rw [List.mem_singleton.mp hm]
      have e : m2L [l] = 0 + (l_w l).length + (l_as l).length + (l_nx l).length := rfl
      rw [e] at g9
      show ((l_nx l).length : Int) ≤ v_ac V
      omega
    · show (0 : Int) < _
      exact hpos
  | l :: l' :: ls, g5, g6, g7, g8, g9, g10 =>
    obtain ⟨⟨q1, q2, q3⟩, q4⟩ := g6
    have hlen : ((v_hi V).take (l_hn l)).length = l_hn l := by rw [List.length_take]; omega
    have hl' := g5 l' (List.mem_cons_of_mem _ List.mem_cons_self)
    have nv0 : s_nv (v_S V) ≤ s_nv (restS (v_S V) (l_sv l)) := Int.le_refl _
    have nt0 : s_nt (v_S V) ≤ s_nt (restS (v_S V) (l_sv l)) := Int.le_refl _
    refine ⟨⟨⟨GS_rest g1.1 q1, g1.2.1, g1.2.2.1, g1.2.2.2.1, fun f hf => (by cases hf), trivial, g1.2.1.1, ?_⟩, ?_, g3, g4, fun m hm => ?_, ?_, ?_, ?_, ?_, ?_, g11⟩, ?_⟩
    · exact ⟨(List.take_sublist _ _).nodup g1.2.2.2.2.2.2.2.1, fun e he => g1.2.2.2.2.2.2.2.2 e (List.mem_of_mem_take he)⟩
    · show base ≤ ((v_hi V).take (l_hn l)).length
      omega
    · rcases List.mem_cons.mp hm with rfl | hm
      · refine ⟨fun a ha => ?_, gAs_mono hl'.2.1 nv0, gAs_mono hl'.2.2.1 nv0, gAs_mono hl'.2.2.2.1 nv0, hl'.2.2.2.2⟩
        rcases List.mem_append.mp ha with ha | ha
        · exact gAg_mono (hl'.1 a ha) nv0
        · rw [List.mem_singleton.mp ha]
          exact gAg_mono q3 nv0
      · exact gLv_mono (g5 m (List.mem_cons_of_mem _ (List.mem_cons_of_mem _ hm))) nv0
    · show gLs E _ base ((v_hi V).take (l_hn l)).length (qAdd l' (l_ow l) :: ls)
      rw [hlen]
      exact gLs_head (gLs_mono nv0 nt0 q4 (Nat.le_refl _)) rfl
    · show (ls.length + 1) ≤ 4
      have : ls.length + 1 + 1 ≤ 4 := g7
      omega
    · have e1 : m1L (l :: l' :: ls) = m1L ls + (l_q l').length + (l_w l').length + (l_q l).length + (l_w l).length := rfl
      have e2 : ((l :: l' :: ls).length : Int) = (ls.length : Int) + 2 := rfl
      rw [e1, e2] at g8
      show m1L ls + ((l_q l' ++ [l_ow l]).length : Int) + (l_w l').length + ((ls.length : Int) + 1) ≤ 61 + v_ac V
      rw [List.length_append, List.length_singleton]
      omega
    · have e1 : m2L (l :: l' :: ls) = m2L ls + (l_w l').length + (l_as l').length + (l_nx l').length + (l_w l).length + (l_as l).length + (l_nx l).length := rfl
      rw [e1] at g9
      show m2L ls + (l_w l').length + (l_as l').length + (l_nx l').length ≤ v_ac V
      omega
    · have e2 : ((l :: l' :: ls).length) = ls.length + 2 := rfl
      rw [e2, if_neg (by omega)] at g10
      show (lg.length : Int) ≤ v_ac V + _
      split <;> omega
    · show muV _ + muL _ < muV V + muL (l :: l' :: ls)
      have h1 := wFrs_nn g1.2.2.2.2.1 g1.2.2.2.1
      have e1 : muL (l :: l' :: ls) = muL ls + 2 * (l_w l').length + (l_q l').length + 3 + 2 * (l_w l).length + (l_q l).length + 3 := rfl
      have e2 : muV V = 1000 * (60 - v_ac V) + wFrs (v_fr V) + (if v_fl V = true then 0 else 1) := rfl
      rw [e1, e2, hf, if_pos rfl]
      show 1000 * (60 - v_ac V) + 0 + 1 + (muL ls + 2 * (l_w l').length + ((l_q l' ++ [l_ow l]).length : Int) + 3) < _
      rw [List.length_append, List.length_singleton]
      omega
end
