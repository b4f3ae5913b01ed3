/-! THE WORLD, as it is meant: an act keeps it good -/
section
variable {E : Ev} {base : Nat} {st : Int} {W : Wo} {l : Lv} {ls : List Lv} {a : Ag}
theorem look_tm {S : Sto} (ha : ∀ z, 0 ≤ z → z < 4 → tm (s_nv S) (a.2.1 z)) {t : Int} (ht : gTm t) : tm (s_nv S) (lookA a t) := by
  unfold lookA
  rcases ht with ht | ht
  · have h : -99 ≤ t ∧ t ≤ 99 := ht
    rw [if_neg (by omega)]
    exact Or.inl h
  · have h : 200 ≤ t ∧ t < 204 := ht
    rw [if_pos h]
    exact ha _ (by omega) (by omega)
theorem inclA_fr {S : Sto} {t : Int} : (inclA S a t).2.1 = a.2.1 := by
  unfold inclA
  split <;> rfl
theorem goA_good {S : Sto} {m : Int} (ha : gAg E S a) (hm : gNode E (e_on E m)) : gAg E S (goA E S a m) := by
  refine ⟨hm, fun z z0 z1 => ?_⟩
  show tm (s_nv S) ((if e_wh E m < 10 then a else inclA S a (lowest S (e_wh E m - 10) (lookA a (e_a E m)) (lookA a (e_b E m)))).2.1 z)
  split
  · exact ha.2 z z0 z1
  · rw [inclA_fr]; exact ha.2 z z0 z1
theorem gAs_add {S : Sto} {q : List Ag} (h : gAs E S q) (ha : gAg E S a) : gAs E S (q ++ [a]) := fun x hx => by
  rcases List.mem_append.mp hx with hx | hx
  · exact h x hx
  · rw [List.mem_singleton.mp hx]; exact ha
theorem gLv_qAdd {S : Sto} (h : gLv E S l) (ha : gAg E S a) : gLv E S (qAdd l a) := ⟨gAs_add h.1 ha, h.2⟩
theorem gLv_wAdd {S : Sto} (h : gLv E S l) (ha : gAg E S a) : gLv E S (wAdd l a) := ⟨h.1, gAs_add h.2.1 ha, h.2.2⟩
theorem gLv_nAdd {S : Sto} (h : gLv E S l) (ha : gAg E S a) : gLv E S (nAdd l a) := ⟨h.1, h.2.1, h.2.2.1, gAs_add h.2.2.2.1 ha, h.2.2.2.2⟩
theorem m1_q : m1L (qAdd l a :: ls) = m1L (l :: ls) + 1 := by
  show m1L ls + ((l_q l ++ [a]).length : Int) + (l_w l).length = m1L ls + (l_q l).length + (l_w l).length + 1
  rw [List.length_append, List.length_singleton]; omega
theorem m1_w : m1L (wAdd l a :: ls) = m1L (l :: ls) + 1 := by
  show m1L ls + ((l_q l).length : Int) + ((l_w l ++ [a]).length : Int) = m1L ls + (l_q l).length + (l_w l).length + 1
  rw [List.length_append, List.length_singleton]; omega
theorem m1_n : m1L (nAdd l a :: ls) = m1L (l :: ls) := rfl
theorem m2_q : m2L (qAdd l a :: ls) = m2L (l :: ls) := rfl
theorem m2_w : m2L (wAdd l a :: ls) = m2L (l :: ls) + 1 := by
  show m2L ls + ((l_w l ++ [a]).length : Int) + (l_as l).length + (l_nx l).length = m2L ls + (l_w l).length + (l_as l).length + (l_nx l).length + 1
  rw [List.length_append, List.length_singleton]; omega
theorem m2_n : m2L (nAdd l a :: ls) = m2L (l :: ls) + 1 := by
  show m2L ls + ((l_w l).length : Int) + (l_as l).length + ((l_nx l ++ [a]).length : Int) = m2L ls + (l_w l).length + (l_as l).length + (l_nx l).length + 1
  rw [List.length_append, List.length_singleton]; omega
theorem mu_q : muL (qAdd l a :: ls) = muL (l :: ls) + 1 := by
  show muL ls + 2 * ((l_w l).length : Int) + ((l_q l ++ [a]).length : Int) + 3 = muL ls + 2 * (l_w l).length + (l_q l).length + 3 + 1
  rw [List.length_append, List.length_singleton]; omega
theorem mu_w : muL (wAdd l a :: ls) = muL (l :: ls) + 2 := by
  show muL ls + 2 * ((l_w l ++ [a]).length : Int) + ((l_q l).length : Int) + 3 = muL ls + 2 * (l_w l).length + (l_q l).length + 3 + 2
  rw [List.length_append, List.length_singleton]; omega
theorem mu_n : muL (nAdd l a :: ls) = muL (l :: ls) := rfl
theorem vl_rng : ∀ (f : Nat) (p n : Int), 0 ≤ vl p f n ∧ vl p f n ≤ f := by
  intro f
  induction f with
  | zero => intro p n; exact ⟨Int.le_refl _, Int.le_refl _⟩
  | succ f ih =>
    intro p n
    have := ih p (n / p)
    show 0 ≤ (if n ≤ 1 then 0 else if n % p = 0 then 1 + vl p f (n / p) else 0) ∧ (if n ≤ 1 then 0 else if n % p = 0 then 1 + vl p f (n / p) else 0) ≤ ((f + 1 : Nat) : Int)
    split
    · omega
    · split <;> omega
theorem vl_18 (n : Int) (h0 : 0 ≤ n) (h1 : n ≤ 18) (p : Int) (hp : 2 ≤ p) : vl p 5 n ≤ 4 := by
  have hdm := Int.emod_add_mul_ediv n p
  have hd0 : 0 ≤ n / p := Int.ediv_nonneg h0 (by omega)
  -- halving
  have half : ∀ x : Int, 0 ≤ x → x / p ≤ x / 2 := fun x hx => by
    have h2 : x / p * p ≤ x := Int.ediv_mul_le x (by omega)
    have h3 : 0 ≤ x / p := Int.ediv_nonneg hx (by omega)
    have h4 : x / p * 2 ≤ x / p * p := Int.mul_le_mul_of_nonneg_left hp h3
    omega
  have step : ∀ (f : Nat) (x : Int), vl p (f + 1) x ≤ 1 + (if x ≤ 1 then -1 else vl p f (x / p)) := by
    intro f x
    have := (vl_rng f p (x / p)).1
    show (if x ≤ 1 then 0 else if x % p = 0 then 1 + vl p f (x / p) else 0) ≤ _
    split
    · omega
    · split <;> omega
  have s4 : vl p 5 n ≤ 1 + (if n ≤ 1 then -1 else vl p 4 (n / p)) := step 4 n
  have s3 : vl p 4 (n / p) ≤ 1 + (if n / p ≤ 1 then -1 else vl p 3 (n / p / p)) := step 3 _
  have s2 : vl p 3 (n / p / p) ≤ 1 + (if n / p / p ≤ 1 then -1 else vl p 2 (n / p / p / p)) := step 2 _
  have s1 : vl p 2 (n / p / p / p) ≤ 1 + (if n / p / p / p ≤ 1 then -1 else vl p 1 (n / p / p / p / p)) := step 1 _
  have s0 : vl p 1 (n / p / p / p / p) ≤ 1 + (if n / p / p / p / p ≤ 1 then -1 else vl p 0 (n / p / p / p / p / p)) := step 0 _
  have b1 := half n h0
  have c1 : 0 ≤ n / p := hd0
  have b2 := half (n / p) c1
  have c2 : 0 ≤ n / p / p := Int.ediv_nonneg c1 (by omega)
  have b3 := half (n / p / p) c2
  have c3 : 0 ≤ n / p / p / p := Int.ediv_nonneg c2 (by omega)
  have b4 := half (n / p / p / p) c3
  have b5 : n / p / p / p / p ≤ 1 := by omega
  rw [if_pos b5] at s0
  split at s4
  · omega
  · split at s3
    · omega
    · split at s2
      · omega
      · split at s1 <;> omega
theorem lotP_rng {x w m : Int} {pw : Int → Int} {B : Int} (w0 : 1 ≤ w) (w1 : w ≤ 9) (m0 : 1 ≤ m) (m1 : m ≤ 9) (h : ∀ i, -(4 * B) ≤ pw i ∧ pw i ≤ 4 * B) (i : Int) : -(4 * (B + 1)) ≤ lotP x w m pw i ∧ lotP x w m pw i ≤ 4 * (B + 1) := by
  have hp := pr7_rng i
  have a1 := vl_rng 5 (pr7 i) (w + m)
  have a2 := vl_18 (w + m) (by omega) (by omega) (pr7 i) hp.1
  have a3 := vl_rng 5 (pr7 i) (if isFi x w m = true then w else m)
  have a4 := vl_18 (if isFi x w m = true then w else m) (by split <;> omega) (by split <;> omega) (pr7 i) hp.1
  have := h i
  unfold lotP mulP
  omega
theorem muV_tellEq {V : Vw} {a b : Int} (hfr : v_fr V = []) : muV (tellEq V a b) ≤ 1000 * (60 - v_ac V) + 202 := by
  have hb : ∀ b : Bool, (if b = true then (0 : Int) else 1) ≤ 1 := fun b => by cases b <;> decide
  unfold tellEq
  split
  · show 1000 * (60 - v_ac V) + wFrs (v_fr V) + (if (v_fl V || (uni (v_S V) a b).2.1) = true then (0 : Int) else 1) ≤ _
    have := hb (v_fl V || (uni (v_S V) a b).2.1)
    rw [hfr]
    show 1000 * (60 - v_ac V) + 0 + _ ≤ _
    omega
  · show 1000 * (60 - v_ac V) + (wFrs (v_fr V) + (1 + 2 * (100 - 0))) + (if (v_fl V || (uni (v_S V) a b).2.1) = true then (0 : Int) else 1) ≤ _
    have := hb (v_fl V || (uni (v_S V) a b).2.1)
    rw [hfr]
    show 1000 * (60 - v_ac V) + (0 + (1 + 2 * (100 - 0))) + _ ≤ _
    omega
theorem muV_tellTok {V : Vw} {so a b : Int} {la : Bool} {sl : Nat → Bool} (hfr : v_fr V = []) : muV (tellTok V so a b la sl) ≤ 1000 * (60 - v_ac V) + 202 := by
  have hb : ∀ b : Bool, (if b = true then (0 : Int) else 1) ≤ 1 := fun b => by cases b <;> decide
  unfold tellTok
  split
  · show 1000 * (60 - v_ac V) + wFrs (v_fr V) + (if true = true then (0 : Int) else 1) ≤ _
    rw [hfr]
    show 1000 * (60 - v_ac V) + 0 + 0 ≤ _
    omega
  · show 1000 * (60 - v_ac V) + (wFrs (v_fr V) + 1) + (if v_fl V = true then (0 : Int) else 1) ≤ _
    have := hb (v_fl V)
    rw [hfr]
    show 1000 * (60 - v_ac V) + (0 + 1) + _ ≤ _
    omega
theorem ac_tellEq {V : Vw} {a b : Int} : v_ac (tellEq V a b) = v_ac V := by unfold tellEq; split <;> rfl
theorem ac_tellTok {V : Vw} {so a b : Int} {la : Bool} {sl : Nat → Bool} : v_ac (tellTok V so a b la sl) = v_ac V := by unfold tellTok; split <;> rfl
/-- an agent about to act: the act is counted, the agent is out of the queue -/
def HA (E : Ev) (base : Nat) (st : Int) (W : Wo) (l : Lv) (ls : List Lv) (a : Ag) : Prop := (GE E ∧ w_ov W = false) ∧ GV (e_Rs E) (e_md E) (w_V W) ∧ v_fr (w_V W) = [] ∧ v_fl (w_V W) = false ∧ base ≤ (v_hi (w_V W)).length ∧ (0 ≤ w_x W ∧ w_x W < 65537) ∧ (∀ z, 0 ≤ w_tk W z ∧ w_tk W z + 1 ≤ st + v_ac (w_V W)) ∧ (∀ i, -(4 * (st + v_ac (w_V W) - 1)) ≤ w_pw W i ∧ w_pw W i ≤ 4 * (st + v_ac (w_V W) - 1)) ∧ gAg E (v_S (w_V W)) a ∧ (∀ m ∈ l :: ls, gLv E (v_S (w_V W)) m) ∧ gLs E (v_S (w_V W)) base (v_hi (w_V W)).length (l :: ls) ∧ ls.length + 1 ≤ 4 ∧ m1L (l :: ls) + (ls.length + 1) ≤ 59 + v_ac (w_V W) ∧ m2L (l :: ls) + 1 ≤ v_ac (w_V W) ∧ ((w_lg W).length : Int) ≤ v_ac (w_V W)
theorem HA_mk (h : HA E base st W l ls a) {V' : Vw} {x' : Int} {pw' tk' : Int → Int} {ls' : List Lv} (h1 : GV (e_Rs E) (e_md E) V') (h2 : Gr (w_V W) V') (h3 : v_ac V' = v_ac (w_V W)) (h4 : 0 ≤ x' ∧ x' < 65537) (h5 : ∀ z, 0 ≤ tk' z ∧ tk' z ≤ st + v_ac (w_V W)) (h6 : ∀ i, -(4 * (st + v_ac (w_V W))) ≤ pw' i ∧ pw' i ≤ 4 * (st + v_ac (w_V W))) (h7 : ∀ m ∈ ls', gLv E (v_S (w_V W)) m) (h8 : gLs E (v_S (w_V W)) base (v_hi (w_V W)).length ls') (h9 : ls'.length ≤ 4) (h10 : m1L ls' + ls'.length ≤ 61 + v_ac (w_V W)) (h11 : m2L ls' ≤ v_ac (w_V W)) (hmu : muV V' + muL ls' ≤ 1000 * (60 - v_ac (w_V W)) + 202 + muL (l :: ls) + 10) : GW E base st (V', x', pw', tk', ls', w_ov W, w_cs W, w_lg W) ∧ muV V' + muL ls' ≤ 1000 * (60 - v_ac (w_V W)) + 202 + muL (l :: ls) + 10 := by
  obtain ⟨⟨-, qo⟩, -, -, -, q5, -, -, -, -, -, -, -, -, -, q15⟩ := h
  refine ⟨⟨h1, Nat.le_trans q5 h2.2.2.1, h4, fun z => by show 0 ≤ tk' z ∧ tk' z ≤ st + v_ac V'; rw [h3]; exact h5 z, fun m hm => gLv_mono (h7 m hm) h2.1, gLs_mono h2.1 h2.2.1 h8 h2.2.2.1, h9, by show m1L ls' + _ ≤ 61 + v_ac V'; rw [h3]; exact h10, by show (if w_ov W = true then _ else m2L ls' ≤ v_ac V'); rw [qo, if_neg (by decide), h3]; exact h11, ?_, fun i => by show -(4 * (st + v_ac V')) ≤ pw' i ∧ pw' i ≤ 4 * (st + v_ac V'); rw [h3]; exact h6 i⟩, hmu⟩
  show ((w_lg W).length : Int) ≤ v_ac V' + _
  rw [h3]
  split <;> omega
theorem HA_lv (h : HA E base st W l ls a) {V' : Vw} {ls' : List Lv} (h1 : GV (e_Rs E) (e_md E) V') (h2 : Gr (w_V W) V') (h3 : v_ac V' = v_ac (w_V W)) (h7 : ∀ m ∈ ls', gLv E (v_S (w_V W)) m) (h8 : gLs E (v_S (w_V W)) base (v_hi (w_V W)).length ls') (h9 : ls'.length ≤ 4) (h10 : m1L ls' + ls'.length ≤ 61 + v_ac (w_V W)) (h11 : m2L ls' ≤ v_ac (w_V W)) (hmu : muV V' + muL ls' ≤ 1000 * (60 - v_ac (w_V W)) + 202 + muL (l :: ls) + 10) : GW E base st (w_setlv (w_setV W V') ls') ∧ muV V' + muL ls' ≤ 1000 * (60 - v_ac (w_V W)) + 202 + muL (l :: ls) + 10 := by
  have q := h
  obtain ⟨-, -, -, -, -, q6, q7, q8, -⟩ := q
  exact HA_mk (tk' := w_tk W) (pw' := w_pw W) h h1 h2 h3 q6 (fun z => ⟨(q7 z).1, by have := (q7 z).2; omega⟩) (fun i => by have := q8 i; omega) h7 h8 h9 h10 h11 hmu
/-- the levels alone change -/
theorem HA_l1 (h : HA E base st W l ls a) {l' : Lv} (h7 : gLv E (v_S (w_V W)) l') (hk : l'.2.2.2.2 = l.2.2.2.2) (h10 : m1L (l' :: ls) ≤ m1L (l :: ls) + 2) (h11 : m2L (l' :: ls) ≤ m2L (l :: ls) + 1) (hmu : muL (l' :: ls) ≤ muL (l :: ls) + 10) : GW E base st (w_setlv W (l' :: ls)) ∧ muV (w_V W) + muL (l' :: ls) ≤ 1000 * (60 - v_ac (w_V W)) + 202 + muL (l :: ls) + 10 := by
  have q := h
  obtain ⟨-, q2, q3, q4, -, -, -, -, -, q10, q11, q12, q13, q14, -⟩ := q
  refine HA_lv h q2 Gr.rf rfl (fun m hm => ?_) (gLs_head q11 hk) q12 ?_ (by omega) ?_
  · rcases List.mem_cons.mp hm with rfl | hm
    · exact h7
    · exact q10 m (List.mem_cons_of_mem _ hm)
  · show m1L (l' :: ls) + ((ls.length : Int) + 1) ≤ 61 + v_ac (w_V W)
    omega
  · have e : muV (w_V W) = 1000 * (60 - v_ac (w_V W)) + wFrs (v_fr (w_V W)) + (if v_fl (w_V W) = true then 0 else 1) := rfl
    rw [e, q3, q4]
    show 1000 * (60 - v_ac (w_V W)) + 0 + 1 + muL (l' :: ls) ≤ _
    omega
end
