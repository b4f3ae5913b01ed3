/-! THE LAW: the class turns to the next schedule -/
theorem bz_get0 : ∀ (t a : List Int) (j : Nat) (p : Int × Nat), (bz (a ++ t))[j]? = some p → (bz a).length ≤ j → ∃ a' t', a ++ t = a' ++ p.1 :: t' ∧ a'.length = p.2 ∧ (bz a').length = j ∧ 2 ≤ p.1 := by
  intro t
  induction t with
  | nil =>
    intro a j p h hj
    rw [List.append_nil] at h
    have := (List.getElem?_eq_some_iff.mp h).1
    omega
  | cons x t ih =>
    intro a j p h hj
    have e : a ++ x :: t = (a ++ [x]) ++ t := by rw [List.append_assoc]; rfl
    by_cases c : (bz (a ++ [x])).length ≤ j
    · rw [e] at h ⊢
      exact ih _ j p h c
    · rw [bz_app, List.length_append] at c
      by_cases hx : 2 ≤ x
      · rw [if_pos hx, List.length_singleton] at c
        have hj2 : j = (bz a).length := by omega
        subst hj2
        rw [bz_at hx] at h
        have hp : (x, a.length) = p := Option.some.inj h
        subst hp
        exact ⟨a, t, rfl, rfl, rfl, hx⟩
      · rw [if_neg hx, List.length_nil] at c
        omega
theorem bz_get {lg : List Int} {j : Nat} {p : Int × Nat} (h : (bz lg)[j]? = some p) : lg[p.2]? = some p.1 ∧ 2 ≤ p.1 ∧ (bz (lg.take p.2)).length = j := by
  obtain ⟨a, t, h1, h2, h3, h4⟩ := bz_get0 lg [] j p h (Nat.zero_le _)
  rw [List.nil_append] at h1
  refine ⟨?_, h4, ?_⟩
  · rw [h1, ← h2, List.getElem?_append_right (Nat.le_refl _), Nat.sub_self]
    rfl
  · rw [h1, ← h2, List.take_append, List.take_length, Nat.sub_self, List.take_zero, List.append_nil]
    exact h3
theorem bz_lt {lg : List Int} {i i' : Nat} {s : Int} (h : lg[i]? = some s) (hs : 2 ≤ s) (hi : i < i') : (bz (lg.take i)).length < (bz (lg.take i')).length := by
  obtain ⟨h1, h2⟩ := cut_at h
  have h3 : lg = (lg.take i ++ [s]) ++ lg.drop (i + 1) := by
    rw [List.append_assoc]; exact h1
  obtain ⟨u, hu⟩ := pre_take (i := i') h3 (by rw [List.length_append, List.length_singleton, h2]; omega)
  obtain ⟨v, hv⟩ := bz_pre (lg.take i ++ [s]) u
  rw [hu, hv, bz_app, if_pos hs, List.length_append, List.length_append, List.length_singleton]
  omega
section
variable {σ : St} {δ d : Dy} {E : Ev} {ch cs : Nat → Nat} {lg : List Int} {W Wf : Wo} {pl base : Nat} {st : Int}
/-- what is logged -/
theorem lg_rng (gE : GE E) (hG : GW E base st W) (hc : ∀ n, okCh ch (turns E ch W n)) (h0 : w_lg W = []) : ∀ (n j : Nat) (s : Int), (w_lg (turns E ch W n))[j]? = some s → 1 ≤ s ∧ s ≤ 121 ∧ (ch j : Int) < s := by
  intro n
  induction n with
  | zero =>
    intro j s h
    have h' : (w_lg W)[j]? = some s := h
    rw [h0] at h'
    cases h'
  | succ n ih =>
    intro j s h
    have h' : (w_lg (turnW E ch (turns E ch W n)))[j]? = some s := h
    rcases turn_lg (E := E) (W := turns E ch W n) with q | ⟨x, q⟩
    · rw [q.2] at h'
      exact ih j s h'
    · rw [(turn_logs (ch' := ch) q).1] at h'
      by_cases c : j < (w_lg (turns E ch W n)).length
      · rw [List.getElem?_append_left c] at h'
        exact ih j s h'
      · rw [List.getElem?_append_right (by omega)] at h'
        have hj : j = (w_lg (turns E ch W n)).length := by
          have := (List.getElem?_eq_some_iff.mp h').1
          rw [List.length_singleton] at this
          omega
        subst hj
        rw [Nat.sub_self] at h'
        have hx : x = s := Option.some.inj h'
        subst hx
        obtain ⟨a1, a2, a3, l, a4, a5, a6⟩ := q
        have h1 := hc n l a1 a2 a3 a4 a5
        have g := (turns_good gE hG hc n).1
        have g8 := g.2.2.2.2.2.2.2.1
        have gac := g.1.2.1.2
        rw [a4] at g8
        have g8' : (0 + ((l_q l).length : Int) + ((l_w l).length : Int)) + ((0 + 1 : Nat) : Int) ≤ 61 + v_ac (w_V (turns E ch W n)) := g8
        omega
theorem t_sturn (hK : KSu σ 9 8) (hQ : RSu δ 9 pl cs ch lg) (hl : lg.length ≤ 61) (hr : ∀ (j : Nat) (s : Int), lg[j]? = some s → 1 ≤ s ∧ s ≤ 121 ∧ (ch j : Int) < s) : Ok (m_X9_turn σ 9 δ) (fun r => (r.1 = 0 ∧ r.2 = δ ∧ NoNx lg ch) ∨ (r.1 = 1 ∧ ∃ i, Nx lg ch i ∧ RSu r.2 9 ((bz (lg.take i)).length + 1) (planC lg (bumpC ch i)) (bumpC ch i) [] ∧ r.2.1 9 5 = δ.1 9 5 ∧ Fr (fun r => r = 9 ∨ r = 10) δ r.2)) := by
  obtain ⟨-, k0, ⟨k1, k2, k3⟩, D1, D2, D3⟩ := hK
  obtain ⟨⟨q1, q2⟩, q3, q4, q5⟩ := hQ
  have hbl := bz_len (lg := lg)
  have x3 : gI σ δ 9 9 3 = some (ii (bz lg).length) := by rw [gI_ko k0, q3]
  unfold m_X9_turn m_X9_turn_b7
  refine Ok_bind x3 ?_
  have e0 : ii ((bz lg).length : Int) - (1 : Int32) = ii (((bz lg).length : Int) - 1) := by rw [show ((1 : Int32)) = ii 1 from rfl, ii_sub]
  rw [e0]
  refine Ok_lpi (fun n s => s = ii ((n : Int) - 1) ∧ n ≤ (bz lg).length ∧ ∀ j, n ≤ j → ∀ p, (bz lg)[j]? = some p → ¬ (ch p.2 : Int) + 1 < p.1) ?_ (n := (bz lg).length) ⟨rfl, Nat.le_refl _, fun j hj p hp => ?_⟩ (by omega)
  · rintro n s ⟨hs, hn, hno⟩
    subst hs
    match n with
    | 0 =>
      refine Ok_inr (r := ((0 : Int32), δ)) ?_ (Or.inl ⟨rfl, rfl, fun j s hj hlt => ?_⟩)
      · rw [if_pos (show ii (((0 : Nat) : Int) - 1) < 0 by decide)]
      · obtain ⟨h1, h2⟩ := cut_at hj
        have h2s : 2 ≤ s := by omega
        have hb := bz_at (a := lg.take j) (t := lg.drop (j + 1)) h2s
        rw [← h1, h2] at hb
        exact hno _ (Nat.zero_le _) _ hb hlt
    | n + 1 =>
      obtain ⟨p, hp⟩ : ∃ p, (bz lg)[n]? = some p := ⟨_, List.getElem?_eq_getElem (show n < (bz lg).length by omega)⟩
      obtain ⟨b1, b2, b3⟩ := bz_get hp
      obtain ⟨r1, r2, r3⟩ := hr _ _ b1
      obtain ⟨c1, c2⟩ := q4 n p hp
      rw [show (((n + 1 : Nat) : Int) - 1) = (n : Int) by omega]
      have y1 : rI σ δ 10 (ii n) = some (ii (ch p.2)) := rst (z := n) (k := n) D1 (by omega) (by omega) (by omega) c2
      have y2 : rI σ δ 11 (ii n) = some (ii p.1) := rst (z := n) (k := n) D2 (by omega) (by omega) (by omega) c1
      have n0 : (ii (n : Int) < (0 : Int32)) = False := by
        rw [show ((0 : Int32)) = ii 0 from rfl, ii_lt (by omega) (by omega) (by omega) (by omega)]
        exact eq_false (by omega)
      have a1 : ii (ch p.2 : Int) + (1 : Int32) = ii ((ch p.2 : Int) + 1) := by rw [show ((1 : Int32)) = ii 1 from rfl, ii_add]
      have a2 : ii (n : Int) + (1 : Int32) = ii ((n : Int) + 1) := by rw [show ((1 : Int32)) = ii 1 from rfl, ii_add]
      have a3 : ii (n : Int) + (-1 : Int32) = ii ((n : Int) - 1) := by
        rw [show ((-1 : Int32)) = ii (-1) from rfl, ii_add]
        rfl
      have e1 : gR σ 9 9 0 = some 10 := gR_ko k0 k1
      have e2 : gR σ 9 9 1 = some 11 := gR_ko k0 k2
      by_cases c : (ch p.2 : Int) + 1 < p.1
      · have cc : (ii p.1 ≤ ii ((ch p.2 : Int) + 1)) = False := by
          rw [ii_le (by omega) (by omega) (by omega) (by omega)]
          exact eq_false (by omega)
        obtain ⟨d1, w1, v1, o1, F1⟩ := wI_ex (δ := δ) (r := 10) (z := n) (k := n) (x := ii ((ch p.2 : Int) + 1)) D1 (by omega) (by omega) (by omega)
        obtain ⟨d2, w2, v2, o2, F2⟩ := pI_ex (δ := d1) (r := 9) (k := 2) (x := ii ((n : Int) + 1)) k0
        obtain ⟨d3, w3, v3, o3, F3⟩ := pI_ex (δ := d2) (r := 9) (k := 3) (x := 0) k0
        refine Ok_inr (r := ((1 : Int32), d3)) ?_ (Or.inr ⟨rfl, p.2, ⟨⟨p.1, b1, c⟩, fun j s hj hls hlt => ?_⟩, ⟨⟨?_, ?_⟩, ?_, fun j x hx => ?_, fun j _ hj => ?_⟩, ?_, ?_⟩)
        · simp only [n0, ↓reduceIte, e1, e2, y1, y2, ob_some, a1, a2, cc, w1, w2, w3]
        · obtain ⟨h1, h2⟩ := cut_at hls
          have h2s : 2 ≤ s := by omega
          have hb := bz_at (a := lg.take j) (t := lg.drop (j + 1)) h2s
          rw [← h1, h2] at hb
          have := bz_lt b1 b2 hj
          exact hno _ (by omega) _ hb hlt
        · rw [o3 2 (by decide), v2, b3]; rfl
        · omega
        · exact v3
        · have : (bz ([] : List Int))[j]? = none := rfl
          rw [this] at hx
          cases hx
        · rw [(F3 10 (by omega)).1, (F2 10 (by omega)).1]
          rw [b3] at hj
          unfold planC
          by_cases hjn : j = n
          · rw [hjn, v1, hp]
            show ii _ = ii ((bumpC ch p.2 p.2 : Nat) : Int)
            unfold bumpC
            rw [if_neg (Nat.lt_irrefl _), if_pos rfl]
            rfl
          · obtain ⟨p', hp'⟩ : ∃ p', (bz lg)[j]? = some p' := ⟨_, List.getElem?_eq_getElem (show j < (bz lg).length by omega)⟩
            obtain ⟨g1, g2, g3⟩ := bz_get hp'
            rw [o1 j hjn, (q4 j p' hp').2, hp']
            have hlt : p'.2 < p.2 := by
              rcases Nat.lt_trichotomy p'.2 p.2 with c | c | c
              · exact c
              · rw [c] at g3; omega
              · have := bz_lt b1 b2 c; omega
            show ii _ = ii ((bumpC ch p.2 p'.2 : Nat) : Int)
            unfold bumpC
            rw [if_pos hlt]
        · rw [o3 5 (by decide), o2 5 (by decide), (F1 9 (by omega)).1]
        · exact (F1.wk (fun r p => Or.inr p)).tr ((F2.wk (fun r p => Or.inl p)).tr (F3.wk (fun r p => Or.inl p)))
      · have cc : (ii p.1 ≤ ii ((ch p.2 : Int) + 1)) = True := by
          rw [ii_le (by omega) (by omega) (by omega) (by omega)]
          exact eq_true (by omega)
        refine Ok_inl (s' := ii ((n : Int) - 1)) ?_ ⟨n, by omega, rfl, by omega, fun j hj p' hp' => ?_⟩
        · simp only [n0, ↓reduceIte, e1, e2, y1, y2, ob_some, a1, a3, cc]
        · by_cases hjn : j = n
          · rw [hjn, hp] at hp'
            have : p = p' := Option.some.inj hp'
            rw [← this]; exact c
          · exact hno j (by omega) p' hp'
  · have := (List.getElem?_eq_some_iff.mp hp).1
    omega
end
