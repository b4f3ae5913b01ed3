/-! SETTLING, as it is meant -/
theorem Ok_lpi {σ ρ : Type} {f : σ → Option (σ ⊕ ρ)} {Q : ρ → Prop} (I : Nat → σ → Prop) (hstep : ∀ n s, I n s → Ok (f s) (PL (fun s' => ∃ m, m < n ∧ I m s') Q)) {n : Nat} {s : σ} (h0 : I n s) (hn : n < 18446744073709551616) : Ok (lp f s) Q := by
  have key : ∀ (k n : Nat) (s : σ), I n s → n < k → Ok (lpF f k s) Q := by
    intro k
    induction k with
    | zero => intro n s _ h; omega
    | succ k ih =>
      intro n s hI hm
      obtain ⟨x, e, hx⟩ := hstep n s hI
      unfold lpF
      rw [e]
      cases x with
      | inl s' =>
        obtain ⟨m, hmn, hI'⟩ := hx
        exact ih m s' hI' (by omega)
      | inr r => exact ⟨r, rfl, hx⟩
  exact key fuel n s h0 hn
abbrev doneV (V : Vw) : Prop := (v_fr V).length = 0 ∨ v_fl V = true
def advs (Rs : Int → Rl) (made : Int) : Nat → Vw → Vw
  | 0, V => V
  | n + 1, V => advs Rs made n (if doneV V then V else adv V Rs made)
def Ends (Rs : Int → Rl) (made : Int) (V Vf : Vw) : Prop := ∃ n, advs Rs made n V = Vf ∧ doneV Vf
/-- what more stays good: the history of single heads; how long it is; places; what wakes -/
def XV (Rs : Int → Rl) (made B : Int) (V : Vw) : Prop := GV Rs made V ∧ (∀ e ∈ v_hi V, l_hd (Rs e.1) < 2 → e.2.2 = 0) ∧ ((v_hi V).length : Int) ≤ B + v_ac V ∧ (∀ t p, .inl (t, p) ∈ v_fr V → p ≤ 200 * made) ∧ ∀ a m, .inr (.inl (a, m)) ∈ v_fr V → ∀ k : Nat, m k = true → (k : Int) < s_nt (v_S V)
section
variable {Rs : Int → Rl} {made B : Int} {V V' Vf : Vw}
theorem Ends_rf (h : doneV V) : Ends Rs made V V := ⟨0, rfl, h⟩
theorem Ends_adv (hn : ¬ doneV V) (h : Ends Rs made (adv V Rs made) Vf) : Ends Rs made V Vf := by
  obtain ⟨n, h1, h2⟩ := h
  refine ⟨n + 1, ?_, h2⟩
  show advs Rs made n (if doneV V then V else adv V Rs made) = Vf
  rw [if_neg hn]
  exact h1
theorem Ends_skip (hn : ¬ doneV V) (hn' : ¬ doneV V') (he : adv V' Rs made = adv V Rs made) (h : Ends Rs made V' Vf) : Ends Rs made V Vf := by
  obtain ⟨n, h1, h2⟩ := h
  cases n with
  | zero =>
    have h1' : V' = Vf := h1
    subst h1'
    exact absurd h2 hn'
  | succ n =>
    have h1' : advs Rs made n (if doneV V' then V' else adv V' Rs made) = Vf := h1
    rw [if_neg hn', he] at h1'
    exact Ends_adv hn ⟨n, h1', h2⟩
theorem advs_done (h : doneV V) : ∀ n, advs Rs made n V = V := by
  intro n
  induction n with
  | zero => rfl
  | succ n ih =>
    show advs Rs made n (if doneV V then V else adv V Rs made) = V
    rw [if_pos h]
    exact ih
theorem Ends_uni {V1 V2 : Vw} (h1 : Ends Rs made V V1) (h2 : Ends Rs made V V2) : V1 = V2 := by
  obtain ⟨n, e1, o1⟩ := h1
  obtain ⟨m, e2, o2⟩ := h2
  have key : ∀ (n m : Nat) (V : Vw), doneV (advs Rs made n V) → n ≤ m → advs Rs made m V = advs Rs made n V := by
    intro n
    induction n with
    | zero => intro m V h _; exact advs_done h m
    | succ n ih =>
      intro m V h hm
      obtain ⟨k, rfl⟩ : ∃ k, m = k + 1 := ⟨m - 1, by omega⟩
      exact ih k _ h (by omega)
  rcases Nat.le_total n m with h | h
  · rw [← e1, ← e2]
    exact (key n m V (by rw [e1]; exact o1) h).symm
  · rw [← e1, ← e2]
    exact key m n V (by rw [e2]; exact o2) h
theorem XV_setfr (hX : XV Rs made B V) {fr : List Frm} (hG : GV Rs made (v_setfr V fr)) (h1 : ∀ t p, .inl (t, p) ∈ fr → p ≤ 200 * made) (h2 : ∀ a m, .inr (.inl (a, m)) ∈ fr → ∀ k : Nat, m k = true → (k : Int) < s_nt (v_S V)) : XV Rs made B (v_setfr V fr) := ⟨hG, hX.2.1, hX.2.2.1, h1, h2⟩
theorem XV_tellTok (hX : XV Rs made B V) (hn : s_nt (v_S V) ≤ 100) {so a b : Int} {la : Bool} {sl : Nat → Bool} (hG : GV Rs made (tellTok V so a b la sl)) : XV Rs made B (tellTok V so a b la sl) := by
  obtain ⟨x1, x2, x3, x4, x5⟩ := hX
  have hm := x1.2.2.1
  refine ⟨hG, ?_⟩
  unfold tellTok
  split
  · exact ⟨x2, x3, x4, x5⟩
  · refine ⟨x2, x3, fun t p hm2 => ?_, fun a m hm2 k hk => ?_⟩
    · rcases List.mem_cons.mp hm2 with h | h
      · cases h; omega
      · exact x4 t p h
    · rcases List.mem_cons.mp hm2 with h | h
      · cases h
      · have := x5 a m h k hk
        show (k : Int) < s_nt (v_S V) + 1
        omega
theorem XV_tellEq (hX : XV Rs made B V) {a b : Int} (hG : GV Rs made (tellEq V a b)) : XV Rs made B (tellEq V a b) := by
  obtain ⟨x1, x2, x3, x4, x5⟩ := hX
  have hu := uni_n (S := v_S V) (a := a) (b := b)
  refine ⟨hG, ?_⟩
  unfold tellEq
  split
  · refine ⟨x2, x3, x4, fun a' m hm k hk => ?_⟩
    show (k : Int) < s_nt (uni (v_S V) a b).2.2
    rw [hu.2]
    exact x5 a' m hm k hk
  · refine ⟨x2, x3, fun t p hm => ?_, fun a' m hm k hk => ?_⟩
    · rcases List.mem_cons.mp hm with h | h
      · cases h
      · exact x4 t p h
    · show (k : Int) < s_nt (uni (v_S V) a b).2.2
      rcases List.mem_cons.mp hm with h | h
      · cases h
        unfold wmask at hk
        rw [Bool.and_eq_true] at hk
        exact of_decide_eq_true hk.1
      · rw [hu.2]
        exact x5 a' m h k hk
theorem XV_fire (hX : XV Rs made B V) {w one two : Int} {bd : Int → Int} (hG : GV Rs made (fireV V Rs w one two bd)) (h2 : l_hd (Rs w) < 2 → two = -1) : XV Rs made B (fireV V Rs w one two bd) := by
  obtain ⟨x1, x2, x3, x4, x5⟩ := hX
  refine ⟨hG, ?_⟩
  unfold fireV
  split
  · refine ⟨fun e he => ?_, ?_, fun t p hm => ?_, fun a m hm k hk => ?_⟩
    · have he' : e ∈ (if rmNone (Rs w) = true then v_hi V ++ [(w, one, mx0 two)] else v_hi V) := he
      split at he'
      · rcases List.mem_append.mp he' with h | h
        · exact x2 e h
        · rw [List.mem_singleton.mp h]
          intro hh
          show mx0 two = 0
          rw [h2 hh]
          rfl
      · exact x2 e he'
    · show (((if rmNone (Rs w) = true then v_hi V ++ [(w, one, mx0 two)] else v_hi V).length : Nat) : Int) ≤ B + (v_ac V + 1)
      split
      · rw [List.length_append, List.length_singleton]; omega
      · omega
    · rcases List.mem_cons.mp hm with h | h
      · cases h
      · exact x4 t p h
    · rcases List.mem_cons.mp hm with h | h
      · cases h
      · exact x5 a m h k hk
  · exact ⟨x2, x3, x4, x5⟩
theorem adv_X (hX : XV Rs made B V) (hf : v_fl V = false) (hn : ¬ v_fr V = []) : XV Rs made B (adv V Rs made) := by
  have hg := (adv_good hX.1 hf hn).1
  obtain ⟨x1, x2, x3, x4, x5⟩ := id hX
  obtain ⟨S, fr, hi, fi, ac, fl⟩ := V
  have gn := x1.1.1
  cases fr with
  | nil => exact absurd rfl hn
  | cons f rest =>
    have hr4 : ∀ t p, .inl (t, p) ∈ rest → p ≤ 200 * made := fun t p h => x4 t p (List.mem_cons_of_mem _ h)
    have hr5 : ∀ a m, .inr (.inl (a, m)) ∈ rest → ∀ k : Nat, m k = true → (k : Int) < s_nt S := fun a m h => x5 a m (List.mem_cons_of_mem _ h)
    rcases f with ⟨t, p⟩ | ⟨a, m⟩ | ⟨w, k, bd, sl, la⟩
    · have hg' : GV Rs made (advA (S, Sum.inl (t, p) :: rest, hi, fi, ac, fl) Rs made t p rest) := hg
      show XV Rs made B (advA (S, Sum.inl (t, p) :: rest, hi, fi, ac, fl) Rs made t p rest)
      have hs := fnd_spec (P := fun z => (canF S Rs hi t z).isSome) (aEnd S made t - p).toNat p
      have hend : aEnd S made t ≤ made * 200 := by
        have := x1.2.2.1
        unfold aEnd; split <;> omega
      unfold advA at hg' ⊢
      have hz : aNext (S, Sum.inl (t, p) :: rest, hi, fi, ac, fl) Rs made t p = -1 ∨ aNext (S, Sum.inl (t, p) :: rest, hi, fi, ac, fl) Rs made t p < aEnd S made t := by
        rcases hs with ⟨h, -⟩ | ⟨h1, h2, -⟩
        · exact Or.inl h
        · refine Or.inr ?_
          have h2' : aNext (S, Sum.inl (t, p) :: rest, hi, fi, ac, fl) Rs made t p < p + ((aEnd S made t - p).toNat : Int) := h2
          have h1' : p ≤ aNext (S, Sum.inl (t, p) :: rest, hi, fi, ac, fl) Rs made t p := h1
          omega
      generalize aNext (S, Sum.inl (t, p) :: rest, hi, fi, ac, fl) Rs made t p = z at hg' hz ⊢
      by_cases c : z = -1
      · rw [if_pos c] at hg' ⊢
        exact XV_setfr hX hg' hr4 hr5
      · rw [if_neg c] at hg' ⊢
        cases hc : canF S Rs hi t z with
        | none =>
          have hc' : canF (v_S (S, Sum.inl (t, p) :: rest, hi, fi, ac, fl)) Rs (v_hi (S, Sum.inl (t, p) :: rest, hi, fi, ac, fl)) t z = none := hc
          rw [hc'] at hg'
          exact XV_setfr hX hg' hr4 hr5
        | some bd =>
          have hc' : canF (v_S (S, Sum.inl (t, p) :: rest, hi, fi, ac, fl)) Rs (v_hi (S, Sum.inl (t, p) :: rest, hi, fi, ac, fl)) t z = some bd := hc
          rw [hc'] at hg'
          obtain ⟨c1, -⟩ := canF_spec hc
          have hX2 : (∀ e ∈ hi, l_hd (Rs e.1) < 2 → e.2.2 = 0) ∧ ((hi.length : Int) ≤ B + ac) ∧ (∀ t' p', .inl (t', p') ∈ (Sum.inl (t, z + 1) :: rest : List Frm) → p' ≤ 200 * made) ∧ ∀ a m, .inr (.inl (a, m)) ∈ (Sum.inl (t, z + 1) :: rest : List Frm) → ∀ k : Nat, m k = true → (k : Int) < s_nt S := by
            refine ⟨x2, x3, fun t' p' hm => ?_, fun a m hm => ?_⟩
            · rcases List.mem_cons.mp hm with h | h
              · cases h; omega
              · exact hr4 t' p' h
            · rcases List.mem_cons.mp hm with h | h
              · cases h
              · exact hr5 a m h
          -- the firing keeps what the view with the place moved on has
          have h2 : l_hd (Rs (z / 200)) < 2 → cTwo (Rs (z / 200)) (z / 100 % 2) t (z % 100) = -1 := by
            intro h
            unfold cTwo
            rw [if_pos (by omega), if_neg (by omega)]
          obtain ⟨y2, y3, y4, y5⟩ := hX2
          refine ⟨hg', ?_⟩
          show (∀ e ∈ v_hi (fireV (v_setfr (S, Sum.inl (t, p) :: rest, hi, fi, ac, fl) (Sum.inl (t, z + 1) :: rest)) Rs (z / 200) _ _ bd), _) ∧ _ ∧ _ ∧ _
          unfold fireV
          split
          · refine ⟨fun e he => ?_, ?_, fun t' p' hm => ?_, fun a m hm k hk => ?_⟩
            · have he' : e ∈ (if rmNone (Rs (z / 200)) = true then hi ++ [(z / 200, cOne (Rs (z / 200)) (z / 100 % 2) t (z % 100), mx0 (cTwo (Rs (z / 200)) (z / 100 % 2) t (z % 100)))] else hi) := he
              split at he'
              · rcases List.mem_append.mp he' with h | h
                · exact y2 e h
                · rw [List.mem_singleton.mp h]
                  intro hh
                  show mx0 (cTwo (Rs (z / 200)) (z / 100 % 2) t (z % 100)) = 0
                  rw [h2 hh]
                  rfl
              · exact y2 e he'
            · show (((if rmNone (Rs (z / 200)) = true then hi ++ [(z / 200, cOne (Rs (z / 200)) (z / 100 % 2) t (z % 100), mx0 (cTwo (Rs (z / 200)) (z / 100 % 2) t (z % 100)))] else hi).length : Nat) : Int) ≤ B + (ac + 1)
              split
              · rw [List.length_append, List.length_singleton]; omega
              · omega
            · rcases List.mem_cons.mp hm with h | h
              · cases h
              · exact y4 t' p' h
            · rcases List.mem_cons.mp hm with h | h
              · cases h
              · exact y5 a m h k hk
          · exact ⟨y2, y3, y4, y5⟩
    · have hg' : GV Rs made (advW (S, Sum.inr (Sum.inl (a, m)) :: rest, hi, fi, ac, fl) a m rest) := hg
      show XV Rs made B (advW (S, Sum.inr (Sum.inl (a, m)) :: rest, hi, fi, ac, fl) a m rest)
      have hm5 := x5 a m List.mem_cons_self
      unfold advW at hg' ⊢
      by_cases c : wNext (v_S (S, Sum.inr (Sum.inl (a, m)) :: rest, hi, fi, ac, fl)) a m = -1
      · rw [if_pos c] at hg' ⊢
        exact XV_setfr hX hg' hr4 hr5
      · rw [if_neg c] at hg' ⊢
        have hmd := x1.2.2.1
        refine XV_setfr hX hg' (fun t p hm => ?_) (fun a' m' hm => ?_)
        · rcases List.mem_cons.mp hm with h | h
          · cases h; omega
          · rcases List.mem_cons.mp h with h | h
            · cases h
            · exact hr4 t p h
        · rcases List.mem_cons.mp hm with h | h
          · cases h
          · rcases List.mem_cons.mp h with h | h
            · cases h; exact hm5
            · exact hr5 a' m' h
    · have hg' : GV Rs made (advB (S, Sum.inr (Sum.inr (w, k, bd, sl, la)) :: rest, hi, fi, ac, fl) Rs w k bd sl la rest) := hg
      show XV Rs made B (advB (S, Sum.inr (Sum.inr (w, k, bd, sl, la)) :: rest, hi, fi, ac, fl) Rs w k bd sl la rest)
      unfold advB at hg' ⊢
      have hG1 : GV Rs made (v_setfr (S, Sum.inr (Sum.inr (w, k, bd, sl, la)) :: rest, hi, fi, ac, fl) (.inr (.inr (w, k + 1, bd, sl, la)) :: rest)) ∨ l_nb (Rs w) ≤ k := by
        by_cases hk : l_nb (Rs w) ≤ k
        · exact Or.inr hk
        · refine Or.inl (GV_setfr x1 (fun f hm => ?_) x1.2.2.2.2.2.1 x1.2.2.2.2.2.2.1)
          rcases List.mem_cons.mp hm with rfl | hm
          · obtain ⟨q1, q2, q3, q4⟩ : gFrm S Rs made (.inr (.inr (w, k, bd, sl, la))) := x1.2.2.2.2.1 _ List.mem_cons_self
            exact ⟨q1, ⟨by omega, by omega⟩, q3, q4⟩
          · exact x1.2.2.2.2.1 f (List.mem_cons_of_mem _ hm)
      by_cases hk : l_nb (Rs w) ≤ k
      · rw [if_pos hk] at hg' ⊢
        exact XV_setfr hX hg' hr4 hr5
      · rw [if_neg hk] at hg' ⊢
        have hX1 : XV Rs made B (v_setfr (S, Sum.inr (Sum.inr (w, k, bd, sl, la)) :: rest, hi, fi, ac, fl) (.inr (.inr (w, k + 1, bd, sl, la)) :: rest)) := by
          refine XV_setfr hX (hG1.resolve_right hk) (fun t p hm => ?_) (fun a m hm => ?_)
          · rcases List.mem_cons.mp hm with h | h
            · cases h
            · exact hr4 t p h
          · rcases List.mem_cons.mp hm with h | h
            · cases h
            · exact hr5 a m h
        by_cases hc : l_bs (Rs w) k = -1
        · rw [if_pos hc] at hg' ⊢
          exact XV_tellEq hX1 hg'
        · rw [if_neg hc] at hg' ⊢
          exact XV_tellTok hX1 gn.2.2.2 hg'
end
