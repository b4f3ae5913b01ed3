/-! THE LAW: an end, as it is meant -/
def posE (x : Int) (l : List Int) : Nat → Nat
  | 0 => 0
  | k + 1 => if l.getD k 0 ≤ x then k + 1 else posE x l k
def insE (x : Int) (l : List Int) : List Int := l.take (posE x l l.length) ++ x :: l.drop (posE x l l.length)
theorem posE_le {x : Int} {l : List Int} : ∀ k, posE x l k ≤ k := by
  intro k
  induction k with
  | zero => exact Nat.le_refl _
  | succ k ih =>
    unfold posE
    split
    · exact Nat.le_refl _
    · omega
theorem ins_get {l : List Int} {x : Int} {k i : Nat} (hk : k ≤ l.length) : (l.take k ++ x :: l.drop k)[i]? = if i < k then l[i]? else if i = k then some x else l[i - 1]? := by
  have hl : (l.take k).length = k := by rw [List.length_take]; omega
  by_cases c : i < k
  · rw [if_pos c, List.getElem?_append_left (by omega), List.getElem?_take, if_pos c]
  · rw [if_neg c, List.getElem?_append_right (by omega), hl]
    by_cases c2 : i = k
    · rw [if_pos c2, c2, Nat.sub_self]; rfl
    · rw [if_neg c2]
      obtain ⟨j, rfl⟩ : ∃ j, i = k + 1 + j := ⟨i - k - 1, by omega⟩
      rw [show k + 1 + j - k = j + 1 by omega, List.getElem?_cons_succ, List.getElem?_drop, show k + 1 + j - 1 = k + j by omega]
theorem insE_len {x : Int} {l : List Int} : (insE x l).length = l.length + 1 := by
  have := posE_le (x := x) (l := l) l.length
  unfold insE
  rw [List.length_append, List.length_cons, List.length_take, List.length_drop]
  omega
/-- from the reference's code to the class's -/
def gC (c : Int) : Int := c / 600 / 600 * 1048576 + c / 600 % 600 * 1024 + c % 600
theorem gC_le {x y : Int} (hx : 0 ≤ x) (hy : 0 ≤ y) : gC y ≤ gC x ↔ y ≤ x := by
  unfold gC
  omega
theorem gC_inj {x y : Int} (hx : 0 ≤ x) (hy : 0 ≤ y) (h : gC x = gC y) : x = y := by
  have h1 := (gC_le hx hy).mp (by omega)
  have h2 := (gC_le hy hx).mp (by omega)
  omega
theorem posE_map {x : Int} {l : List Int} (hx : 0 ≤ x) (hl : ∀ y ∈ l, 0 ≤ y) : ∀ k, k ≤ l.length → posE (gC x) (l.map gC) k = posE x l k := by
  intro k
  induction k with
  | zero => intro _; rfl
  | succ k ih =>
    intro hk
    have hk' : k < l.length := hk
    have h1 : l.getD k 0 = l[k] := by rw [List.getD_eq_getElem?_getD, List.getElem?_eq_getElem hk']; rfl
    have h2 : (l.map gC).getD k 0 = gC l[k] := by rw [List.getD_eq_getElem?_getD, List.getElem?_map, List.getElem?_eq_getElem hk']; rfl
    have hm := gC_le hx (hl _ (List.getElem_mem hk'))
    unfold posE
    rw [h1, h2, ih (by omega)]
    by_cases c : l[k] ≤ x
    · rw [if_pos c, if_pos (hm.mpr c)]
    · rw [if_neg c, if_neg (fun q => c (hm.mp q))]
theorem insE_map {x : Int} {l : List Int} (hx : 0 ≤ x) (hl : ∀ y ∈ l, 0 ≤ y) : insE (gC x) (l.map gC) = (insE x l).map gC := by
  unfold insE
  rw [List.length_map, posE_map hx hl _ (Nat.le_refl _), List.map_append, List.map_cons, List.map_take, List.map_drop]
/-- a token's code -/
def codE (S : Sto) (t : Int) : Int := ((2 * s_so S t + (if s_la S t = true then 1 else 0)) * 600 + form S (s_fi S t) + 99) * 600 + form S (s_se S t) + 99
def codsE (S : Sto) : Nat → List Int
  | 0 => []
  | n + 1 => if s_sd S n = true then insE (codE S n) (codsE S n) else codsE S n
abbrev ERc : Type := Bool × List Int × List Int
def valE (S : Sto) (i : Nat) : Int := s_va S (s_cl S i)
def erecE (n0 : Nat) (V : Vw) : ERc := (v_fl V, (List.range n0).map (valE (v_S V)), codsE (v_S V) (s_nt (v_S V)).toNat)
theorem form_rng2 {S : Sto} (hG : GS S) {t : Int} (ht : tm (s_nv S) t) : -99 ≤ form S t ∧ form S t ≤ 459 := by
  obtain ⟨⟨g0, g1, g2, g3⟩, h1, h2, -⟩ := hG
  unfold tm at ht
  unfold form
  by_cases c : t - 400 < 0
  · rw [if_pos c]; omega
  · rw [if_neg c]
    by_cases c2 : t - 400 < s_nv S
    · rw [if_pos c2]
      have a := h1 (t - 400) (by omega) c2
      have b := h2 _ a.1 a.2
      split <;> omega
    · omega
theorem codE_rng {S : Sto} (hG : GS S) {t : Int} (t0 : 0 ≤ t) (t1 : t < s_nt S) : 0 ≤ codE S t ∧ codE S t < 4320000 ∧ gC (codE S t) = ((2 * s_so S t + (if s_la S t = true then 1 else 0)) * 1024 + form S (s_fi S t) + 99) * 1024 + form S (s_se S t) + 99 ∧ gC (codE S t) < 13000000 := by
  have h1 := hG.2.2.2.1 t t0 t1
  have h2 := form_rng2 hG (hG.2.2.2.2.1 t t0 t1)
  have h3 := form_rng2 hG (hG.2.2.2.2.2 t t0 t1)
  unfold gC codE
  generalize form S (s_fi S t) = f at *
  generalize form S (s_se S t) = g at *
  generalize s_so S t = o at *
  split <;> omega
theorem codsE_rng {S : Sto} (hG : GS S) : ∀ n : Nat, (n : Int) ≤ s_nt S → (∀ y ∈ codsE S n, 0 ≤ y ∧ y < 4320000 ∧ 0 ≤ gC y ∧ gC y < 13000000) ∧ ((codsE S n).length : Int) = cnt (s_sd S) n ∧ (codsE S n).length ≤ n := by
  intro n
  induction n with
  | zero => intro _; exact ⟨fun y hy => (by cases hy), rfl, Nat.le_refl _⟩
  | succ n ih =>
    intro hn
    obtain ⟨h1, h2, h3⟩ := ih (by omega)
    obtain ⟨c0, c1, c2, c3⟩ := codE_rng hG (t := n) (by omega) (by omega)
    have c4 : 0 ≤ gC (codE S n) := by
      have := (gC_le c0 (Int.le_refl 0)).mpr c0
      have z : gC 0 = 0 := rfl
      omega
    unfold codsE cnt
    by_cases c : s_sd S n = true
    · rw [if_pos c]
      refine ⟨fun y hy => ?_, ?_, ?_⟩
      · unfold insE at hy
        rcases List.mem_append.mp hy with h | h
        · exact h1 y (List.mem_of_mem_take h)
        · rcases List.mem_cons.mp h with h | h
          · rw [h]; exact ⟨c0, c1, c4, c3⟩
          · exact h1 y (List.mem_of_mem_drop h)
      · rw [insE_len]
        rw [if_pos c]
        omega
      · rw [insE_len]; omega
    · rw [if_neg c]
      refine ⟨h1, ?_, by omega⟩
      rw [if_neg c]
      omega
theorem codsE_map {S : Sto} (hG : GS S) {n : Nat} (hn : (n : Int) < s_nt S) (c : s_sd S n = true) : (codsE S (n + 1)).map gC = insE (gC (codE S n)) ((codsE S n).map gC) := by
  rw [insE_map (codE_rng hG (t := n) (by omega) hn).1 (fun y hy => ((codsE_rng hG n (by omega)).1 y hy).1)]
  show (if s_sd S n = true then _ else _ : List Int).map gC = _
  rw [if_pos c]
