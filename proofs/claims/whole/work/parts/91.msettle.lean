/-! THE REFERENCE: a round of settling -/
section
variable {σ : St} {δ : Dy} {mo : Nat} {S : Sto} {V : Vw} {Rs : Int → Rl} {R : Rl} {made B : Int} {bd : Int → Int} {rest : List Frm}
theorem RVm_fr (hV : RVm δ mo Rs V) (hG : GS (v_S V)) (hh : (v_hi V).length ≤ 2000) {d : Dy} {fr : List Frm} (hF : Fr (fun r => r = mo ∨ r = mo + 28) δ d) (h1 : ∀ k, ¬ k = 37 → d.1 mo k = δ.1 mo k) (h2 : d.1 mo 37 = ii fr.length) (h3 : RMfr Rs d mo fr) : RVm d mo Rs (v_setfr V fr) ∧ FM mo δ d := by
  obtain ⟨hS, ⟨f1, f2, f3⟩, hfr, hhi, hfi⟩ := hV
  exact ⟨⟨RSm_eq hS hG (fun k _ => by rw [(hF (mo + 1) (by omega)).1]), ⟨by rw [h1 34 (by decide)]; exact f1, by rw [h1 35 (by decide)]; exact f2, h2⟩, h3, RMh_eq hhi (fun k _ _ => by rw [(hF (mo + 1) (by omega)).1]) hh, fun w hw => by rw [(hF (mo + 1) (by omega)).1]; exact hfi w hw⟩, fun r hr => hF r (by omega), fun k hk => h1 k (by omega), fun k _ => by rw [(hF (mo + 1) (by omega)).1]⟩
/-- the attempt at a place, as the reference makes it -/
theorem canF_one {hi : Hst} {t p : Int} (hhd : l_hd (Rs (p / 200)) = 1) (h1 : p / 100 % 2 = 0) (h3 : p % 100 = 0) : canF S Rs hi t p = canM S (Rs (p / 200)) (p / 200) hi t (-1) := by
  unfold canF canM
  rw [h1, h3, hhd]
  have c1 : cOne (Rs (p / 200)) 0 t 0 = t := by unfold cOne; rw [if_pos rfl]
  have c2 : cTwo (Rs (p / 200)) 0 t 0 = -1 := by unfold cTwo; rw [if_pos rfl, if_neg (by omega)]
  have c3 : partn S (Rs (p / 200)) 0 t 0 = true := by unfold partn; rw [decide_eq_true (by omega), Bool.true_or]
  rw [c1, c2, c3]
  rw [if_neg (show ¬ (1 : Int) ≤ 0 by decide)]
  by_cases hs : l_so (Rs (p / 200)) 0 = s_so S t
  · rw [if_neg (not_not_intro hs), if_neg (show ¬ (if (2 : Int) ≤ 1 then s_nt S else 1) ≤ 0 by rw [if_neg (by decide)]; decide), if_neg (by decide), if_pos (show l_so (Rs (p / 200)) 0 = s_so S t ∧ ((1 : Int) < 2 ∨ l_so (Rs (p / 200)) 1 = s_so S (-1)) from ⟨hs, Or.inl (by decide)⟩)]
  · rw [if_pos hs, if_neg (fun h => hs h.1)]
theorem canF_two {hi : Hst} {t p : Int} (hhd : l_hd (Rs (p / 200)) = 2) (h3 : p % 100 < s_nt S) : canF S Rs hi t p = if ¬ p % 100 = t ∧ s_sd S (p % 100) = true then canM S (Rs (p / 200)) (p / 200) hi (if p / 100 % 2 = 0 then t else p % 100) (if p / 100 % 2 = 0 then p % 100 else t) else none := by
  unfold canF
  have hh : p / 100 % 2 = 0 ∨ p / 100 % 2 = 1 := by omega
  have c1 : cOne (Rs (p / 200)) (p / 100 % 2) t (p % 100) = if p / 100 % 2 = 0 then t else p % 100 := by unfold cOne; rw [if_pos (show 2 ≤ l_hd (Rs (p / 200)) by omega)]
  have c2 : cTwo (Rs (p / 200)) (p / 100 % 2) t (p % 100) = if p / 100 % 2 = 0 then p % 100 else t := by unfold cTwo; rw [if_pos (show 2 ≤ l_hd (Rs (p / 200)) by omega)]
  rw [c1, c2, hhd, if_neg (show ¬ (2 : Int) ≤ p / 100 % 2 by omega), if_neg (show ¬ (if (2 : Int) ≤ 2 then s_nt S else 1) ≤ p % 100 by rw [if_pos (by decide)]; omega)]
  have cp : partn S (Rs (p / 200)) (p / 100 % 2) t (p % 100) = (!decide (p % 100 = t) && (s_sd S (p % 100) && decide (s_so S (p % 100) = l_so (Rs (p / 200)) (if p / 100 % 2 = 0 then 1 else 0)))) := by unfold partn; rw [hhd, decide_eq_false (by decide), Bool.false_or]
  rw [cp]
  by_cases hk : ¬ p % 100 = t ∧ s_sd S (p % 100) = true
  · rw [if_pos hk, hk.2, decide_eq_false hk.1, Bool.not_false, Bool.true_and, Bool.true_and]
    unfold canM
    rw [hhd]
    rcases hh with h | h
    · rw [h, if_pos rfl, if_pos rfl, if_pos rfl]
      by_cases hs : l_so (Rs (p / 200)) 0 = s_so S t
      · rw [if_neg (not_not_intro hs)]
        by_cases hs2 : s_so S (p % 100) = l_so (Rs (p / 200)) 1
        · rw [decide_eq_true hs2, if_neg (by decide), if_pos (show l_so (Rs (p / 200)) 0 = s_so S t ∧ ((2 : Int) < 2 ∨ l_so (Rs (p / 200)) 1 = s_so S (p % 100)) from ⟨hs, Or.inr hs2.symm⟩)]
        · rw [decide_eq_false hs2, if_pos rfl, if_neg (fun hc => by rcases hc.2 with h2 | h2; omega; exact hs2 h2.symm)]
      · rw [if_pos hs, if_neg (fun hc => hs hc.1)]
    · rw [h, if_neg (show ¬ (1 : Int) = 0 by decide), if_neg (show ¬ (1 : Int) = 0 by decide), if_neg (show ¬ (1 : Int) = 0 by decide)]
      by_cases hs : l_so (Rs (p / 200)) 1 = s_so S t
      · rw [if_neg (not_not_intro hs)]
        by_cases hs2 : s_so S (p % 100) = l_so (Rs (p / 200)) 0
        · rw [decide_eq_true hs2, if_neg (by decide), if_pos (show l_so (Rs (p / 200)) 0 = s_so S (p % 100) ∧ ((2 : Int) < 2 ∨ l_so (Rs (p / 200)) 1 = s_so S t) from ⟨hs2.symm, Or.inr hs⟩)]
        · rw [decide_eq_false hs2, if_pos rfl, if_neg (fun hc => hs2 hc.1.symm)]
      · rw [if_pos hs, if_neg (fun hc => by rcases hc.2 with h2 | h2; omega; exact hs h2)]
  · rw [if_neg hk]
    by_cases hs : l_so (Rs (p / 200)) (p / 100 % 2) = s_so S t
    · rw [if_neg (not_not_intro hs)]
      have : (!decide (p % 100 = t) && (s_sd S (p % 100) && decide (s_so S (p % 100) = l_so (Rs (p / 200)) (if p / 100 % 2 = 0 then 1 else 0)))) = false := by
        by_cases h1 : p % 100 = t
        · rw [decide_eq_true h1]; rfl
        · have h2 : s_sd S (p % 100) = false := by
            cases h3 : s_sd S (p % 100) with
            | false => rfl
            | true => exact absurd ⟨h1, h3⟩ hk
          rw [h2, Bool.false_and, Bool.and_false]
      rw [this, if_pos rfl]
    · rw [if_pos hs]
/-- from a place on, as from an earlier one where nothing can fire -/
theorem advA_skip {t p q : Int} (hX : XV Rs made B V) (hf : v_fr V = .inl (t, p) :: rest) (hpq : p ≤ q) (hq : q ≤ aEnd (v_S V) made t) (hno : ∀ z, p ≤ z → z < q → canF (v_S V) Rs (v_hi V) t z = none) : adv (v_setfr V (.inl (t, q) :: rest)) Rs made = adv V Rs made := by
  have e1 : adv V Rs made = advA V Rs made t p rest := by unfold adv; rw [hf]
  have e2 : adv (v_setfr V (.inl (t, q) :: rest)) Rs made = advA (v_setfr V (.inl (t, q) :: rest)) Rs made t q rest := rfl
  have e3 : aNext (v_setfr V (.inl (t, q) :: rest)) Rs made t q = aNext V Rs made t p := by
    show fnd (fun z => (canF (v_S V) Rs (v_hi V) t z).isSome) (aEnd (v_S V) made t - q).toNat q = fnd (fun z => (canF (v_S V) Rs (v_hi V) t z).isSome) (aEnd (v_S V) made t - p).toNat p
    rw [fnd_skip (q - p).toNat (aEnd (v_S V) made t - p).toNat p (by omega) (fun z a b => by
      show (canF (v_S V) Rs (v_hi V) t z).isSome = false
      rw [hno z a (by omega)]; rfl)]
    rw [show p + ((q - p).toNat : Int) = q by omega, show (aEnd (v_S V) made t - q).toNat = (aEnd (v_S V) made t - p).toNat - (q - p).toNat by omega]
  rw [e1, e2]
  unfold advA
  rw [e3]
  rfl
theorem advW_skip {a q : Int} {m : Nat → Bool} (hf : v_fr V = .inr (.inl (a, m)) :: rest) (hpq : a ≤ q) (hq : q ≤ s_nt (v_S V)) (hno : ∀ z, a ≤ z → z < q → (m z.toNat && s_sd (v_S V) z) = false) : adv (v_setfr V (.inr (.inl (q, m)) :: rest)) Rs made = adv V Rs made := by
  have e1 : adv V Rs made = advW V a m rest := by unfold adv; rw [hf]
  have e2 : adv (v_setfr V (.inr (.inl (q, m)) :: rest)) Rs made = advW (v_setfr V (.inr (.inl (q, m)) :: rest)) q m rest := rfl
  have e3 : wNext (v_S V) q m = wNext (v_S V) a m := by
    unfold wNext
    rw [fnd_skip (q - a).toNat (s_nt (v_S V) - a).toNat a (by omega) (fun z h1 h2 => hno z h1 (by omega))]
    rw [show a + ((q - a).toNat : Int) = q by omega, show (s_nt (v_S V) - q).toNat = (s_nt (v_S V) - a).toNat - (q - a).toNat by omega]
  rw [e1, e2]
  unfold advW
  show (if wNext (v_S V) q m = -1 then _ else v_setfr _ (.inl (wNext (v_S V) q m, 0) :: .inr (.inl (wNext (v_S V) q m + 1, m)) :: rest)) = _
  rw [e3]
  rfl
/-- how far the top frame is -/
def inner : List Frm → Int
  | .inl (_, p) :: _ => 2 * (1700 - p)
  | .inr (.inl (a, _)) :: _ => 2 * (101 - a)
  | _ => 0
end
