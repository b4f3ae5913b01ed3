/-! THE REWRITER in the class: an active token's advance, one place -/
section
variable {σ : St} {δ : Dy} {rw st ro base ru : Nat} {S : Sto} {ac made : Int} {fl : Bool} {R : Rl} {Rs : Int → Rl} {V : Vw}
theorem canF_go {hi : Hst} {t p : Int} (h1 : ¬ l_hd (Rs (p / 200)) ≤ p / 100 % 2) (h2 : l_so (Rs (p / 200)) (p / 100 % 2) = s_so S t) (h3 : ¬ (if 2 ≤ l_hd (Rs (p / 200)) then s_nt S else 1) ≤ p % 100) : canF S Rs hi t p = (if partn S (Rs (p / 200)) (p / 100 % 2) t (p % 100) = false then none else if (p / 200, cOne (Rs (p / 200)) (p / 100 % 2) t (p % 100), mx0 (cTwo (Rs (p / 200)) (p / 100 % 2) t (p % 100))) ∈ hi then none else matchR S (Rs (p / 200)) (cOne (Rs (p / 200)) (p / 100 % 2) t (p % 100)) (cTwo (Rs (p / 200)) (p / 100 % 2) t (p % 100))) := by
  unfold canF
  rw [if_neg h1, if_neg (not_not_intro h2), if_neg h3]
theorem t_a200 (hW : KW σ rw st ro) (hKS : KS σ st) (hKR : KRs σ ro) (hd0 : ro + 54 ≤ st) (hd1 : st + 10 ≤ rw) {d : Dy} {t p : Int} (hl : (v_fr V).length ≤ 183) (hRV : RVv d rw st base made V) (hRs : RRs d ro made Rs) (hG : GV Rs made V) (t0 : 0 ≤ t ∧ t < s_nt (v_S V)) (hw : 0 ≤ p / 200 ∧ p / 200 < made) (h1 : ¬ l_hd (Rs (p / 200)) ≤ p / 100 % 2) (h2 : l_so (Rs (p / 200)) (p / 100 % 2) = s_so (v_S V) t) (h3 : ¬ (if 2 ≤ l_hd (Rs (p / 200)) then s_nt (v_S V) else 1) ≤ p % 100) {o' one two : Int} (ho : o' = if 2 ≤ l_hd (Rs (p / 200)) then p % 100 else -1) (hone : one = cOne (Rs (p / 200)) (p / 100 % 2) t (p % 100)) (htwo : two = cTwo (Rs (p / 200)) (p / 100 % 2) t (p % 100)) {x : Int32} {y : Nat} (hru : ru = ro + 6 + 6 * (p / 200).toNat) : Ok (m_X6_advanceActive_b200 σ rw y (ii t) x (ii (p / 200)) ru (ii (p / 100 % 2)) (ii o') (ii one) (ii two) d) (PL (fun s => canF (v_S V) Rs (v_hi V) t p = none ∧ RVv s rw st base made V ∧ Fr (PVr rw st) d s) (fun r => ∃ bd, canF (v_S V) Rs (v_hi V) t p = some bd ∧ RVv r rw st base made (fireV V Rs (p / 200) one two bd) ∧ Fr (PVr rw st) d r)) := by
  have hG' := hG
  obtain ⟨g1, g2, g3, g4, g5, g6, g7, g8⟩ := hG
  have gn := g1.1
  have hgr := g4 _ hw.1 hw.2
  have hhd := hgr.1
  obtain ⟨hS, hV⟩ := hRV
  have hRr := hRs _ hw.1 hw.2
  have hKr := (hKR.2 (p / 200).toNat (by omega)).2
  rw [← hru] at hRr hKr
  have hcr := cOne_rng (S := v_S V) hhd (h := p / 100 % 2) (t := t) (o := p % 100) (by omega) (by omega) t0 (by omega) (by omega)
  rw [← hone, ← htwo] at hcr
  have hcf := canF_go (S := v_S V) (Rs := Rs) (hi := v_hi V) (t := t) (p := p) h1 h2 h3
  rw [← hone, ← htwo] at hcf
  have ep := t_partn hW hKS hKr hS g1 hRr hgr (h := p / 100 % 2) (t := t) (o := o') (by omega) t0 (fun q => by rw [if_pos q] at ho h3; omega)
  have epp : partn (v_S V) (Rs (p / 200)) (p / 100 % 2) t o' = partn (v_S V) (Rs (p / 200)) (p / 100 % 2) t (p % 100) := by
    by_cases q : 2 ≤ l_hd (Rs (p / 200))
    · rw [if_pos q] at ho
      rw [ho]
    · unfold partn
      rw [decide_eq_true (by omega), Bool.true_or, Bool.true_or]
  rw [epp] at ep
  have htw : -1 ≤ two ∧ two < 100 := by
    by_cases q : 1 < l_hd (Rs (p / 200))
    · have := hcr.2 q; omega
    · rw [htwo]
      unfold cTwo
      rw [if_pos (show p / 100 % 2 = 0 by omega), if_neg (by omega)]
      omega
  unfold m_X6_advanceActive_b200
  refine Ok_bind (chk_ko hW.1) (Ok_bind ep ?_)
  cases hp : partn (v_S V) (Rs (p / 200)) (p / 100 % 2) t (p % 100) with
  | false =>
    rw [hp, if_pos rfl] at hcf
    exact Ok_inl (s' := d) (by rw [if_pos (show bi false = 0 from rfl)]; rfl) ⟨hcf, ⟨hS, hV⟩, Fr.rf⟩
  | true =>
    rw [hp, if_neg (by decide)] at hcf
    rw [if_neg (by decide)]
    have en := t_isNew hW hV.2.2.1 (w := p / 200) (o := one) (x := two) (by omega) (by omega) htw.1 (by omega)
    refine Ok_bind (chk_ko hW.1) (Ok_bind en ?_)
    by_cases hm : (p / 200, one, mx0 two) ∈ v_hi V
    · rw [if_pos hm] at hcf
      rw [decide_eq_true hm]
      exact Ok_inl (s' := d) (by rw [if_pos (show bi (!true) = 0 from rfl)]; rfl) ⟨hcf, ⟨hS, hV⟩, Fr.rf⟩
    · rw [if_neg hm] at hcf
      rw [decide_eq_false hm, if_neg (by decide)]
      obtain ⟨⟨v, D⟩, e, e1, e2, e3⟩ := t_isMatch hW hKS hKr hS g1 hRr hgr hd1 (by omega) (one := one) (two := two) hcr.1.1 hcr.1.2 hcr.2
      dsimp only at e1 e2 e3
      subst e1
      refine Ok_bind (chk_ko hW.1) (Ok_bind e ?_)
      have hRV' : RVv D rw st base made V := RVv_cg (δ' := D) ⟨hS, hV⟩ hl (fun r a b => e3 r a) hd1
      have hF' : Fr (PVr rw st) d D := e3.wk (fun r hr => Or.inr (by omega))
      cases hmr : matchR (v_S V) (Rs (p / 200)) one two with
      | none =>
        rw [hmr] at hcf
        exact Ok_inl (s' := D) (by dsimp only; rw [if_pos (show bi (none : Option (Int → Int)).isSome = 0 from rfl)]; rfl) ⟨hcf, hRV', hF'⟩
      | some bd =>
        rw [hmr] at hcf
        have hb := e2 bd hmr
        obtain ⟨D2, f1, f2, f3⟩ := t_fire hW hKS hKR hd0 hd1 hRV' (RRs_of_Fr hRs g3.2 hF' (fun r a b => by unfold PVr; omega)) hG' (w := p / 200) (one := one) (two := two) hw hcr.1 hcr.2 htw.1 htw.2 hb.1
        refine Ok_inr (r := D2) ?_ ⟨bd, hcf, f2, hF'.tr f3⟩
        dsimp only
        rw [if_neg (show ¬ bi (some bd).isSome = 0 from (by decide : ¬ bi true = 0)), chk_ko hW.1, ob_some, f1, ob_some]
end
