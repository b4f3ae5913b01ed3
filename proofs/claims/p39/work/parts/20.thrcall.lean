/-! CALLS OF METHODS THAT MAY THROW, from methods without handlers -/
set_option maxHeartbeats 1000000 in
theorem sx_callV {cc : ByteArray} {nL : Nat} {own nm : String} {fr lo : Nat} {J : JT} {an : AX} {ret : Option FieldType} (hI : IsX cc nL own nm fr lo ret an J) {pc : Nat} {L : List (Nat × Value)} {st : List Value} {β : Bu} {σ : St} {δ : Dy} {ρ τ : Type} {P : ρ → Prop} {mf : Option τ} {f : τ → Option ρ}
    {idx : Nat} {y : MethodName} {cc' : ByteArray} {nL' : Nat} {ret' : Option FieldType} {fr' lo' : Nat} (As : List Value) {b ci : Nat} (out : τ → (Option Value ⊕ Nat) × Dy) (ml : MLV own idx y cc' nL' ret' As.length) (hcl : tkCl[ci]? = some (clC ci) ∧ (clC ci).1 = y.cls ∧ ci < 100) (hfr : fr' + 1 ≤ fr) (hlo : 8 + (nL' + 11) + lo' ≤ lo) (hrest : (st.map fun v => v.category).sum ≤ 8) (hβ : β = bX an)
    (d : decode cc pc = .ok (.invokevirtual idx, 3)) {stk : List Value} (hstk : stk = As.reverse ++ .ref b :: st) (ct : ∀ r, mf = some r → CTX y cc' nL' ret' fr' lo' (.ref b :: As) σ δ ((out r).1, σ, (out r).2))
    (kk : ∀ r v, (out r).1 = .inl v → SJ (f r) P (J (pc + 3) L (v.toList ++ st) β σ (out r).2))
    (kx : ∀ r e, (out r).1 = .inr e → ∃ y, f r = some y ∧ (P y → an = (.inr e, σ, (out r).2))) : SJ ((chk σ ci b).bind fun _ => mf.bind f) P (J pc L stk β σ δ) := by
  subst hstk
  refine sj_bind fun u hu => sj_bind fun r hr => ?_
  have hct := ct r hr
  cases ho : (out r).1 with
  | inl v =>
    rw [ho] at hct
    have hct' : CT y cc' nL' ret' fr' lo' 0 0 (.ref b :: As) σ δ (v, σ, (out r).2) := hct
    have key := sj_callV hI.cor (mf := some r) (f := fun _ => f r) (P := P) (fun _ => (v, σ, (out r).2)) ml hcl hfr hlo hrest (Nat.zero_le _) (Nat.zero_le _) d (fun _ _ => hct') (fun _ => kk r v ho)
    intro x hx hPx
    exact key x (by rw [hu]; exact hx) hPx
  | inr e =>
    obtain ⟨y0, hy0, hy1⟩ := kx r e ho
    rw [hy0]
    refine sj_end (fun hPy => ?_)
    have hpe := hy1 hPy
    rw [ho] at hct
    subst hpe
    subst hβ
    obtain ⟨⟨hbn, hkd⟩, -⟩ := if_some hu
    obtain ⟨⟨hw1, hw2, hw3, hw4, hw5⟩, hy1', hy2', hyn⟩ := ml
    obtain ⟨hcl1, hcl2, hcl3⟩ := hcl
    obtain ⟨p, l, e', R, s, m, args, below, meth, c, D, tc, A, ad0, n0, ⟨hx, hb, hml, hown, hts, hK, hA, hfR, hlR, hRc, hRs, hro, hnm, htr⟩, hr, hlocks, htab, rfl⟩ := hI
    intro ad H ls locs cells slots h1 h2 h3 hL hst h4 hl hP hD hS hc hs
    have hRc' : R.cells = 1 := hRc
    have hRs' : R.slots = 6 := hRs
    have hc' : cells + 1 = 1 := hc
    have hs' : slots + 6 = 6 := hs
    have hwA : ∀ x ∈ (Value.ref b :: As), wfv (sn σ) x := by
      intro x hx
      rcases List.mem_cons.mp hx with rfl | hx
      · exact Or.inl hbn
      · exact hst x (List.mem_append_left _ (List.mem_reverse.mpr hx))
    have hM := hct l D tc ad H.size htr h3 h4 hwA
    have hadr : ad (roB + 1) = ad0 (roB + 1) := h1 _ (Or.inr (Nat.le_succ _))
    have hfA : ∀ q, va_A (wld ad tc σ δ) H.size q → A q := by
      intro q hq
      rcases hq with ⟨i, e9, he⟩ | hq
      · exact hD.2 i _ he
      · exact hA q (Nat.le_trans hS.1 hq)
    have hgi : GoodIn lwg (.code y cc' nL' ret' :: lwg) := lwg_in (by
        intro w hw
        rcases List.mem_cons.mp hw with rfl | hw
        · exact hw5
        · exact hw)
    have hcb : CallB R s args own idx y cc' nL' ret' (.code y cc' nL' ret' :: lwg) { frames := fr', cells := 1, slots := 6, locals := lo' } 1 6 As.length := ⟨rfl, rfl, Nat.le_trans hfr hfR, Nat.le_trans hlo hlR, pay_in hts hgi, List.mem_cons_self, hts _ hw5, hts _ hw4, ⟨hy1', hy2'⟩, (fun sig h => by
      rw [h] at hyn
      exact (Option.some.inj hyn).symm), hts _ hw1⟩
    have hrun := vx_runV (As := As.map (cv ad)) (rest := st.map (cv ad)) (H := H) (locs := locs) (cells := cells) (slots := slots) (b := ad b) (g := F0 m pc ls ((As.reverse ++ .ref b :: st).map (cv ad))) (R := R) (e := e') (below := below) (meth := meth) (C := y.cls) ⟨hx, hb, hml, hown, hts⟩ hM
      ⟨hcb, hts _ hw2, hts _ hw3⟩
      ⟨PcT_blind, (by
        have hrec := va_recv hK hP (ci := ci) (q0 := b) hcl1 ((wld_get hbn).trans (by rw [cel_obj hkd hcl3]))
        rw [hcl2] at hrec
        exact hrec), fun U hU hW => ⟨rfl, by rw [hU], ⟨by rw [hU]; exact hP, va_K.moved hW.alike hK, hD.weaken (fun _ _ _ _ => trivial)⟩, ROf_to hro hadr hU hW hfA hS⟩⟩
      rfl (by rw [List.length_map]) hl.1 (by simp [List.map_append, List.map_reverse, cv]) (lv_room (by rw [cat_cv]; exact hrest)) d ⟨by omega, by omega⟩
    intro T hT X
    rcases hrun T hT X with ⟨v, st₀, t, T', L', h0, X', hL', e1, e2, hF, go⟩ | ⟨q, st₀, t, T', L', E, ce, h0, X', hL', e1, e2, ⟨hE, ⟨ad', g1, ⟨gP, gK, gD⟩, g3, g4, g5⟩, hz, hk⟩, hce, hcv, hcl9, go⟩
    · exact hF.elim
    · rw [h0] at hz hk
      have hvx := vx_out (p := p) (l := l) (e := e') (R := R) (s := s) (m := m) (args := args) (below := below) (meth := meth) (c := c) (H := T'.heap) (locs := locs ++ L') (cells := cells + 1) (slots := slots + 6) (ls := ls) (rest := st.map (cv ad)) (pc := pc) (Qc := fun _ _ _ _ => False) (XC := XCT D tc A ad0 n0 e σ (out r).2) (mc := 1) (ms := 6) (free := A) (E := E) (ce := ce) (q := q)
        (fun x hx => ((htab e rfl) x hx).elim) hlocks (by rw [e1]; exact hce) hcv hcl9
        (fun t' ht' hvm => ⟨hE, ⟨ad', fun i hi => (g1 i (hi.elim (fun h => Or.inl (Nat.lt_of_lt_of_le h h2)) Or.inr)).trans (h1 i hi), ⟨by rw [ht', e1]; exact gP, va_K.moved hvm hK, gD.weaken (fun _ _ _ h => hfA _ h)⟩, h2, g4, g5⟩, by rw [ht', e1]; exact Nat.le_trans hS.1 hz, fun q1 q2 q3 => by rw [ht', e1, hk q1 (Nat.lt_of_lt_of_le q2 hS.1) (fun z => q3 (hfA q1 z))]; exact hS.2.1 q1 q2 q3⟩)
        (fun z hz2 => by
          rcases List.mem_append.mp hz2 with h | h
          · exact hS.2.2 z h
          · exact hfA _ (hL' z h)) (by omega) (by omega)
      obtain ⟨t2, a1, b1⟩ := hvx T' rfl X'
      exact ⟨t2, go.trans a1, b1⟩
set_option maxHeartbeats 1000000 in
theorem sx_callS {cc : ByteArray} {nL : Nat} {own nm : String} {fr lo : Nat} {J : JT} {an : AX} {ret : Option FieldType} (hI : IsX cc nL own nm fr lo ret an J) {pc : Nat} {L : List (Nat × Value)} {st : List Value} {β : Bu} {σ : St} {δ : Dy} {ρ τ : Type} {P : ρ → Prop} {mf : Option τ} {f : τ → Option ρ}
    {idx : Nat} {y : MethodName} {cc' : ByteArray} {nL' : Nat} {ret' : Option FieldType} {fr' lo' : Nat} (As : List Value) (out : τ → (Option Value ⊕ Nat) × Dy) (ml : MLS own idx y cc' nL' ret' As.length) (hfr : fr' + 1 ≤ fr) (hlo : 8 + (nL' + 11) + lo' ≤ lo) (hrest : (st.map fun v => v.category).sum ≤ 8) (hβ : β = bX an)
    (d : decode cc pc = .ok (.invokestatic idx, 3)) {stk : List Value} (hstk : stk = As.reverse ++ st) (ct : ∀ r, mf = some r → CTX y cc' nL' ret' fr' lo' As σ δ ((out r).1, σ, (out r).2))
    (kk : ∀ r v, (out r).1 = .inl v → SJ (f r) P (J (pc + 3) L (v.toList ++ st) β σ (out r).2))
    (kx : ∀ r e, (out r).1 = .inr e → ∃ y, f r = some y ∧ (P y → an = (.inr e, σ, (out r).2))) : SJ (mf.bind f) P (J pc L stk β σ δ) := by
  subst hstk
  refine sj_bind fun r hr => ?_
  have hct := ct r hr
  cases ho : (out r).1 with
  | inl v =>
    rw [ho] at hct
    have hct' : CT y cc' nL' ret' fr' lo' 0 0 As σ δ (v, σ, (out r).2) := hct
    have key := sj_callS hI.cor (mf := some r) (f := fun _ => f r) (P := P) (fun _ => (v, σ, (out r).2)) ml hfr hlo hrest (Nat.zero_le _) (Nat.zero_le _) d (fun _ _ => hct') (fun _ => kk r v ho)
    intro x hx hPx
    exact key x (by exact hx) hPx
  | inr e =>
    obtain ⟨y0, hy0, hy1⟩ := kx r e ho
    rw [hy0]
    refine sj_end (fun hPy => ?_)
    have hpe := hy1 hPy
    rw [ho] at hct
    subst hpe
    subst hβ
    obtain ⟨⟨hw1, hw2, hw4, hw5⟩, hy1', hy2', hyn⟩ := ml
    obtain ⟨p, l, e', R, s, m, args, below, meth, c, D, tc, A, ad0, n0, ⟨hx, hb, hml, hown, hts, hK, hA, hfR, hlR, hRc, hRs, hro, hnm, htr⟩, hr, hlocks, htab, rfl⟩ := hI
    intro ad H ls locs cells slots h1 h2 h3 hL hst h4 hl hP hD hS hc hs
    have hRc' : R.cells = 1 := hRc
    have hRs' : R.slots = 6 := hRs
    have hc' : cells + 1 = 1 := hc
    have hs' : slots + 6 = 6 := hs
    have hwA : ∀ x ∈ As, wfv (sn σ) x := fun x hx => hst x (List.mem_append_left _ (List.mem_reverse.mpr hx))
    have hM := hct l D tc ad H.size htr h3 h4 hwA
    have hadr : ad (roB + 1) = ad0 (roB + 1) := h1 _ (Or.inr (Nat.le_succ _))
    have hfA : ∀ q, va_A (wld ad tc σ δ) H.size q → A q := by
      intro q hq
      rcases hq with ⟨i, e9, he⟩ | hq
      · exact hD.2 i _ he
      · exact hA q (Nat.le_trans hS.1 hq)
    have hgi : GoodIn lwg (.code y cc' nL' ret' :: lwg) := lwg_in (by
        intro w hw
        rcases List.mem_cons.mp hw with rfl | hw
        · exact hw5
        · exact hw)
    have hcb : CallB R s args own idx y cc' nL' ret' (.code y cc' nL' ret' :: lwg) { frames := fr', cells := 1, slots := 6, locals := lo' } 1 6 As.length := ⟨rfl, rfl, Nat.le_trans hfr hfR, Nat.le_trans hlo hlR, pay_in hts hgi, List.mem_cons_self, hts _ hw5, hts _ hw4, ⟨hy1', hy2'⟩, (fun sig h => by
      rw [h] at hyn
      exact (Option.some.inj hyn).symm), hts _ hw1⟩
    have hrun := vx_runS (As := As.map (cv ad)) (rest := st.map (cv ad)) (H := H) (locs := locs) (cells := cells) (slots := slots) (g := F0 m pc ls ((As.reverse ++ st).map (cv ad))) (R := R) (e := e') (below := below) (meth := meth) ⟨hx, hb, hml, hown, hts⟩ hM
      ⟨hcb, hts _ hw2⟩
      ⟨PcT_blind, fun U hU hW => ⟨rfl, by rw [hU], ⟨by rw [hU]; exact hP, va_K.moved hW.alike hK, hD.weaken (fun _ _ _ _ => trivial)⟩, ROf_to hro hadr hU hW hfA hS⟩⟩
      rfl (by rw [List.length_map]) hl.1 (by simp [List.map_append, List.map_reverse]) (lv_room (by rw [cat_cv]; exact hrest)) d ⟨by omega, by omega⟩
    intro T hT X
    rcases hrun T hT X with ⟨v, st₀, t, T', L', h0, X', hL', e1, e2, hF, go⟩ | ⟨q, st₀, t, T', L', E, ce, h0, X', hL', e1, e2, ⟨hE, ⟨ad', g1, ⟨gP, gK, gD⟩, g3, g4, g5⟩, hz, hk⟩, hce, hcv, hcl9, go⟩
    · exact hF.elim
    · rw [h0] at hz hk
      have hvx := vx_out (p := p) (l := l) (e := e') (R := R) (s := s) (m := m) (args := args) (below := below) (meth := meth) (c := c) (H := T'.heap) (locs := locs ++ L') (cells := cells + 1) (slots := slots + 6) (ls := ls) (rest := st.map (cv ad)) (pc := pc) (Qc := fun _ _ _ _ => False) (XC := XCT D tc A ad0 n0 e σ (out r).2) (mc := 1) (ms := 6) (free := A) (E := E) (ce := ce) (q := q)
        (fun x hx => ((htab e rfl) x hx).elim) hlocks (by rw [e1]; exact hce) hcv hcl9
        (fun t' ht' hvm => ⟨hE, ⟨ad', fun i hi => (g1 i (hi.elim (fun h => Or.inl (Nat.lt_of_lt_of_le h h2)) Or.inr)).trans (h1 i hi), ⟨by rw [ht', e1]; exact gP, va_K.moved hvm hK, gD.weaken (fun _ _ _ h => hfA _ h)⟩, h2, g4, g5⟩, by rw [ht', e1]; exact Nat.le_trans hS.1 hz, fun q1 q2 q3 => by rw [ht', e1, hk q1 (Nat.lt_of_lt_of_le q2 hS.1) (fun z => q3 (hfA q1 z))]; exact hS.2.1 q1 q2 q3⟩)
        (fun z hz2 => by
          rcases List.mem_append.mp hz2 with h | h
          · exact hS.2.2 z h
          · exact hfA _ (hL' z h)) (by omega) (by omega)
      obtain ⟨t2, a1, b1⟩ := hvx T' rfl X'
      exact ⟨t2, go.trans a1, b1⟩
