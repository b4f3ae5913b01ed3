/-! THE LAW'S WRAPPERS: they call a method that may throw, and catch -/
def CTW (y : MethodName) (cc : ByteArray) (nL : Nat) (ret : Option FieldType) (hh : List (Nat × Nat × Nat × Nat)) (fr lo : Nat) (As : List Value) (σ : St) (δ : Dy) (an : Option Value × St × Dy) : Prop :=
  ∀ (l : Launch) (D : va_G) (tc : Nat → ClassId) (ad : Nat → Nat) (sz : Nat), l.stackTraces = false → sn σ ≤ roB → wfm σ → (∀ x ∈ As, wfv (sn σ) x) →
    Met l y (.codeWith y cc nL ret hh :: lwg) { frames := fr, cells := 1, slots := 6, locals := lo } (PcT D tc ad As σ δ sz) (QcT D tc (va_A (wld ad tc σ δ) sz) ad (sn σ) an) 1 6 (va_A (wld ad tc σ δ) sz)
def IsW (cc : ByteArray) (nL : Nat) (own nm : String) (fr lo : Nat) (ret : Option FieldType) (hh : List (Nat × Nat × Nat × Nat)) (an : Option Value × St × Dy) (J : JT) : Prop :=
  ∃ (p : Program) (l : Launch) (e : Env) (R : Room) (s : State) (m : MethodId) (args : Array Value) (below : List Frame) (meth : Method) (c : Code) (D : va_G) (tc : Nat → ClassId) (A : Nat → Prop) (ad0 : Nat → Nat) (n0 : Nat),
    Fac p l s R m args c D tc A ad0 cc nL own fr lo 1 6 meth nm ∧ meth.sig.returnType = ret ∧ meth.locks = false ∧ c.exceptionTable.toList = tableOf hh ∧ J = Jdef p l e R s m args below meth c D tc A ad0 n0 nL 1 6 (MQ below (QcT D tc A ad0 n0 an) args s 1 6 A)
theorem IsW.isj {cc : ByteArray} {nL : Nat} {own nm : String} {fr lo : Nat} {ret : Option FieldType} {hh : List (Nat × Nat × Nat × Nat)} {an : Option Value × St × Dy} {J : JT} (h : IsW cc nL own nm fr lo ret hh an J) : Isj cc nL own nm fr lo ret an J := by
  obtain ⟨p, l, e, R, s, m, args, below, meth, c, D, tc, A, ad0, n0, h1, h2, h3, h4, h5⟩ := h
  exact ⟨p, l, e, R, s, m, args, below, meth, c, D, tc, A, ad0, n0, _, _, h1, h2, h3, h5⟩
set_option maxHeartbeats 1000000 in
theorem CTW_of {y : MethodName} {cc : ByteArray} {nL : Nat} {ret : Option FieldType} {hh : List (Nat × Nat × Nat × Nat)} {fr lo : Nat} {As : List Value} {σ : St} {δ : Dy} {an : Option Value × St × Dy} (hy : plainName y.cls = true) (hlen : (lg_sl As).length ≤ nL)
    (body : ∀ J : JT, IsW cc nL y.cls y.name fr lo ret hh an J → J 0 (lv_args 0 As) [] (1, 6) σ δ) : CTW y cc nL ret hh fr lo As σ δ an := by
  intro l D tc ad sz htr h3 h4 hst
  refine va_MetW (cc := cc) (maxL := nL) (ret := ret) (hh := hh) hy rfl ?_
  intro p e s m args below meth c s₁ B hml hv
  obtain ⟨rfl, hsz, ⟨hP, hK, hD0⟩, hro⟩ := hv
  have hx := B.exec
  have hb := B.bytes
  have hr := B.returns
  have hts := atoms_spec (ws := .codeWith y cc nL ret hh :: lwg) B.pre
  have htab := vx_table (x := y) B (hts _ List.mem_cons_self)
  have hown : s.vm.findClass y.cls = some m.cls := findClass_of_methodNamed B.named
  have hlocks := B.notSynchronized
  have hin : meth.name = y.name := (name_of_methodNamed B.named B.method).1
  subst hsz
  have hD := hD0.self (sz := s.heap.size)
  have hl := lv_entry (As.map (cv ad)) (n := nL) (by rw [lg_sl_cv]; exact hlen)
  rw [lg_entry_eq]
  generalize (lg_sl (As.map (cv ad)) ++ List.replicate (nL - (lg_sl (As.map (cv ad))).length) Slot.unset).toArray = ls at hl ⊢
  have hA : ∀ q : Nat, s.heap.size ≤ q → va_A (wld ad tc σ δ) s.heap.size q := fun q h => Or.inr h
  have key := body _ ⟨p, l, e, { frames := fr, cells := 1, slots := 6, locals := lo }, s, m, (As.map (cv ad)).toArray, below, meth, c, D, tc, va_A (wld ad tc σ δ) s.heap.size, ad, sn σ, ⟨hx, hb, hml, hown, fun w hw => hts w (List.mem_cons_of_mem _ hw), hK, hA, Nat.le_refl _, Nat.le_refl _, rfl, rfl, hro, hin, htr⟩, hr, hlocks, htab, rfl⟩
  exact key ad s.heap ls [] 0 0 (fun _ _ => rfl) (Nat.le_refl _) h3 (wf_args As 0 hst) (fun v hv => by cases hv) h4 (by rw [cL_args]; exact hl) hP hD va_S.rf (Nat.zero_add _) (Nat.zero_add _)
/-- the first row of the table that takes exception e at pc leads to a handler that answers v -/
def HND (cc : ByteArray) (own : String) (hh : List (Nat × Nat × Nat × Nat)) (pc nL e : Nat) (v : Int32) : Prop :=
  ∃ (pre : List ExceptionTableEntry) (x : ExceptionTableEntry) (suf : List ExceptionTableEntry), tableOf hh = pre ++ x :: suf ∧ (∀ z ∈ pre, z.catchType ≠ 0 ∧ ∃ q, q < 3 ∧ q ≠ e ∧ Cond.classLink own z.catchType (xname q) ∈ lwg) ∧ covers x pc = true ∧ x.catchType ≠ 0 ∧ Cond.classLink own x.catchType (xname e) ∈ lwg ∧ e < 3 ∧
    ∃ (k ln : Nat) (n : Int), k < nL ∧ (decode cc x.handlerPc = .ok (.astore k, 2) ∧ ln = 2 ∨ ∃ kk : Fin 4, decode cc x.handlerPc = .ok (.astore_n kk, 1) ∧ (kk : Nat) = k ∧ ln = 1) ∧ decode cc (x.handlerPc + ln) = .ok (.iconst n, 1) ∧ Int32.ofInt n = v ∧ decode cc (x.handlerPc + ln + 1) = .ok (.ireturn, 1)
theorem xname_in {e : Nat} (h : e < 3) : xname e ∈ xN := by
  rcases e with _ | _ | _ | e
  · exact List.mem_of_getElem? (i := 0) rfl
  · exact List.mem_of_getElem? (i := 1) rfl
  · exact List.mem_of_getElem? (i := 2) rfl
  · omega
theorem xname_ne {e q : Nat} (h : e < 3) (hq : q < 3) (hn : q ≠ e) : xname e ≠ xname q := by
  rcases e with _ | _ | _ | e <;> rcases q with _ | _ | _ | q <;> first | omega | decide
set_option maxHeartbeats 2000000 in
theorem sw_callV {cc : ByteArray} {nL : Nat} {own nm : String} {fr lo : Nat} {J : JT} {an : Option Value × St × Dy} {hh : List (Nat × Nat × Nat × Nat)} (hI : IsW cc nL own nm fr lo (some .int) hh an J) {pc : Nat} {L : List (Nat × Value)} {st : List Value} {σ : St} {δ : Dy} {ρ τ : Type} {P : ρ → Prop} {mf : Option τ} {f : τ → Option ρ}
    {idx : Nat} {y : MethodName} {cc' : ByteArray} {nL' : Nat} {ret' : Option FieldType} {fr' lo' : Nat} (As : List Value) {b ci : Nat} (out : τ → (Option Value ⊕ Nat) × Dy) (ml : MLV own idx y cc' nL' ret' As.length) (hcl : tkCl[ci]? = some (clC ci) ∧ (clC ci).1 = y.cls ∧ ci < 100) (hfr : fr' + 1 ≤ fr) (hlo : 8 + (nL' + 11) + lo' ≤ lo) (hrest : (st.map fun v => v.category).sum ≤ 8)
    (d : decode cc pc = .ok (.invokevirtual idx, 3)) {stk : List Value} (hstk : stk = As.reverse ++ .ref b :: st) (ct : ∀ r, mf = some r → CTX y cc' nL' ret' fr' lo' (.ref b :: As) σ δ ((out r).1, σ, (out r).2))
    (kk : ∀ r v, (out r).1 = .inl v → SJ (f r) P (J (pc + 3) L (v.toList ++ st) (1, 6) σ (out r).2))
    (kx : ∀ r e, (out r).1 = .inr e → f r = none ∨ ∃ y v, f r = some y ∧ (P y → an = (some (.int v), σ, (out r).2)) ∧ HND cc own hh pc nL e v) : SJ ((chk σ ci b).bind fun _ => mf.bind f) P (J pc L stk (1, 6) σ δ) := by
  subst hstk
  refine sj_bind fun u hu => sj_bind fun r hr => ?_
  have hct := ct r hr
  cases ho : (out r).1 with
  | inl v =>
    rw [ho] at hct
    have hct' : CT y cc' nL' ret' fr' lo' 0 0 (.ref b :: As) σ δ (v, σ, (out r).2) := hct
    have key := sj_callV hI.isj.cor (β := (1, 6)) (mf := some r) (f := fun _ => f r) (P := P) (fun _ => (v, σ, (out r).2)) ml hcl hfr hlo hrest (Nat.zero_le _) (Nat.zero_le _) d (fun _ _ => hct') (fun _ => kk r v ho)
    intro x hx hPx
    exact key x (by rw [hu]; exact hx) hPx
  | inr e =>
    rcases kx r e ho with hn | ⟨y0, v0, hy0, hy1, hnd⟩
    · rw [hn]
      exact sj_none
    rw [hy0]
    refine sj_end (fun hPy => ?_)
    have hpe := hy1 hPy
    rw [ho] at hct
    subst hpe
    obtain ⟨⟨hbn, hkd⟩, -⟩ := if_some hu
    obtain ⟨⟨hw1, hw2, hw3, hw4, hw5⟩, hy1', hy2', hyn⟩ := ml
    obtain ⟨hcl1, hcl2, hcl3⟩ := hcl
    obtain ⟨pre, x, suf, hsp, hpre, hcov, hc0, hlk, he3, k, ln, n9, hkn, hast, hic, hv9, hir⟩ := hnd
    obtain ⟨p, l, e', R, s, m, args, below, meth, c, D, tc, A, ad0, n0, ⟨hx, hb, hml, hown, hts, hK, hA, hfR, hlR, hRc, hRs, hro, hnm, htr⟩, hr, hlocks, htab, rfl⟩ := hI
    intro ad H ls locs cells slots h1 h2 h3 hL hst h4 hl hP hD hS hc hs
    have hRc' : R.cells = 1 := hRc
    have hRs' : R.slots = 6 := hRs
    have hc' : cells + 1 = 1 := hc
    have hs' : slots + 6 = 6 := hs
    have hwA : ∀ x ∈ (Value.ref b :: As), wfv (sn σ) x := by
      intro x hx
      rcases List.mem_cons.mp hx with rfl | hx
      · exact Or.inl hbn
      · exact hst x (List.mem_append_left _ (List.mem_reverse.mpr hx))
    have hM := hct l D tc ad H.size htr h3 h4 hwA
    have hadr : ad (roB + 1) = ad0 (roB + 1) := h1 _ (Or.inr (Nat.le_succ _))
    have hfA : ∀ q, va_A (wld ad tc σ δ) H.size q → A q := by
      intro q hq
      rcases hq with ⟨i, e9, he⟩ | hq
      · exact hD.2 i _ he
      · exact hA q (Nat.le_trans hS.1 hq)
    have hgi : GoodIn lwg (.code y cc' nL' ret' :: lwg) := lwg_in (by
        intro w hw
        rcases List.mem_cons.mp hw with rfl | hw
        · exact hw5
        · exact hw)
    have hcb : CallB R s args own idx y cc' nL' ret' (.code y cc' nL' ret' :: lwg) { frames := fr', cells := 1, slots := 6, locals := lo' } 1 6 As.length := ⟨rfl, rfl, Nat.le_trans hfr hfR, Nat.le_trans hlo hlR, pay_in hts hgi, List.mem_cons_self, hts _ hw5, hts _ hw4, ⟨hy1', hy2'⟩, (fun sig h => by
      rw [h] at hyn
      exact (Option.some.inj hyn).symm), hts _ hw1⟩
    have hrun := vx_runV (As := As.map (cv ad)) (rest := st.map (cv ad)) (H := H) (locs := locs) (cells := cells) (slots := slots) (b := ad b) (g := F0 m pc ls ((As.reverse ++ .ref b :: st).map (cv ad))) (R := R) (e := e') (below := below) (meth := meth) (C := y.cls) ⟨hx, hb, hml, hown, hts⟩ hM
      ⟨hcb, hts _ hw2, hts _ hw3⟩
      ⟨PcT_blind, (by
        have hrec := va_recv hK hP (ci := ci) (q0 := b) hcl1 ((wld_get hbn).trans (by rw [cel_obj hkd hcl3]))
        rw [hcl2] at hrec
        exact hrec), fun U hU hW => ⟨rfl, by rw [hU], ⟨by rw [hU]; exact hP, va_K.moved hW.alike hK, hD.weaken (fun _ _ _ _ => trivial)⟩, ROf_to hro hadr hU hW hfA hS⟩⟩
      rfl (by rw [List.length_map]) hl.1 (by simp [List.map_append, List.map_reverse, cv]) (lv_room (by rw [cat_cv]; exact hrest)) d ⟨by omega, by omega⟩
    intro T hT X
    rcases hrun T hT X with ⟨v, st₀, t, T', L', h0, X', hL', e1, e2, hF, go⟩ | ⟨q, st₀, t, T', L', E, ce, h0, X', hL', e1, e2, ⟨hE, ⟨ad', g1, ⟨gP, gK, gD⟩, g3, g4, g5⟩, hz, hk⟩, hce, hcv, hcl9, go⟩
    · exact hF.elim
    · rw [h0] at hz hk
      have hvx : vx_W p l e' R s m args below meth c T'.heap (locs ++ L') (cells + 1) (slots + 6) (MQ below (QcT D tc A ad0 n0 (some (.int v0), σ, (out r).2)) args s 1 6 A) (F0 m pc ls (st.map (cv ad))) q := by
        refine vx_catch (name := xname e) (E := E) (ce := ce) hown pre x suf (htab.trans hsp) (fun z hz => ?_) hcov hc0 (hts _ hlk) (by rw [hE]; exact va_Nw.use rfl (hro.2.1.2.1 _ (xname_in he3))) (by rw [e1]; exact hce) hcv hcl9 ?_
        · obtain ⟨hz0, q9, hq3, hqe, hql⟩ := hpre z hz
          refine Or.inr ⟨hz0, xname q9, hts _ hql, ?_⟩
          rw [hE]
          exact hro.2.1.2.2.2.2.2 _ (xname_in he3) _ (xname_in hq3) (xname_ne he3 hq3 hqe)
        · have fin : ∀ (ls2 : Array Slot), W p l e' R s m args below meth c T'.heap (locs ++ L') (cells + 1) (slots + 6) (MQ below (QcT D tc A ad0 n0 (some (.int v0), σ, (out r).2)) args s 1 6 A) (F0 m (x.handlerPc + ln) ls2 []) := by
            intro ls2
            refine lv_iconst hx hb hic hv9 ?_
            refine W.widen (k := 1) (n := 6) (by omega) (by omega) ?_
            refine W.iret hx hb hr (fun t' ht' hW' => ⟨⟨ad', fun i hi => (g1 i (hi.elim (fun h => Or.inl (Nat.lt_of_lt_of_le h h2)) Or.inr)).trans (h1 i hi), rfl, ⟨by rw [ht', e1]; exact gP, va_K.moved hW'.alike hK, gD.weaken (fun _ _ _ h => hfA _ h)⟩, h2, h3, h4, fun x hx => by cases hx; trivial⟩, ?_⟩) ?_ hir hlocks
            · intro z hz2
              rcases List.mem_append.mp hz2 with h | h
              · exact hS.2.2 z h
              · exact hfA _ (hL' z h)
            · exact ⟨by rw [ht', e1]; exact Nat.le_trans hS.1 hz, fun q1 q2 q3 => by rw [ht', e1, hk q1 (Nat.lt_of_lt_of_le q2 hS.1) (fun z => q3 (hfA q1 z))]; exact hS.2.1 q1 q2 q3⟩
          rcases hast with ⟨hd, rfl⟩ | ⟨kk9, hd, rfl, rfl⟩
          · exact lv_astore hx hb hd hl hkn rfl (fun ls2 _ => fin ls2)
          · exact lv_astore_n hx hb hd rfl hl hkn rfl (fun ls2 _ => fin ls2)
      obtain ⟨t2, a1, b1⟩ := hvx T' rfl X'
      exact ⟨t2, go.trans a1, b1⟩
/-- goes on with a value, or as the handlers say -/
def xh {α ρ : Type} (v : α ⊕ Nat) (g : α → Option ρ) (k : Nat → Option ρ) : Option ρ := match v with
  | .inl x => g x
  | .inr e => k e
def xhw {α ρ : Type} (v : (α ⊕ Nat) × Dy) (g : Dy → α → Option ρ) (k : Dy → Nat → Option ρ) : Option ρ := xh v.1 (g v.2) (k v.2)
theorem sw_callVip {cc : ByteArray} {nL : Nat} {own nm : String} {fr lo : Nat} {J : JT} {an : Option Value × St × Dy} {hh : List (Nat × Nat × Nat × Nat)} (hI : IsW cc nL own nm fr lo (some .int) hh an J) {pc : Nat} {L : List (Nat × Value)} {st : List Value} {σ : St} {δ : Dy} {ρ : Type} {P : ρ → Prop} {mf : Option (Int32 ⊕ Nat)} {g : Int32 → Option ρ} {k : Nat → Option ρ}
    {idx : Nat} {y : MethodName} {cc' : ByteArray} {nL' : Nat} {ret' : Option FieldType} {fr' lo' : Nat} (As : List Value) {b ci : Nat} (ml : MLV own idx y cc' nL' ret' As.length) (hcl : tkCl[ci]? = some (clC ci) ∧ (clC ci).1 = y.cls ∧ ci < 100) (hfr : fr' + 1 ≤ fr) (hlo : 8 + (nL' + 11) + lo' ≤ lo) (hrest : (st.map fun v => v.category).sum ≤ 8)
    (d : decode cc pc = .ok (.invokevirtual idx, 3)) {stk : List Value} (hstk : stk = As.reverse ++ .ref b :: st) (ct : ∀ r, mf = some r → CTX y cc' nL' ret' fr' lo' (.ref b :: As) σ δ (ox_i r, σ, δ))
    (kk : ∀ x : Int32, SJ (g x) P (J (pc + 3) L (.int x :: st) (1, 6) σ δ)) (kx : ∀ e : Nat, k e = none ∨ ∃ y v, k e = some y ∧ (P y → an = (some (.int v), σ, δ)) ∧ HND cc own hh pc nL e v) : SJ ((chk σ ci b).bind fun _ => mf.bind fun v => xh v g k) P (J pc L stk (1, 6) σ δ) := by
  exact sw_callV hI As (fun r => (ox_i r, δ)) ml hcl hfr hlo hrest d hstk ct (fun r v hv => by
    cases r with
    | inl x =>
      cases hv
      exact kk x
    | inr e => cases hv) (fun r e he => by
    cases r with
    | inl x => cases he
    | inr e1 =>
      cases he
      exact kx e)
theorem sw_callVi {cc : ByteArray} {nL : Nat} {own nm : String} {fr lo : Nat} {J : JT} {an : Option Value × St × Dy} {hh : List (Nat × Nat × Nat × Nat)} (hI : IsW cc nL own nm fr lo (some .int) hh an J) {pc : Nat} {L : List (Nat × Value)} {st : List Value} {σ : St} {δ : Dy} {ρ : Type} {P : ρ → Prop} {mf : Option ((Int32 ⊕ Nat) × Dy)} {g : Dy → Int32 → Option ρ} {k : Dy → Nat → Option ρ}
    {idx : Nat} {y : MethodName} {cc' : ByteArray} {nL' : Nat} {ret' : Option FieldType} {fr' lo' : Nat} (As : List Value) {b ci : Nat} (ml : MLV own idx y cc' nL' ret' As.length) (hcl : tkCl[ci]? = some (clC ci) ∧ (clC ci).1 = y.cls ∧ ci < 100) (hfr : fr' + 1 ≤ fr) (hlo : 8 + (nL' + 11) + lo' ≤ lo) (hrest : (st.map fun v => v.category).sum ≤ 8)
    (d : decode cc pc = .ok (.invokevirtual idx, 3)) {stk : List Value} (hstk : stk = As.reverse ++ .ref b :: st) (ct : ∀ r, mf = some r → CTX y cc' nL' ret' fr' lo' (.ref b :: As) σ δ (ox_i r.1, σ, r.2))
    (kk : ∀ (x : Int32) (δ' : Dy), SJ (g δ' x) P (J (pc + 3) L (.int x :: st) (1, 6) σ δ')) (kx : ∀ (e : Nat) (δ' : Dy), k δ' e = none ∨ ∃ y v, k δ' e = some y ∧ (P y → an = (some (.int v), σ, δ')) ∧ HND cc own hh pc nL e v) : SJ ((chk σ ci b).bind fun _ => mf.bind fun v => xhw v g k) P (J pc L stk (1, 6) σ δ) := by
  exact sw_callV hI As (fun r => (ox_i r.1, r.2)) ml hcl hfr hlo hrest d hstk ct (fun r v hv => by
    obtain ⟨r1, δ'⟩ := r
    cases r1 with
    | inl x =>
      cases hv
      exact kk x δ'
    | inr e => cases hv) (fun r e he => by
    obtain ⟨r1, δ'⟩ := r
    cases r1 with
    | inl x => cases he
    | inr e1 =>
      cases he
      exact kx e δ')
