/-! METHODS THAT MAY THROW: the answer is a value or which exception (its place in xN) -/
def xname (e : Nat) : String := xN.getD e ""
abbrev AX : Type := (Option Value ⊕ Nat) × St × Dy
def bX (an : AX) : Bu := match an.1 with
  | .inl _ => (0, 0)
  | .inr _ => (1, 6)
def XCT (D : va_G) (tc : Nat → ClassId) (A : Nat → Prop) (ad0 : Nat → Nat) (n0 : Nat) (e : Nat) (σ' : St) (δ' : Dy) : String → State → State → Prop := fun E st t =>
  E = xname e ∧ (∃ ad' : Nat → Nat, (∀ i, i < n0 ∨ roB ≤ i → ad' i = ad0 i) ∧ RepU D tc A ad' σ' δ' t ∧ n0 ≤ sn σ' ∧ sn σ' ≤ roB ∧ wfm σ') ∧ va_F A st t
def QF (D : va_G) (tc : Nat → ClassId) (A : Nat → Prop) (ad0 : Nat → Nat) (n0 : Nat) (below : List Frame) (args : Array Value) (s : State) (mc ms : Nat) (an : AX) : State → Prop := match an.1 with
  | .inl v => MQ below (QcT D tc A ad0 n0 (v, an.2)) args s mc ms A
  | .inr e => vx_MQ below (fun _ _ _ _ => False) (XCT D tc A ad0 n0 e an.2.1 an.2.2) args s mc ms A
def CTX (y : MethodName) (cc : ByteArray) (nL : Nat) (ret : Option FieldType) (fr lo : Nat) (As : List Value) (σ : St) (δ : Dy) (an : AX) : Prop := match an.1 with
  | .inl v => CT y cc nL ret fr lo 0 0 As σ δ (v, an.2)
  | .inr e => ∀ (l : Launch) (D : va_G) (tc : Nat → ClassId) (ad : Nat → Nat) (sz : Nat), l.stackTraces = false → sn σ ≤ roB → wfm σ → (∀ x ∈ As, wfv (sn σ) x) →
    vx_Met l y (.code y cc nL ret :: lwg) { frames := fr, cells := 1, slots := 6, locals := lo } (PcT D tc ad As σ δ sz) (fun _ _ _ _ => False) (XCT D tc (va_A (wld ad tc σ δ) sz) ad (sn σ) e an.2.1 an.2.2) 1 6 (va_A (wld ad tc σ δ) sz)
def IsX (cc : ByteArray) (nL : Nat) (own nm : String) (fr lo : Nat) (ret : Option FieldType) (an : AX) (J : JT) : Prop :=
  ∃ (p : Program) (l : Launch) (e : Env) (R : Room) (s : State) (m : MethodId) (args : Array Value) (below : List Frame) (meth : Method) (c : Code) (D : va_G) (tc : Nat → ClassId) (A : Nat → Prop) (ad0 : Nat → Nat) (n0 : Nat),
    Fac p l s R m args c D tc A ad0 cc nL own fr lo (bX an).1 (bX an).2 meth nm ∧ meth.sig.returnType = ret ∧ meth.locks = false ∧ (∀ e, an.1 = .inr e → ∀ x ∈ c.exceptionTable.toList, False) ∧ J = Jdef p l e R s m args below meth c D tc A ad0 n0 nL (bX an).1 (bX an).2 (QF D tc A ad0 n0 below args s (bX an).1 (bX an).2 an)
theorem IsX.cor {cc : ByteArray} {nL : Nat} {own nm : String} {fr lo : Nat} {ret : Option FieldType} {an : AX} {J : JT} (h : IsX cc nL own nm fr lo ret an J) : Cor cc nL own nm fr lo J := by
  obtain ⟨p, l, e, R, s, m, args, below, meth, c, D, tc, A, ad0, n0, h1, h2, h3, h4, h5⟩ := h
  exact ⟨p, l, e, R, s, m, args, below, meth, c, D, tc, A, ad0, n0, _, _, _, h1, h5⟩
theorem IsX.isj {cc : ByteArray} {nL : Nat} {own nm : String} {fr lo : Nat} {ret : Option FieldType} {v : Option Value} {σ' : St} {δ' : Dy} {J : JT} (h : IsX cc nL own nm fr lo ret (.inl v, σ', δ') J) : Isj cc nL own nm fr lo ret (v, σ', δ') J := by
  obtain ⟨p, l, e, R, s, m, args, below, meth, c, D, tc, A, ad0, n0, h1, h2, h3, h4, h5⟩ := h
  exact ⟨p, l, e, R, s, m, args, below, meth, c, D, tc, A, ad0, n0, _, _, h1, h2, h3, h5⟩
set_option maxHeartbeats 1000000 in
theorem CTX_of {y : MethodName} {cc : ByteArray} {nL : Nat} {ret : Option FieldType} {fr lo : Nat} {As : List Value} {σ : St} {δ : Dy} {an : AX} (hy : plainName y.cls = true) (hlen : (lg_sl As).length ≤ nL)
    (body : ∀ J : JT, IsX cc nL y.cls y.name fr lo ret an J → J 0 (lv_args 0 As) [] (bX an) σ δ) : CTX y cc nL ret fr lo As σ δ an := by
  obtain ⟨an1, σ', δ'⟩ := an
  cases an1 with
  | inl v =>
    intro l D tc ad sz htr h3 h4 hst
    refine Met.ofW (cc := cc) (maxL := nL) (ret := ret) hy rfl ?_
    intro p e s m args below meth c s₁ B hml hv
    obtain ⟨rfl, hsz, ⟨hP, hK, hD0⟩, hro⟩ := hv
    have hx := B.exec
    have hb := B.bytes
    have hr := B.returns
    have hts := atoms_spec (ws := .code y cc nL ret :: lwg) B.pre
    have hown : s.vm.findClass y.cls = some m.cls := findClass_of_methodNamed B.named
    have hlocks := B.notSynchronized
    have hin : meth.name = y.name := (name_of_methodNamed B.named B.method).1
    subst hsz
    have hD := hD0.self (sz := s.heap.size)
    have hl := lv_entry (As.map (cv ad)) (n := nL) (by rw [lg_sl_cv]; exact hlen)
    rw [lg_entry_eq]
    generalize (lg_sl (As.map (cv ad)) ++ List.replicate (nL - (lg_sl (As.map (cv ad))).length) Slot.unset).toArray = ls at hl ⊢
    have hA : ∀ q : Nat, s.heap.size ≤ q → va_A (wld ad tc σ δ) s.heap.size q := fun q h => Or.inr h
    have key := body _ ⟨p, l, e, { frames := fr, cells := 0, slots := 0, locals := lo }, s, m, (As.map (cv ad)).toArray, below, meth, c, D, tc, va_A (wld ad tc σ δ) s.heap.size, ad, sn σ, ⟨hx, hb, hml, hown, fun w hw => hts w (List.mem_cons_of_mem _ hw), hK, hA, Nat.le_refl _, Nat.le_refl _, rfl, rfl, hro, hin, htr⟩, hr, hlocks, (fun e9 h9 => by cases h9), rfl⟩
    exact key ad s.heap ls [] 0 0 (fun _ _ => rfl) (Nat.le_refl _) h3 (wf_args As 0 hst) (fun v hv => by cases hv) h4 (by rw [cL_args]; exact hl) hP hD va_S.rf (Nat.zero_add _) (Nat.zero_add _)
  | inr e0 =>
    intro l D tc ad sz htr h3 h4 hst
    refine vx_ofW (cc := cc) (maxL := nL) (ret := ret) hy rfl ?_
    intro p e s m args below meth c s₁ B hml htab hv
    obtain ⟨rfl, hsz, ⟨hP, hK, hD0⟩, hro⟩ := hv
    have hx := B.exec
    have hb := B.bytes
    have hr := B.returns
    have hts := atoms_spec (ws := .code y cc nL ret :: lwg) B.pre
    have hown : s.vm.findClass y.cls = some m.cls := findClass_of_methodNamed B.named
    have hlocks := B.notSynchronized
    have hin : meth.name = y.name := (name_of_methodNamed B.named B.method).1
    subst hsz
    have hD := hD0.self (sz := s.heap.size)
    have hl := lv_entry (As.map (cv ad)) (n := nL) (by rw [lg_sl_cv]; exact hlen)
    rw [lg_entry_eq]
    generalize (lg_sl (As.map (cv ad)) ++ List.replicate (nL - (lg_sl (As.map (cv ad))).length) Slot.unset).toArray = ls at hl ⊢
    have hA : ∀ q : Nat, s.heap.size ≤ q → va_A (wld ad tc σ δ) s.heap.size q := fun q h => Or.inr h
    have key := body _ ⟨p, l, e, { frames := fr, cells := 1, slots := 6, locals := lo }, s, m, (As.map (cv ad)).toArray, below, meth, c, D, tc, va_A (wld ad tc σ δ) s.heap.size, ad, sn σ, ⟨hx, hb, hml, hown, fun w hw => hts w (List.mem_cons_of_mem _ hw), hK, hA, Nat.le_refl _, Nat.le_refl _, rfl, rfl, hro, hin, htr⟩, hr, hlocks, fun _ _ => htab, rfl⟩
    exact key ad s.heap ls [] 0 0 (fun _ _ => rfl) (Nat.le_refl _) h3 (wf_args As 0 hst) (fun v hv => by cases hv) h4 (by rw [cL_args]; exact hl) hP hD va_S.rf (Nat.zero_add _) (Nat.zero_add _)
theorem sx_iret {cc : ByteArray} {nL : Nat} {own nm : String} {fr lo : Nat} {J : JT} {an : AX} (hI : IsX cc nL own nm fr lo (some .int) an J) {pc : Nat} {L : List (Nat × Value)} {β : Bu} {σ : St} {δ : Dy} {ρ : Type} {P : ρ → Prop} {y : ρ} {x : Int32} (d : decode cc pc = .ok (.ireturn, 1)) (hp : P y → an = (.inl (some (.int x)), σ, δ)) : SJ (some y) P (J pc L [.int x] β σ δ) := by
  refine sj_end (fun h => ?_)
  have hpe := hp h
  subst hpe
  exact sj_iret hI.isj (P := fun _ : Unit => True) (y := ()) d (fun _ => rfl) () rfl trivial
theorem sx_zret {cc : ByteArray} {nL : Nat} {own nm : String} {fr lo : Nat} {J : JT} {an : AX} (hI : IsX cc nL own nm fr lo (some .boolean) an J) {pc : Nat} {L : List (Nat × Value)} {β : Bu} {σ : St} {δ : Dy} {ρ : Type} {P : ρ → Prop} {y : ρ} {x : Int32} (hx01 : x = 0 ∨ x = 1) (d : decode cc pc = .ok (.ireturn, 1)) (hp : P y → an = (.inl (some (.int x)), σ, δ)) : SJ (some y) P (J pc L [.int x] β σ δ) := by
  refine sj_end (fun h => ?_)
  have hpe := hp h
  subst hpe
  exact sj_zret hI.isj (P := fun _ : Unit => True) (y := ()) hx01 d (fun _ => rfl) () rfl trivial
theorem sx_vret {cc : ByteArray} {nL : Nat} {own nm : String} {fr lo : Nat} {J : JT} {an : AX} (hI : IsX cc nL own nm fr lo none an J) {pc : Nat} {L : List (Nat × Value)} {β : Bu} {σ : St} {δ : Dy} {ρ : Type} {P : ρ → Prop} {y : ρ} (d : decode cc pc = .ok (.return_, 1)) (hp : P y → an = (.inl none, σ, δ)) : SJ (some y) P (J pc L [] β σ δ) := by
  refine sj_end (fun h => ?_)
  have hpe := hp h
  subst hpe
  exact sj_vret hI.isj (P := fun _ : Unit => True) (y := ()) d (fun _ => rfl) () rfl trivial
theorem sx_zretG {cc : ByteArray} {nL : Nat} {own nm : String} {fr lo : Nat} {J : JT} {an : AX} (hI : IsX cc nL own nm fr lo (some .boolean) an J) {pc : Nat} {L : List (Nat × Value)} {β : Bu} {σ : St} {δ : Dy} {ρ : Type} {P : ρ → Prop} {y : ρ} {x : Int32} (d : decode cc pc = .ok (.ireturn, 1)) (hp : P y → an = (.inl (some (.int x)), σ, δ)) : SJ ((zo x).bind fun _ => some y) P (J pc L [.int x] β σ δ) := by
  refine sj_bind fun u hu => ?_
  exact sx_zret hI (if_some hu).1 d hp
theorem sx_aret {cc : ByteArray} {nL : Nat} {own nm : String} {fr lo : Nat} {J : JT} {an : AX} {rt : FieldType} (hrt : (∃ n, rt = .object n) ∨ ∃ t, rt = .array t) (hI : IsX cc nL own nm fr lo (some rt) an J) {pc : Nat} {L : List (Nat × Value)} {β : Bu} {σ : St} {δ : Dy} {ρ : Type} {P : ρ → Prop} {y : ρ} {x : Nat} (d : decode cc pc = .ok (.areturn, 1)) (hp : P y → an = (.inl (some (.ref x)), σ, δ)) : SJ (some y) P (J pc L [.ref x] β σ δ) := by
  refine sj_end (fun h => ?_)
  have hpe := hp h
  subst hpe
  exact sj_aret hrt hI.isj (P := fun _ : Unit => True) (y := ()) d (fun _ => rfl) () rfl trivial
/-- the words that stay by the state, of the throws -/
def exB : List Cond := xN.map (fun q => Cond.castable q q) ++ declL.map Cond.declares
theorem exB_at {s : State} {args : Array Value} (h : STA s) : ∀ w ∈ exB, w.before args s = true := by
  intro w hw
  rcases List.mem_append.mp hw with hw | hw
  · obtain ⟨q, hq, rfl⟩ := List.mem_map.mp hw
    exact va_Nw.use rfl (h.2.1 q hq)
  · obtain ⟨q, hq, rfl⟩ := List.mem_map.mp hw
    exact va_Nw.use rfl (h.2.2.1 q hq)
def xch : List String := ["java/lang/RuntimeException", "java/lang/Exception"]
/-- what a throw takes of the tables -/
def TX (own : String) (ik ic e : Nat) : Prop := (Bundle.fit (xname e) = true ∧ (∀ n ∈ xch, Bundle.fit n = true)) ∧ (Cond.classLink own ik (xname e) ∈ lwg ∧ Cond.initialized (xname e) ∈ lwg) ∧ (∀ w ∈ (vx_atS own ic (xname e) xch).filter goodWord, w ∈ lwg) ∧ (∀ w ∈ (vx_atS own ic (xname e) xch).filter (fun w => !goodWord w), w ∈ exB) ∧ (∀ w ∈ Cond.classLink own ik (xname e) :: Cond.initialized (xname e) :: vx_atS own ic (xname e) xch, vx_ot w = true)
set_option maxHeartbeats 1000000 in
theorem sx_throw {cc : ByteArray} {nL : Nat} {nm : String} {fr lo : Nat} {J : JT} {an : AX} {ret : Option FieldType} (hI : IsX cc nL RX11 nm fr lo ret an J) {pc : Nat} {L : List (Nat × Value)} {st : List Value} {β : Bu} {σ : St} {δ : Dy} {ρ : Type} {P : ρ → Prop} {y : ρ} {ik ic is : Nat} {text : String} {e : Nat} (tx : TX RX11 ik ic e) (hs : (is, text) ∈ strL) (hβ : β = bX an) (hfr6 : 6 ≤ fr) (hlo90 : 90 ≤ lo) (hrest : (st.map fun v => v.category).sum ≤ 8)
    (d0 : decode cc pc = .ok (.new ik, 3)) (d3 : decode cc (pc + 3) = .ok (.dup, 1)) (d4 : decode cc (pc + 4) = .ok (.ldc is, 2)) (d6 : decode cc (pc + 6) = .ok (.invokespecial ic, 3)) (d9 : decode cc (pc + 9) = .ok (.athrow, 1)) (hp : P y → an = (.inr e, σ, δ)) : SJ (some y) P (J pc L st β σ δ) := by
  refine sj_end (fun h => ?_)
  have hpe := hp h
  subst hpe
  subst hβ
  obtain ⟨⟨t1, t2⟩, ⟨t3, t4⟩, t5, t6, t7⟩ := tx
  obtain ⟨p, l, e', R, s, m, args, below, meth, c, D, tc, A, ad0, n0, ⟨hx, hb, hml, hown, hts, hK, hA, hfr, hlo, hRc, hRs, hro, hnm, htr⟩, hr, hlocks, htab, rfl⟩ := hI
  intro ad H ls locs cells slots h1 h2 h3 hL hst h4 hl hP hD hS hc hs
  obtain ⟨sa, hsa⟩ := hro.2.1.2.2.2.1 _ ‹(is, text) ∈ strL›
  have hRc' : R.cells = 1 := hRc
  have hRs' : R.slots = 6 := hRs
  have hc' : cells + 1 = 1 := hc
  have hs' : slots + 6 = 6 := hs
  have htab' := htab e rfl
  refine vx_throwS (names := xch) (sa := sa) hx hb htr hown t1 t2 (hts _ t3) (hts _ t4) hsa (vx_hat (fun w hw => hts w (t5 w hw)) t6 (exB_at hro.2.1)) t7 hro.2.2.1 hro.2.2.2 hS (hl.1.trans hml.symm) d0 d3 d4 d6 d9 (fun x hx => absurd hx (fun h => htab' x h)) (by show 2 + 3 < R.frames; omega) (by rw [cat_cv]; show _ + (13 * (2 + 1) + 43) ≤ R.locals; omega) (by omega) (by omega) hlocks (fun t hvm hz hq => ⟨rfl, ⟨ad, h1, ⟨hP.kept (fun k q hk => hq _ (vx_lt hP hk)), va_K.moved hvm hK, hD⟩, h2, h3, h4⟩, ?_⟩) hS.2.2 (by omega) (by omega)
  exact ⟨Nat.le_trans hS.1 hz, fun q q1 q2 => (hq q (Nat.lt_of_lt_of_le q1 hS.1)).trans (hS.2.1 q q1 q2)⟩
set_option maxHeartbeats 1000000 in
theorem sx_throwW {cc : ByteArray} {nL : Nat} {nm : String} {fr lo : Nat} {J : JT} {an : AX} {ret : Option FieldType} (hI : IsX cc nL RX11 nm fr lo ret an J) {pc : Nat} {L : List (Nat × Value)} {st : List Value} {β : Bu} {σ : St} {δ : Dy} {ρ : Type} {P : ρ → Prop} {y : ρ} {ik ic is : Nat} {text : String} {e : Nat} (tx : TX RX11 ik ic e) (hs : (is, text) ∈ strL) (hβ : β = bX an) (hfr6 : 6 ≤ fr) (hlo90 : 90 ≤ lo) (hrest : (st.map fun v => v.category).sum ≤ 8)
    (d0 : decode cc pc = .ok (.new ik, 3)) (d3 : decode cc (pc + 3) = .ok (.dup, 1)) (d4 : decode cc (pc + 4) = .ok (.ldc_w is, 3)) (d6 : decode cc (pc + 7) = .ok (.invokespecial ic, 3)) (d9 : decode cc (pc + 10) = .ok (.athrow, 1)) (hp : P y → an = (.inr e, σ, δ)) : SJ (some y) P (J pc L st β σ δ) := by
  refine sj_end (fun h => ?_)
  have hpe := hp h
  subst hpe
  subst hβ
  obtain ⟨⟨t1, t2⟩, ⟨t3, t4⟩, t5, t6, t7⟩ := tx
  obtain ⟨p, l, e', R, s, m, args, below, meth, c, D, tc, A, ad0, n0, ⟨hx, hb, hml, hown, hts, hK, hA, hfr, hlo, hRc, hRs, hro, hnm, htr⟩, hr, hlocks, htab, rfl⟩ := hI
  intro ad H ls locs cells slots h1 h2 h3 hL hst h4 hl hP hD hS hc hs
  obtain ⟨sa, hsa⟩ := hro.2.1.2.2.2.1 _ ‹(is, text) ∈ strL›
  have hRc' : R.cells = 1 := hRc
  have hRs' : R.slots = 6 := hRs
  have hc' : cells + 1 = 1 := hc
  have hs' : slots + 6 = 6 := hs
  have htab' := htab e rfl
  refine vx_throwSW (names := xch) (sa := sa) hx hb htr hown t1 t2 (hts _ t3) (hts _ t4) hsa (vx_hat (fun w hw => hts w (t5 w hw)) t6 (exB_at hro.2.1)) t7 hro.2.2.1 hro.2.2.2 hS (hl.1.trans hml.symm) d0 d3 d4 d6 d9 (fun x hx => absurd hx (fun h => htab' x h)) (by show 2 + 3 < R.frames; omega) (by rw [cat_cv]; show _ + (13 * (2 + 1) + 43) ≤ R.locals; omega) (by omega) (by omega) hlocks (fun t hvm hz hq => ⟨rfl, ⟨ad, h1, ⟨hP.kept (fun k q hk => hq _ (vx_lt hP hk)), va_K.moved hvm hK, hD⟩, h2, h3, h4⟩, ?_⟩) hS.2.2 (by omega) (by omega)
  exact ⟨Nat.le_trans hS.1 hz, fun q q1 q2 => (hq q (Nat.lt_of_lt_of_le q1 hS.1)).trans (hS.2.1 q q1 q2)⟩
