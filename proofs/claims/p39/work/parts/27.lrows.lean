def RL : String := "TellcourtLaw"
/-! THE CLAIM OUT OF ONE WALK OF THE LAW'S BODY. Your part is whole_start (and what it stands on); all else here is the same for every law, but numbers. -/
def R_law : String := "TellcourtLaw"
def lw_P (b : Addr) (xs : List Int32) (args : Array Value) (s : State) : Prop := args = #[.ref b] ∧ s.IntsAt b xs ∧ xs.length ≤ 260 ∧ (Jvm.Cond.and given_1 narrow_1).before args s = true
def lw_Q (_ : Array Value) (s : State) (o : Outcome) (t : State) : Prop := o = .returned (some (.int 1)) ∧ Framed s o t [] 600086 7301442
def lw_Z (below : List Frame) (a : Array Value) (s : State) : State → Prop := fun t => ∃ o, t.status = .running ∧ Ended t below o ∧ lw_Q a s o t
/-- the law's own end, with 1 on the stack, nothing written that was there before, its room as the claim has it -/
theorem lw_ret {p : Program} {l : Launch} {e : Env} {s : State} {m : MethodId} {below : List Frame} {meth : Method} {c : Code} {b : Nat} (hx : p.tables.exec = Jvm.exec) (hb : c.code = code) (hr : meth.sig.returnType = ret) (hlocks : meth.locks = false) {pc : Nat} {H : Heap} {ls : Array Slot} (hdg : decode code pc = .ok (.ireturn, 1)) : W p l e room_1 s m #[Value.ref b] below meth c H [] 600086 7301442 (lw_Z below #[Value.ref b] s) (F0 m pc ls [.int 1]) := by
  intro T hT X
  obtain ⟨fs, hret, hrun, hended, hW, hframe⟩ := X.leave (v := some (.int 1)) (hlocks := hlocks) (fun h => by rw [hr] at h; cases h)
  have hmeth' : T.vm.method? m = some meth := X.method'
  refine ⟨T.setFrames fs, ?_, .returned (some (.int 1)), hrun, hended, rfl, ⟨_, rfl⟩, hW, hframe⟩
  jvm_step X.here [X.here.top, hx, hb, hdg, hmeth', hr, ret, narrow_b1]
  (try refine ⟨rfl, ?_⟩); (try refine ⟨rfl, ?_⟩)
  first | (intro acts; rw [hret _ acts rfl rfl rfl]) | rw [hret _ _ rfl rfl rfl]
  exact Steps.refl _
/-- what holds at the law's entry: the machine, the code, the tables' words (any of lw_tbl by 'hts w (by decide +kernel)'), the script of L ints xs at the cell b, what the Statement gives of the start (any of its parts by flat_of_before) -/
def lw_At (p : Program) (s : State) (m : MethodId) (meth : Method) (c : Code) (b L : Nat) (xs : Nat → Int32) : Prop :=
  p.tables.exec = Jvm.exec ∧ c.code = code ∧ meth.sig.returnType = ret ∧ c.maxLocals = 31 ∧ s.vm.findClass R_law = some m.cls ∧ (∀ w ∈ lw_tbl, w.before #[Value.ref b] s = true) ∧ va_X b L xs s s.heap ∧ b < s.heap.size ∧ meth.locks = false ∧ (Jvm.Cond.and given_1 narrow_1).before #[Value.ref b] s = true
/-! THE LAW'S OWN BODY, AND WHAT IT CALLS OF ITS OWN -/
def ush (x y : Int32) : Int32 := (x.toUInt32 >>> (y.toUInt32 &&& Int32.toUInt32 31)).toInt32
theorem j_iushr {cc : ByteArray} {nL : Nat} {own nm : String} {fr lo : Nat} {J : JT} (hJ : Cor cc nL own nm fr lo J) {pc : Nat} {L : List (Nat × Value)} {st : List Value} {β : Bu} {σ : St} {δ : Dy} {x y : Int32} (d : decode cc pc = .ok (.iushr, 1)) (k : J (pc + 1) L (.int (ush x y) :: st) β σ δ) : J pc L (.int y :: .int x :: st) β σ δ := by
  obtain ⟨p, l, e, R, s, m, args, below, meth, c, D, tc, A, ad0, n0, mc, ms, Q, ⟨hx, hb, hml, hown, hts, hK, hA, hfr, hlo, hRc, hRs, hro, hnm, htr⟩, rfl⟩ := hJ
  intro ad H ls locs cells slots h1 h2 h3 hL hst h4 hl hP hD hS hc hs
  exact lv_iushr hx hb d rfl (k ad H ls locs cells slots h1 h2 h3 hL (wfc trivial (wft (wft hst))) h4 hl hP hD hS hc hs)
/-- the script lies at roB -/
def ScJ (xs : Nat → Int32) (N : Nat) (cc : ByteArray) (nL : Nat) (own nm : String) (fr lo : Nat) (J : JT) : Prop :=
  ∃ (p : Program) (l : Launch) (e : Env) (R : Room) (s : State) (m : MethodId) (args : Array Value) (below : List Frame) (meth : Method) (c : Code) (D : va_G) (tc : Nat → ClassId) (A : Nat → Prop) (ad0 : Nat → Nat) (n0 mc ms : Nat) (Q : State → Prop),
    Fac p l s R m args c D tc A ad0 cc nL own fr lo mc ms meth nm ∧ va_X (ad0 roB) N xs s s.heap ∧ ad0 roB < s.heap.size ∧ ¬ A (ad0 roB) ∧ J = Jdef p l e R s m args below meth c D tc A ad0 n0 nL mc ms Q
def rS (xs : Nat → Int32) (N : Nat) (i : Int32) : Option Int32 := if inb i N = true then some (xs i.toNatClampNeg) else none
theorem sl_rS {xs : Nat → Int32} {N : Nat} {cc : ByteArray} {nL : Nat} {own nm : String} {fr lo : Nat} {J : JT} (hI : ScJ xs N cc nL own nm fr lo J) {pc : Nat} {L : List (Nat × Value)} {st : List Value} {β : Bu} {σ : St} {δ : Dy} {ρ : Type} {P : ρ → Prop} {f : Int32 → Option ρ} {i : Int32} (d : decode cc pc = .ok (.iaload, 1)) (kk : ∀ v, SJ (f v) P (J (pc + 1) L (.int v :: st) β σ δ)) : SJ ((rS xs N i).bind f) P (J pc L (.int i :: .ref roB :: st) β σ δ) := by
  refine sj_bind fun v hv => ?_
  obtain ⟨hin, hve⟩ := if_some hv
  refine sj (fun k' => ?_) (kk v)
  obtain ⟨p, l, e, R, s, m, args, below, meth, c, D, tc, A, ad0, n0, mc, ms, Q, ⟨hx, hb, hml, hown, hts, hK, hA, hfr, hlo, hRc, hRs, hro, hnm, htr⟩, hX, hbl, hnA, rfl⟩ := hI
  intro ad H ls locs cells slots h1 h2 h3 hL hst h4 hl hP hD hS hc hs
  have hres := k' ad H ls locs cells slots h1 h2 h3 hL (wfc trivial (wft (wft hst))) h4 hl hP hD hS hc hs
  subst hve
  have e0 : ad roB = ad0 roB := h1 _ (Or.inr (Nat.le_refl _))
  show W p l e R s m args below meth c H locs cells slots _ (F0 m pc ls (.int i :: .ref (ad roB) :: st.map (cv ad)))
  rw [e0]
  exact va_sld hx hb hX hbl hnA hS (inb_vp hin) d hres
theorem jl_len {xs : Nat → Int32} {N : Nat} {cc : ByteArray} {nL : Nat} {own nm : String} {fr lo : Nat} {J : JT} (hI : ScJ xs N cc nL own nm fr lo J) {pc : Nat} {L : List (Nat × Value)} {st : List Value} {β : Bu} {σ : St} {δ : Dy} (d : decode cc pc = .ok (.arraylength, 1)) (k : J (pc + 1) L (.int (Int32.ofNat N) :: st) β σ δ) : J pc L (.ref roB :: st) β σ δ := by
  obtain ⟨p, l, e, R, s, m, args, below, meth, c, D, tc, A, ad0, n0, mc, ms, Q, ⟨hx, hb, hml, hown, hts, hK, hA, hfr, hlo, hRc, hRs, hro, hnm, htr⟩, hX, hbl, hnA, rfl⟩ := hI
  intro ad H ls locs cells slots h1 h2 h3 hL hst h4 hl hP hD hS hc hs
  have hres := k ad H ls locs cells slots h1 h2 h3 hL (wfc trivial (wft hst)) h4 hl hP hD hS hc hs
  have e0 : ad roB = ad0 roB := h1 _ (Or.inr (Nat.le_refl _))
  show W p l e R s m args below meth c H locs cells slots _ (F0 m pc ls (.ref (ad roB) :: st.map (cv ad)))
  rw [e0]
  exact va_slen hx hb hX hbl hnA hS d hres
def IsL (xs : Nat → Int32) (N : Nat) (J : JT) : Prop :=
  ∃ (p : Program) (l : Launch) (e : Env) (s : State) (m : MethodId) (b : Nat) (below : List Frame) (meth : Method) (c : Code) (D : va_G) (tc : Nat → ClassId) (ad0 : Nat → Nat),
    Fac p l s room_1 m #[Value.ref b] c D tc (fun q : Nat => s.heap.size ≤ q) ad0 code 31 RL 11 406 600086 7301442 meth meth.name ∧ meth.sig.returnType = ret ∧ meth.locks = false ∧ va_X b N xs s s.heap ∧ b < s.heap.size ∧ ad0 roB = b ∧
    J = Jdef p l e room_1 s m #[Value.ref b] below meth c D tc (fun q : Nat => s.heap.size ≤ q) ad0 0 31 600086 7301442 (lw_Z below #[Value.ref b] s)
theorem IsL.cor {xs : Nat → Int32} {N : Nat} {J : JT} (h : IsL xs N J) : Cor code 31 RL (Classical.choose (show ∃ nm : String, Cor code 31 RL nm 11 406 J from by
    obtain ⟨p, l, e, s, m, b, below, meth, c, D, tc, ad0, h1, -, -, -, -, -, h2⟩ := h
    exact ⟨meth.name, p, l, e, room_1, s, m, _, below, meth, c, D, tc, _, ad0, 0, _, _, _, h1, h2⟩)) 11 406 J := Classical.choose_spec (show ∃ nm : String, Cor code 31 RL nm 11 406 J from by
    obtain ⟨p, l, e, s, m, b, below, meth, c, D, tc, ad0, h1, -, -, -, -, -, h2⟩ := h
    exact ⟨meth.name, p, l, e, room_1, s, m, _, below, meth, c, D, tc, _, ad0, 0, _, _, _, h1, h2⟩)
theorem IsL.sc {xs : Nat → Int32} {N : Nat} {J : JT} (h : IsL xs N J) : ∃ nm : String, ScJ xs N code 31 RL nm 11 406 J := by
  obtain ⟨p, l, e, s, m, b, below, meth, c, D, tc, ad0, h1, -, -, hX, hbl, rfl, h2⟩ := h
  exact ⟨meth.name, p, l, e, room_1, s, m, _, below, meth, c, D, tc, _, ad0, 0, _, _, _, h1, hX, hbl, Nat.not_le.mpr hbl, h2⟩
theorem jl_ret {xs : Nat → Int32} {N : Nat} {J : JT} (hI : IsL xs N J) {pc : Nat} {L : List (Nat × Value)} {β : Bu} {σ : St} {δ : Dy} (d : decode code pc = .ok (.ireturn, 1)) : J pc L [.int 1] β σ δ := by
  obtain ⟨p, l, e, s, m, b, below, meth, c, D, tc, ad0, ⟨hx, hb, hml, hown, hts, hK, hA, hfr, hlo, hRc, hRs, hro, hnm, htr⟩, hr, hlocks, hX, hbl, hb0, rfl⟩ := hI
  intro ad H ls locs cells slots h1 h2 h3 hL hst h4 hl hP hD hS hc hs
  refine va_forget (fun q hq => hS.2.2 q hq) ?_
  refine W.widen (k := 600086) (n := 7301442) (by omega) (by omega) ?_
  exact lw_ret hx hb hr hlocks d
/-- a method of the law's own that reads the script -/
def IsC (xs : Nat → Int32) (N : Nat) (cc : ByteArray) (nL : Nat) (own nm : String) (fr lo : Nat) (ret : Option FieldType) (an : Option Value × St × Dy) (J : JT) : Prop :=
  ∃ (p : Program) (l : Launch) (e : Env) (R : Room) (s : State) (m : MethodId) (args : Array Value) (below : List Frame) (meth : Method) (c : Code) (D : va_G) (tc : Nat → ClassId) (A : Nat → Prop) (ad0 : Nat → Nat) (n0 mc ms : Nat),
    Fac p l s R m args c D tc A ad0 cc nL own fr lo mc ms meth nm ∧ meth.sig.returnType = ret ∧ meth.locks = false ∧ (va_X (ad0 roB) N xs s s.heap ∧ ad0 roB < s.heap.size ∧ ¬ A (ad0 roB)) ∧ J = Jdef p l e R s m args below meth c D tc A ad0 n0 nL mc ms (MQ below (QcT D tc A ad0 n0 an) args s mc ms A)
theorem IsC.isj {xs : Nat → Int32} {N : Nat} {cc : ByteArray} {nL : Nat} {own nm : String} {fr lo : Nat} {J : JT} {ret : Option FieldType} {an : Option Value × St × Dy} (h : IsC xs N cc nL own nm fr lo ret an J) : Isj cc nL own nm fr lo ret an J := by
  obtain ⟨p, l, e, R, s, m, args, below, meth, c, D, tc, A, ad0, n0, mc, ms, h1, h2, h3, -, h4⟩ := h
  exact ⟨p, l, e, R, s, m, args, below, meth, c, D, tc, A, ad0, n0, mc, ms, h1, h2, h3, h4⟩
theorem IsC.sc {xs : Nat → Int32} {N : Nat} {cc : ByteArray} {nL : Nat} {own nm : String} {fr lo : Nat} {J : JT} {ret : Option FieldType} {an : Option Value × St × Dy} (h : IsC xs N cc nL own nm fr lo ret an J) : ScJ xs N cc nL own nm fr lo J := by
  obtain ⟨p, l, e, R, s, m, args, below, meth, c, D, tc, A, ad0, n0, mc, ms, h1, h2, h3, ⟨h5, h6, h7⟩, h4⟩ := h
  exact ⟨p, l, e, R, s, m, args, below, meth, c, D, tc, A, ad0, n0, mc, ms, _, h1, h5, h6, h7, h4⟩
def PcC (xs : Nat → Int32) (N : Nat) (D : va_G) (tc : Nat → ClassId) (ad : Nat → Nat) (As : List Value) (σ : St) (δ : Dy) (sz : Nat) : Array Value → State → Prop := fun a U => PcT D tc ad As σ δ sz a U ∧ va_X (ad roB) N xs U U.heap ∧ ad roB < U.heap.size ∧ ¬ va_A (wld ad tc σ δ) sz (ad roB)
def CTc (xs : Nat → Int32) (N : Nat) (y : MethodName) (cc : ByteArray) (nL : Nat) (ret : Option FieldType) (fr lo : Nat) (As : List Value) (σ : St) (δ : Dy) (an : Option Value × St × Dy) : Prop :=
  ∀ (l : Launch) (D : va_G) (tc : Nat → ClassId) (ad : Nat → Nat) (sz : Nat), l.stackTraces = false → sn σ ≤ roB → wfm σ → (∀ x ∈ As, wfv (sn σ) x) →
    Met l y (.code y cc nL ret :: lwg) { frames := fr, cells := 0, slots := 0, locals := lo } (PcC xs N D tc ad As σ δ sz) (QcT D tc (va_A (wld ad tc σ δ) sz) ad (sn σ) an) 0 0 (va_A (wld ad tc σ δ) sz)
theorem PcC_blind {xs : Nat → Int32} {N : Nat} {D : va_G} {tc : Nat → ClassId} {ad : Nat → Nat} {As : List Value} {σ : St} {δ : Dy} {sz : Nat} : FrameBlind (PcC xs N D tc ad As σ δ sz) := by
  intro a U g mk h
  obtain ⟨h1, h2, h3, h4⟩ := h
  exact ⟨PcT_blind a U g mk h1, va_X.moved (u := U) (U := U.calling g mk a) (Vm.Alike.refl U.vm) h2, h3, h4⟩
set_option maxHeartbeats 1000000 in
theorem CTc_of {xs : Nat → Int32} {N : Nat} {y : MethodName} {cc : ByteArray} {nL : Nat} {ret : Option FieldType} {fr lo : Nat} {As : List Value} {σ : St} {δ : Dy} {an : Option Value × St × Dy} (hy : plainName y.cls = true) (hlen : (lg_sl As).length ≤ nL)
    (body : ∀ J : JT, IsC xs N cc nL y.cls y.name fr lo ret an J → J 0 (lv_args 0 As) [] (0, 0) σ δ) : CTc xs N y cc nL ret fr lo As σ δ an := by
  intro l D tc ad sz htr h3 h4 hst
  refine Met.ofW (cc := cc) (maxL := nL) (ret := ret) hy rfl ?_
  intro p e s m args below meth c s₁ B hml hv
  obtain ⟨⟨rfl, hsz, ⟨hP, hK, hD0⟩, hro⟩, hX, hbl, hnA⟩ := hv
  have hx := B.exec
  have hb := B.bytes
  have hr := B.returns
  have hts := atoms_spec (ws := .code y cc nL ret :: lwg) B.pre
  have hown : s.vm.findClass y.cls = some m.cls := findClass_of_methodNamed B.named
  have hlocks := B.notSynchronized
  have hin : meth.name = y.name := (name_of_methodNamed B.named B.method).1
  subst hsz
  have hD := hD0.self (sz := s.heap.size)
  have hl := lv_entry (As.map (cv ad)) (n := nL) (by rw [lg_sl_cv]; exact hlen)
  rw [lg_entry_eq]
  generalize (lg_sl (As.map (cv ad)) ++ List.replicate (nL - (lg_sl (As.map (cv ad))).length) Slot.unset).toArray = ls at hl ⊢
  have hA : ∀ q : Nat, s.heap.size ≤ q → va_A (wld ad tc σ δ) s.heap.size q := fun q h => Or.inr h
  have key := body _ ⟨p, l, e, { frames := fr, cells := 0, slots := 0, locals := lo }, s, m, (As.map (cv ad)).toArray, below, meth, c, D, tc, va_A (wld ad tc σ δ) s.heap.size, ad, sn σ, 0, 0, ⟨hx, hb, hml, hown, fun w hw => hts w (List.mem_cons_of_mem _ hw), hK, hA, Nat.le_refl _, Nat.le_refl _, rfl, rfl, hro, hin, htr⟩, hr, hlocks, ⟨hX, hbl, hnA⟩, rfl⟩
  exact key ad s.heap ls [] 0 0 (fun _ _ => rfl) (Nat.le_refl _) h3 (wf_args As 0 hst) (fun v hv => by cases hv) h4 (by rw [cL_args]; exact hl) hP hD va_S.rf (Nat.zero_add _) (Nat.zero_add _)
set_option maxHeartbeats 1000000 in
theorem sl_callC0 {xs : Nat → Int32} {N : Nat} {cc : ByteArray} {nL : Nat} {own nm : String} {fr lo : Nat} {J : JT} (hJ : ScJ xs N cc nL own nm fr lo J) {pc : Nat} {L : List (Nat × Value)} {st : List Value} {β : Bu} {σ : St} {δ : Dy} {ρ : Type} {P : ρ → Prop} {mf : Option Int32} {f : Int32 → Option ρ}
    {idx : Nat} {y : MethodName} {cc' : ByteArray} {nL' : Nat} {ret' : Option FieldType} {fr' lo' : Nat} {As : List Value} (ml : MLS own idx y cc' nL' ret' As.length) (hfr : fr' + 1 ≤ fr) (hlo : 8 + (nL' + 11) + lo' ≤ lo) (hrest : (st.map fun v => v.category).sum ≤ 8)
    (d : decode cc pc = .ok (.invokestatic idx, 3)) {stk : List Value} (hstk : stk = As.reverse ++ st) (ct : ∀ r, mf = some r → CTc xs N y cc' nL' ret' fr' lo' As σ δ (some (.int r), σ, δ))
    (kk : ∀ r : Int32, SJ (f r) P (J (pc + 3) L (.int r :: st) β σ δ)) : SJ (mf.bind f) P (J pc L stk β σ δ) := by
  subst hstk
  refine sj_bind fun r hr => sj (fun k' => ?_) (kk r)
  have hct := ct r hr
  obtain ⟨⟨hw1, hw2, hw4, hw5⟩, hy1, hy2, hyn⟩ := ml
  obtain ⟨p, l, e, R, s, m, args, below, meth, c, D, tc, A, ad0, n0, mc, ms, Q, ⟨hx, hb, hml, hown, hts, hK, hA, hfR, hlR, hRc, hRs, hro, hnm, htr⟩, hX, hbl, hnA, rfl⟩ := hJ
  intro ad H ls locs cells slots h1 h2 h3 hL hst h4 hl hP hD hS hc hs
  have hstr : ∀ v ∈ st, wfv (sn σ) v := fun v hv => hst v (List.mem_append_right _ hv)
  have hwA : ∀ x ∈ As, wfv (sn σ) x := fun x hx => hst x (List.mem_append_left _ (List.mem_reverse.mpr hx))
  have hM := hct l D tc ad H.size htr h3 h4 hwA
  have hadr : ad (roB + 1) = ad0 (roB + 1) := h1 _ (Or.inr (Nat.le_succ _))
  have hadb : ad roB = ad0 roB := h1 _ (Or.inr (Nat.le_refl _))
  have hfA : ∀ q, va_A (wld ad tc σ δ) H.size q → A q := by
    intro q hq
    rcases hq with ⟨i, e9, he⟩ | hq
    · exact hD.2 i _ he
    · exact hA q (Nat.le_trans hS.1 hq)
  have hgi : GoodIn lwg (.code y cc' nL' ret' :: lwg) := lwg_in (by
      intro w hw
      rcases List.mem_cons.mp hw with rfl | hw
      · exact hw5
      · exact hw)
  have hcb : CallB R s args own idx y cc' nL' ret' (.code y cc' nL' ret' :: lwg) { frames := fr', cells := 0, slots := 0, locals := lo' } 0 0 As.length := ⟨rfl, rfl, Nat.le_trans hfr hfR, Nat.le_trans hlo hlR, pay_in hts hgi, List.mem_cons_self, hts _ hw5, hts _ hw4, ⟨hy1, hy2⟩, (fun sig h => by
    rw [h] at hyn
    exact (Option.some.inj hyn).symm), hts _ hw1⟩
  have hrun := va_runS (As := As.map (cv ad)) (rest := st.map (cv ad)) (H := H) (locs := locs) (cells := cells) (slots := slots) (g := F0 m pc ls ((As.reverse ++ st).map (cv ad))) (R := R) (e := e) (below := below) (meth := meth) ⟨hx, hb, hml, hown, hts⟩ hM
    ⟨hcb, hts _ hw2⟩
    ⟨PcC_blind, fun U hU hW => ⟨⟨rfl, by rw [hU], ⟨by rw [hU]; exact hP, va_K.moved hW.alike hK, hD.weaken (fun _ _ _ _ => trivial)⟩, ROf_to hro hadr hU hW hfA hS⟩, by
      rw [hadb, hU]
      exact ⟨va_X.moved hW.alike (hX.kept (hS.2.1 _ hbl hnA)), Nat.lt_of_lt_of_le hbl hS.1, fun q => hnA (hfA _ q)⟩⟩⟩
    rfl (by rw [List.length_map]) hl.1 (by simp [List.map_append, List.map_reverse]) (lv_room (by rw [cat_cv]; exact hrest)) d ⟨by rw [hRc]; omega, by rw [hRs]; omega⟩
  exact run_J (an := (some (.int r), σ, δ)) h1 h2 hL hstr hl hD hS hc hs hA (Nat.zero_le _) (Nat.zero_le _) hrun k'
theorem sl_callC {xs : Nat → Int32} {N : Nat} {J : JT} (hI : IsL xs N J) {pc : Nat} {L : List (Nat × Value)} {st : List Value} {β : Bu} {σ : St} {δ : Dy} {ρ : Type} {P : ρ → Prop} {mf : Option Int32} {f : Int32 → Option ρ}
    {idx : Nat} {y : MethodName} {cc' : ByteArray} {nL' : Nat} {ret' : Option FieldType} {fr' lo' : Nat} {p1 : Int32} (ml : MLS RL idx y cc' nL' ret' 2) (hfr : fr' + 1 ≤ 11) (hlo : 8 + (nL' + 11) + lo' ≤ 406) (hrest : (st.map fun v => v.category).sum ≤ 8)
    (d : decode code pc = .ok (.invokestatic idx, 3)) (ct : ∀ r, mf = some r → CTc xs N y cc' nL' ret' fr' lo' [.ref roB, .int p1] σ δ (some (.int r), σ, δ))
    (kk : ∀ r : Int32, SJ (f r) P (J (pc + 3) L (.int r :: st) β σ δ)) : SJ (mf.bind f) P (J pc L (.int p1 :: .ref roB :: st) β σ δ) := by
  obtain ⟨nm, hS⟩ := hI.sc
  exact sl_callC0 hS (As := [.ref roB, .int p1]) ml hfr hlo hrest d rfl ct kk
/-- goes on with a value; an exception is none -/
def xok {α ρ : Type} (v : α ⊕ Nat) (g : α → Option ρ) : Option ρ := match v with
  | .inl x => g x
  | .inr _ => none
theorem sl_callX {cc : ByteArray} {nL : Nat} {own nm : String} {fr lo : Nat} {J : JT} (hJ : Cor cc nL own nm fr lo J) {pc : Nat} {L : List (Nat × Value)} {st : List Value} {β : Bu} {σ : St} {δ : Dy} {ρ : Type} {P : ρ → Prop} {mf : Option ((Int32 ⊕ Nat) × Dy)} {g : (Int32 ⊕ Nat) × Dy → Int32 → Option ρ}
    {idx : Nat} {y : MethodName} {cc' : ByteArray} {nL' : Nat} {ret' : Option FieldType} {fr' lo' : Nat} (As : List Value) {b ci : Nat} (ml : MLV own idx y cc' nL' ret' As.length) (hcl : tkCl[ci]? = some (clC ci) ∧ (clC ci).1 = y.cls ∧ ci < 100) (hfr : fr' + 1 ≤ fr) (hlo : 8 + (nL' + 11) + lo' ≤ lo) (hrest : (st.map fun v => v.category).sum ≤ 8)
    (d : decode cc pc = .ok (.invokevirtual idx, 3)) {stk : List Value} (hstk : stk = As.reverse ++ .ref b :: st) (ct : ∀ r, mf = some r → CTX y cc' nL' ret' fr' lo' (.ref b :: As) σ δ (ox_i r.1, σ, r.2))
    (kk : ∀ (v : (Int32 ⊕ Nat) × Dy) (x : Int32), SJ (g v x) P (J (pc + 3) L (.int x :: st) β σ v.2)) : SJ ((chk σ ci b).bind fun _ => mf.bind fun v => xok v.1 (g v)) P (J pc L stk β σ δ) := by
  subst hstk
  refine sj_bind fun u hu => sj_bind fun r hr => ?_
  have hct := ct r hr
  obtain ⟨r1, δ'⟩ := r
  cases r1 with
  | inl x =>
    have hct' : CT y cc' nL' ret' fr' lo' 0 0 (.ref b :: As) σ δ (some (.int x), σ, δ') := hct
    have key := sj_callV hJ (mf := some ()) (f := fun _ => g (.inl x, δ') x) (P := P) (fun _ => (some (.int x), σ, δ')) ml hcl hfr hlo hrest (Nat.zero_le _) (Nat.zero_le _) d (fun _ _ => hct') (fun _ => kk (.inl x, δ') x)
    intro z hz hPz
    exact key z (by rw [hu]; exact hz) hPz
  | inr e => exact sj_none
theorem sl_callXp {cc : ByteArray} {nL : Nat} {own nm : String} {fr lo : Nat} {J : JT} (hJ : Cor cc nL own nm fr lo J) {pc : Nat} {L : List (Nat × Value)} {st : List Value} {β : Bu} {σ : St} {δ : Dy} {ρ : Type} {P : ρ → Prop} {mf : Option (Int32 ⊕ Nat)} {g : (Int32 ⊕ Nat) → Int32 → Option ρ}
    {idx : Nat} {y : MethodName} {cc' : ByteArray} {nL' : Nat} {ret' : Option FieldType} {fr' lo' : Nat} (As : List Value) {b ci : Nat} (ml : MLV own idx y cc' nL' ret' As.length) (hcl : tkCl[ci]? = some (clC ci) ∧ (clC ci).1 = y.cls ∧ ci < 100) (hfr : fr' + 1 ≤ fr) (hlo : 8 + (nL' + 11) + lo' ≤ lo) (hrest : (st.map fun v => v.category).sum ≤ 8)
    (d : decode cc pc = .ok (.invokevirtual idx, 3)) {stk : List Value} (hstk : stk = As.reverse ++ .ref b :: st) (ct : ∀ r, mf = some r → CTX y cc' nL' ret' fr' lo' (.ref b :: As) σ δ (ox_i r, σ, δ))
    (kk : ∀ (v : Int32 ⊕ Nat) (x : Int32), SJ (g v x) P (J (pc + 3) L (.int x :: st) β σ δ)) : SJ ((chk σ ci b).bind fun _ => mf.bind fun v => xok v (g v)) P (J pc L stk β σ δ) := by
  subst hstk
  refine sj_bind fun u hu => sj_bind fun r hr => ?_
  have hct := ct r hr
  cases r with
  | inl x =>
    have hct' : CT y cc' nL' ret' fr' lo' 0 0 (.ref b :: As) σ δ (some (.int x), σ, δ) := hct
    have key := sj_callV hJ (mf := some ()) (f := fun _ => g (.inl x) x) (P := P) (fun _ => (some (.int x), σ, δ)) ml hcl hfr hlo hrest (Nat.zero_le _) (Nat.zero_le _) d (fun _ _ => hct') (fun _ => kk (.inl x) x)
    intro z hz hPz
    exact key z (by rw [hu]; exact hz) hPz
  | inr e => exact sj_none
