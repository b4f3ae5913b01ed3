/-! THE CLAIM OUT OF ONE WALK OF THE LAW'S BODY. Your part is whole_start (and what it stands on); all else here is the same for every law, but numbers. -/
def R_law : String := "TellcourtLaw"
def lw_P (b : Addr) (xs : List Int32) (args : Array Value) (s : State) : Prop := args = #[.ref b] ∧ s.IntsAt b xs ∧ xs.length ≤ 3072 ∧ (Jvm.Cond.and given_1 narrow_1).before args s = true
def lw_Q (_ : Array Value) (s : State) (o : Outcome) (t : State) : Prop := o = .returned (some (.int 1)) ∧ Framed s o t [] 601024 7293034
def lw_Z (below : List Frame) (a : Array Value) (s : State) : State → Prop := fun t => ∃ o, t.status = .running ∧ Ended t below o ∧ lw_Q a s o t
/-- the law's own end, with 1 on the stack, nothing written that was there before, its room as the claim has it -/
theorem lw_ret {p : Program} {l : Launch} {e : Env} {s : State} {m : MethodId} {below : List Frame} {meth : Method} {c : Code} {b : Nat} (hx : p.tables.exec = Jvm.exec) (hb : c.code = code) (hr : meth.sig.returnType = ret) (hlocks : meth.locks = false) {pc : Nat} {H : Heap} {ls : Array Slot} (hdg : decode code pc = .ok (.ireturn, 1)) : W p l e room_1 s m #[Value.ref b] below meth c H [] 601024 7293034 (lw_Z below #[Value.ref b] s) (F0 m pc ls [.int 1]) := by
  intro T hT X
  obtain ⟨fs, hret, hrun, hended, hW, hframe⟩ := X.leave (v := some (.int 1)) (hlocks := hlocks) (fun h => by rw [hr] at h; cases h)
  have hmeth' : T.vm.method? m = some meth := X.method'
  refine ⟨T.setFrames fs, ?_, .returned (some (.int 1)), hrun, hended, rfl, ⟨_, rfl⟩, hW, hframe⟩
  jvm_step X.here [X.here.top, hx, hb, hdg, hmeth', hr, ret, narrow_b1]
  (try refine ⟨rfl, ?_⟩); (try refine ⟨rfl, ?_⟩)
  first | (intro acts; rw [hret _ acts rfl rfl rfl]) | rw [hret _ _ rfl rfl rfl]
  exact Steps.refl _
/-- what holds at the law's entry: the machine, the code, the tables' words (any of lw_tbl by 'hts w (by decide +kernel)'), the script of L ints xs at the cell b, what the Statement gives of the start (any of its parts by flat_of_before) -/
def lw_At (p : Program) (s : State) (m : MethodId) (meth : Method) (c : Code) (b L : Nat) (xs : Nat → Int32) : Prop :=
  p.tables.exec = Jvm.exec ∧ c.code = code ∧ meth.sig.returnType = ret ∧ c.maxLocals = 7 ∧ s.vm.findClass R_law = some m.cls ∧ (∀ w ∈ lw_tbl, w.before #[Value.ref b] s = true) ∧ va_X b L xs s s.heap ∧ b < s.heap.size ∧ meth.locks = false ∧ (Jvm.Cond.and given_1 narrow_1).before #[Value.ref b] s = true
/-! THE LAW'S OWN BODY -/
def IsL (xs : Nat → Int32) (N : Nat) (J : JT) : Prop :=
  ∃ (p : Program) (l : Launch) (e : Env) (s : State) (m : MethodId) (b : Nat) (below : List Frame) (meth : Method) (c : Code) (D : va_G) (tc : Nat → ClassId) (ad0 : Nat → Nat),
    Fac p l s room_1 m #[Value.ref b] c D tc (fun q : Nat => s.heap.size ≤ q) ad0 code 7 RL 2048 84000 601024 7293034 meth meth.name ∧ meth.sig.returnType = ret ∧ meth.locks = false ∧ va_X b N xs s s.heap ∧ b < s.heap.size ∧ ad0 roB = b ∧
    J = Jdef p l e room_1 s m #[Value.ref b] below meth c D tc (fun q : Nat => s.heap.size ≤ q) ad0 0 7 601024 7293034 (lw_Z below #[Value.ref b] s)
theorem IsL.cor {xs : Nat → Int32} {N : Nat} {J : JT} (h : IsL xs N J) : Cor code 7 RL (Classical.choose (show ∃ nm : String, Cor code 7 RL nm 2048 84000 J from by
    obtain ⟨p, l, e, s, m, b, below, meth, c, D, tc, ad0, h1, -, -, -, -, -, h2⟩ := h
    exact ⟨meth.name, p, l, e, room_1, s, m, _, below, meth, c, D, tc, _, ad0, 0, _, _, _, h1, h2⟩)) 2048 84000 J := Classical.choose_spec (show ∃ nm : String, Cor code 7 RL nm 2048 84000 J from by
    obtain ⟨p, l, e, s, m, b, below, meth, c, D, tc, ad0, h1, -, -, -, -, -, h2⟩ := h
    exact ⟨meth.name, p, l, e, room_1, s, m, _, below, meth, c, D, tc, _, ad0, 0, _, _, _, h1, h2⟩)
def rS (xs : Nat → Int32) (N : Nat) (i : Int32) : Option Int32 := if inb i N = true then some (xs i.toNatClampNeg) else none
theorem sl_rS {xs : Nat → Int32} {N : Nat} {J : JT} (hI : IsL xs N J) {pc : Nat} {L : List (Nat × Value)} {st : List Value} {β : Bu} {σ : St} {δ : Dy} {ρ : Type} {P : ρ → Prop} {f : Int32 → Option ρ} {i : Int32} (d : decode code pc = .ok (.iaload, 1)) (kk : ∀ v, SJ (f v) P (J (pc + 1) L (.int v :: st) β σ δ)) : SJ ((rS xs N i).bind f) P (J pc L (.int i :: .ref roB :: st) β σ δ) := by
  refine sj_bind fun v hv => ?_
  obtain ⟨hin, hve⟩ := if_some hv
  refine sj (fun k' => ?_) (kk v)
  obtain ⟨p, l, e, s, m, b, below, meth, c, D, tc, ad0, ⟨hx, hb, hml, hown, hts, hK, hA, hfr, hlo, hRc, hRs, hro, hnm, htr⟩, hr, hlocks, hX, hbl, hb0, rfl⟩ := hI
  intro ad H ls locs cells slots h1 h2 h3 hL hst h4 hl hP hD hS hc hs
  have hres := k' ad H ls locs cells slots h1 h2 h3 hL (wfc trivial (wft (wft hst))) h4 hl hP hD hS hc hs
  subst hve
  have e0 : ad roB = b := (h1 _ (Or.inr (Nat.le_refl _))).trans hb0
  show W p l e room_1 s m #[Value.ref b] below meth c H locs cells slots _ (F0 m pc ls (.int i :: .ref (ad roB) :: st.map (cv ad)))
  rw [e0]
  exact va_sld hx hb hX hbl (Nat.not_le.mpr hbl) hS (inb_vp hin) d hres
theorem jl_len {xs : Nat → Int32} {N : Nat} {J : JT} (hI : IsL xs N J) {pc : Nat} {L : List (Nat × Value)} {st : List Value} {β : Bu} {σ : St} {δ : Dy} (d : decode code pc = .ok (.arraylength, 1)) (k : J (pc + 1) L (.int (Int32.ofNat N) :: st) β σ δ) : J pc L (.ref roB :: st) β σ δ := by
  obtain ⟨p, l, e, s, m, b, below, meth, c, D, tc, ad0, ⟨hx, hb, hml, hown, hts, hK, hA, hfr, hlo, hRc, hRs, hro, hnm, htr⟩, hr, hlocks, hX, hbl, hb0, rfl⟩ := hI
  intro ad H ls locs cells slots h1 h2 h3 hL hst h4 hl hP hD hS hc hs
  have hres := k ad H ls locs cells slots h1 h2 h3 hL (wfc trivial (wft hst)) h4 hl hP hD hS hc hs
  have e0 : ad roB = b := (h1 _ (Or.inr (Nat.le_refl _))).trans hb0
  show W p l e room_1 s m #[Value.ref b] below meth c H locs cells slots _ (F0 m pc ls (.ref (ad roB) :: st.map (cv ad)))
  rw [e0]
  exact va_slen hx hb hX hbl (Nat.not_le.mpr hbl) hS d hres
theorem jl_ret {xs : Nat → Int32} {N : Nat} {J : JT} (hI : IsL xs N J) {pc : Nat} {L : List (Nat × Value)} {β : Bu} {σ : St} {δ : Dy} (d : decode code pc = .ok (.ireturn, 1)) : J pc L [.int 1] β σ δ := by
  obtain ⟨p, l, e, s, m, b, below, meth, c, D, tc, ad0, ⟨hx, hb, hml, hown, hts, hK, hA, hfr, hlo, hRc, hRs, hro, hnm, htr⟩, hr, hlocks, hX, hbl, hb0, rfl⟩ := hI
  intro ad H ls locs cells slots h1 h2 h3 hL hst h4 hl hP hD hS hc hs
  refine va_forget (fun q hq => hS.2.2 q hq) ?_
  refine W.widen (k := 601024) (n := 7293034) (by omega) (by omega) ?_
  exact lw_ret hx hb hr hlocks d
def MLW (own : String) (idx : Nat) (y : MethodName) (cc : ByteArray) (nL : Nat) (ret : Option FieldType) (hh : List (Nat × Nat × Nat × Nat)) (n : Nat) : Prop :=
  (Cond.methodLink own idx y ∈ lwg ∧ Cond.static y ∈ lwg ∧ Cond.initialized y.cls ∈ lwg ∧ Cond.codeWith y cc nL ret hh ∈ lwg) ∧ y.cls ≠ "java/lang/invoke/MethodHandle" ∧ y.cls ≠ "java/lang/invoke/VarHandle" ∧ (parseMethodDescriptor y.desc).map (fun d => d.parameters.length) = some n
set_option maxHeartbeats 1000000 in
theorem sl_callW {cc : ByteArray} {nL : Nat} {own nm : String} {fr lo : Nat} {J : JT} (hJ : Cor cc nL own nm fr lo J) {pc : Nat} {L : List (Nat × Value)} {st : List Value} {β : Bu} {σ : St} {δ : Dy} {ρ : Type} {P : ρ → Prop} {mf : Option (Int32 × Dy)} {f : Int32 × Dy → Option ρ}
    {idx : Nat} {y : MethodName} {cc' : ByteArray} {nL' : Nat} {ret' : Option FieldType} {hh : List (Nat × Nat × Nat × Nat)} {fr' lo' : Nat} (As : List Value) (ml : MLW own idx y cc' nL' ret' hh As.length) (hfr : fr' + 1 ≤ fr) (hlo : 8 + (nL' + 11) + lo' ≤ lo) (hrest : (st.map fun v => v.category).sum ≤ 8) (hb1 : 1 ≤ β.1) (hb2 : 6 ≤ β.2)
    (d : decode cc pc = .ok (.invokestatic idx, 3)) {stk : List Value} (hstk : stk = As.reverse ++ st) (ct : ∀ r, mf = some r → CTW y cc' nL' ret' hh fr' lo' As σ δ ((some (.int r.1)), σ, r.2))
    (kk : ∀ r : Int32 × Dy, SJ (f r) P (J (pc + 3) L (.int r.1 :: st) (β.1 - 1, β.2 - 6) σ r.2)) : SJ (mf.bind f) P (J pc L stk β σ δ) := by
  subst hstk
  refine sj_bind fun r hr => sj (fun k' => ?_) (kk r)
  have hct := ct r hr
  obtain ⟨⟨hw1, hw2, hw4, hw5⟩, hy1, hy2, hyn⟩ := ml
  obtain ⟨p, l, e, R, s, m, args, below, meth, c, D, tc, A, ad0, n0, mc, ms, Q, ⟨hx, hb, hml, hown, hts, hK, hA, hfR, hlR, hRc, hRs, hro, hnm, htr⟩, rfl⟩ := hJ
  intro ad H ls locs cells slots h1 h2 h3 hL hst h4 hl hP hD hS hc hs
  have hstr : ∀ v ∈ st, wfv (sn σ) v := fun v hv => hst v (List.mem_append_right _ hv)
  have hwA : ∀ x ∈ As, wfv (sn σ) x := fun x hx => hst x (List.mem_append_left _ (List.mem_reverse.mpr hx))
  have hM := hct l D tc ad H.size htr h3 h4 hwA
  have hadr : ad (roB + 1) = ad0 (roB + 1) := h1 _ (Or.inr (Nat.le_succ _))
  have hfA : ∀ q, va_A (wld ad tc σ δ) H.size q → A q := by
    intro q hq
    rcases hq with ⟨i, e9, he⟩ | hq
    · exact hD.2 i _ he
    · exact hA q (Nat.le_trans hS.1 hq)
  have hgi : GoodIn lwg (.codeWith y cc' nL' ret' hh :: lwg) := lwg_in (by
      intro w hw
      rcases List.mem_cons.mp hw with rfl | hw
      · exact hw5
      · exact hw)
  have hcw : vx_CSW R s args own idx y cc' nL' ret' hh (.codeWith y cc' nL' ret' hh :: lwg) { frames := fr', cells := 1, slots := 6, locals := lo' } 1 6 As.length := ⟨⟨rfl, rfl, Nat.le_trans hfr hfR, Nat.le_trans hlo hlR, pay_in hts hgi, List.mem_cons_self⟩, hts _ hw5, hts _ hw4, ⟨hy1, hy2⟩, (fun sig h => by
      rw [h] at hyn
      exact (Option.some.inj hyn).symm), hts _ hw1, hts _ hw2⟩
  have hrun := vx_runSW (As := As.map (cv ad)) (rest := st.map (cv ad)) (H := H) (locs := locs) (cells := cells) (slots := slots) (g := F0 m pc ls ((As.reverse ++ st).map (cv ad))) (R := R) (e := e) (below := below) (meth := meth) ⟨hx, hb, hml, hown, hts⟩ hM
    hcw
    ⟨PcT_blind, fun U hU hW => ⟨rfl, by rw [hU], ⟨by rw [hU]; exact hP, va_K.moved hW.alike hK, hD.weaken (fun _ _ _ _ => trivial)⟩, ROf_to hro hadr hU hW hfA hS⟩⟩
    rfl (by rw [List.length_map]) hl.1 (by simp [List.map_append, List.map_reverse]) (lv_room (by rw [cat_cv]; exact hrest)) d ⟨by rw [hRc]; omega, by rw [hRs]; omega⟩
  exact run_J h1 h2 hL hstr hl hD hS hc hs hA hb1 hb2 hrun k'
