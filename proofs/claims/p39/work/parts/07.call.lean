/-! CONTRACTS AND CALLS -/
theorem lwg_mem {w : Cond} (h : w ∈ lwg) : w ∈ lw_tbl ∧ goodWord w = true := List.mem_filter.mp h
theorem lwg_in {ws : List Cond} (h : ∀ w ∈ ws, w ∈ lwg) : GoodIn lwg ws := fun w hw => ⟨h w hw, good_of_word (lwg_mem (h w hw)).2⟩
def RepU (D : va_G) (tc : Nat → ClassId) (A : Nat → Prop) (ad : Nat → Nat) (σ : St) (δ : Dy) (U : State) : Prop := va_P D tkCl (wld ad tc σ δ) U.heap ∧ va_K D tkCl (tysOf tc) U ∧ va_D A (wld ad tc σ δ)
def PcT (D : va_G) (tc : Nat → ClassId) (ad : Nat → Nat) (As : List Value) (σ : St) (δ : Dy) (sz : Nat) : Array Value → State → Prop := fun a U => a = (As.map (cv ad)).toArray ∧ U.heap.size = sz ∧ RepU D tc (fun _ => True) ad σ δ U ∧ ROf ad (va_A (wld ad tc σ δ) sz) U
def QcT (D : va_G) (tc : Nat → ClassId) (A : Nat → Prop) (ad0 : Nat → Nat) (n0 : Nat) (an : Option Value × St × Dy) : Array Value → State → Outcome → State → Prop := fun _ st o t =>
  (∃ ad' : Nat → Nat, (∀ i, i < n0 ∨ roB ≤ i → ad' i = ad0 i) ∧ o = .returned (an.1.map (cv ad')) ∧ RepU D tc A ad' an.2.1 an.2.2 t ∧ n0 ≤ sn an.2.1 ∧ sn an.2.1 ≤ roB ∧ wfm an.2.1 ∧ ∀ x, an.1 = some x → wfv (sn an.2.1) x) ∧ va_F A st t
/-- the contract of one run of a method: with arguments As in the memory σ δ it returns an -/
def CT (y : MethodName) (cc : ByteArray) (nL : Nat) (ret : Option FieldType) (fr lo mc ms : Nat) (As : List Value) (σ : St) (δ : Dy) (an : Option Value × St × Dy) : Prop :=
  ∀ (l : Launch) (D : va_G) (tc : Nat → ClassId) (ad : Nat → Nat) (sz : Nat), l.stackTraces = false → sn σ ≤ roB → wfm σ → (∀ x ∈ As, wfv (sn σ) x) →
    Met l y (.code y cc nL ret :: lwg) { frames := fr, cells := mc, slots := ms, locals := lo } (PcT D tc ad As σ δ sz) (QcT D tc (va_A (wld ad tc σ δ) sz) ad (sn σ) an) mc ms (va_A (wld ad tc σ δ) sz)
def Isj (cc : ByteArray) (nL : Nat) (own nm : String) (fr lo : Nat) (ret : Option FieldType) (an : Option Value × St × Dy) (J : JT) : Prop :=
  ∃ (p : Program) (l : Launch) (e : Env) (R : Room) (s : State) (m : MethodId) (args : Array Value) (below : List Frame) (meth : Method) (c : Code) (D : va_G) (tc : Nat → ClassId) (A : Nat → Prop) (ad0 : Nat → Nat) (n0 mc ms : Nat),
    Fac p l s R m args c D tc A ad0 cc nL own fr lo mc ms meth nm ∧ meth.sig.returnType = ret ∧ meth.locks = false ∧ J = Jdef p l e R s m args below meth c D tc A ad0 n0 nL mc ms (MQ below (QcT D tc A ad0 n0 an) args s mc ms A)
theorem Isj.cor {cc : ByteArray} {nL : Nat} {own nm : String} {fr lo : Nat} {ret : Option FieldType} {an : Option Value × St × Dy} {J : JT} (h : Isj cc nL own nm fr lo ret an J) : Cor cc nL own nm fr lo J := by
  obtain ⟨p, l, e, R, s, m, args, below, meth, c, D, tc, A, ad0, n0, mc, ms, h1, h2, h3, h4⟩ := h
  exact ⟨p, l, e, R, s, m, args, below, meth, c, D, tc, A, ad0, n0, mc, ms, _, h1, h4⟩
theorem cL_args (ad : Nat → Nat) (As : List Value) : ∀ i : Nat, cL ad (lv_args i As) = lv_args i (As.map (cv ad)) := by
  induction As with
  | nil => intro i; rfl
  | cons v vs ih =>
    intro i
    show (i, cv ad v) :: cL ad (lv_args (if v.category = 2 then i + 2 else i + 1) vs) = (i, cv ad v) :: lv_args (if (cv ad v).category = 2 then i + 2 else i + 1) (vs.map (cv ad))
    rw [ih, cv_cat]
theorem wf_args {n : Nat} (As : List Value) : ∀ i : Nat, (∀ x ∈ As, wfv n x) → ∀ q ∈ lv_args i As, wfv n q.2 := by
  induction As with
  | nil => intro i _ q hq; cases hq
  | cons v vs ih =>
    intro i h q hq
    rcases List.mem_cons.mp hq with rfl | hq
    · exact h v List.mem_cons_self
    · exact ih _ (fun x hx => h x (List.mem_cons_of_mem _ hx)) q hq
theorem lg_sl_cv (ad : Nat → Nat) (As : List Value) : (lg_sl (As.map (cv ad))).length = (lg_sl As).length := by
  induction As with
  | nil => rfl
  | cons v vs ih =>
    simp only [lg_sl, List.map_cons, List.flatMap_cons, List.length_append] at ih ⊢
    rw [ih, cv_cat]
    split <;> rfl
set_option maxHeartbeats 1000000 in
theorem CT_of {y : MethodName} {cc : ByteArray} {nL : Nat} {ret : Option FieldType} {fr lo mc ms : Nat} {As : List Value} {σ : St} {δ : Dy} {an : Option Value × St × Dy} (hy : plainName y.cls = true) (hlen : (lg_sl As).length ≤ nL)
    (body : ∀ J : JT, Isj cc nL y.cls y.name fr lo ret an J → J 0 (lv_args 0 As) [] (mc, ms) σ δ) : CT y cc nL ret fr lo mc ms As σ δ an := by
  intro l D tc ad sz htr h3 h4 hst
  refine Met.ofW (cc := cc) (maxL := nL) (ret := ret) hy rfl ?_
  intro p e s m args below meth c s₁ B hml hv
  obtain ⟨rfl, hsz, ⟨hP, hK, hD0⟩, hro⟩ := hv
  have hx := B.exec
  have hb := B.bytes
  have hr := B.returns
  have hts := atoms_spec (ws := .code y cc nL ret :: lwg) B.pre
  have hown : s.vm.findClass y.cls = some m.cls := findClass_of_methodNamed B.named
  have hlocks := B.notSynchronized
  have hin : meth.name = y.name := (name_of_methodNamed B.named B.method).1
  subst hsz
  have hD := hD0.self (sz := s.heap.size)
  have hl := lv_entry (As.map (cv ad)) (n := nL) (by rw [lg_sl_cv]; exact hlen)
  rw [lg_entry_eq]
  generalize (lg_sl (As.map (cv ad)) ++ List.replicate (nL - (lg_sl (As.map (cv ad))).length) Slot.unset).toArray = ls at hl ⊢
  have hA : ∀ q : Nat, s.heap.size ≤ q → va_A (wld ad tc σ δ) s.heap.size q := fun q h => Or.inr h
  have key := body _ ⟨p, l, e, { frames := fr, cells := mc, slots := ms, locals := lo }, s, m, (As.map (cv ad)).toArray, below, meth, c, D, tc, va_A (wld ad tc σ δ) s.heap.size, ad, sn σ, mc, ms, ⟨hx, hb, hml, hown, fun w hw => hts w (List.mem_cons_of_mem _ hw), hK, hA, Nat.le_refl _, Nat.le_refl _, rfl, rfl, hro, hin, htr⟩, hr, hlocks, rfl⟩
  exact key ad s.heap ls [] 0 0 (fun _ _ => rfl) (Nat.le_refl _) h3 (wf_args As 0 hst) (fun v hv => by cases hv) h4 (by rw [cL_args]; exact hl) hP hD va_S.rf (Nat.zero_add _) (Nat.zero_add _)
theorem PcT_blind {D : va_G} {tc : Nat → ClassId} {ad : Nat → Nat} {As : List Value} {σ : St} {δ : Dy} {sz : Nat} : FrameBlind (PcT D tc ad As σ δ sz) := by
  intro a U g mk h
  obtain ⟨h1, h2, ⟨h3, h4, h5⟩, ⟨h6, h7, h8, h9⟩, h10, h11, h12⟩ := h
  exact ⟨h1, h2, ⟨h3, va_K.moved (u := U) (U := U.calling g mk a) (Vm.Alike.refl U.vm) h4, h5⟩, ⟨va_X.moved (u := U) (U := U.calling g mk a) (Vm.Alike.refl U.vm) h6, h7, h8, va_Z.moved (u := U) (U := U.calling g mk a) (Vm.Alike.refl U.vm) h9⟩, STA.same (s := U) (U := U.calling g mk a) rfl h10, vx_Zq.moved (u := U) (U := U.calling g mk a) (Vm.Alike.refl U.vm) h11, vx_Zq.moved (u := U) (U := U.calling g mk a) (Vm.Alike.refl U.vm) h12⟩
theorem ROf_to {ad0 ad : Nat → Nat} {A A1 : Nat → Prop} {s U : State} {H : Heap} {locs : List Loc} (h : ROf ad0 A s) (ha : ad (roB + 1) = ad0 (roB + 1)) (hU : U.heap = H) (hW : s.WarmedH U.vm) (hA : ∀ q, A1 q → A q) (hS : va_S A s.heap H locs) : ROf ad A1 U := by
  obtain ⟨⟨h6, h7, h8, h9⟩, h10, h11, h12⟩ := h
  have hvm := hW.alike
  unfold ROf
  rw [ha, hU]
  exact ⟨⟨va_X.moved hvm (h6.kept (hS.2.1 _ h7 h8)), Nat.lt_of_lt_of_le h7 hS.1, fun q => h8 (hA _ q), va_Z.moved hvm ((h9.kept hS.2.1).narrow hA)⟩, STA.warm hW h10, vx_Zq.moved hvm ((h11.kept hS.2.1).narrow hA), vx_Zq.moved hvm ((h12.kept hS.2.1).narrow hA)⟩
theorem cvs_congr {n : Nat} {ad ad' : Nat → Nat} (ha : ∀ i, i < n ∨ roB ≤ i → ad' i = ad i) {st : List Value} (h : ∀ v ∈ st, wfv n v) : st.map (cv ad') = st.map (cv ad) := by
  apply List.map_congr_left
  intro v hv
  have hw := h v hv
  cases v with
  | ref i => exact congrArg Value.ref (ha i hw)
  | _ => rfl
theorem cL_congr {n : Nat} {ad ad' : Nat → Nat} (ha : ∀ i, i < n ∨ roB ≤ i → ad' i = ad i) {L : List (Nat × Value)} (h : ∀ q ∈ L, wfv n q.2) : cL ad' L = cL ad L := by
  apply List.map_congr_left
  intro q hq
  have hw := h q hq
  obtain ⟨j, v⟩ := q
  cases v with
  | ref i => exact congrArg (fun z => (j, Value.ref z)) (ha i hw)
  | _ => rfl
theorem wfv_mono {n n' : Nat} (h : n ≤ n') {v : Value} (hv : wfv n v) : wfv n' v := by
  cases v with
  | ref i => exact hv.elim (fun q => Or.inl (Nat.lt_of_lt_of_le q h)) Or.inr
  | _ => trivial
/-- behind a call -/
theorem run_J {p : Program} {l : Launch} {e : Env} {R : Room} {s : State} {m : MethodId} {args : Array Value} {below : List Frame} {meth : Method} {c : Code} {D : va_G} {tc : Nat → ClassId} {A : Nat → Prop} {ad0 : Nat → Nat} {n0 nL mc ms : Nat} {Q : State → Prop} {pc : Nat} {L : List (Nat × Value)} {st st0 : List Value} {β : Bu} {σ : St} {δ : Dy} {an : Option Value × St × Dy} {mc' ms' : Nat} {a : Array Value}
    {ad : Nat → Nat} {H : Heap} {ls : Array Slot} {locs : List Loc} {cells slots : Nat} (h1 : ∀ i, i < n0 ∨ roB ≤ i → ad i = ad0 i) (h2 : n0 ≤ sn σ) (hL : ∀ q ∈ L, wfv (sn σ) q.2) (hst : ∀ v ∈ st, wfv (sn σ) v) (hl : lv_has ls nL (cL ad L)) (hD : va_D A (wld ad tc σ δ)) (hS : va_S A s.heap H locs) (hc : cells + β.1 = mc) (hs : slots + β.2 = ms) (hA : ∀ q, s.heap.size ≤ q → A q) (hb1 : mc' ≤ β.1) (hb2 : ms' ≤ β.2)
    (hr : va_Run p l e R s m args below meth c H locs cells slots mc' ms' (F0 m pc ls st0) (st.map (cv ad)) (QcT D tc (va_A (wld ad tc σ δ) H.size) ad (sn σ) an a) (va_A (wld ad tc σ δ) H.size))
    (k : Jdef p l e R s m args below meth c D tc A ad0 n0 nL mc ms Q (pc + 3) L (an.1.toList ++ st) (β.1 - mc', β.2 - ms') an.2.1 an.2.2) : W p l e R s m args below meth c H locs cells slots Q (F0 m pc ls st0) := by
  intro T hT X
  obtain ⟨v, st₀, t, T', L', h0, X', hL', e1, e2, ⟨⟨ad', g1, g2, ⟨gP, gK, gD⟩, g3, g4, g5, g6⟩, hz, hk⟩, go⟩ := hr T hT X
  have hv : v = an.1.map (cv ad') := by cases g2; rfl
  subst hv
  rw [h0] at hz hk
  have hfA : ∀ q, va_A (wld ad tc σ δ) H.size q → A q := by
    intro q hq
    rcases hq with ⟨i, e9, he⟩ | hq
    · exact hD.2 i _ he
    · exact hA q (Nat.le_trans hS.1 hq)
  have hS' : va_S A s.heap T'.heap (locs ++ L') := ⟨Nat.le_trans hS.1 (by rw [e1]; exact hz), fun q q1 q2 => by rw [e1, hk q (Nat.lt_of_lt_of_le q1 hS.1) (fun z => q2 (hfA q z))]; exact hS.2.1 q q1 q2, fun q hq => by
    rcases List.mem_append.mp hq with h | h
    · exact hS.2.2 q h
    · exact hfA _ (hL' q h)⟩
  have hDA : va_D A (wld ad' tc an.2.1 an.2.2) := gD.weaken (fun _ _ _ h => hfA _ h)
  have hn : sn σ ≤ sn an.2.1 := g3
  have g1' : ∀ i, i < n0 ∨ roB ≤ i → ad' i = ad0 i := fun i hi => (g1 i (hi.elim (fun h => Or.inl (Nat.lt_of_lt_of_le h h2)) Or.inr)).trans (h1 i hi)
  have hwfs : ∀ v ∈ an.1.toList ++ st, wfv (sn an.2.1) v := by
    intro v hv
    rcases List.mem_append.mp hv with h | h
    · exact g6 v (by simpa using h)
    · exact wfv_mono hn (hst v h)
  have k' := k ad' T'.heap ls (locs ++ L') (cells + mc') (slots + ms') g1' (Nat.le_trans h2 hn) g4 (fun q hq => wfv_mono hn (hL q hq)) hwfs g5 (by rw [cL_congr g1 hL]; exact hl) (by rw [e1]; exact gP) hDA hS' (by show cells + mc' + (β.1 - mc') = mc; omega) (by show slots + ms' + (β.2 - ms') = ms; omega)
  obtain ⟨t2, a1, b1⟩ := k' T' rfl X'
  refine ⟨t2, go t2 ?_, b1⟩
  have hst2 : (an.1.toList ++ st).map (cv ad') = (an.1.map (cv ad')).toList ++ st.map (cv ad) := by
    rw [List.map_append, cvs_congr g1 hst]
    cases an.1 <;> rfl
  rw [hst2] at a1
  exact a1
/-- what a virtual call of an own method takes -/
def MLV (own : String) (idx : Nat) (y : MethodName) (cc : ByteArray) (nL : Nat) (ret : Option FieldType) (n : Nat) : Prop :=
  (Cond.methodLink own idx y ∈ lwg ∧ Cond.instanceMethod y ∈ lwg ∧ Cond.selects y.cls y y ∈ lwg ∧ Cond.initialized y.cls ∈ lwg ∧ Cond.code y cc nL ret ∈ lwg) ∧ y.cls ≠ "java/lang/invoke/MethodHandle" ∧ y.cls ≠ "java/lang/invoke/VarHandle" ∧ (parseMethodDescriptor y.desc).map (fun d => d.parameters.length) = some n
def MLS (own : String) (idx : Nat) (y : MethodName) (cc : ByteArray) (nL : Nat) (ret : Option FieldType) (n : Nat) : Prop :=
  (Cond.methodLink own idx y ∈ lwg ∧ Cond.static y ∈ lwg ∧ Cond.initialized y.cls ∈ lwg ∧ Cond.code y cc nL ret ∈ lwg) ∧ y.cls ≠ "java/lang/invoke/MethodHandle" ∧ y.cls ≠ "java/lang/invoke/VarHandle" ∧ (parseMethodDescriptor y.desc).map (fun d => d.parameters.length) = some n
theorem cat_cv (ad : Nat → Nat) (st : List Value) : ((st.map (cv ad)).map fun v => v.category).sum = (st.map fun v => v.category).sum := by
  rw [List.map_map]
  congr 1
  apply List.map_congr_left
  intro v _
  exact cv_cat ad v
set_option maxHeartbeats 1000000 in
theorem sj_callV {cc : ByteArray} {nL : Nat} {own nm : String} {fr lo : Nat} {J : JT} (hJ : Cor cc nL own nm fr lo J) {pc : Nat} {L : List (Nat × Value)} {st : List Value} {β : Bu} {σ : St} {δ : Dy} {ρ τ : Type} {P : ρ → Prop} {mf : Option τ} {f : τ → Option ρ}
    {idx : Nat} {y : MethodName} {cc' : ByteArray} {nL' : Nat} {ret' : Option FieldType} {fr' lo' mc' ms' : Nat} {As : List Value} {b ci : Nat} (an : τ → Option Value × St × Dy) (ml : MLV own idx y cc' nL' ret' As.length) (hcl : tkCl[ci]? = some (clC ci) ∧ (clC ci).1 = y.cls ∧ ci < 100) (hfr : fr' + 1 ≤ fr) (hlo : 8 + (nL' + 11) + lo' ≤ lo) (hrest : (st.map fun v => v.category).sum ≤ 8) (hb1 : mc' ≤ β.1) (hb2 : ms' ≤ β.2)
    (d : decode cc pc = .ok (.invokevirtual idx, 3)) (ct : ∀ r, mf = some r → CT y cc' nL' ret' fr' lo' mc' ms' (.ref b :: As) σ δ (an r))
    (kk : ∀ r, SJ (f r) P (J (pc + 3) L ((an r).1.toList ++ st) (β.1 - mc', β.2 - ms') (an r).2.1 (an r).2.2)) : SJ ((chk σ ci b).bind fun _ => mf.bind f) P (J pc L (As.reverse ++ .ref b :: st) β σ δ) := by
  refine sj_bind fun u hu => sj_bind fun r hr => sj (fun k' => ?_) (kk r)
  obtain ⟨⟨hbn, hkd⟩, -⟩ := if_some hu
  have hct := ct r hr
  obtain ⟨⟨hw1, hw2, hw3, hw4, hw5⟩, hy1, hy2, hyn⟩ := ml
  obtain ⟨hcl1, hcl2, hcl3⟩ := hcl
  obtain ⟨p, l, e, R, s, m, args, below, meth, c, D, tc, A, ad0, n0, mc, ms, Q, ⟨hx, hb, hml, hown, hts, hK, hA, hfR, hlR, hRc, hRs, hro, hnm, htr⟩, rfl⟩ := hJ
  intro ad H ls locs cells slots h1 h2 h3 hL hst h4 hl hP hD hS hc hs
  have hstr : ∀ v ∈ st, wfv (sn σ) v := fun v hv => hst v (List.mem_append_right _ (List.mem_cons_of_mem _ hv))
  have hwA : ∀ x ∈ (Value.ref b :: As), wfv (sn σ) x := by
    intro x hx
    rcases List.mem_cons.mp hx with rfl | hx
    · exact Or.inl hbn
    · exact hst x (List.mem_append_left _ (List.mem_reverse.mpr hx))
  have hM := hct l D tc ad H.size htr h3 h4 hwA
  have hadr : ad (roB + 1) = ad0 (roB + 1) := h1 _ (Or.inr (Nat.le_succ _))
  have hfA : ∀ q, va_A (wld ad tc σ δ) H.size q → A q := by
    intro q hq
    rcases hq with ⟨i, e9, he⟩ | hq
    · exact hD.2 i _ he
    · exact hA q (Nat.le_trans hS.1 hq)
  have hrun := va_runV (As := As.map (cv ad)) (rest := st.map (cv ad)) (H := H) (locs := locs) (cells := cells) (slots := slots) (b := ad b) (g := F0 m pc ls ((As.reverse ++ .ref b :: st).map (cv ad))) (R := R) (e := e) (below := below) (meth := meth) ⟨hx, hb, hml, hown, hts⟩ hM
    (cwV (C := y.cls) (index := idx) (R := R) As.length hts (lwg_in (by
      intro w hw
      unfold wsV at hw
      rcases List.mem_append.mp hw with hw | hw
      · rcases List.mem_cons.mp hw with rfl | hw
        · exact hw1
        · rcases List.mem_cons.mp hw with rfl | hw
          · exact hw2
          · rcases List.mem_cons.mp hw with rfl | hw
            · exact hw3
            · rcases List.mem_cons.mp hw with rfl | hw
              · exact hw4
              · cases hw
      · rcases List.mem_cons.mp hw with rfl | hw
        · exact hw5
        · exact hw)) rfl rfl rfl ⟨rfl, hy1, hy2, hyn⟩ ⟨Nat.le_trans hfr hfR, Nat.le_trans hlo hlR⟩)
    ⟨PcT_blind, (by
      have hrec := va_recv hK hP (ci := ci) (q0 := b) hcl1 ((wld_get hbn).trans (by rw [cel_obj hkd hcl3]))
      rw [hcl2] at hrec
      exact hrec), fun U hU hW => ⟨rfl, by rw [hU], ⟨by rw [hU]; exact hP, va_K.moved hW.alike hK, hD.weaken (fun _ _ _ _ => trivial)⟩, ROf_to hro hadr hU hW hfA hS⟩⟩
    rfl (by rw [List.length_map]) hl.1 (by simp [List.map_append, List.map_reverse, cv]) (lv_room (by rw [cat_cv]; exact hrest)) d ⟨by rw [hRc]; omega, by rw [hRs]; omega⟩
  exact run_J h1 h2 hL hstr hl hD hS hc hs hA hb1 hb2 hrun k'
set_option maxHeartbeats 1000000 in
theorem sj_callS {cc : ByteArray} {nL : Nat} {own nm : String} {fr lo : Nat} {J : JT} (hJ : Cor cc nL own nm fr lo J) {pc : Nat} {L : List (Nat × Value)} {st : List Value} {β : Bu} {σ : St} {δ : Dy} {ρ τ : Type} {P : ρ → Prop} {mf : Option τ} {f : τ → Option ρ}
    {idx : Nat} {y : MethodName} {cc' : ByteArray} {nL' : Nat} {ret' : Option FieldType} {fr' lo' mc' ms' : Nat} {As : List Value} (an : τ → Option Value × St × Dy) (ml : MLS own idx y cc' nL' ret' As.length) (hfr : fr' + 1 ≤ fr) (hlo : 8 + (nL' + 11) + lo' ≤ lo) (hrest : (st.map fun v => v.category).sum ≤ 8) (hb1 : mc' ≤ β.1) (hb2 : ms' ≤ β.2)
    (d : decode cc pc = .ok (.invokestatic idx, 3)) (ct : ∀ r, mf = some r → CT y cc' nL' ret' fr' lo' mc' ms' As σ δ (an r))
    (kk : ∀ r, SJ (f r) P (J (pc + 3) L ((an r).1.toList ++ st) (β.1 - mc', β.2 - ms') (an r).2.1 (an r).2.2)) : SJ (mf.bind f) P (J pc L (As.reverse ++ st) β σ δ) := by
  refine sj_bind fun r hr => sj (fun k' => ?_) (kk r)
  have hct := ct r hr
  obtain ⟨⟨hw1, hw2, hw4, hw5⟩, hy1, hy2, hyn⟩ := ml
  obtain ⟨p, l, e, R, s, m, args, below, meth, c, D, tc, A, ad0, n0, mc, ms, Q, ⟨hx, hb, hml, hown, hts, hK, hA, hfR, hlR, hRc, hRs, hro, hnm, htr⟩, rfl⟩ := hJ
  intro ad H ls locs cells slots h1 h2 h3 hL hst h4 hl hP hD hS hc hs
  have hstr : ∀ v ∈ st, wfv (sn σ) v := fun v hv => hst v (List.mem_append_right _ hv)
  have hwA : ∀ x ∈ As, wfv (sn σ) x := fun x hx => hst x (List.mem_append_left _ (List.mem_reverse.mpr hx))
  have hM := hct l D tc ad H.size htr h3 h4 hwA
  have hadr : ad (roB + 1) = ad0 (roB + 1) := h1 _ (Or.inr (Nat.le_succ _))
  have hfA : ∀ q, va_A (wld ad tc σ δ) H.size q → A q := by
    intro q hq
    rcases hq with ⟨i, e9, he⟩ | hq
    · exact hD.2 i _ he
    · exact hA q (Nat.le_trans hS.1 hq)
  have hgi : GoodIn lwg (.code y cc' nL' ret' :: lwg) := lwg_in (by
      intro w hw
      rcases List.mem_cons.mp hw with rfl | hw
      · exact hw5
      · exact hw)
  have hcb : CallB R s args own idx y cc' nL' ret' (.code y cc' nL' ret' :: lwg) { frames := fr', cells := mc', slots := ms', locals := lo' } mc' ms' As.length := ⟨rfl, rfl, Nat.le_trans hfr hfR, Nat.le_trans hlo hlR, pay_in hts hgi, List.mem_cons_self, hts _ hw5, hts _ hw4, ⟨hy1, hy2⟩, (fun sig h => by
    rw [h] at hyn
    exact (Option.some.inj hyn).symm), hts _ hw1⟩
  have hrun := va_runS (As := As.map (cv ad)) (rest := st.map (cv ad)) (H := H) (locs := locs) (cells := cells) (slots := slots) (g := F0 m pc ls ((As.reverse ++ st).map (cv ad))) (R := R) (e := e) (below := below) (meth := meth) ⟨hx, hb, hml, hown, hts⟩ hM
    ⟨hcb, hts _ hw2⟩
    ⟨PcT_blind, fun U hU hW => ⟨rfl, by rw [hU], ⟨by rw [hU]; exact hP, va_K.moved hW.alike hK, hD.weaken (fun _ _ _ _ => trivial)⟩, ROf_to hro hadr hU hW hfA hS⟩⟩
    rfl (by rw [List.length_map]) hl.1 (by simp [List.map_append, List.map_reverse]) (lv_room (by rw [cat_cv]; exact hrest)) d ⟨by rw [hRc]; omega, by rw [hRs]; omega⟩
  exact run_J h1 h2 hL hstr hl hD hS hc hs hA hb1 hb2 hrun k'
