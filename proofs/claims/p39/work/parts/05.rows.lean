/-! ROWS: one an instruction -/
theorem wfc {n : Nat} {x : Value} {st : List Value} (hx : wfv n x) (h : ∀ v ∈ st, wfv n v) : ∀ v ∈ x :: st, wfv n v := List.forall_mem_cons.mpr ⟨hx, h⟩
theorem wft {n : Nat} {x : Value} {st : List Value} (h : ∀ v ∈ x :: st, wfv n v) : ∀ v ∈ st, wfv n v := fun v hv => h v (List.mem_cons_of_mem _ hv)
theorem wfh {n : Nat} {x : Value} {st : List Value} (h : ∀ v ∈ x :: st, wfv n v) : wfv n x := h x List.mem_cons_self
theorem wfL {n : Nat} {L : List (Nat × Value)} {i j : Nat} {v : Value} (h : ∀ q ∈ L, wfv n q.2) (hk : L[j]? = some (i, v)) : wfv n v := h (i, v) (List.mem_of_getElem? hk)
theorem cL_at {ad : Nat → Nat} {L : List (Nat × Value)} {i j : Nat} {v : Value} (hk : L[j]? = some (i, v)) : (cL ad L)[j]? = some (i, cv ad v) := by
  simp [cL, List.getElem?_map, hk]
def st1 (L : List (Nat × Value)) (i : Nat) (v : Value) : List (Nat × Value) := (i, v) :: L.filter (fun q => !(q.1 == i) && !(q.1 + 1 == i && q.2.category == 2))
def st2 (L : List (Nat × Value)) (i : Nat) (v : Value) : List (Nat × Value) := (i, v) :: L.filter (fun q => !(q.1 == i) && (!(q.1 == i + 1) && !(q.1 + 1 == i && q.2.category == 2)))
theorem cL_st1 (ad : Nat → Nat) (L : List (Nat × Value)) (i : Nat) (v : Value) : (i, cv ad v) :: (cL ad L).filter (fun q => !(q.1 == i) && !(q.1 + 1 == i && q.2.category == 2)) = cL ad (st1 L i v) := by
  simp only [cL, st1, List.map_cons, List.filter_map]
  congr 2
  apply List.filter_congr
  intro q _
  simp [Function.comp, cv_cat]
theorem cL_st2 (ad : Nat → Nat) (L : List (Nat × Value)) (i : Nat) (v : Value) : (i, cv ad v) :: (cL ad L).filter (fun q => !(q.1 == i) && (!(q.1 == i + 1) && !(q.1 + 1 == i && q.2.category == 2))) = cL ad (st2 L i v) := by
  simp only [cL, st2, List.map_cons, List.filter_map]
  congr 2
  apply List.filter_congr
  intro q _
  simp [Function.comp, cv_cat]
theorem wf_st1 {n : Nat} {L : List (Nat × Value)} {i : Nat} {v : Value} (h : ∀ q ∈ L, wfv n q.2) (hv : wfv n v) : ∀ q ∈ st1 L i v, wfv n q.2 := List.forall_mem_cons.mpr ⟨hv, fun q hq => h q (List.mem_filter.mp hq).1⟩
theorem wf_st2 {n : Nat} {L : List (Nat × Value)} {i : Nat} {v : Value} (h : ∀ q ∈ L, wfv n q.2) (hv : wfv n v) : ∀ q ∈ st2 L i v, wfv n q.2 := List.forall_mem_cons.mpr ⟨hv, fun q hq => h q (List.mem_filter.mp hq).1⟩
theorem j_sub {cc : ByteArray} {nL : Nat} {own nm : String} {fr lo : Nat} {J : JT} (hJ : Cor cc nL own nm fr lo J) {pc : Nat} {L : List (Nat × Value)} {st : List Value} {β : Bu} {σ : St} {δ : Dy} {L' : List (Nat × Value)} (ks : List Nat) (hk : lv_pick L ks = L') (k : J pc L' st β σ δ) : J pc L st β σ δ := by
  obtain ⟨p, l, e, R, s, m, args, below, meth, c, D, tc, A, ad0, n0, mc, ms, Q, ⟨hx, hb, hml, hown, hts, hK, hA, hfr, hlo, hRc, hRs, hro, hnm, htr⟩, rfl⟩ := hJ
  intro ad H ls locs cells slots h1 h2 h3 hL hst h4 hl hP hD hS hc hs
  have hin : ∀ q ∈ L', q ∈ L := by
    intro q hq
    rw [← hk] at hq
    obtain ⟨i, -, hi⟩ := List.mem_filterMap.mp hq
    exact List.mem_of_getElem? hi
  refine k ad H ls locs cells slots h1 h2 h3 (fun q hq => hL q (hin q hq)) hst h4 (lv_sub hl ks ?_) hP hD hS hc hs
  rw [← hk]
  simp [lv_pick, cL, List.map_filterMap]
theorem j_iconst {cc : ByteArray} {nL : Nat} {own nm : String} {fr lo : Nat} {J : JT} (hJ : Cor cc nL own nm fr lo J) {pc : Nat} {L : List (Nat × Value)} {st : List Value} {β : Bu} {σ : St} {δ : Dy} {n : Int} {v : Int32} (d : decode cc pc = .ok (.iconst n, 1)) (hv : Int32.ofInt n = v) (k : J (pc + 1) L (.int v :: st) β σ δ) : J pc L (st) β σ δ := by
  obtain ⟨p, l, e, R, s, m, args, below, meth, c, D, tc, A, ad0, n0, mc, ms, Q, ⟨hx, hb, hml, hown, hts, hK, hA, hfr, hlo, hRc, hRs, hro, hnm, htr⟩, rfl⟩ := hJ
  intro ad H ls locs cells slots h1 h2 h3 hL hst h4 hl hP hD hS hc hs
  exact lv_iconst hx hb d hv (k ad H ls locs cells slots h1 h2 h3 hL (wfc trivial hst) h4 hl hP hD hS hc hs)
theorem j_bipush {cc : ByteArray} {nL : Nat} {own nm : String} {fr lo : Nat} {J : JT} (hJ : Cor cc nL own nm fr lo J) {pc : Nat} {L : List (Nat × Value)} {st : List Value} {β : Bu} {σ : St} {δ : Dy} {n : Int} {v : Int32} (d : decode cc pc = .ok (.bipush n, 2)) (hv : (Int8.ofInt n).toInt32 = v) (k : J (pc + 2) L (.int v :: st) β σ δ) : J pc L (st) β σ δ := by
  obtain ⟨p, l, e, R, s, m, args, below, meth, c, D, tc, A, ad0, n0, mc, ms, Q, ⟨hx, hb, hml, hown, hts, hK, hA, hfr, hlo, hRc, hRs, hro, hnm, htr⟩, rfl⟩ := hJ
  intro ad H ls locs cells slots h1 h2 h3 hL hst h4 hl hP hD hS hc hs
  exact lv_bipush hx hb d hv (k ad H ls locs cells slots h1 h2 h3 hL (wfc trivial hst) h4 hl hP hD hS hc hs)
theorem j_sipush {cc : ByteArray} {nL : Nat} {own nm : String} {fr lo : Nat} {J : JT} (hJ : Cor cc nL own nm fr lo J) {pc : Nat} {L : List (Nat × Value)} {st : List Value} {β : Bu} {σ : St} {δ : Dy} {n : Int} {v : Int32} (d : decode cc pc = .ok (.sipush n, 3)) (hv : (Int16.ofInt n).toInt32 = v) (k : J (pc + 3) L (.int v :: st) β σ δ) : J pc L (st) β σ δ := by
  obtain ⟨p, l, e, R, s, m, args, below, meth, c, D, tc, A, ad0, n0, mc, ms, Q, ⟨hx, hb, hml, hown, hts, hK, hA, hfr, hlo, hRc, hRs, hro, hnm, htr⟩, rfl⟩ := hJ
  intro ad H ls locs cells slots h1 h2 h3 hL hst h4 hl hP hD hS hc hs
  exact lv_sipush hx hb d hv (k ad H ls locs cells slots h1 h2 h3 hL (wfc trivial hst) h4 hl hP hD hS hc hs)
theorem j_lconst {cc : ByteArray} {nL : Nat} {own nm : String} {fr lo : Nat} {J : JT} (hJ : Cor cc nL own nm fr lo J) {pc : Nat} {L : List (Nat × Value)} {st : List Value} {β : Bu} {σ : St} {δ : Dy} {n : Fin 2} {v : Int64} (d : decode cc pc = .ok (.lconst n, 1)) (hv : Int64.ofNat (n : Nat) = v) (k : J (pc + 1) L (.long v :: st) β σ δ) : J pc L (st) β σ δ := by
  obtain ⟨p, l, e, R, s, m, args, below, meth, c, D, tc, A, ad0, n0, mc, ms, Q, ⟨hx, hb, hml, hown, hts, hK, hA, hfr, hlo, hRc, hRs, hro, hnm, htr⟩, rfl⟩ := hJ
  intro ad H ls locs cells slots h1 h2 h3 hL hst h4 hl hP hD hS hc hs
  exact lv_lconst hx hb d hv (k ad H ls locs cells slots h1 h2 h3 hL (wfc trivial hst) h4 hl hP hD hS hc hs)
theorem j_ldc {cc : ByteArray} {nL : Nat} {own nm : String} {fr lo : Nat} {J : JT} (hJ : Cor cc nL own nm fr lo J) {pc : Nat} {L : List (Nat × Value)} {st : List Value} {β : Bu} {σ : St} {δ : Dy} {index : Nat} {v : Int32} (d : decode cc pc = .ok (.ldc index, 2)) (hv : Jvm.Cond.constant own index v ∈ lwg) (k : J (pc + 2) L (.int v :: st) β σ δ) : J pc L (st) β σ δ := by
  obtain ⟨p, l, e, R, s, m, args, below, meth, c, D, tc, A, ad0, n0, mc, ms, Q, ⟨hx, hb, hml, hown, hts, hK, hA, hfr, hlo, hRc, hRs, hro, hnm, htr⟩, rfl⟩ := hJ
  intro ad H ls locs cells slots h1 h2 h3 hL hst h4 hl hP hD hS hc hs
  exact lv_ldc hx hb hown (hts _ hv) d (k ad H ls locs cells slots h1 h2 h3 hL (wfc trivial hst) h4 hl hP hD hS hc hs)
theorem j_ldcw {cc : ByteArray} {nL : Nat} {own nm : String} {fr lo : Nat} {J : JT} (hJ : Cor cc nL own nm fr lo J) {pc : Nat} {L : List (Nat × Value)} {st : List Value} {β : Bu} {σ : St} {δ : Dy} {index : Nat} {v : Int32} (d : decode cc pc = .ok (.ldc_w index, 3)) (hv : Jvm.Cond.constant own index v ∈ lwg) (k : J (pc + 3) L (.int v :: st) β σ δ) : J pc L (st) β σ δ := by
  obtain ⟨p, l, e, R, s, m, args, below, meth, c, D, tc, A, ad0, n0, mc, ms, Q, ⟨hx, hb, hml, hown, hts, hK, hA, hfr, hlo, hRc, hRs, hro, hnm, htr⟩, rfl⟩ := hJ
  intro ad H ls locs cells slots h1 h2 h3 hL hst h4 hl hP hD hS hc hs
  exact lv_ldcw hx hb hown (hts _ hv) d (k ad H ls locs cells slots h1 h2 h3 hL (wfc trivial hst) h4 hl hP hD hS hc hs)
theorem j_ldc2 {cc : ByteArray} {nL : Nat} {own nm : String} {fr lo : Nat} {J : JT} (hJ : Cor cc nL own nm fr lo J) {pc : Nat} {L : List (Nat × Value)} {st : List Value} {β : Bu} {σ : St} {δ : Dy} {index : Nat} {v : Int64} (d : decode cc pc = .ok (.ldc2_w index, 3)) (hv : Jvm.Cond.constantLong own index v ∈ lwg) (k : J (pc + 3) L (.long v :: st) β σ δ) : J pc L (st) β σ δ := by
  obtain ⟨p, l, e, R, s, m, args, below, meth, c, D, tc, A, ad0, n0, mc, ms, Q, ⟨hx, hb, hml, hown, hts, hK, hA, hfr, hlo, hRc, hRs, hro, hnm, htr⟩, rfl⟩ := hJ
  intro ad H ls locs cells slots h1 h2 h3 hL hst h4 hl hP hD hS hc hs
  exact lv_ldc2 hx hb hown (hts _ hv) d (k ad H ls locs cells slots h1 h2 h3 hL (wfc trivial hst) h4 hl hP hD hS hc hs)
theorem j_iadd {cc : ByteArray} {nL : Nat} {own nm : String} {fr lo : Nat} {J : JT} (hJ : Cor cc nL own nm fr lo J) {pc : Nat} {L : List (Nat × Value)} {st : List Value} {β : Bu} {σ : St} {δ : Dy} {x y : Int32} (d : decode cc pc = .ok (.iadd, 1))  (k : J (pc + 1) L (.int (x + y) :: st) β σ δ) : J pc L (.int y :: .int x :: st) β σ δ := by
  obtain ⟨p, l, e, R, s, m, args, below, meth, c, D, tc, A, ad0, n0, mc, ms, Q, ⟨hx, hb, hml, hown, hts, hK, hA, hfr, hlo, hRc, hRs, hro, hnm, htr⟩, rfl⟩ := hJ
  intro ad H ls locs cells slots h1 h2 h3 hL hst h4 hl hP hD hS hc hs
  exact lv_iadd hx hb d  (k ad H ls locs cells slots h1 h2 h3 hL (wfc trivial (wft (wft hst))) h4 hl hP hD hS hc hs)
theorem j_isub {cc : ByteArray} {nL : Nat} {own nm : String} {fr lo : Nat} {J : JT} (hJ : Cor cc nL own nm fr lo J) {pc : Nat} {L : List (Nat × Value)} {st : List Value} {β : Bu} {σ : St} {δ : Dy} {x y : Int32} (d : decode cc pc = .ok (.isub, 1))  (k : J (pc + 1) L (.int (x - y) :: st) β σ δ) : J pc L (.int y :: .int x :: st) β σ δ := by
  obtain ⟨p, l, e, R, s, m, args, below, meth, c, D, tc, A, ad0, n0, mc, ms, Q, ⟨hx, hb, hml, hown, hts, hK, hA, hfr, hlo, hRc, hRs, hro, hnm, htr⟩, rfl⟩ := hJ
  intro ad H ls locs cells slots h1 h2 h3 hL hst h4 hl hP hD hS hc hs
  exact lv_isub hx hb d  (k ad H ls locs cells slots h1 h2 h3 hL (wfc trivial (wft (wft hst))) h4 hl hP hD hS hc hs)
theorem j_imul {cc : ByteArray} {nL : Nat} {own nm : String} {fr lo : Nat} {J : JT} (hJ : Cor cc nL own nm fr lo J) {pc : Nat} {L : List (Nat × Value)} {st : List Value} {β : Bu} {σ : St} {δ : Dy} {x y : Int32} (d : decode cc pc = .ok (.imul, 1))  (k : J (pc + 1) L (.int (x * y) :: st) β σ δ) : J pc L (.int y :: .int x :: st) β σ δ := by
  obtain ⟨p, l, e, R, s, m, args, below, meth, c, D, tc, A, ad0, n0, mc, ms, Q, ⟨hx, hb, hml, hown, hts, hK, hA, hfr, hlo, hRc, hRs, hro, hnm, htr⟩, rfl⟩ := hJ
  intro ad H ls locs cells slots h1 h2 h3 hL hst h4 hl hP hD hS hc hs
  exact lv_imul hx hb d  (k ad H ls locs cells slots h1 h2 h3 hL (wfc trivial (wft (wft hst))) h4 hl hP hD hS hc hs)
theorem j_iand {cc : ByteArray} {nL : Nat} {own nm : String} {fr lo : Nat} {J : JT} (hJ : Cor cc nL own nm fr lo J) {pc : Nat} {L : List (Nat × Value)} {st : List Value} {β : Bu} {σ : St} {δ : Dy} {x y : Int32} (d : decode cc pc = .ok (.iand, 1))  (k : J (pc + 1) L (.int (x &&& y) :: st) β σ δ) : J pc L (.int y :: .int x :: st) β σ δ := by
  obtain ⟨p, l, e, R, s, m, args, below, meth, c, D, tc, A, ad0, n0, mc, ms, Q, ⟨hx, hb, hml, hown, hts, hK, hA, hfr, hlo, hRc, hRs, hro, hnm, htr⟩, rfl⟩ := hJ
  intro ad H ls locs cells slots h1 h2 h3 hL hst h4 hl hP hD hS hc hs
  exact lv_iand hx hb d  (k ad H ls locs cells slots h1 h2 h3 hL (wfc trivial (wft (wft hst))) h4 hl hP hD hS hc hs)
theorem j_ior {cc : ByteArray} {nL : Nat} {own nm : String} {fr lo : Nat} {J : JT} (hJ : Cor cc nL own nm fr lo J) {pc : Nat} {L : List (Nat × Value)} {st : List Value} {β : Bu} {σ : St} {δ : Dy} {x y : Int32} (d : decode cc pc = .ok (.ior, 1))  (k : J (pc + 1) L (.int (x ||| y) :: st) β σ δ) : J pc L (.int y :: .int x :: st) β σ δ := by
  obtain ⟨p, l, e, R, s, m, args, below, meth, c, D, tc, A, ad0, n0, mc, ms, Q, ⟨hx, hb, hml, hown, hts, hK, hA, hfr, hlo, hRc, hRs, hro, hnm, htr⟩, rfl⟩ := hJ
  intro ad H ls locs cells slots h1 h2 h3 hL hst h4 hl hP hD hS hc hs
  exact lv_ior hx hb d  (k ad H ls locs cells slots h1 h2 h3 hL (wfc trivial (wft (wft hst))) h4 hl hP hD hS hc hs)
theorem j_ixor {cc : ByteArray} {nL : Nat} {own nm : String} {fr lo : Nat} {J : JT} (hJ : Cor cc nL own nm fr lo J) {pc : Nat} {L : List (Nat × Value)} {st : List Value} {β : Bu} {σ : St} {δ : Dy} {x y : Int32} (d : decode cc pc = .ok (.ixor, 1))  (k : J (pc + 1) L (.int (x ^^^ y) :: st) β σ δ) : J pc L (.int y :: .int x :: st) β σ δ := by
  obtain ⟨p, l, e, R, s, m, args, below, meth, c, D, tc, A, ad0, n0, mc, ms, Q, ⟨hx, hb, hml, hown, hts, hK, hA, hfr, hlo, hRc, hRs, hro, hnm, htr⟩, rfl⟩ := hJ
  intro ad H ls locs cells slots h1 h2 h3 hL hst h4 hl hP hD hS hc hs
  exact lv_ixor hx hb d  (k ad H ls locs cells slots h1 h2 h3 hL (wfc trivial (wft (wft hst))) h4 hl hP hD hS hc hs)
theorem j_ishl {cc : ByteArray} {nL : Nat} {own nm : String} {fr lo : Nat} {J : JT} (hJ : Cor cc nL own nm fr lo J) {pc : Nat} {L : List (Nat × Value)} {st : List Value} {β : Bu} {σ : St} {δ : Dy} {x y : Int32} (d : decode cc pc = .ok (.ishl, 1))  (k : J (pc + 1) L (.int (x <<< (y &&& 31)) :: st) β σ δ) : J pc L (.int y :: .int x :: st) β σ δ := by
  obtain ⟨p, l, e, R, s, m, args, below, meth, c, D, tc, A, ad0, n0, mc, ms, Q, ⟨hx, hb, hml, hown, hts, hK, hA, hfr, hlo, hRc, hRs, hro, hnm, htr⟩, rfl⟩ := hJ
  intro ad H ls locs cells slots h1 h2 h3 hL hst h4 hl hP hD hS hc hs
  exact lv_ishl hx hb d  (k ad H ls locs cells slots h1 h2 h3 hL (wfc trivial (wft (wft hst))) h4 hl hP hD hS hc hs)
theorem j_ishr {cc : ByteArray} {nL : Nat} {own nm : String} {fr lo : Nat} {J : JT} (hJ : Cor cc nL own nm fr lo J) {pc : Nat} {L : List (Nat × Value)} {st : List Value} {β : Bu} {σ : St} {δ : Dy} {x y : Int32} (d : decode cc pc = .ok (.ishr, 1))  (k : J (pc + 1) L (.int (x >>> (y &&& 31)) :: st) β σ δ) : J pc L (.int y :: .int x :: st) β σ δ := by
  obtain ⟨p, l, e, R, s, m, args, below, meth, c, D, tc, A, ad0, n0, mc, ms, Q, ⟨hx, hb, hml, hown, hts, hK, hA, hfr, hlo, hRc, hRs, hro, hnm, htr⟩, rfl⟩ := hJ
  intro ad H ls locs cells slots h1 h2 h3 hL hst h4 hl hP hD hS hc hs
  exact lv_ishr hx hb d  (k ad H ls locs cells slots h1 h2 h3 hL (wfc trivial (wft (wft hst))) h4 hl hP hD hS hc hs)
theorem j_ladd {cc : ByteArray} {nL : Nat} {own nm : String} {fr lo : Nat} {J : JT} (hJ : Cor cc nL own nm fr lo J) {pc : Nat} {L : List (Nat × Value)} {st : List Value} {β : Bu} {σ : St} {δ : Dy} {x y : Int64} (d : decode cc pc = .ok (.ladd, 1))  (k : J (pc + 1) L (.long (x + y) :: st) β σ δ) : J pc L (.long y :: .long x :: st) β σ δ := by
  obtain ⟨p, l, e, R, s, m, args, below, meth, c, D, tc, A, ad0, n0, mc, ms, Q, ⟨hx, hb, hml, hown, hts, hK, hA, hfr, hlo, hRc, hRs, hro, hnm, htr⟩, rfl⟩ := hJ
  intro ad H ls locs cells slots h1 h2 h3 hL hst h4 hl hP hD hS hc hs
  exact lv_ladd hx hb d  (k ad H ls locs cells slots h1 h2 h3 hL (wfc trivial (wft (wft hst))) h4 hl hP hD hS hc hs)
theorem j_lsub {cc : ByteArray} {nL : Nat} {own nm : String} {fr lo : Nat} {J : JT} (hJ : Cor cc nL own nm fr lo J) {pc : Nat} {L : List (Nat × Value)} {st : List Value} {β : Bu} {σ : St} {δ : Dy} {x y : Int64} (d : decode cc pc = .ok (.lsub, 1))  (k : J (pc + 1) L (.long (x - y) :: st) β σ δ) : J pc L (.long y :: .long x :: st) β σ δ := by
  obtain ⟨p, l, e, R, s, m, args, below, meth, c, D, tc, A, ad0, n0, mc, ms, Q, ⟨hx, hb, hml, hown, hts, hK, hA, hfr, hlo, hRc, hRs, hro, hnm, htr⟩, rfl⟩ := hJ
  intro ad H ls locs cells slots h1 h2 h3 hL hst h4 hl hP hD hS hc hs
  exact lv_lsub hx hb d  (k ad H ls locs cells slots h1 h2 h3 hL (wfc trivial (wft (wft hst))) h4 hl hP hD hS hc hs)
theorem j_lmul {cc : ByteArray} {nL : Nat} {own nm : String} {fr lo : Nat} {J : JT} (hJ : Cor cc nL own nm fr lo J) {pc : Nat} {L : List (Nat × Value)} {st : List Value} {β : Bu} {σ : St} {δ : Dy} {x y : Int64} (d : decode cc pc = .ok (.lmul, 1))  (k : J (pc + 1) L (.long (x * y) :: st) β σ δ) : J pc L (.long y :: .long x :: st) β σ δ := by
  obtain ⟨p, l, e, R, s, m, args, below, meth, c, D, tc, A, ad0, n0, mc, ms, Q, ⟨hx, hb, hml, hown, hts, hK, hA, hfr, hlo, hRc, hRs, hro, hnm, htr⟩, rfl⟩ := hJ
  intro ad H ls locs cells slots h1 h2 h3 hL hst h4 hl hP hD hS hc hs
  exact lv_lmul hx hb d  (k ad H ls locs cells slots h1 h2 h3 hL (wfc trivial (wft (wft hst))) h4 hl hP hD hS hc hs)
theorem j_land {cc : ByteArray} {nL : Nat} {own nm : String} {fr lo : Nat} {J : JT} (hJ : Cor cc nL own nm fr lo J) {pc : Nat} {L : List (Nat × Value)} {st : List Value} {β : Bu} {σ : St} {δ : Dy} {x y : Int64} (d : decode cc pc = .ok (.land, 1))  (k : J (pc + 1) L (.long (x &&& y) :: st) β σ δ) : J pc L (.long y :: .long x :: st) β σ δ := by
  obtain ⟨p, l, e, R, s, m, args, below, meth, c, D, tc, A, ad0, n0, mc, ms, Q, ⟨hx, hb, hml, hown, hts, hK, hA, hfr, hlo, hRc, hRs, hro, hnm, htr⟩, rfl⟩ := hJ
  intro ad H ls locs cells slots h1 h2 h3 hL hst h4 hl hP hD hS hc hs
  exact lv_land hx hb d  (k ad H ls locs cells slots h1 h2 h3 hL (wfc trivial (wft (wft hst))) h4 hl hP hD hS hc hs)
theorem j_lor {cc : ByteArray} {nL : Nat} {own nm : String} {fr lo : Nat} {J : JT} (hJ : Cor cc nL own nm fr lo J) {pc : Nat} {L : List (Nat × Value)} {st : List Value} {β : Bu} {σ : St} {δ : Dy} {x y : Int64} (d : decode cc pc = .ok (.lor, 1))  (k : J (pc + 1) L (.long (x ||| y) :: st) β σ δ) : J pc L (.long y :: .long x :: st) β σ δ := by
  obtain ⟨p, l, e, R, s, m, args, below, meth, c, D, tc, A, ad0, n0, mc, ms, Q, ⟨hx, hb, hml, hown, hts, hK, hA, hfr, hlo, hRc, hRs, hro, hnm, htr⟩, rfl⟩ := hJ
  intro ad H ls locs cells slots h1 h2 h3 hL hst h4 hl hP hD hS hc hs
  exact lv_lor hx hb d  (k ad H ls locs cells slots h1 h2 h3 hL (wfc trivial (wft (wft hst))) h4 hl hP hD hS hc hs)
theorem j_lxor {cc : ByteArray} {nL : Nat} {own nm : String} {fr lo : Nat} {J : JT} (hJ : Cor cc nL own nm fr lo J) {pc : Nat} {L : List (Nat × Value)} {st : List Value} {β : Bu} {σ : St} {δ : Dy} {x y : Int64} (d : decode cc pc = .ok (.lxor, 1))  (k : J (pc + 1) L (.long (x ^^^ y) :: st) β σ δ) : J pc L (.long y :: .long x :: st) β σ δ := by
  obtain ⟨p, l, e, R, s, m, args, below, meth, c, D, tc, A, ad0, n0, mc, ms, Q, ⟨hx, hb, hml, hown, hts, hK, hA, hfr, hlo, hRc, hRs, hro, hnm, htr⟩, rfl⟩ := hJ
  intro ad H ls locs cells slots h1 h2 h3 hL hst h4 hl hP hD hS hc hs
  exact lv_lxor hx hb d  (k ad H ls locs cells slots h1 h2 h3 hL (wfc trivial (wft (wft hst))) h4 hl hP hD hS hc hs)
theorem j_ineg {cc : ByteArray} {nL : Nat} {own nm : String} {fr lo : Nat} {J : JT} (hJ : Cor cc nL own nm fr lo J) {pc : Nat} {L : List (Nat × Value)} {st : List Value} {β : Bu} {σ : St} {δ : Dy} {x : Int32} (d : decode cc pc = .ok (.ineg, 1))  (k : J (pc + 1) L (.int (-x) :: st) β σ δ) : J pc L (.int x :: st) β σ δ := by
  obtain ⟨p, l, e, R, s, m, args, below, meth, c, D, tc, A, ad0, n0, mc, ms, Q, ⟨hx, hb, hml, hown, hts, hK, hA, hfr, hlo, hRc, hRs, hro, hnm, htr⟩, rfl⟩ := hJ
  intro ad H ls locs cells slots h1 h2 h3 hL hst h4 hl hP hD hS hc hs
  exact lv_ineg hx hb d  (k ad H ls locs cells slots h1 h2 h3 hL (wfc trivial (wft hst)) h4 hl hP hD hS hc hs)
theorem j_idiv {cc : ByteArray} {nL : Nat} {own nm : String} {fr lo : Nat} {J : JT} (hJ : Cor cc nL own nm fr lo J) {pc : Nat} {L : List (Nat × Value)} {st : List Value} {β : Bu} {σ : St} {δ : Dy} {x y : Int32} (d : decode cc pc = .ok (.idiv, 1)) (hne : ¬ y = 0) (k : J (pc + 1) L (.int (x / y) :: st) β σ δ) : J pc L (.int y :: .int x :: st) β σ δ := by
  obtain ⟨p, l, e, R, s, m, args, below, meth, c, D, tc, A, ad0, n0, mc, ms, Q, ⟨hx, hb, hml, hown, hts, hK, hA, hfr, hlo, hRc, hRs, hro, hnm, htr⟩, rfl⟩ := hJ
  intro ad H ls locs cells slots h1 h2 h3 hL hst h4 hl hP hD hS hc hs
  exact lv_idiv hx hb d hne (k ad H ls locs cells slots h1 h2 h3 hL (wfc trivial (wft (wft hst))) h4 hl hP hD hS hc hs)
theorem j_irem {cc : ByteArray} {nL : Nat} {own nm : String} {fr lo : Nat} {J : JT} (hJ : Cor cc nL own nm fr lo J) {pc : Nat} {L : List (Nat × Value)} {st : List Value} {β : Bu} {σ : St} {δ : Dy} {x y : Int32} (d : decode cc pc = .ok (.irem, 1)) (hne : ¬ y = 0) (k : J (pc + 1) L (.int (x - x / y * y) :: st) β σ δ) : J pc L (.int y :: .int x :: st) β σ δ := by
  obtain ⟨p, l, e, R, s, m, args, below, meth, c, D, tc, A, ad0, n0, mc, ms, Q, ⟨hx, hb, hml, hown, hts, hK, hA, hfr, hlo, hRc, hRs, hro, hnm, htr⟩, rfl⟩ := hJ
  intro ad H ls locs cells slots h1 h2 h3 hL hst h4 hl hP hD hS hc hs
  exact lv_irem hx hb d hne (k ad H ls locs cells slots h1 h2 h3 hL (wfc trivial (wft (wft hst))) h4 hl hP hD hS hc hs)
theorem j_ldiv {cc : ByteArray} {nL : Nat} {own nm : String} {fr lo : Nat} {J : JT} (hJ : Cor cc nL own nm fr lo J) {pc : Nat} {L : List (Nat × Value)} {st : List Value} {β : Bu} {σ : St} {δ : Dy} {x y : Int64} (d : decode cc pc = .ok (.ldiv, 1)) (hne : ¬ y = 0) (k : J (pc + 1) L (.long (x / y) :: st) β σ δ) : J pc L (.long y :: .long x :: st) β σ δ := by
  obtain ⟨p, l, e, R, s, m, args, below, meth, c, D, tc, A, ad0, n0, mc, ms, Q, ⟨hx, hb, hml, hown, hts, hK, hA, hfr, hlo, hRc, hRs, hro, hnm, htr⟩, rfl⟩ := hJ
  intro ad H ls locs cells slots h1 h2 h3 hL hst h4 hl hP hD hS hc hs
  exact lv_ldiv hx hb d hne (k ad H ls locs cells slots h1 h2 h3 hL (wfc trivial (wft (wft hst))) h4 hl hP hD hS hc hs)
theorem j_lrem {cc : ByteArray} {nL : Nat} {own nm : String} {fr lo : Nat} {J : JT} (hJ : Cor cc nL own nm fr lo J) {pc : Nat} {L : List (Nat × Value)} {st : List Value} {β : Bu} {σ : St} {δ : Dy} {x y : Int64} (d : decode cc pc = .ok (.lrem, 1)) (hne : ¬ y = 0) (k : J (pc + 1) L (.long (x - x / y * y) :: st) β σ δ) : J pc L (.long y :: .long x :: st) β σ δ := by
  obtain ⟨p, l, e, R, s, m, args, below, meth, c, D, tc, A, ad0, n0, mc, ms, Q, ⟨hx, hb, hml, hown, hts, hK, hA, hfr, hlo, hRc, hRs, hro, hnm, htr⟩, rfl⟩ := hJ
  intro ad H ls locs cells slots h1 h2 h3 hL hst h4 hl hP hD hS hc hs
  exact lv_lrem hx hb d hne (k ad H ls locs cells slots h1 h2 h3 hL (wfc trivial (wft (wft hst))) h4 hl hP hD hS hc hs)
theorem j_i2l {cc : ByteArray} {nL : Nat} {own nm : String} {fr lo : Nat} {J : JT} (hJ : Cor cc nL own nm fr lo J) {pc : Nat} {L : List (Nat × Value)} {st : List Value} {β : Bu} {σ : St} {δ : Dy} {x : Int32} (d : decode cc pc = .ok (.i2l, 1))  (k : J (pc + 1) L (.long x.toInt64 :: st) β σ δ) : J pc L (.int x :: st) β σ δ := by
  obtain ⟨p, l, e, R, s, m, args, below, meth, c, D, tc, A, ad0, n0, mc, ms, Q, ⟨hx, hb, hml, hown, hts, hK, hA, hfr, hlo, hRc, hRs, hro, hnm, htr⟩, rfl⟩ := hJ
  intro ad H ls locs cells slots h1 h2 h3 hL hst h4 hl hP hD hS hc hs
  exact lv_i2l hx hb d rfl (k ad H ls locs cells slots h1 h2 h3 hL (wfc trivial (wft hst)) h4 hl hP hD hS hc hs)
theorem j_l2i {cc : ByteArray} {nL : Nat} {own nm : String} {fr lo : Nat} {J : JT} (hJ : Cor cc nL own nm fr lo J) {pc : Nat} {L : List (Nat × Value)} {st : List Value} {β : Bu} {σ : St} {δ : Dy} {x : Int64} (d : decode cc pc = .ok (.l2i, 1))  (k : J (pc + 1) L (.int x.toInt32 :: st) β σ δ) : J pc L (.long x :: st) β σ δ := by
  obtain ⟨p, l, e, R, s, m, args, below, meth, c, D, tc, A, ad0, n0, mc, ms, Q, ⟨hx, hb, hml, hown, hts, hK, hA, hfr, hlo, hRc, hRs, hro, hnm, htr⟩, rfl⟩ := hJ
  intro ad H ls locs cells slots h1 h2 h3 hL hst h4 hl hP hD hS hc hs
  exact lv_l2i hx hb d rfl (k ad H ls locs cells slots h1 h2 h3 hL (wfc trivial (wft hst)) h4 hl hP hD hS hc hs)
theorem j_lshl {cc : ByteArray} {nL : Nat} {own nm : String} {fr lo : Nat} {J : JT} (hJ : Cor cc nL own nm fr lo J) {pc : Nat} {L : List (Nat × Value)} {st : List Value} {β : Bu} {σ : St} {δ : Dy} {x : Int64} {y : Int32} (d : decode cc pc = .ok (.lshl, 1))  (k : J (pc + 1) L (.long (x <<< (y.toInt64 &&& 63)) :: st) β σ δ) : J pc L (.int y :: .long x :: st) β σ δ := by
  obtain ⟨p, l, e, R, s, m, args, below, meth, c, D, tc, A, ad0, n0, mc, ms, Q, ⟨hx, hb, hml, hown, hts, hK, hA, hfr, hlo, hRc, hRs, hro, hnm, htr⟩, rfl⟩ := hJ
  intro ad H ls locs cells slots h1 h2 h3 hL hst h4 hl hP hD hS hc hs
  exact lv_lshl hx hb d rfl (k ad H ls locs cells slots h1 h2 h3 hL (wfc trivial (wft (wft hst))) h4 hl hP hD hS hc hs)
theorem j_lcmp {cc : ByteArray} {nL : Nat} {own nm : String} {fr lo : Nat} {J : JT} (hJ : Cor cc nL own nm fr lo J) {pc : Nat} {L : List (Nat × Value)} {st : List Value} {β : Bu} {σ : St} {δ : Dy} {x y : Int64} (d : decode cc pc = .ok (.lcmp, 1))  (k : J (pc + 1) L (.int (lg_cmp x y) :: st) β σ δ) : J pc L (.long y :: .long x :: st) β σ δ := by
  obtain ⟨p, l, e, R, s, m, args, below, meth, c, D, tc, A, ad0, n0, mc, ms, Q, ⟨hx, hb, hml, hown, hts, hK, hA, hfr, hlo, hRc, hRs, hro, hnm, htr⟩, rfl⟩ := hJ
  intro ad H ls locs cells slots h1 h2 h3 hL hst h4 hl hP hD hS hc hs
  exact W.lcmp hx hb d  (k ad H ls locs cells slots h1 h2 h3 hL (wfc trivial (wft (wft hst))) h4 hl hP hD hS hc hs)
theorem j_dup {cc : ByteArray} {nL : Nat} {own nm : String} {fr lo : Nat} {J : JT} (hJ : Cor cc nL own nm fr lo J) {pc : Nat} {L : List (Nat × Value)} {st : List Value} {β : Bu} {σ : St} {δ : Dy} {a : Value} (d : decode cc pc = .ok (.dup, 1)) (ha : a.category = 1) (k : J (pc + 1) L (a :: a :: st) β σ δ) : J pc L (a :: st) β σ δ := by
  obtain ⟨p, l, e, R, s, m, args, below, meth, c, D, tc, A, ad0, n0, mc, ms, Q, ⟨hx, hb, hml, hown, hts, hK, hA, hfr, hlo, hRc, hRs, hro, hnm, htr⟩, rfl⟩ := hJ
  intro ad H ls locs cells slots h1 h2 h3 hL hst h4 hl hP hD hS hc hs
  exact lv_dup hx hb d ((cv_cat ad a).trans ha) (k ad H ls locs cells slots h1 h2 h3 hL (wfc (wfh hst) hst) h4 hl hP hD hS hc hs)
theorem j_pop {cc : ByteArray} {nL : Nat} {own nm : String} {fr lo : Nat} {J : JT} (hJ : Cor cc nL own nm fr lo J) {pc : Nat} {L : List (Nat × Value)} {st : List Value} {β : Bu} {σ : St} {δ : Dy} {a : Value} (d : decode cc pc = .ok (.pop, 1)) (ha : a.category = 1) (k : J (pc + 1) L (st) β σ δ) : J pc L (a :: st) β σ δ := by
  obtain ⟨p, l, e, R, s, m, args, below, meth, c, D, tc, A, ad0, n0, mc, ms, Q, ⟨hx, hb, hml, hown, hts, hK, hA, hfr, hlo, hRc, hRs, hro, hnm, htr⟩, rfl⟩ := hJ
  intro ad H ls locs cells slots h1 h2 h3 hL hst h4 hl hP hD hS hc hs
  exact lv_pop hx hb d ((cv_cat ad a).trans ha) (k ad H ls locs cells slots h1 h2 h3 hL (wft hst) h4 hl hP hD hS hc hs)
theorem j_dup2_2 {cc : ByteArray} {nL : Nat} {own nm : String} {fr lo : Nat} {J : JT} (hJ : Cor cc nL own nm fr lo J) {pc : Nat} {L : List (Nat × Value)} {st : List Value} {β : Bu} {σ : St} {δ : Dy} {a : Value} (d : decode cc pc = .ok (.dup2, 1)) (ha : a.category = 2) (k : J (pc + 1) L (a :: a :: st) β σ δ) : J pc L (a :: st) β σ δ := by
  obtain ⟨p, l, e, R, s, m, args, below, meth, c, D, tc, A, ad0, n0, mc, ms, Q, ⟨hx, hb, hml, hown, hts, hK, hA, hfr, hlo, hRc, hRs, hro, hnm, htr⟩, rfl⟩ := hJ
  intro ad H ls locs cells slots h1 h2 h3 hL hst h4 hl hP hD hS hc hs
  exact lv_dup2_2 hx hb d ((cv_cat ad a).trans ha) (k ad H ls locs cells slots h1 h2 h3 hL (wfc (wfh hst) hst) h4 hl hP hD hS hc hs)
theorem j_dup2 {cc : ByteArray} {nL : Nat} {own nm : String} {fr lo : Nat} {J : JT} (hJ : Cor cc nL own nm fr lo J) {pc : Nat} {L : List (Nat × Value)} {st : List Value} {β : Bu} {σ : St} {δ : Dy} {a b : Value} (d : decode cc pc = .ok (.dup2, 1)) (ha : a.category = 1) (hb2 : b.category = 1) (k : J (pc + 1) L (a :: b :: a :: b :: st) β σ δ) : J pc L (a :: b :: st) β σ δ := by
  obtain ⟨p, l, e, R, s, m, args, below, meth, c, D, tc, A, ad0, n0, mc, ms, Q, ⟨hx, hb, hml, hown, hts, hK, hA, hfr, hlo, hRc, hRs, hro, hnm, htr⟩, rfl⟩ := hJ
  intro ad H ls locs cells slots h1 h2 h3 hL hst h4 hl hP hD hS hc hs
  exact lv_dup2_11 hx hb d ((cv_cat ad a).trans ha) ((cv_cat ad b).trans hb2) (k ad H ls locs cells slots h1 h2 h3 hL (wfc (wfh hst) (wfc (wfh (wft hst)) hst)) h4 hl hP hD hS hc hs)
theorem j_dup_x1 {cc : ByteArray} {nL : Nat} {own nm : String} {fr lo : Nat} {J : JT} (hJ : Cor cc nL own nm fr lo J) {pc : Nat} {L : List (Nat × Value)} {st : List Value} {β : Bu} {σ : St} {δ : Dy} {a b : Value} (d : decode cc pc = .ok (.dup_x1, 1)) (ha : a.category = 1) (hb2 : b.category = 1) (k : J (pc + 1) L (a :: b :: a :: st) β σ δ) : J pc L (a :: b :: st) β σ δ := by
  obtain ⟨p, l, e, R, s, m, args, below, meth, c, D, tc, A, ad0, n0, mc, ms, Q, ⟨hx, hb, hml, hown, hts, hK, hA, hfr, hlo, hRc, hRs, hro, hnm, htr⟩, rfl⟩ := hJ
  intro ad H ls locs cells slots h1 h2 h3 hL hst h4 hl hP hD hS hc hs
  exact lv_dup_x1 hx hb d ((cv_cat ad a).trans ha) ((cv_cat ad b).trans hb2) (k ad H ls locs cells slots h1 h2 h3 hL (wfc (wfh hst) (wfc (wfh (wft hst)) (wfc (wfh hst) (wft (wft hst))))) h4 hl hP hD hS hc hs)
theorem j_iload_n {cc : ByteArray} {nL : Nat} {own nm : String} {fr lo : Nat} {J : JT} (hJ : Cor cc nL own nm fr lo J) {pc : Nat} {L : List (Nat × Value)} {st : List Value} {β : Bu} {σ : St} {δ : Dy} {kk : Fin 4} {i : Nat} {x : Int32} (d : decode cc pc = .ok (.iload_n kk, 1)) (hi : (kk : Nat) = i) (j : Nat) (hk : L[j]? = some (i, .int x)) (k : J (pc + 1) L (.int x :: st) β σ δ) : J pc L st β σ δ := by
  obtain ⟨p, l, e, R, s, m, args, below, meth, c, D, tc, A, ad0, n0, mc, ms, Q, ⟨hx, hb, hml, hown, hts, hK, hA, hfr, hlo, hRc, hRs, hro, hnm, htr⟩, rfl⟩ := hJ
  intro ad H ls locs cells slots h1 h2 h3 hL hst h4 hl hP hD hS hc hs
  exact lv_iload_n hx hb d hi (lv_at hl j (cL_at hk)) (k ad H ls locs cells slots h1 h2 h3 hL (wfc trivial hst) h4 hl hP hD hS hc hs)
theorem j_iload {cc : ByteArray} {nL : Nat} {own nm : String} {fr lo : Nat} {J : JT} (hJ : Cor cc nL own nm fr lo J) {pc : Nat} {L : List (Nat × Value)} {st : List Value} {β : Bu} {σ : St} {δ : Dy} {i : Nat} {x : Int32} (d : decode cc pc = .ok (.iload i, 2)) (j : Nat) (hk : L[j]? = some (i, .int x)) (k : J (pc + 2) L (.int x :: st) β σ δ) : J pc L st β σ δ := by
  obtain ⟨p, l, e, R, s, m, args, below, meth, c, D, tc, A, ad0, n0, mc, ms, Q, ⟨hx, hb, hml, hown, hts, hK, hA, hfr, hlo, hRc, hRs, hro, hnm, htr⟩, rfl⟩ := hJ
  intro ad H ls locs cells slots h1 h2 h3 hL hst h4 hl hP hD hS hc hs
  exact lv_iload hx hb d (lv_at hl j (cL_at hk)) (k ad H ls locs cells slots h1 h2 h3 hL (wfc trivial hst) h4 hl hP hD hS hc hs)
theorem j_lload_n {cc : ByteArray} {nL : Nat} {own nm : String} {fr lo : Nat} {J : JT} (hJ : Cor cc nL own nm fr lo J) {pc : Nat} {L : List (Nat × Value)} {st : List Value} {β : Bu} {σ : St} {δ : Dy} {kk : Fin 4} {i : Nat} {x : Int64} (d : decode cc pc = .ok (.lload_n kk, 1)) (hi : (kk : Nat) = i) (j : Nat) (hk : L[j]? = some (i, .long x)) (k : J (pc + 1) L (.long x :: st) β σ δ) : J pc L st β σ δ := by
  obtain ⟨p, l, e, R, s, m, args, below, meth, c, D, tc, A, ad0, n0, mc, ms, Q, ⟨hx, hb, hml, hown, hts, hK, hA, hfr, hlo, hRc, hRs, hro, hnm, htr⟩, rfl⟩ := hJ
  intro ad H ls locs cells slots h1 h2 h3 hL hst h4 hl hP hD hS hc hs
  exact lv_lload_n hx hb d hi (lv_at hl j (cL_at hk)) (k ad H ls locs cells slots h1 h2 h3 hL (wfc trivial hst) h4 hl hP hD hS hc hs)
theorem j_lload {cc : ByteArray} {nL : Nat} {own nm : String} {fr lo : Nat} {J : JT} (hJ : Cor cc nL own nm fr lo J) {pc : Nat} {L : List (Nat × Value)} {st : List Value} {β : Bu} {σ : St} {δ : Dy} {i : Nat} {x : Int64} (d : decode cc pc = .ok (.lload i, 2)) (j : Nat) (hk : L[j]? = some (i, .long x)) (k : J (pc + 2) L (.long x :: st) β σ δ) : J pc L st β σ δ := by
  obtain ⟨p, l, e, R, s, m, args, below, meth, c, D, tc, A, ad0, n0, mc, ms, Q, ⟨hx, hb, hml, hown, hts, hK, hA, hfr, hlo, hRc, hRs, hro, hnm, htr⟩, rfl⟩ := hJ
  intro ad H ls locs cells slots h1 h2 h3 hL hst h4 hl hP hD hS hc hs
  exact lv_lload hx hb d (lv_at hl j (cL_at hk)) (k ad H ls locs cells slots h1 h2 h3 hL (wfc trivial hst) h4 hl hP hD hS hc hs)
theorem j_aload_n {cc : ByteArray} {nL : Nat} {own nm : String} {fr lo : Nat} {J : JT} (hJ : Cor cc nL own nm fr lo J) {pc : Nat} {L : List (Nat × Value)} {st : List Value} {β : Bu} {σ : St} {δ : Dy} {kk : Fin 4} {i : Nat} {x : Nat} (d : decode cc pc = .ok (.aload_n kk, 1)) (hi : (kk : Nat) = i) (j : Nat) (hk : L[j]? = some (i, .ref x)) (k : J (pc + 1) L (.ref x :: st) β σ δ) : J pc L st β σ δ := by
  obtain ⟨p, l, e, R, s, m, args, below, meth, c, D, tc, A, ad0, n0, mc, ms, Q, ⟨hx, hb, hml, hown, hts, hK, hA, hfr, hlo, hRc, hRs, hro, hnm, htr⟩, rfl⟩ := hJ
  intro ad H ls locs cells slots h1 h2 h3 hL hst h4 hl hP hD hS hc hs
  exact lv_aload_n hx hb d hi (lv_at hl j (cL_at hk)) (k ad H ls locs cells slots h1 h2 h3 hL (wfc (wfL hL hk) hst) h4 hl hP hD hS hc hs)
theorem j_aload {cc : ByteArray} {nL : Nat} {own nm : String} {fr lo : Nat} {J : JT} (hJ : Cor cc nL own nm fr lo J) {pc : Nat} {L : List (Nat × Value)} {st : List Value} {β : Bu} {σ : St} {δ : Dy} {i : Nat} {x : Nat} (d : decode cc pc = .ok (.aload i, 2)) (j : Nat) (hk : L[j]? = some (i, .ref x)) (k : J (pc + 2) L (.ref x :: st) β σ δ) : J pc L st β σ δ := by
  obtain ⟨p, l, e, R, s, m, args, below, meth, c, D, tc, A, ad0, n0, mc, ms, Q, ⟨hx, hb, hml, hown, hts, hK, hA, hfr, hlo, hRc, hRs, hro, hnm, htr⟩, rfl⟩ := hJ
  intro ad H ls locs cells slots h1 h2 h3 hL hst h4 hl hP hD hS hc hs
  exact lv_aload hx hb d (lv_at hl j (cL_at hk)) (k ad H ls locs cells slots h1 h2 h3 hL (wfc (wfL hL hk) hst) h4 hl hP hD hS hc hs)
theorem j_istore_n {cc : ByteArray} {nL : Nat} {own nm : String} {fr lo : Nat} {J : JT} (hJ : Cor cc nL own nm fr lo J) {pc : Nat} {L : List (Nat × Value)} {st : List Value} {β : Bu} {σ : St} {δ : Dy} {kk : Fin 4} {i : Nat} {x : Int32} {L' : List (Nat × Value)} (d : decode cc pc = .ok (.istore_n kk, 1)) (hi : (kk : Nat) = i) (hn : i < nL) (hL' : st1 L i (.int x) = L') (k : J (pc + 1) L' st β σ δ) : J pc L (.int x :: st) β σ δ := by
  subst hL'
  obtain ⟨p, l, e, R, s, m, args, below, meth, c, D, tc, A, ad0, n0, mc, ms, Q, ⟨hx, hb, hml, hown, hts, hK, hA, hfr, hlo, hRc, hRs, hro, hnm, htr⟩, rfl⟩ := hJ
  intro ad H ls locs cells slots h1 h2 h3 hL hst h4 hl hP hD hS hc hs
  exact lv_istore_n hx hb d hi hl hn (cL_st1 ad L i (.int x)) (fun ls hl => k ad H ls locs cells slots h1 h2 h3 (wf_st1 hL (wfh hst)) (wft hst) h4 hl hP hD hS hc hs)
theorem j_istore {cc : ByteArray} {nL : Nat} {own nm : String} {fr lo : Nat} {J : JT} (hJ : Cor cc nL own nm fr lo J) {pc : Nat} {L : List (Nat × Value)} {st : List Value} {β : Bu} {σ : St} {δ : Dy} {i : Nat} {x : Int32} {L' : List (Nat × Value)} (d : decode cc pc = .ok (.istore i, 2)) (hn : i < nL) (hL' : st1 L i (.int x) = L') (k : J (pc + 2) L' st β σ δ) : J pc L (.int x :: st) β σ δ := by
  subst hL'
  obtain ⟨p, l, e, R, s, m, args, below, meth, c, D, tc, A, ad0, n0, mc, ms, Q, ⟨hx, hb, hml, hown, hts, hK, hA, hfr, hlo, hRc, hRs, hro, hnm, htr⟩, rfl⟩ := hJ
  intro ad H ls locs cells slots h1 h2 h3 hL hst h4 hl hP hD hS hc hs
  exact lv_istore hx hb d hl hn (cL_st1 ad L i (.int x)) (fun ls hl => k ad H ls locs cells slots h1 h2 h3 (wf_st1 hL (wfh hst)) (wft hst) h4 hl hP hD hS hc hs)
theorem j_lstore_n {cc : ByteArray} {nL : Nat} {own nm : String} {fr lo : Nat} {J : JT} (hJ : Cor cc nL own nm fr lo J) {pc : Nat} {L : List (Nat × Value)} {st : List Value} {β : Bu} {σ : St} {δ : Dy} {kk : Fin 4} {i : Nat} {x : Int64} {L' : List (Nat × Value)} (d : decode cc pc = .ok (.lstore_n kk, 1)) (hi : (kk : Nat) = i) (hn : i + 1 < nL) (hL' : st2 L i (.long x) = L') (k : J (pc + 1) L' st β σ δ) : J pc L (.long x :: st) β σ δ := by
  subst hL'
  obtain ⟨p, l, e, R, s, m, args, below, meth, c, D, tc, A, ad0, n0, mc, ms, Q, ⟨hx, hb, hml, hown, hts, hK, hA, hfr, hlo, hRc, hRs, hro, hnm, htr⟩, rfl⟩ := hJ
  intro ad H ls locs cells slots h1 h2 h3 hL hst h4 hl hP hD hS hc hs
  exact lv_lstore_n hx hb d hi hl hn (cL_st2 ad L i (.long x)) (fun ls hl => k ad H ls locs cells slots h1 h2 h3 (wf_st2 hL (wfh hst)) (wft hst) h4 hl hP hD hS hc hs)
theorem j_lstore {cc : ByteArray} {nL : Nat} {own nm : String} {fr lo : Nat} {J : JT} (hJ : Cor cc nL own nm fr lo J) {pc : Nat} {L : List (Nat × Value)} {st : List Value} {β : Bu} {σ : St} {δ : Dy} {i : Nat} {x : Int64} {L' : List (Nat × Value)} (d : decode cc pc = .ok (.lstore i, 2)) (hn : i + 1 < nL) (hL' : st2 L i (.long x) = L') (k : J (pc + 2) L' st β σ δ) : J pc L (.long x :: st) β σ δ := by
  subst hL'
  obtain ⟨p, l, e, R, s, m, args, below, meth, c, D, tc, A, ad0, n0, mc, ms, Q, ⟨hx, hb, hml, hown, hts, hK, hA, hfr, hlo, hRc, hRs, hro, hnm, htr⟩, rfl⟩ := hJ
  intro ad H ls locs cells slots h1 h2 h3 hL hst h4 hl hP hD hS hc hs
  exact lv_lstore hx hb d hl hn (cL_st2 ad L i (.long x)) (fun ls hl => k ad H ls locs cells slots h1 h2 h3 (wf_st2 hL (wfh hst)) (wft hst) h4 hl hP hD hS hc hs)
theorem j_astore_n {cc : ByteArray} {nL : Nat} {own nm : String} {fr lo : Nat} {J : JT} (hJ : Cor cc nL own nm fr lo J) {pc : Nat} {L : List (Nat × Value)} {st : List Value} {β : Bu} {σ : St} {δ : Dy} {kk : Fin 4} {i : Nat} {x : Nat} {L' : List (Nat × Value)} (d : decode cc pc = .ok (.astore_n kk, 1)) (hi : (kk : Nat) = i) (hn : i < nL) (hL' : st1 L i (.ref x) = L') (k : J (pc + 1) L' st β σ δ) : J pc L (.ref x :: st) β σ δ := by
  subst hL'
  obtain ⟨p, l, e, R, s, m, args, below, meth, c, D, tc, A, ad0, n0, mc, ms, Q, ⟨hx, hb, hml, hown, hts, hK, hA, hfr, hlo, hRc, hRs, hro, hnm, htr⟩, rfl⟩ := hJ
  intro ad H ls locs cells slots h1 h2 h3 hL hst h4 hl hP hD hS hc hs
  exact lv_astore_n hx hb d hi hl hn (cL_st1 ad L i (.ref x)) (fun ls hl => k ad H ls locs cells slots h1 h2 h3 (wf_st1 hL (wfh hst)) (wft hst) h4 hl hP hD hS hc hs)
theorem j_astore {cc : ByteArray} {nL : Nat} {own nm : String} {fr lo : Nat} {J : JT} (hJ : Cor cc nL own nm fr lo J) {pc : Nat} {L : List (Nat × Value)} {st : List Value} {β : Bu} {σ : St} {δ : Dy} {i : Nat} {x : Nat} {L' : List (Nat × Value)} (d : decode cc pc = .ok (.astore i, 2)) (hn : i < nL) (hL' : st1 L i (.ref x) = L') (k : J (pc + 2) L' st β σ δ) : J pc L (.ref x :: st) β σ δ := by
  subst hL'
  obtain ⟨p, l, e, R, s, m, args, below, meth, c, D, tc, A, ad0, n0, mc, ms, Q, ⟨hx, hb, hml, hown, hts, hK, hA, hfr, hlo, hRc, hRs, hro, hnm, htr⟩, rfl⟩ := hJ
  intro ad H ls locs cells slots h1 h2 h3 hL hst h4 hl hP hD hS hc hs
  exact lv_astore hx hb d hl hn (cL_st1 ad L i (.ref x)) (fun ls hl => k ad H ls locs cells slots h1 h2 h3 (wf_st1 hL (wfh hst)) (wft hst) h4 hl hP hD hS hc hs)
theorem j_iinc {cc : ByteArray} {nL : Nat} {own nm : String} {fr lo : Nat} {J : JT} (hJ : Cor cc nL own nm fr lo J) {pc : Nat} {L : List (Nat × Value)} {st : List Value} {β : Bu} {σ : St} {δ : Dy} {i : Nat} {n : Int} {x v : Int32} {L' : List (Nat × Value)} (d : decode cc pc = .ok (.iinc i n, 3)) (j : Nat) (hk : L[j]? = some (i, .int x)) (hv : x + Int32.ofInt n = v) (hn : i < nL) (hL' : st1 L i (.int v) = L') (k : J (pc + 3) L' st β σ δ) : J pc L st β σ δ := by
  subst hL'
  obtain ⟨p, l, e, R, s, m, args, below, meth, c, D, tc, A, ad0, n0, mc, ms, Q, ⟨hx, hb, hml, hown, hts, hK, hA, hfr, hlo, hRc, hRs, hro, hnm, htr⟩, rfl⟩ := hJ
  intro ad H ls locs cells slots h1 h2 h3 hL hst h4 hl hP hD hS hc hs
  exact lv_iinc hx hb d hl (k := j) (cL_at hk) hv hn (cL_st1 ad L i (.int v)) (fun ls hl => k ad H ls locs cells slots h1 h2 h3 (wf_st1 hL trivial) hst h4 hl hP hD hS hc hs)
theorem j_if_eq {cc : ByteArray} {nL : Nat} {own nm : String} {fr lo : Nat} {J : JT} (hJ : Cor cc nL own nm fr lo J) {pc : Nat} {L : List (Nat × Value)} {st : List Value} {β : Bu} {σ : St} {δ : Dy} {x : Int32} {off : Int} {tgt : Nat} (d : decode cc pc = .ok (.ifCond .eq off, 3)) (ht : (pc : Int) + off = (tgt : Int)) (kt : x = 0 → J tgt L st β σ δ) (kf : ¬ x = 0 → J (pc + 3) L st β σ δ) : J pc L (.int x :: st) β σ δ := by
  obtain ⟨p, l, e, R, s, m, args, below, meth, c, D, tc, A, ad0, n0, mc, ms, Q, ⟨hx, hb, hml, hown, hts, hK, hA, hfr, hlo, hRc, hRs, hro, hnm, htr⟩, rfl⟩ := hJ
  intro ad H ls locs cells slots h1 h2 h3 hL hst h4 hl hP hD hS hc hs
  exact lv_if_eq hx hb d ht (fun h => kt h ad H ls locs cells slots h1 h2 h3 hL (wft hst) h4 hl hP hD hS hc hs) (fun h => kf h ad H ls locs cells slots h1 h2 h3 hL (wft hst) h4 hl hP hD hS hc hs)
theorem j_if_ne {cc : ByteArray} {nL : Nat} {own nm : String} {fr lo : Nat} {J : JT} (hJ : Cor cc nL own nm fr lo J) {pc : Nat} {L : List (Nat × Value)} {st : List Value} {β : Bu} {σ : St} {δ : Dy} {x : Int32} {off : Int} {tgt : Nat} (d : decode cc pc = .ok (.ifCond .ne off, 3)) (ht : (pc : Int) + off = (tgt : Int)) (kt : x = 0 → J (pc + 3) L st β σ δ) (kf : ¬ x = 0 → J tgt L st β σ δ) : J pc L (.int x :: st) β σ δ := by
  obtain ⟨p, l, e, R, s, m, args, below, meth, c, D, tc, A, ad0, n0, mc, ms, Q, ⟨hx, hb, hml, hown, hts, hK, hA, hfr, hlo, hRc, hRs, hro, hnm, htr⟩, rfl⟩ := hJ
  intro ad H ls locs cells slots h1 h2 h3 hL hst h4 hl hP hD hS hc hs
  exact lv_if_ne hx hb d ht (fun h => kf h ad H ls locs cells slots h1 h2 h3 hL (wft hst) h4 hl hP hD hS hc hs) (fun h => kt h ad H ls locs cells slots h1 h2 h3 hL (wft hst) h4 hl hP hD hS hc hs)
theorem j_if_lt {cc : ByteArray} {nL : Nat} {own nm : String} {fr lo : Nat} {J : JT} (hJ : Cor cc nL own nm fr lo J) {pc : Nat} {L : List (Nat × Value)} {st : List Value} {β : Bu} {σ : St} {δ : Dy} {x : Int32} {off : Int} {tgt : Nat} (d : decode cc pc = .ok (.ifCond .lt off, 3)) (ht : (pc : Int) + off = (tgt : Int)) (kt : x < 0 → J tgt L st β σ δ) (kf : ¬ x < 0 → J (pc + 3) L st β σ δ) : J pc L (.int x :: st) β σ δ := by
  obtain ⟨p, l, e, R, s, m, args, below, meth, c, D, tc, A, ad0, n0, mc, ms, Q, ⟨hx, hb, hml, hown, hts, hK, hA, hfr, hlo, hRc, hRs, hro, hnm, htr⟩, rfl⟩ := hJ
  intro ad H ls locs cells slots h1 h2 h3 hL hst h4 hl hP hD hS hc hs
  exact lv_if_lt hx hb d ht (fun h => kt h ad H ls locs cells slots h1 h2 h3 hL (wft hst) h4 hl hP hD hS hc hs) (fun h => kf h ad H ls locs cells slots h1 h2 h3 hL (wft hst) h4 hl hP hD hS hc hs)
theorem j_if_ge {cc : ByteArray} {nL : Nat} {own nm : String} {fr lo : Nat} {J : JT} (hJ : Cor cc nL own nm fr lo J) {pc : Nat} {L : List (Nat × Value)} {st : List Value} {β : Bu} {σ : St} {δ : Dy} {x : Int32} {off : Int} {tgt : Nat} (d : decode cc pc = .ok (.ifCond .ge off, 3)) (ht : (pc : Int) + off = (tgt : Int)) (kt : 0 ≤ x → J tgt L st β σ δ) (kf : ¬ 0 ≤ x → J (pc + 3) L st β σ δ) : J pc L (.int x :: st) β σ δ := by
  obtain ⟨p, l, e, R, s, m, args, below, meth, c, D, tc, A, ad0, n0, mc, ms, Q, ⟨hx, hb, hml, hown, hts, hK, hA, hfr, hlo, hRc, hRs, hro, hnm, htr⟩, rfl⟩ := hJ
  intro ad H ls locs cells slots h1 h2 h3 hL hst h4 hl hP hD hS hc hs
  exact lv_if_ge hx hb d ht (fun h => kt h ad H ls locs cells slots h1 h2 h3 hL (wft hst) h4 hl hP hD hS hc hs) (fun h => kf h ad H ls locs cells slots h1 h2 h3 hL (wft hst) h4 hl hP hD hS hc hs)
theorem j_if_gt {cc : ByteArray} {nL : Nat} {own nm : String} {fr lo : Nat} {J : JT} (hJ : Cor cc nL own nm fr lo J) {pc : Nat} {L : List (Nat × Value)} {st : List Value} {β : Bu} {σ : St} {δ : Dy} {x : Int32} {off : Int} {tgt : Nat} (d : decode cc pc = .ok (.ifCond .gt off, 3)) (ht : (pc : Int) + off = (tgt : Int)) (kt : 0 < x → J tgt L st β σ δ) (kf : ¬ 0 < x → J (pc + 3) L st β σ δ) : J pc L (.int x :: st) β σ δ := by
  obtain ⟨p, l, e, R, s, m, args, below, meth, c, D, tc, A, ad0, n0, mc, ms, Q, ⟨hx, hb, hml, hown, hts, hK, hA, hfr, hlo, hRc, hRs, hro, hnm, htr⟩, rfl⟩ := hJ
  intro ad H ls locs cells slots h1 h2 h3 hL hst h4 hl hP hD hS hc hs
  exact lv_if_gt hx hb d ht (fun h => kt h ad H ls locs cells slots h1 h2 h3 hL (wft hst) h4 hl hP hD hS hc hs) (fun h => kf h ad H ls locs cells slots h1 h2 h3 hL (wft hst) h4 hl hP hD hS hc hs)
theorem j_if_le {cc : ByteArray} {nL : Nat} {own nm : String} {fr lo : Nat} {J : JT} (hJ : Cor cc nL own nm fr lo J) {pc : Nat} {L : List (Nat × Value)} {st : List Value} {β : Bu} {σ : St} {δ : Dy} {x : Int32} {off : Int} {tgt : Nat} (d : decode cc pc = .ok (.ifCond .le off, 3)) (ht : (pc : Int) + off = (tgt : Int)) (kt : x ≤ 0 → J tgt L st β σ δ) (kf : ¬ x ≤ 0 → J (pc + 3) L st β σ δ) : J pc L (.int x :: st) β σ δ := by
  obtain ⟨p, l, e, R, s, m, args, below, meth, c, D, tc, A, ad0, n0, mc, ms, Q, ⟨hx, hb, hml, hown, hts, hK, hA, hfr, hlo, hRc, hRs, hro, hnm, htr⟩, rfl⟩ := hJ
  intro ad H ls locs cells slots h1 h2 h3 hL hst h4 hl hP hD hS hc hs
  exact lv_if_le hx hb d ht (fun h => kt h ad H ls locs cells slots h1 h2 h3 hL (wft hst) h4 hl hP hD hS hc hs) (fun h => kf h ad H ls locs cells slots h1 h2 h3 hL (wft hst) h4 hl hP hD hS hc hs)
theorem j_icmp_eq {cc : ByteArray} {nL : Nat} {own nm : String} {fr lo : Nat} {J : JT} (hJ : Cor cc nL own nm fr lo J) {pc : Nat} {L : List (Nat × Value)} {st : List Value} {β : Bu} {σ : St} {δ : Dy} {x y : Int32} {off : Int} {tgt : Nat} (d : decode cc pc = .ok (.if_icmp .eq off, 3)) (ht : (pc : Int) + off = (tgt : Int)) (kt : x = y → J tgt L st β σ δ) (kf : ¬ x = y → J (pc + 3) L st β σ δ) : J pc L (.int y :: .int x :: st) β σ δ := by
  obtain ⟨p, l, e, R, s, m, args, below, meth, c, D, tc, A, ad0, n0, mc, ms, Q, ⟨hx, hb, hml, hown, hts, hK, hA, hfr, hlo, hRc, hRs, hro, hnm, htr⟩, rfl⟩ := hJ
  intro ad H ls locs cells slots h1 h2 h3 hL hst h4 hl hP hD hS hc hs
  exact lv_icmp_eq hx hb d ht (fun h => kt h ad H ls locs cells slots h1 h2 h3 hL (wft (wft hst)) h4 hl hP hD hS hc hs) (fun h => kf h ad H ls locs cells slots h1 h2 h3 hL (wft (wft hst)) h4 hl hP hD hS hc hs)
theorem j_icmp_ne {cc : ByteArray} {nL : Nat} {own nm : String} {fr lo : Nat} {J : JT} (hJ : Cor cc nL own nm fr lo J) {pc : Nat} {L : List (Nat × Value)} {st : List Value} {β : Bu} {σ : St} {δ : Dy} {x y : Int32} {off : Int} {tgt : Nat} (d : decode cc pc = .ok (.if_icmp .ne off, 3)) (ht : (pc : Int) + off = (tgt : Int)) (kt : x = y → J (pc + 3) L st β σ δ) (kf : ¬ x = y → J tgt L st β σ δ) : J pc L (.int y :: .int x :: st) β σ δ := by
  obtain ⟨p, l, e, R, s, m, args, below, meth, c, D, tc, A, ad0, n0, mc, ms, Q, ⟨hx, hb, hml, hown, hts, hK, hA, hfr, hlo, hRc, hRs, hro, hnm, htr⟩, rfl⟩ := hJ
  intro ad H ls locs cells slots h1 h2 h3 hL hst h4 hl hP hD hS hc hs
  exact lv_icmp_ne hx hb d ht (fun h => kf h ad H ls locs cells slots h1 h2 h3 hL (wft (wft hst)) h4 hl hP hD hS hc hs) (fun h => kt h ad H ls locs cells slots h1 h2 h3 hL (wft (wft hst)) h4 hl hP hD hS hc hs)
theorem j_icmp_lt {cc : ByteArray} {nL : Nat} {own nm : String} {fr lo : Nat} {J : JT} (hJ : Cor cc nL own nm fr lo J) {pc : Nat} {L : List (Nat × Value)} {st : List Value} {β : Bu} {σ : St} {δ : Dy} {x y : Int32} {off : Int} {tgt : Nat} (d : decode cc pc = .ok (.if_icmp .lt off, 3)) (ht : (pc : Int) + off = (tgt : Int)) (kt : x < y → J tgt L st β σ δ) (kf : ¬ x < y → J (pc + 3) L st β σ δ) : J pc L (.int y :: .int x :: st) β σ δ := by
  obtain ⟨p, l, e, R, s, m, args, below, meth, c, D, tc, A, ad0, n0, mc, ms, Q, ⟨hx, hb, hml, hown, hts, hK, hA, hfr, hlo, hRc, hRs, hro, hnm, htr⟩, rfl⟩ := hJ
  intro ad H ls locs cells slots h1 h2 h3 hL hst h4 hl hP hD hS hc hs
  exact lv_icmp_lt hx hb d ht (fun h => kt h ad H ls locs cells slots h1 h2 h3 hL (wft (wft hst)) h4 hl hP hD hS hc hs) (fun h => kf h ad H ls locs cells slots h1 h2 h3 hL (wft (wft hst)) h4 hl hP hD hS hc hs)
theorem j_icmp_ge {cc : ByteArray} {nL : Nat} {own nm : String} {fr lo : Nat} {J : JT} (hJ : Cor cc nL own nm fr lo J) {pc : Nat} {L : List (Nat × Value)} {st : List Value} {β : Bu} {σ : St} {δ : Dy} {x y : Int32} {off : Int} {tgt : Nat} (d : decode cc pc = .ok (.if_icmp .ge off, 3)) (ht : (pc : Int) + off = (tgt : Int)) (kt : y ≤ x → J tgt L st β σ δ) (kf : ¬ y ≤ x → J (pc + 3) L st β σ δ) : J pc L (.int y :: .int x :: st) β σ δ := by
  obtain ⟨p, l, e, R, s, m, args, below, meth, c, D, tc, A, ad0, n0, mc, ms, Q, ⟨hx, hb, hml, hown, hts, hK, hA, hfr, hlo, hRc, hRs, hro, hnm, htr⟩, rfl⟩ := hJ
  intro ad H ls locs cells slots h1 h2 h3 hL hst h4 hl hP hD hS hc hs
  exact lv_icmp_ge hx hb d ht (fun h => kt h ad H ls locs cells slots h1 h2 h3 hL (wft (wft hst)) h4 hl hP hD hS hc hs) (fun h => kf h ad H ls locs cells slots h1 h2 h3 hL (wft (wft hst)) h4 hl hP hD hS hc hs)
theorem j_icmp_gt {cc : ByteArray} {nL : Nat} {own nm : String} {fr lo : Nat} {J : JT} (hJ : Cor cc nL own nm fr lo J) {pc : Nat} {L : List (Nat × Value)} {st : List Value} {β : Bu} {σ : St} {δ : Dy} {x y : Int32} {off : Int} {tgt : Nat} (d : decode cc pc = .ok (.if_icmp .gt off, 3)) (ht : (pc : Int) + off = (tgt : Int)) (kt : y < x → J tgt L st β σ δ) (kf : ¬ y < x → J (pc + 3) L st β σ δ) : J pc L (.int y :: .int x :: st) β σ δ := by
  obtain ⟨p, l, e, R, s, m, args, below, meth, c, D, tc, A, ad0, n0, mc, ms, Q, ⟨hx, hb, hml, hown, hts, hK, hA, hfr, hlo, hRc, hRs, hro, hnm, htr⟩, rfl⟩ := hJ
  intro ad H ls locs cells slots h1 h2 h3 hL hst h4 hl hP hD hS hc hs
  exact lv_icmp_gt hx hb d ht (fun h => kt h ad H ls locs cells slots h1 h2 h3 hL (wft (wft hst)) h4 hl hP hD hS hc hs) (fun h => kf h ad H ls locs cells slots h1 h2 h3 hL (wft (wft hst)) h4 hl hP hD hS hc hs)
theorem j_icmp_le {cc : ByteArray} {nL : Nat} {own nm : String} {fr lo : Nat} {J : JT} (hJ : Cor cc nL own nm fr lo J) {pc : Nat} {L : List (Nat × Value)} {st : List Value} {β : Bu} {σ : St} {δ : Dy} {x y : Int32} {off : Int} {tgt : Nat} (d : decode cc pc = .ok (.if_icmp .le off, 3)) (ht : (pc : Int) + off = (tgt : Int)) (kt : x ≤ y → J tgt L st β σ δ) (kf : ¬ x ≤ y → J (pc + 3) L st β σ δ) : J pc L (.int y :: .int x :: st) β σ δ := by
  obtain ⟨p, l, e, R, s, m, args, below, meth, c, D, tc, A, ad0, n0, mc, ms, Q, ⟨hx, hb, hml, hown, hts, hK, hA, hfr, hlo, hRc, hRs, hro, hnm, htr⟩, rfl⟩ := hJ
  intro ad H ls locs cells slots h1 h2 h3 hL hst h4 hl hP hD hS hc hs
  exact lv_icmp_le hx hb d ht (fun h => kt h ad H ls locs cells slots h1 h2 h3 hL (wft (wft hst)) h4 hl hP hD hS hc hs) (fun h => kf h ad H ls locs cells slots h1 h2 h3 hL (wft (wft hst)) h4 hl hP hD hS hc hs)
theorem j_goto {cc : ByteArray} {nL : Nat} {own nm : String} {fr lo : Nat} {J : JT} (hJ : Cor cc nL own nm fr lo J) {pc : Nat} {L : List (Nat × Value)} {st : List Value} {β : Bu} {σ : St} {δ : Dy} {off : Int} {tgt : Nat} (d : decode cc pc = .ok (.goto off, 3)) (ht : (pc : Int) + off = (tgt : Int)) (k : J tgt L st β σ δ) : J pc L st β σ δ := by
  obtain ⟨p, l, e, R, s, m, args, below, meth, c, D, tc, A, ad0, n0, mc, ms, Q, ⟨hx, hb, hml, hown, hts, hK, hA, hfr, hlo, hRc, hRs, hro, hnm, htr⟩, rfl⟩ := hJ
  intro ad H ls locs cells slots h1 h2 h3 hL hst h4 hl hP hD hS hc hs
  exact lv_goto hx hb d ht (k ad H ls locs cells slots h1 h2 h3 hL hst h4 hl hP hD hS hc hs)
theorem j_tableOut {cc : ByteArray} {nL : Nat} {own nm : String} {fr lo : Nat} {J : JT} (hJ : Cor cc nL own nm fr lo J) {pc : Nat} {L : List (Nat × Value)} {st : List Value} {β : Bu} {σ : St} {δ : Dy} {dflt lo' hi : Int} {offs : Array Int} {len : Nat} {x : Int32} {tgt : Nat} (d : decode cc pc = .ok (.tableswitch dflt lo' hi offs, len)) (h : x.toInt < lo' ∨ hi < x.toInt) (ht : (pc : Int) + dflt = (tgt : Int)) (k : J tgt L st β σ δ) : J pc L (.int x :: st) β σ δ := by
  obtain ⟨p, l, e, R, s, m, args, below, meth, c, D, tc, A, ad0, n0, mc, ms, Q, ⟨hx, hb, hml, hown, hts, hK, hA, hfr, hlo, hRc, hRs, hro, hnm, htr⟩, rfl⟩ := hJ
  intro ad H ls locs cells slots h1 h2 h3 hL hst h4 hl hP hD hS hc hs
  exact lv_tableOut hx hb d h ht (k ad H ls locs cells slots h1 h2 h3 hL (wft hst) h4 hl hP hD hS hc hs)
theorem j_tableIn {cc : ByteArray} {nL : Nat} {own nm : String} {fr lo : Nat} {J : JT} (hJ : Cor cc nL own nm fr lo J) {pc : Nat} {L : List (Nat × Value)} {st : List Value} {β : Bu} {σ : St} {δ : Dy} {dflt lo' hi : Int} {offs : Array Int} {len : Nat} {x : Int32} {off : Int} {tgt : Nat} (d : decode cc pc = .ok (.tableswitch dflt lo' hi offs, len)) (g1 : ¬ x.toInt < lo') (g2 : ¬ hi < x.toInt) (ho : offs[(x.toInt - lo').toNat]? = some off) (ht : (pc : Int) + off = (tgt : Int)) (k : J tgt L st β σ δ) : J pc L (.int x :: st) β σ δ := by
  obtain ⟨p, l, e, R, s, m, args, below, meth, c, D, tc, A, ad0, n0, mc, ms, Q, ⟨hx, hb, hml, hown, hts, hK, hA, hfr, hlo, hRc, hRs, hro, hnm, htr⟩, rfl⟩ := hJ
  intro ad H ls locs cells slots h1 h2 h3 hL hst h4 hl hP hD hS hc hs
  exact lv_tableIn hx hb d g1 g2 ho ht (k ad H ls locs cells slots h1 h2 h3 hL (wft hst) h4 hl hP hD hS hc hs)
theorem j_lookup {cc : ByteArray} {nL : Nat} {own nm : String} {fr lo : Nat} {J : JT} (hJ : Cor cc nL own nm fr lo J) {pc : Nat} {L : List (Nat × Value)} {st : List Value} {β : Bu} {σ : St} {δ : Dy} {dflt : Int} {ps : Array (Int × Int)} {len : Nat} {x : Int32} {off : Int} {tgt : Nat} (d : decode cc pc = .ok (.lookupswitch dflt ps, len)) (hp : (ps.toList.zip (ps.toList.drop 1)).all (fun (a, next) => a.1 < next.1) = true) (ho : Op.lookupswitch.offset ps.toList dflt x.toInt = off) (ht : (pc : Int) + off = (tgt : Int)) (k : J tgt L st β σ δ) : J pc L (.int x :: st) β σ δ := by
  obtain ⟨p, l, e, R, s, m, args, below, meth, c, D, tc, A, ad0, n0, mc, ms, Q, ⟨hx, hb, hml, hown, hts, hK, hA, hfr, hlo, hRc, hRs, hro, hnm, htr⟩, rfl⟩ := hJ
  intro ad H ls locs cells slots h1 h2 h3 hL hst h4 hl hP hD hS hc hs
  exact lv_lookup hx hb d hp ho ht (k ad H ls locs cells slots h1 h2 h3 hL (wft hst) h4 hl hP hD hS hc hs)
