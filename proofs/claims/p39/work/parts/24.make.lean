/-! MAKING: objects and arrays, references into fields and arrays -/
def nwS (σ : St) (t n : Nat) : St := (fun i => if i = sn σ then t else σ.1 i, fun i => if i = sn σ then n else σ.2.1 i, fun i => if i = sn σ then (fun _ => none) else σ.2.2.1 i, sn σ + 1)
def nwD (σ : St) (δ : Dy) : Dy := (fun i => if i = sn σ then (fun _ => 0) else δ.1 i, fun i => if i = sn σ then (fun _ => 0) else δ.2 i)
def nwO (σ : St) (c : Nat) : Option St := if sn σ < roB then some (nwS σ c 0) else none
def nwA (σ : St) (t : Nat) (n : Int32) (N : Nat) : Option St := if sn σ < roB ∧ ¬ n < 0 ∧ n.toNatClampNeg ≤ N then some (nwS σ t n.toNatClampNeg) else none
def pR (σ : St) (c r k x : Nat) : Option St := if (r < sn σ ∧ skd σ r = c) ∧ x < sn σ then some (σ.1, σ.2.1, u2 σ.2.2.1 r k (some x), σ.2.2.2) else none
def wA (σ : St) (t c r : Nat) (i : Int32) (x : Nat) : Option St := if ((r < sn σ ∧ skd σ r = t) ∧ inb i (sln σ r) = true) ∧ x < sn σ ∧ skd σ x = c then some (σ.1, σ.2.1, u2 σ.2.2.1 r i.toNatClampNeg (some x), σ.2.2.2) else none
def dfv (t : Nat) : Value := match t with
  | 0 => .int 0
  | 1 => .int 0
  | 2 => .long 0
  | _ => .null
theorem nw_sn (σ : St) (t n : Nat) : sn (nwS σ t n) = sn σ + 1 := rfl
theorem nw_wfm {σ : St} {t n : Nat} (h : wfm σ) : wfm (nwS σ t n) := by
  intro i k q hq
  show q < sn σ + 1
  by_cases hi : i = sn σ
  · have : srv (nwS σ t n) i k = none := by
      show (if i = sn σ then (fun _ => none) else σ.2.2.1 i) k = none
      rw [if_pos hi]
    rw [this] at hq
    cases hq
  · have : srv (nwS σ t n) i k = srv σ i k := by
      show (if i = sn σ then (fun _ => none) else σ.2.2.1 i) k = _
      rw [if_neg hi]
      rfl
    rw [this] at hq
    exact Nat.lt_succ_of_lt (h i k q hq)
theorem fval_ad {ad ad' : Nat → Nat} {σ : St} {δ : Dy} {i k t : Nat} (hm : (srv σ i k).map ad' = (srv σ i k).map ad) : fval ad' σ δ i k t = fval ad σ δ i k t := by
  unfold fval
  split
  · rfl
  · rfl
  · rfl
  · rw [hm]
theorem cel_ad {ad ad' : Nat → Nat} {tc : Nat → ClassId} {σ : St} {δ : Dy} {j : Nat} (hw : wfm σ) (ha : ∀ i, i < sn σ → ad' i = ad i) : cel ad' tc σ δ j = cel ad tc σ δ j := by
  have hm : ∀ k, (srv σ j k).map ad' = (srv σ j k).map ad := by
    intro k
    cases h : srv σ j k with
    | none => rfl
    | some q => exact congrArg some (ha q (hw j k q h))
  unfold cel
  split
  · congr 2
    apply List.map_congr_left
    intro k _
    exact fval_ad (hm k)
  · have : acon ad' σ δ j (skd σ j) = acon ad σ δ j (skd σ j) := by
      unfold acon
      split
      · rfl
      · rfl
      · rfl
      · simp only [hm]
    rw [this]
theorem cel_nw {ad ad' : Nat → Nat} {tc : Nat → ClassId} {σ : St} {δ : Dy} {t n j : Nat} (hw : wfm σ) (ha : ∀ i, i < sn σ → ad' i = ad i) (hj : j < sn σ) : cel ad' tc (nwS σ t n) (nwD σ δ) j = cel ad tc σ δ j := by
  have hne : j ≠ sn σ := Nat.ne_of_lt hj
  rw [← cel_ad hw ha]
  exact cel_congr (if_neg hne) (if_neg hne) (if_neg hne) (if_neg hne) (if_neg hne)
theorem mk_J {p : Program} {l : Launch} {e : Env} {R : Room} {s : State} {m : MethodId} {args : Array Value} {below : List Frame} {meth : Method} {c : Code} {D : va_G} {tc : Nat → ClassId} {A : Nat → Prop} {ad0 : Nat → Nat} {n0 nL mc ms : Nat} {Q : State → Prop} {pc' : Nat} {L : List (Nat × Value)} {st : List Value} {β : Bu} {σ : St} {δ : Dy} {t n N : Nat} (kJ : Jdef p l e R s m args below meth c D tc A ad0 n0 nL mc ms Q pc' L (.ref (sn σ) :: st) (β.1 - 1, β.2 - N) (nwS σ t n) (nwD σ δ))
    {ad : Nat → Nat} {H1 : Heap} {ls : Array Slot} {locs : List Loc} {cells slots : Nat} (h9 : sn σ < roB) (h1 : ∀ i, i < n0 ∨ roB ≤ i → ad i = ad0 i) (h2 : n0 ≤ sn σ) (hL : ∀ q ∈ L, wfv (sn σ) q.2) (hst : ∀ v ∈ st, wfv (sn σ) v) (h4 : wfm σ) (hl : lv_has ls nL (cL ad L)) {q : Nat} {e1 : va_E} (hP : va_P D tkCl (wld ad tc σ δ ++ [(q, e1)]) H1) (hD : va_D A (wld ad tc σ δ ++ [(q, e1)])) (hS : va_S A s.heap H1 locs) (hb1 : 1 ≤ β.1) (hb2 : N ≤ β.2) (hc : cells + β.1 = mc) (hs : slots + β.2 = ms) (he : ∀ ad', cel ad' tc (nwS σ t n) (nwD σ δ) (sn σ) = e1) :
    W p l e R s m args below meth c H1 locs (cells + 1) (slots + N) Q (F0 m pc' ls (.ref q :: st.map (cv ad))) := by
  have hn : sn (nwS σ t n) = sn σ + 1 := rfl
  generalize had : (fun i => if i = sn σ then q else ad i) = ad'
  have ha0 : ad' (sn σ) = q := by rw [← had]; exact if_pos rfl
  have ha1 : ∀ i, i ≠ sn σ → ad' i = ad i := fun i hi => by rw [← had]; exact if_neg hi
  have hal : ∀ i, i < sn σ → ad' i = ad i := fun i hi => ha1 i (Nat.ne_of_lt hi)
  have hag : ∀ i, i < sn σ ∨ roB ≤ i → ad' i = ad i := fun i hi => ha1 i (by omega)
  have hw : wld ad tc σ δ ++ [(q, e1)] = wld ad' tc (nwS σ t n) (nwD σ δ) := wld_push hn ha0 (he ad') hal (fun j hj => cel_nw h4 hal hj)
  rw [hw] at hP hD
  have key := kJ ad' H1 ls locs (cells + 1) (slots + N) (fun i hi => (hag i (by omega)).trans (h1 i hi)) (by omega) (by omega) (fun v hv => wfv_mono (by omega) (hL v hv)) (fun v hv => by
    rcases List.mem_cons.mp hv with rfl | hv
    · exact Or.inl (Nat.lt_succ_self _)
    · exact wfv_mono (by omega) (hst v hv)) (nw_wfm h4) (by rw [cL_congr hag hL]; exact hl) hP hD hS (by show cells + 1 + (β.1 - 1) = mc; omega) (by show slots + N + (β.2 - N) = ms; omega)
  have hst2 : (.ref (sn σ) :: st).map (cv ad') = .ref q :: st.map (cv ad) := by
    rw [List.map_cons, cvs_congr hag hst]
    show Value.ref (ad' (sn σ)) :: _ = _
    rw [ha0]
  rw [hst2] at key
  exact key
def NW (own : String) (idx ci : Nat) : Prop := CF ci ∧ ci < 100 ∧ Cond.classLink own idx (clC ci).1 ∈ lwg ∧ Cond.instantiable (clC ci).1 (clC ci).2.2 ∈ lwg ∧ Cond.initialized (clC ci).1 ∈ lwg ∧ (∀ k, k < (clC ci).2.2 → (parseFieldDescriptor ((clC ci).2.1 k).2.2.1).map defaultValue = some (dfv (fcode ((clC ci).2.1 k).2.2.1)))
theorem fds_nw {ad : Nat → Nat} {σ : St} {δ : Dy} {t n c : Nat} : fds ad (nwS σ t n) (nwD σ δ) (sn σ) c = (List.range (clC c).2.2).map (fun k => dfv (fcode ((clC c).2.1 k).2.2.1)) := by
  unfold fds
  apply List.map_congr_left
  intro k _
  have e1 : (nwD σ δ).1 (sn σ) = fun _ => 0 := if_pos rfl
  have e2 : (nwD σ δ).2 (sn σ) = fun _ => 0 := if_pos rfl
  have e3 : srv (nwS σ t n) (sn σ) = fun _ => none := if_pos rfl
  generalize fcode ((clC c).2.1 k).2.2.1 = tt
  rcases tt with _ | _ | _ | tt
  · show Value.int ((nwD σ δ).1 (sn σ) k) = _
    rw [e1]
    rfl
  · show Value.int ((nwD σ δ).1 (sn σ) k) = _
    rw [e1]
    rfl
  · show Value.long ((nwD σ δ).2 (sn σ) k) = _
    rw [e2]
    rfl
  · show va_rf ((srv (nwS σ t n) (sn σ) k).map ad) = _
    rw [e3]
    rfl
theorem skd_nw {σ : St} {t n : Nat} : skd (nwS σ t n) (sn σ) = t := if_pos rfl
theorem sln_nw {σ : St} {t n : Nat} : sln (nwS σ t n) (sn σ) = n := if_pos rfl
theorem sj_new {cc : ByteArray} {nL : Nat} {own nm : String} {fr lo : Nat} {J : JT} (hJ : Cor cc nL own nm fr lo J) {pc : Nat} {L : List (Nat × Value)} {st : List Value} {β : Bu} {σ : St} {δ : Dy} {ρ : Type} {P : ρ → Prop} {f : St → Option ρ} {idx ci N : Nat} (nw : NW own idx ci) (hN : (clC ci).2.2 = N) (hb1 : 1 ≤ β.1) (hb2 : N ≤ β.2) (d : decode cc pc = .ok (.new idx, 3)) (kk : ∀ σ', SJ (f σ') P (J (pc + 3) L (.ref (sn σ) :: st) (β.1 - 1, β.2 - N) σ' (nwD σ δ))) : SJ ((nwO σ ci).bind f) P (J pc L st β σ δ) := by
  refine sj_bind fun σ' hv => ?_
  obtain ⟨h9, hve⟩ := if_some hv
  refine sj (fun k' => ?_) (kk σ')
  subst hve
  subst hN
  obtain ⟨⟨hcf1, hcf2, ⟨ty0, hcf3⟩, hcf4⟩, hc100, hw1, hw2, hw3, hdf⟩ := nw
  obtain ⟨p, l, e, R, s, m, args, below, meth, c, D, tc, A, ad0, n0, mc, ms, Q, ⟨hx, hb, hml, hown, hts, hK, hA, hfr, hlo, hRc, hRs, hro, hnm, htr⟩, rfl⟩ := hJ
  intro ad H ls locs cells slots h1 h2 h3 hL hst h4 hl hP hD hS hc hs
  refine va_new (D := D) (ci := ci) (fs := (List.range (clC ci).2.2).map (fun k => dfv (fcode ((clC ci).2.1 k).2.2.1))) hx hb hts hcf2 ty0 hcf3 hown (hts _ hw1) (hts _ hw2) (hts _ hw3) hK hP hD hS hA hcf1 ?_ (by omega) (by omega) d (fun q H1 hP1 hD1 hS1 => ?_)
  · intro j hj
    have h0 := hdf j hj
    rw [hcf3 j hj] at h0
    have h1 := Option.some.inj h0
    rw [h1]
    simp [vp_V, List.getD, List.getElem?_map, List.getElem?_range hj]
  · exact mk_J k' h9 h1 h2 hL hst h4 hl hP1 hD1 hS1 hb1 hb2 hc hs (fun ad' => by rw [cel_obj skd_nw hc100, fds_nw])
theorem str_inj {U : State} {n : String} {a b : ClassId} (h1 : U.vm.findClass n = some a) (h2 : U.vm.findClass n = some b) : a = b := Option.some.inj (h1.symm.trans h2)
theorem sj_naI {cc : ByteArray} {nL : Nat} {own nm : String} {fr lo : Nat} {J : JT} (hJ : Cor cc nL own nm fr lo J) {pc : Nat} {L : List (Nat × Value)} {st : List Value} {β : Bu} {σ : St} {δ : Dy} {ρ : Type} {P : ρ → Prop} {f : St → Option ρ} {n : Int32} (hw : Cond.arrayClass .int ∈ lwg) {N : Nat} (hN : N ≤ 60000000) (hb1 : 1 ≤ β.1) (hb2 : N ≤ β.2) (d : decode cc pc = .ok (.newarray .int, 2)) (kk : ∀ σ', SJ (f σ') P (J (pc + 2) L (.ref (sn σ) :: st) (β.1 - 1, β.2 - N) σ' (nwD σ δ))) : SJ ((nwA σ 100 n N).bind f) P (J pc L (.int n :: st) β σ δ) := by
  refine sj_bind fun σ' hv => ?_
  obtain ⟨⟨h9, hn0, hn1⟩, hve⟩ := if_some hv
  refine sj (fun k' => ?_) (kk σ')
  subst hve
  obtain ⟨p, l, e, R, s, m, args, below, meth, c, D, tc, A, ad0, n0, mc, ms, Q, ⟨hx, hb, hml, hown, hts, hK, hA, hfr, hlo, hRc, hRs, hro, hnm, htr⟩, rfl⟩ := hJ
  intro ad H ls locs cells slots h1 h2 h3 hL hst h4 hl hP hD hS hc hs
  refine va_newa (D := D) (atype := .int) (ty := .int) (a0 := (n.toNatClampNeg, .inl (fun _ => 0))) hx hb (hts _ hw) rfl hK hP hD hS hA (fun cA => rfl) hn0 rfl (Nat.le_trans (Nat.mul_le_mul_right _ (Nat.le_trans hn1 hN)) (by decide +kernel)) (by omega) (by omega) d (fun q cA H1 hK1 hP1 hD1 hS1 => ?_)
  have ha : cA = tc 100 := str_inj (hK1.2 6 (cA, .int) rfl).2 (hK1.2 0 (tc 100, .int) rfl).2
  subst ha
  refine W.widen (Nat.le_refl _) (Nat.add_le_add_left hn1 _) (mk_J k' h9 h1 h2 hL (wft hst) h4 hl hP1 hD1 hS1 hb1 hb2 hc hs (fun ad' => ?_))
  rw [cel_arr skd_nw (by decide)]
  show Sum.inl (tc 100, (sln (nwS σ 100 n.toNatClampNeg) (sn σ), _)) = _
  rw [sln_nw]
  have e1 : (nwD σ δ).1 (sn σ) = fun _ => 0 := if_pos rfl
  have e2 : (nwD σ δ).2 (sn σ) = fun _ => 0 := if_pos rfl
  first | rw [e1] | rw [e2]
theorem sj_naZ {cc : ByteArray} {nL : Nat} {own nm : String} {fr lo : Nat} {J : JT} (hJ : Cor cc nL own nm fr lo J) {pc : Nat} {L : List (Nat × Value)} {st : List Value} {β : Bu} {σ : St} {δ : Dy} {ρ : Type} {P : ρ → Prop} {f : St → Option ρ} {n : Int32} (hw : Cond.arrayClass .boolean ∈ lwg) {N : Nat} (hN : N ≤ 60000000) (hb1 : 1 ≤ β.1) (hb2 : N ≤ β.2) (d : decode cc pc = .ok (.newarray .boolean, 2)) (kk : ∀ σ', SJ (f σ') P (J (pc + 2) L (.ref (sn σ) :: st) (β.1 - 1, β.2 - N) σ' (nwD σ δ))) : SJ ((nwA σ 101 n N).bind f) P (J pc L (.int n :: st) β σ δ) := by
  refine sj_bind fun σ' hv => ?_
  obtain ⟨⟨h9, hn0, hn1⟩, hve⟩ := if_some hv
  refine sj (fun k' => ?_) (kk σ')
  subst hve
  obtain ⟨p, l, e, R, s, m, args, below, meth, c, D, tc, A, ad0, n0, mc, ms, Q, ⟨hx, hb, hml, hown, hts, hK, hA, hfr, hlo, hRc, hRs, hro, hnm, htr⟩, rfl⟩ := hJ
  intro ad H ls locs cells slots h1 h2 h3 hL hst h4 hl hP hD hS hc hs
  refine va_newa (D := D) (atype := .boolean) (ty := .boolean) (a0 := (n.toNatClampNeg, .inl (fun _ => 0))) hx hb (hts _ hw) rfl hK hP hD hS hA (fun cA => rfl) hn0 rfl (Nat.le_trans (Nat.mul_le_mul_right _ (Nat.le_trans hn1 hN)) (by decide +kernel)) (by omega) (by omega) d (fun q cA H1 hK1 hP1 hD1 hS1 => ?_)
  have ha : cA = tc 101 := str_inj (hK1.2 6 (cA, .boolean) rfl).2 (hK1.2 1 (tc 101, .boolean) rfl).2
  subst ha
  refine W.widen (Nat.le_refl _) (Nat.add_le_add_left hn1 _) (mk_J k' h9 h1 h2 hL (wft hst) h4 hl hP1 hD1 hS1 hb1 hb2 hc hs (fun ad' => ?_))
  rw [cel_arr skd_nw (by decide)]
  show Sum.inl (tc 101, (sln (nwS σ 101 n.toNatClampNeg) (sn σ), _)) = _
  rw [sln_nw]
  have e1 : (nwD σ δ).1 (sn σ) = fun _ => 0 := if_pos rfl
  have e2 : (nwD σ δ).2 (sn σ) = fun _ => 0 := if_pos rfl
  first | rw [e1] | rw [e2]
theorem sj_naL {cc : ByteArray} {nL : Nat} {own nm : String} {fr lo : Nat} {J : JT} (hJ : Cor cc nL own nm fr lo J) {pc : Nat} {L : List (Nat × Value)} {st : List Value} {β : Bu} {σ : St} {δ : Dy} {ρ : Type} {P : ρ → Prop} {f : St → Option ρ} {n : Int32} (hw : Cond.arrayClass .long ∈ lwg) {N : Nat} (hN : N ≤ 60000000) (hb1 : 1 ≤ β.1) (hb2 : N ≤ β.2) (d : decode cc pc = .ok (.newarray .long, 2)) (kk : ∀ σ', SJ (f σ') P (J (pc + 2) L (.ref (sn σ) :: st) (β.1 - 1, β.2 - N) σ' (nwD σ δ))) : SJ ((nwA σ 102 n N).bind f) P (J pc L (.int n :: st) β σ δ) := by
  refine sj_bind fun σ' hv => ?_
  obtain ⟨⟨h9, hn0, hn1⟩, hve⟩ := if_some hv
  refine sj (fun k' => ?_) (kk σ')
  subst hve
  obtain ⟨p, l, e, R, s, m, args, below, meth, c, D, tc, A, ad0, n0, mc, ms, Q, ⟨hx, hb, hml, hown, hts, hK, hA, hfr, hlo, hRc, hRs, hro, hnm, htr⟩, rfl⟩ := hJ
  intro ad H ls locs cells slots h1 h2 h3 hL hst h4 hl hP hD hS hc hs
  refine va_newa (D := D) (atype := .long) (ty := .long) (a0 := (n.toNatClampNeg, .inr (.inl (fun _ => 0)))) hx hb (hts _ hw) rfl hK hP hD hS hA (fun cA => rfl) hn0 rfl (Nat.le_trans (Nat.mul_le_mul_right _ (Nat.le_trans hn1 hN)) (by decide +kernel)) (by omega) (by omega) d (fun q cA H1 hK1 hP1 hD1 hS1 => ?_)
  have ha : cA = tc 102 := str_inj (hK1.2 6 (cA, .long) rfl).2 (hK1.2 2 (tc 102, .long) rfl).2
  subst ha
  refine W.widen (Nat.le_refl _) (Nat.add_le_add_left hn1 _) (mk_J k' h9 h1 h2 hL (wft hst) h4 hl hP1 hD1 hS1 hb1 hb2 hc hs (fun ad' => ?_))
  rw [cel_arr skd_nw (by decide)]
  show Sum.inl (tc 102, (sln (nwS σ 102 n.toNatClampNeg) (sn σ), _)) = _
  rw [sln_nw]
  have e1 : (nwD σ δ).1 (sn σ) = fun _ => 0 := if_pos rfl
  have e2 : (nwD σ δ).2 (sn σ) = fun _ => 0 := if_pos rfl
  first | rw [e1] | rw [e2]
theorem sj_naLv {cc : ByteArray} {nL : Nat} {own nm : String} {fr lo : Nat} {J : JT} (hJ : Cor cc nL own nm fr lo J) {pc : Nat} {L : List (Nat × Value)} {st : List Value} {β : Bu} {σ : St} {δ : Dy} {ρ : Type} {P : ρ → Prop} {f : St → Option ρ} {idx : Nat} {n : Int32} (hw : Cond.classLink own idx RX4 ∈ lwg) {N : Nat} (hN : N ≤ 60000000) (hb1 : 1 ≤ β.1) (hb2 : N ≤ β.2) (d : decode cc pc = .ok (.anewarray idx, 3)) (kk : ∀ σ', SJ (f σ') P (J (pc + 3) L (.ref (sn σ) :: st) (β.1 - 1, β.2 - N) σ' (nwD σ δ))) : SJ ((nwA σ 103 n N).bind f) P (J pc L (.int n :: st) β σ δ) := by
  refine sj_bind fun σ' hv => ?_
  obtain ⟨⟨h9, hn0, hn1⟩, hve⟩ := if_some hv
  refine sj (fun k' => ?_) (kk σ')
  subst hve
  obtain ⟨p, l, e, R, s, m, args, below, meth, c, D, tc, A, ad0, n0, mc, ms, Q, ⟨hx, hb, hml, hown, hts, hK, hA, hfr, hlo, hRc, hRs, hro, hnm, htr⟩, rfl⟩ := hJ
  intro ad H ls locs cells slots h1 h2 h3 hL hst h4 hl hP hD hS hc hs
  refine va_newq (D := D) hx hb hown (hts _ hw) hro.2.1.2.2.2.2.1.1 hK hP hD hS hA hn0 rfl (by omega) (by omega) (by omega) d (fun q cA H1 hK1 hP1 hD1 hS1 => ?_)
  have ha : cA = tc 103 := by
    obtain ⟨_, _, _, _, _, g1⟩ := (hK1.2 6 (cA, .object RX4) rfl).2
    obtain ⟨_, _, _, _, _, g2⟩ := (hK1.2 3 (tc 103, .object RX4) rfl).2
    exact str_inj g1 g2
  subst ha
  refine W.widen (Nat.le_refl _) (Nat.add_le_add_left hn1 _) (mk_J k' h9 h1 h2 hL (wft hst) h4 hl hP1 hD1 hS1 hb1 hb2 hc hs (fun ad' => ?_))
  rw [cel_arr skd_nw (by decide)]
  show Sum.inl (tc 103, (sln (nwS σ 103 n.toNatClampNeg) (sn σ), _)) = _
  rw [sln_nw]
  have e1 : srv (nwS σ 103 n.toNatClampNeg) (sn σ) = fun _ => none := if_pos rfl
  rw [e1]
  rfl
theorem sj_naRu {cc : ByteArray} {nL : Nat} {own nm : String} {fr lo : Nat} {J : JT} (hJ : Cor cc nL own nm fr lo J) {pc : Nat} {L : List (Nat × Value)} {st : List Value} {β : Bu} {σ : St} {δ : Dy} {ρ : Type} {P : ρ → Prop} {f : St → Option ρ} {idx : Nat} {n : Int32} (hw : Cond.classLink own idx RX7 ∈ lwg) {N : Nat} (hN : N ≤ 60000000) (hb1 : 1 ≤ β.1) (hb2 : N ≤ β.2) (d : decode cc pc = .ok (.anewarray idx, 3)) (kk : ∀ σ', SJ (f σ') P (J (pc + 3) L (.ref (sn σ) :: st) (β.1 - 1, β.2 - N) σ' (nwD σ δ))) : SJ ((nwA σ 104 n N).bind f) P (J pc L (.int n :: st) β σ δ) := by
  refine sj_bind fun σ' hv => ?_
  obtain ⟨⟨h9, hn0, hn1⟩, hve⟩ := if_some hv
  refine sj (fun k' => ?_) (kk σ')
  subst hve
  obtain ⟨p, l, e, R, s, m, args, below, meth, c, D, tc, A, ad0, n0, mc, ms, Q, ⟨hx, hb, hml, hown, hts, hK, hA, hfr, hlo, hRc, hRs, hro, hnm, htr⟩, rfl⟩ := hJ
  intro ad H ls locs cells slots h1 h2 h3 hL hst h4 hl hP hD hS hc hs
  refine va_newq (D := D) hx hb hown (hts _ hw) hro.2.1.2.2.2.2.1.2.1 hK hP hD hS hA hn0 rfl (by omega) (by omega) (by omega) d (fun q cA H1 hK1 hP1 hD1 hS1 => ?_)
  have ha : cA = tc 104 := by
    obtain ⟨_, _, _, _, _, g1⟩ := (hK1.2 6 (cA, .object RX7) rfl).2
    obtain ⟨_, _, _, _, _, g2⟩ := (hK1.2 4 (tc 104, .object RX7) rfl).2
    exact str_inj g1 g2
  subst ha
  refine W.widen (Nat.le_refl _) (Nat.add_le_add_left hn1 _) (mk_J k' h9 h1 h2 hL (wft hst) h4 hl hP1 hD1 hS1 hb1 hb2 hc hs (fun ad' => ?_))
  rw [cel_arr skd_nw (by decide)]
  show Sum.inl (tc 104, (sln (nwS σ 104 n.toNatClampNeg) (sn σ), _)) = _
  rw [sln_nw]
  have e1 : srv (nwS σ 104 n.toNatClampNeg) (sn σ) = fun _ => none := if_pos rfl
  rw [e1]
  rfl
theorem sj_naFr {cc : ByteArray} {nL : Nat} {own nm : String} {fr lo : Nat} {J : JT} (hJ : Cor cc nL own nm fr lo J) {pc : Nat} {L : List (Nat × Value)} {st : List Value} {β : Bu} {σ : St} {δ : Dy} {ρ : Type} {P : ρ → Prop} {f : St → Option ρ} {idx : Nat} {n : Int32} (hw : Cond.classLink own idx RX3 ∈ lwg) {N : Nat} (hN : N ≤ 60000000) (hb1 : 1 ≤ β.1) (hb2 : N ≤ β.2) (d : decode cc pc = .ok (.anewarray idx, 3)) (kk : ∀ σ', SJ (f σ') P (J (pc + 3) L (.ref (sn σ) :: st) (β.1 - 1, β.2 - N) σ' (nwD σ δ))) : SJ ((nwA σ 105 n N).bind f) P (J pc L (.int n :: st) β σ δ) := by
  refine sj_bind fun σ' hv => ?_
  obtain ⟨⟨h9, hn0, hn1⟩, hve⟩ := if_some hv
  refine sj (fun k' => ?_) (kk σ')
  subst hve
  obtain ⟨p, l, e, R, s, m, args, below, meth, c, D, tc, A, ad0, n0, mc, ms, Q, ⟨hx, hb, hml, hown, hts, hK, hA, hfr, hlo, hRc, hRs, hro, hnm, htr⟩, rfl⟩ := hJ
  intro ad H ls locs cells slots h1 h2 h3 hL hst h4 hl hP hD hS hc hs
  refine va_newq (D := D) hx hb hown (hts _ hw) hro.2.1.2.2.2.2.1.2.2 hK hP hD hS hA hn0 rfl (by omega) (by omega) (by omega) d (fun q cA H1 hK1 hP1 hD1 hS1 => ?_)
  have ha : cA = tc 105 := by
    obtain ⟨_, _, _, _, _, g1⟩ := (hK1.2 6 (cA, .object RX3) rfl).2
    obtain ⟨_, _, _, _, _, g2⟩ := (hK1.2 5 (tc 105, .object RX3) rfl).2
    exact str_inj g1 g2
  subst ha
  refine W.widen (Nat.le_refl _) (Nat.add_le_add_left hn1 _) (mk_J k' h9 h1 h2 hL (wft hst) h4 hl hP1 hD1 hS1 hb1 hb2 hc hs (fun ad' => ?_))
  rw [cel_arr skd_nw (by decide)]
  show Sum.inl (tc 105, (sln (nwS σ 105 n.toNatClampNeg) (sn σ), _)) = _
  rw [sln_nw]
  have e1 : srv (nwS σ 105 n.toNatClampNeg) (sn σ) = fun _ => none := if_pos rfl
  rw [e1]
  rfl
/-- a final field that holds a reference: its type takes one -/
def FR (own : String) (idx ci k : Nat) : Prop := CF ci ∧ ci < 100 ∧ k < (clC ci).2.2 ∧ Cond.fieldLink own idx ((clC ci).2.1 k).1 ((clC ci).2.1 k).2.1 ((clC ci).2.1 k).2.2.1 ∈ lwg ∧ fcode ((clC ci).2.1 k).2.2.1 = 3 ∧ ((clC ci).2.1 k).2.2.2 = true ∧ ((clC ci).2.1 k).1 = own ∧ ∃ ty, parseFieldDescriptor ((clC ci).2.1 k).2.2.1 = some ty ∧ ∀ a : Nat, narrow ty (.ref a) = .ref a ∧ fits ty (.ref a) = true
theorem wf_u2 {σ : St} {r k x : Nat} (h : wfm σ) (hx : x < sn σ) : wfm (σ.1, σ.2.1, u2 σ.2.2.1 r k (some x), σ.2.2.2) := by
  intro i j q hq
  have hq' : u2 σ.2.2.1 r k (some x) i j = some q := hq
  unfold u2 at hq'
  split at hq'
  · cases hq'
    exact hx
  · exact h i j q hq'
theorem srv_u2n {σ : St} {r k x j : Nat} (h : j ≠ r) : srv (σ.1, σ.2.1, u2 σ.2.2.1 r k (some x), σ.2.2.2) j = srv σ j := u2_ne h
theorem sj_pR {cc : ByteArray} {nL : Nat} {own nm : String} {fr lo : Nat} {J : JT} (hJ : Cor cc nL own nm fr lo J) {pc : Nat} {L : List (Nat × Value)} {st : List Value} {β : Bu} {σ : St} {δ : Dy} {ρ : Type} {P : ρ → Prop} {f : St → Option ρ} {idx ci k r x : Nat} (fl : FR own idx ci k) (hin2 : nm = "<init>") (d : decode cc pc = .ok (.putfield idx, 3)) (kk : ∀ σ', SJ (f σ') P (J (pc + 3) L st β σ' δ)) : SJ ((pR σ ci r k x).bind f) P (J pc L (.ref x :: .ref r :: st) β σ δ) := by
  refine sj_bind fun σ' hv => ?_
  obtain ⟨⟨⟨hr, hkd⟩, hxn⟩, hve⟩ := if_some hv
  refine sj (fun k' => ?_) (kk σ')
  obtain ⟨⟨hcf1, hcf2, ⟨ty0, hcf3⟩, hcf4⟩, hc100, hkN, hlw, hfc, hfin, hdecl, ty, hd, hty⟩ := fl
  obtain ⟨p, l, e, R, s, m, args, below, meth, c, D, tc, A, ad0, n0, mc, ms, Q, ⟨hx, hb, hml, hown, hts, hK, hA, hfr, hlo, hRc, hRs, hro, hnm, htr⟩, rfl⟩ := hJ
  intro ad H ls locs cells slots h1 h2 h3 hL hst h4 hl hP hD hS hc hs
  refine va_putF (D := D) (ci := ci) (v := cv ad (.ref x)) (ty := ty) hx hb hts hcf2 ty0 hcf3 hcf4 hown hK hP hD hS r ((wld_get hr).trans (by rw [cel_obj hkd hc100])) hcf1 k hkN (hts _ hlw) (fun _ h => h) hfin (hnm.trans hin2) hdecl hd (hty _).1 (hty _).2 (by rw [fds_len]; exact hkN) d (fun H1 locs1 hP1 hD1 hS1 => ?_)
  have hw : (wld ad tc σ δ).set r (ad r, .inr (ci, (fds ad σ δ r ci).set k (cv ad (.ref x)))) = wld ad tc σ' δ := by
    subst hve
    refine wld_set rfl ?_ (fun j hj => cel_congr rfl rfl rfl rfl (srv_u2n hj))
    rw [cel_obj (σ := (σ.1, σ.2.1, u2 σ.2.2.1 r k (some x), σ.2.2.2)) hkd hc100, fds_set (σ' := (σ.1, σ.2.1, u2 σ.2.2.1 r k (some x), σ.2.2.2)) (δ' := δ)]
    · rw [hfc]
      show va_rf ((u2 σ.2.2.1 r k (some x) r k).map ad) = _
      rw [u2_eq]
      rfl
    · intro j hj
      have hq : srv (σ.1, σ.2.1, u2 σ.2.2.1 r k (some x), σ.2.2.2) r j = srv σ r j := u2_nk hj
      unfold fval
      rw [hq]
  rw [hw] at hP1 hD1
  have hsn : sn σ' = sn σ := by subst hve; rfl
  have hwf : wfm σ' := by subst hve; exact wf_u2 h4 hxn
  exact k' ad H1 ls locs1 cells slots h1 (by rw [hsn]; exact h2) (by rw [hsn]; exact h3) (by rw [hsn]; exact hL) (by rw [hsn]; exact (wft (wft hst))) hwf hl hP1 hD1 hS1 hc hs
theorem sj_pIF {cc : ByteArray} {nL : Nat} {own nm : String} {fr lo : Nat} {J : JT} (hJ : Cor cc nL own nm fr lo J) {pc : Nat} {L : List (Nat × Value)} {st : List Value} {β : Bu} {σ : St} {δ : Dy} {ρ : Type} {P : ρ → Prop} {f : Dy → Option ρ} {idx ci k r : Nat} {x : Int32} (fl : FL own idx ci k 0) (hfin : ((clC ci).2.1 k).2.2.2 = true) (hdecl : ((clC ci).2.1 k).1 = own) (hin2 : nm = "<init>") (d : decode cc pc = .ok (.putfield idx, 3)) (kk : ∀ δ', SJ (f δ') P (J (pc + 3) L st β σ δ')) : SJ ((pI σ δ ci r k x).bind f) P (J pc L (.int x :: .ref r :: st) β σ δ) := by
  refine sj_bind fun δ' hv => ?_
  obtain ⟨⟨hr, hkd⟩, hve⟩ := if_some hv
  refine sj (fun k' => ?_) (kk δ')
  obtain ⟨⟨hcf1, hcf2, ⟨ty0, hcf3⟩, hcf4⟩, hc100, hkN, hlw, hfc⟩ := fl
  obtain ⟨p, l, e, R, s, m, args, below, meth, c, D, tc, A, ad0, n0, mc, ms, Q, ⟨hx, hb, hml, hown, hts, hK, hA, hfr, hlo, hRc, hRs, hro, hnm, htr⟩, rfl⟩ := hJ
  intro ad H ls locs cells slots h1 h2 h3 hL hst h4 hl hP hD hS hc hs
  have hd := fc0 hfc
  refine va_putF (D := D) (ci := ci) (v := cv ad (.int x)) (ty := .int) hx hb hts hcf2 ty0 hcf3 hcf4 hown hK hP hD hS r ((wld_get hr).trans (by rw [cel_obj hkd hc100])) hcf1 k hkN (hts _ hlw) (fun _ h => h) hfin (hnm.trans hin2) hdecl (by rw [hd]; decide +kernel) rfl rfl (by rw [fds_len]; exact hkN) d (fun H1 locs1 hP1 hD1 hS1 => ?_)
  have hw : (wld ad tc σ δ).set r (ad r, .inr (ci, (fds ad σ δ r ci).set k (cv ad (.int x)))) = wld ad tc σ δ' := by
    subst hve
    refine wld_set rfl ?_ (fun j hj => cel_congr rfl rfl (u2_ne hj) rfl rfl)
    rw [cel_obj hkd hc100, fds_set (σ' := σ) (δ' := (u2 δ.1 r k x, δ.2))]
    · rw [hfc]
      show Value.int (u2 δ.1 r k x r k) = _
      rw [u2_eq]
      rfl
    · intro j hj
      have hq : (u2 δ.1 r k x) r j = δ.1 r j := u2_nk hj
      unfold fval
      dsimp only
      rw [hq]
  rw [hw] at hP1 hD1
  exact k' ad H1 ls locs1 cells slots h1 h2 h3 hL (wft (wft hst)) h4 hl hP1 hD1 hS1 hc hs
theorem sj_wALv {cc : ByteArray} {nL : Nat} {own nm : String} {fr lo : Nat} {J : JT} (hJ : Cor cc nL own nm fr lo J) {pc : Nat} {L : List (Nat × Value)} {st : List Value} {β : Bu} {σ : St} {δ : Dy} {ρ : Type} {P : ρ → Prop} {f : St → Option ρ} {r x : Nat} {i : Int32} (d : decode cc pc = .ok (.aastore, 1)) (kk : ∀ σ', SJ (f σ') P (J (pc + 1) L st β σ' δ)) : SJ ((wA σ 103 4 r i x).bind f) P (J pc L (.ref x :: .int i :: .ref r :: st) β σ δ) := by
  refine sj_bind fun σ' hv => ?_
  obtain ⟨⟨⟨⟨hr, hkd⟩, hin⟩, hxn, hxk⟩, hve⟩ := if_some hv
  refine sj (fun k' => ?_) (kk σ')
  obtain ⟨p, l, e, R, s, m, args, below, meth, c, D, tc, A, ad0, n0, mc, ms, Q, ⟨hx, hb, hml, hown, hts, hK, hA, hfr, hlo, hRc, hRs, hro, hnm, htr⟩, rfl⟩ := hJ
  intro ad H ls locs cells slots h1 h2 h3 hL hst h4 hl hP hD hS hc hs
  refine va_astq hx hb hK hP hD hS r 3 x 4 ((wld_get hr).trans (by rw [cel_arr hkd (by decide)]; rfl)) rfl ((wld_get hxn).trans (by rw [cel_obj hxk (by decide)])) rfl (inb_vp hin) d (fun H1 locs1 hP1 hD1 hS1 => ?_)
  have hw : (wld ad tc σ δ).set r (ad r, .inl (tc 103, sln σ r, .inr (.inr (.inr (.inr (va_up (fun j => (srv σ r j).map ad) i.toNatClampNeg (some (ad x)))))))) = wld ad tc σ' δ := by
    subst hve
    refine wld_set rfl ?_ (fun j hj => cel_congr rfl rfl rfl rfl (srv_u2n hj))
    rw [cel_arr (σ := (σ.1, σ.2.1, u2 σ.2.2.1 r i.toNatClampNeg (some x), σ.2.2.2)) hkd (by decide)]
    show Sum.inl (tc 103, (sln σ r, Sum.inr (Sum.inr (Sum.inr (Sum.inr (fun j => (u2 σ.2.2.1 r i.toNatClampNeg (some x) r j).map ad)))))) = _
    have hf : (fun j => (u2 σ.2.2.1 r i.toNatClampNeg (some x) r j).map ad) = va_up (fun j => (srv σ r j).map ad) i.toNatClampNeg (some (ad x)) := by
      funext j
      by_cases hj : j = i.toNatClampNeg
      · subst hj
        simp [u2, va_up]
      · simp [u2, va_up, hj, srv]
    rw [hf]
  rw [hw] at hP1 hD1
  have hsn : sn σ' = sn σ := by subst hve; rfl
  have hwf : wfm σ' := by subst hve; exact wf_u2 h4 hxn
  exact k' ad H1 ls locs1 cells slots h1 (by rw [hsn]; exact h2) (by rw [hsn]; exact h3) (by rw [hsn]; exact hL) (by rw [hsn]; exact (wft (wft (wft hst)))) hwf hl hP1 hD1 hS1 hc hs
theorem sj_wARu {cc : ByteArray} {nL : Nat} {own nm : String} {fr lo : Nat} {J : JT} (hJ : Cor cc nL own nm fr lo J) {pc : Nat} {L : List (Nat × Value)} {st : List Value} {β : Bu} {σ : St} {δ : Dy} {ρ : Type} {P : ρ → Prop} {f : St → Option ρ} {r x : Nat} {i : Int32} (d : decode cc pc = .ok (.aastore, 1)) (kk : ∀ σ', SJ (f σ') P (J (pc + 1) L st β σ' δ)) : SJ ((wA σ 104 7 r i x).bind f) P (J pc L (.ref x :: .int i :: .ref r :: st) β σ δ) := by
  refine sj_bind fun σ' hv => ?_
  obtain ⟨⟨⟨⟨hr, hkd⟩, hin⟩, hxn, hxk⟩, hve⟩ := if_some hv
  refine sj (fun k' => ?_) (kk σ')
  obtain ⟨p, l, e, R, s, m, args, below, meth, c, D, tc, A, ad0, n0, mc, ms, Q, ⟨hx, hb, hml, hown, hts, hK, hA, hfr, hlo, hRc, hRs, hro, hnm, htr⟩, rfl⟩ := hJ
  intro ad H ls locs cells slots h1 h2 h3 hL hst h4 hl hP hD hS hc hs
  refine va_astq hx hb hK hP hD hS r 4 x 7 ((wld_get hr).trans (by rw [cel_arr hkd (by decide)]; rfl)) rfl ((wld_get hxn).trans (by rw [cel_obj hxk (by decide)])) rfl (inb_vp hin) d (fun H1 locs1 hP1 hD1 hS1 => ?_)
  have hw : (wld ad tc σ δ).set r (ad r, .inl (tc 104, sln σ r, .inr (.inr (.inr (.inr (va_up (fun j => (srv σ r j).map ad) i.toNatClampNeg (some (ad x)))))))) = wld ad tc σ' δ := by
    subst hve
    refine wld_set rfl ?_ (fun j hj => cel_congr rfl rfl rfl rfl (srv_u2n hj))
    rw [cel_arr (σ := (σ.1, σ.2.1, u2 σ.2.2.1 r i.toNatClampNeg (some x), σ.2.2.2)) hkd (by decide)]
    show Sum.inl (tc 104, (sln σ r, Sum.inr (Sum.inr (Sum.inr (Sum.inr (fun j => (u2 σ.2.2.1 r i.toNatClampNeg (some x) r j).map ad)))))) = _
    have hf : (fun j => (u2 σ.2.2.1 r i.toNatClampNeg (some x) r j).map ad) = va_up (fun j => (srv σ r j).map ad) i.toNatClampNeg (some (ad x)) := by
      funext j
      by_cases hj : j = i.toNatClampNeg
      · subst hj
        simp [u2, va_up]
      · simp [u2, va_up, hj, srv]
    rw [hf]
  rw [hw] at hP1 hD1
  have hsn : sn σ' = sn σ := by subst hve; rfl
  have hwf : wfm σ' := by subst hve; exact wf_u2 h4 hxn
  exact k' ad H1 ls locs1 cells slots h1 (by rw [hsn]; exact h2) (by rw [hsn]; exact h3) (by rw [hsn]; exact hL) (by rw [hsn]; exact (wft (wft (wft hst)))) hwf hl hP1 hD1 hS1 hc hs
theorem sj_wAFr {cc : ByteArray} {nL : Nat} {own nm : String} {fr lo : Nat} {J : JT} (hJ : Cor cc nL own nm fr lo J) {pc : Nat} {L : List (Nat × Value)} {st : List Value} {β : Bu} {σ : St} {δ : Dy} {ρ : Type} {P : ρ → Prop} {f : St → Option ρ} {r x : Nat} {i : Int32} (d : decode cc pc = .ok (.aastore, 1)) (kk : ∀ σ', SJ (f σ') P (J (pc + 1) L st β σ' δ)) : SJ ((wA σ 105 3 r i x).bind f) P (J pc L (.ref x :: .int i :: .ref r :: st) β σ δ) := by
  refine sj_bind fun σ' hv => ?_
  obtain ⟨⟨⟨⟨hr, hkd⟩, hin⟩, hxn, hxk⟩, hve⟩ := if_some hv
  refine sj (fun k' => ?_) (kk σ')
  obtain ⟨p, l, e, R, s, m, args, below, meth, c, D, tc, A, ad0, n0, mc, ms, Q, ⟨hx, hb, hml, hown, hts, hK, hA, hfr, hlo, hRc, hRs, hro, hnm, htr⟩, rfl⟩ := hJ
  intro ad H ls locs cells slots h1 h2 h3 hL hst h4 hl hP hD hS hc hs
  refine va_astq hx hb hK hP hD hS r 5 x 3 ((wld_get hr).trans (by rw [cel_arr hkd (by decide)]; rfl)) rfl ((wld_get hxn).trans (by rw [cel_obj hxk (by decide)])) rfl (inb_vp hin) d (fun H1 locs1 hP1 hD1 hS1 => ?_)
  have hw : (wld ad tc σ δ).set r (ad r, .inl (tc 105, sln σ r, .inr (.inr (.inr (.inr (va_up (fun j => (srv σ r j).map ad) i.toNatClampNeg (some (ad x)))))))) = wld ad tc σ' δ := by
    subst hve
    refine wld_set rfl ?_ (fun j hj => cel_congr rfl rfl rfl rfl (srv_u2n hj))
    rw [cel_arr (σ := (σ.1, σ.2.1, u2 σ.2.2.1 r i.toNatClampNeg (some x), σ.2.2.2)) hkd (by decide)]
    show Sum.inl (tc 105, (sln σ r, Sum.inr (Sum.inr (Sum.inr (Sum.inr (fun j => (u2 σ.2.2.1 r i.toNatClampNeg (some x) r j).map ad)))))) = _
    have hf : (fun j => (u2 σ.2.2.1 r i.toNatClampNeg (some x) r j).map ad) = va_up (fun j => (srv σ r j).map ad) i.toNatClampNeg (some (ad x)) := by
      funext j
      by_cases hj : j = i.toNatClampNeg
      · subst hj
        simp [u2, va_up]
      · simp [u2, va_up, hj, srv]
    rw [hf]
  rw [hw] at hP1 hD1
  have hsn : sn σ' = sn σ := by subst hve; rfl
  have hwf : wfm σ' := by subst hve; exact wf_u2 h4 hxn
  exact k' ad H1 ls locs1 cells slots h1 (by rw [hsn]; exact h2) (by rw [hsn]; exact h3) (by rw [hsn]; exact hL) (by rw [hsn]; exact (wft (wft (wft hst)))) hwf hl hP1 hD1 hS1 hc hs
theorem sj_alnLv {cc : ByteArray} {nL : Nat} {own nm : String} {fr lo : Nat} {J : JT} (hJ : Cor cc nL own nm fr lo J) {pc : Nat} {L : List (Nat × Value)} {st : List Value} {β : Bu} {σ : St} {δ : Dy} {ρ : Type} {P : ρ → Prop} {f : Int32 → Option ρ} {r : Nat} (d : decode cc pc = .ok (.arraylength, 1)) (kk : ∀ v, SJ (f v) P (J (pc + 1) L (.int v :: st) β σ δ)) : SJ ((aln σ 103 r).bind f) P (J pc L (.ref r :: st) β σ δ) := by
  refine sj_bind fun v hv => ?_
  obtain ⟨⟨hr, hkd⟩, hve⟩ := if_some hv
  refine sj (fun k' => ?_) (kk v)
  obtain ⟨p, l, e, R, s, m, args, below, meth, c, D, tc, A, ad0, n0, mc, ms, Q, ⟨hx, hb, hml, hown, hts, hK, hA, hfr, hlo, hRc, hRs, hro, hnm, htr⟩, rfl⟩ := hJ
  intro ad H ls locs cells slots h1 h2 h3 hL hst h4 hl hP hD hS hc hs
  have hres := k' ad H ls locs cells slots h1 h2 h3 hL (wfc trivial (wft hst)) h4 hl hP hD hS hc hs
  exact va_alen hx hb hK hP r 3 ((wld_get hr).trans (by rw [cel_arr hkd (by decide)])) rfl hve d hres
theorem sj_alnRu {cc : ByteArray} {nL : Nat} {own nm : String} {fr lo : Nat} {J : JT} (hJ : Cor cc nL own nm fr lo J) {pc : Nat} {L : List (Nat × Value)} {st : List Value} {β : Bu} {σ : St} {δ : Dy} {ρ : Type} {P : ρ → Prop} {f : Int32 → Option ρ} {r : Nat} (d : decode cc pc = .ok (.arraylength, 1)) (kk : ∀ v, SJ (f v) P (J (pc + 1) L (.int v :: st) β σ δ)) : SJ ((aln σ 104 r).bind f) P (J pc L (.ref r :: st) β σ δ) := by
  refine sj_bind fun v hv => ?_
  obtain ⟨⟨hr, hkd⟩, hve⟩ := if_some hv
  refine sj (fun k' => ?_) (kk v)
  obtain ⟨p, l, e, R, s, m, args, below, meth, c, D, tc, A, ad0, n0, mc, ms, Q, ⟨hx, hb, hml, hown, hts, hK, hA, hfr, hlo, hRc, hRs, hro, hnm, htr⟩, rfl⟩ := hJ
  intro ad H ls locs cells slots h1 h2 h3 hL hst h4 hl hP hD hS hc hs
  have hres := k' ad H ls locs cells slots h1 h2 h3 hL (wfc trivial (wft hst)) h4 hl hP hD hS hc hs
  exact va_alen hx hb hK hP r 4 ((wld_get hr).trans (by rw [cel_arr hkd (by decide)])) rfl hve d hres
theorem sj_alnFr {cc : ByteArray} {nL : Nat} {own nm : String} {fr lo : Nat} {J : JT} (hJ : Cor cc nL own nm fr lo J) {pc : Nat} {L : List (Nat × Value)} {st : List Value} {β : Bu} {σ : St} {δ : Dy} {ρ : Type} {P : ρ → Prop} {f : Int32 → Option ρ} {r : Nat} (d : decode cc pc = .ok (.arraylength, 1)) (kk : ∀ v, SJ (f v) P (J (pc + 1) L (.int v :: st) β σ δ)) : SJ ((aln σ 105 r).bind f) P (J pc L (.ref r :: st) β σ δ) := by
  refine sj_bind fun v hv => ?_
  obtain ⟨⟨hr, hkd⟩, hve⟩ := if_some hv
  refine sj (fun k' => ?_) (kk v)
  obtain ⟨p, l, e, R, s, m, args, below, meth, c, D, tc, A, ad0, n0, mc, ms, Q, ⟨hx, hb, hml, hown, hts, hK, hA, hfr, hlo, hRc, hRs, hro, hnm, htr⟩, rfl⟩ := hJ
  intro ad H ls locs cells slots h1 h2 h3 hL hst h4 hl hP hD hS hc hs
  have hres := k' ad H ls locs cells slots h1 h2 h3 hL (wfc trivial (wft hst)) h4 hl hP hD hS hc hs
  exact va_alen hx hb hK hP r 5 ((wld_get hr).trans (by rw [cel_arr hkd (by decide)])) rfl hve d hres
/-- Object's own constructor -/
def MO (own : String) (idx : Nat) : Prop := Cond.methodLink own idx Lib.objectInit ∈ lwg ∧ Cond.instanceMethod Lib.objectInit ∈ lwg ∧ Cond.code Lib.objectInit ⟨#[0xb1]⟩ 1 none ∈ lwg
theorem j_objInit {cc : ByteArray} {nL : Nat} {own nm : String} {fr lo : Nat} {J : JT} (hJ : Cor cc nL own nm fr lo J) {pc : Nat} {L : List (Nat × Value)} {st : List Value} {β : Bu} {σ : St} {δ : Dy} {idx a : Nat} (mo : MO own idx) (hfr1 : 1 ≤ fr) (hlo1 : 20 ≤ lo) (hrest : (st.map fun v => v.category).sum ≤ 8) (d : decode cc pc = .ok (.invokespecial idx, 3)) (k : J (pc + 3) L st β σ δ) : J pc L (.ref a :: st) β σ δ := by
  obtain ⟨hw1, hw2, hw3⟩ := mo
  obtain ⟨p, l, e, R, s, m, args, below, meth, c, D, tc, A, ad0, n0, mc, ms, Q, ⟨hx, hb, hml, hown, hts, hK, hA, hfr, hlo, hRc, hRs, hro, hnm, htr⟩, rfl⟩ := hJ
  intro ad H ls locs cells slots h1 h2 h3 hL hst h4 hl hP hD hS hc hs
  refine W.objInit hx hb hown (hts _ hw1) (hts _ hw2) (hts _ hw3) rfl (hl.1.trans hml.symm) rfl d (by omega) ?_ (k ad H ls locs cells slots h1 h2 h3 hL (wft hst) h4 hl hP hD hS hc hs)
  have h0 := cat_cv ad st
  show 2 * 0 + ((st.map (cv ad)).map fun v => v.category).sum + 12 ≤ R.locals
  omega
/-- what a constructor's call takes -/
def MLI (own : String) (idx : Nat) (y : MethodName) (cc : ByteArray) (nL n : Nat) : Prop :=
  ((Cond.methodLink own idx y ∈ lwg ∨ (own, idx, y) ∈ nestL) ∧ Cond.instanceMethod y ∈ lwg ∧ Cond.initialized y.cls ∈ lwg ∧ Cond.code y cc nL none ∈ lwg) ∧ y.cls ≠ "java/lang/invoke/MethodHandle" ∧ y.cls ≠ "java/lang/invoke/VarHandle" ∧ (parseMethodDescriptor y.desc).map (fun d => d.parameters.length) = some n ∧ y.name = "<init>"
set_option maxHeartbeats 1000000 in
theorem sj_callI {cc : ByteArray} {nL : Nat} {own nm : String} {fr lo : Nat} {J : JT} (hJ : Cor cc nL own nm fr lo J) {pc : Nat} {L : List (Nat × Value)} {st : List Value} {β : Bu} {σ : St} {δ : Dy} {ρ : Type} {P : ρ → Prop} {mf : Option (St × Dy)} {f : St × Dy → Option ρ}
    {idx : Nat} {y : MethodName} {cc' : ByteArray} {nL' : Nat} {fr' lo' mc' ms' : Nat} (As : List Value) {b : Nat} (ml : MLI own idx y cc' nL' As.length) (hfr : fr' + 1 ≤ fr) (hlo : 8 + (nL' + 11) + lo' ≤ lo) (hrest : (st.map fun v => v.category).sum ≤ 8) (hb1 : mc' ≤ β.1) (hb2 : ms' ≤ β.2)
    (d : decode cc pc = .ok (.invokespecial idx, 3)) {stk : List Value} (hstk : stk = As.reverse ++ .ref b :: st) (ct : ∀ r, mf = some r → CT y cc' nL' none fr' lo' mc' ms' (.ref b :: As) σ δ (none, r.1, r.2))
    (kk : ∀ r, SJ (f r) P (J (pc + 3) L st (β.1 - mc', β.2 - ms') r.1 r.2)) : SJ (mf.bind f) P (J pc L stk β σ δ) := by
  subst hstk
  refine sj_bind fun r hr => sj (fun k' => ?_) (kk r)
  have hct := ct r hr
  obtain ⟨⟨hw1, hw2, hw4, hw5⟩, hy1, hy2, hyn, hyi⟩ := ml
  obtain ⟨p, l, e, R, s, m, args, below, meth, c, D, tc, A, ad0, n0, mc, ms, Q, ⟨hx, hb, hml, hown, hts, hK, hA, hfR, hlR, hRc, hRs, hro, hnm, htr⟩, rfl⟩ := hJ
  intro ad H ls locs cells slots h1 h2 h3 hL hst h4 hl hP hD hS hc hs
  have hstr : ∀ v ∈ st, wfv (sn σ) v := fun v hv => hst v (List.mem_append_right _ (List.mem_cons_of_mem _ hv))
  have hbw : wfv (sn σ) (.ref b) := hst _ (List.mem_append_right _ List.mem_cons_self)
  have hwA : ∀ x ∈ (Value.ref b :: As), wfv (sn σ) x := by
    intro x hx
    rcases List.mem_cons.mp hx with rfl | hx
    · exact hbw
    · exact hst x (List.mem_append_left _ (List.mem_reverse.mpr hx))
  have hM := hct l D tc ad H.size htr h3 h4 hwA
  have hadr : ad (roB + 1) = ad0 (roB + 1) := h1 _ (Or.inr (Nat.le_succ _))
  have hfA : ∀ q, va_A (wld ad tc σ δ) H.size q → A q := by
    intro q hq
    rcases hq with ⟨i, e9, he⟩ | hq
    · exact hD.2 i _ he
    · exact hA q (Nat.le_trans hS.1 hq)
  have hgi : GoodIn lwg (.code y cc' nL' none :: lwg) := lwg_in (by
      intro w hw
      rcases List.mem_cons.mp hw with rfl | hw
      · exact hw5
      · exact hw)
  have hpre : PreS s H (PcT D tc ad (.ref b :: As) σ δ H.size) (.ref (ad b) :: As.map (cv ad)) := ⟨PcT_blind, fun U hU hW => ⟨rfl, by rw [hU], ⟨by rw [hU]; exact hP, va_K.moved hW.alike hK, hD.weaken (fun _ _ _ _ => trivial)⟩, ROf_to hro hadr hU hW hfA hS⟩⟩
  have hrun : va_Run p l e R s m args below meth c H locs cells slots mc' ms' (F0 m pc ls ((As.reverse ++ .ref b :: st).map (cv ad))) (st.map (cv ad)) (QcT D tc (va_A (wld ad tc σ δ) H.size) ad (sn σ) (none, r.1, r.2) (Value.ref (ad b) :: As.map (cv ad)).toArray) (va_A (wld ad tc σ δ) H.size) := by
    rcases hw1 with hw1 | hw1
    · exact va_runI (As := As.map (cv ad)) (rest := st.map (cv ad)) (H := H) (locs := locs) (cells := cells) (slots := slots) (b := ad b) (g := F0 m pc ls ((As.reverse ++ .ref b :: st).map (cv ad))) (R := R) (e := e) (below := below) (meth := meth) ⟨hx, hb, hml, hown, hts⟩ hM
        (cwI As.length hts hgi rfl rfl rfl (hts _ hw4) (hts _ hw1) (hts _ hw2) hyi ⟨hy1, hy2, hyn⟩ ⟨Nat.le_trans hfr hfR, Nat.le_trans hlo hlR⟩) hpre
        rfl (by rw [List.length_map]) hl.1 (by simp [List.map_append, List.map_reverse, cv]) (lv_room (by rw [cat_cv]; exact hrest)) d ⟨by omega, by omega⟩
    · exact va_runIN (As := As.map (cv ad)) (rest := st.map (cv ad)) (H := H) (locs := locs) (cells := cells) (slots := slots) (b := ad b) (g := F0 m pc ls ((As.reverse ++ .ref b :: st).map (cv ad))) (R := R) (e := e) (below := below) (meth := meth) ⟨hx, hb, hml, hown, hts⟩ hM
        ⟨va_cnB As.length hts hgi rfl rfl rfl (hro.2.1.1 _ hw1) (hts _ hw4) ⟨hy1, hy2, hyn⟩ ⟨Nat.le_trans hfr hfR, Nat.le_trans hlo hlR⟩, hyi, hts _ hw2⟩ hpre
        rfl (by rw [List.length_map]) hl.1 (by simp [List.map_append, List.map_reverse, cv]) (lv_room (by rw [cat_cv]; exact hrest)) d ⟨by omega, by omega⟩
  exact run_J h1 h2 hL hstr hl hD hS hc hs hA hb1 hb2 hrun k'
def PVA (an : Option Value × St × Dy) : St × Dy → Prop := fun y => an = (none, y.1, y.2)
/-- less room asked is room enough -/
theorem j_beta {cc : ByteArray} {nL : Nat} {own nm : String} {fr lo : Nat} {J : JT} (hJ : Cor cc nL own nm fr lo J) {pc : Nat} {L : List (Nat × Value)} {st : List Value} {β : Bu} {σ : St} {δ : Dy} {β' : Bu} (hb1 : β'.1 ≤ β.1) (hb2 : β'.2 ≤ β.2) (k : J pc L st β' σ δ) : J pc L st β σ δ := by
  obtain ⟨p, l, e, R, s, m, args, below, meth, c, D, tc, A, ad0, n0, mc, ms, Q, ⟨hx, hb, hml, hown, hts, hK, hA, hfr, hlo, hRc, hRs, hro, hnm, htr⟩, rfl⟩ := hJ
  intro ad H ls locs cells slots h1 h2 h3 hL hst h4 hl hP hD hS hc hs
  have key := k ad H ls locs (cells + (β.1 - β'.1)) (slots + (β.2 - β'.2)) h1 h2 h3 hL hst h4 hl hP hD hS (by omega) (by omega)
  exact W.widen (by omega) (by omega) key
