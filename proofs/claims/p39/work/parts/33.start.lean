/-! THE LAW FROM ITS ENTRY -/
theorem wd_54 : Cond.classLink RL 8 RX11 ∈ lwg := tb_1 (List.mem_of_getElem? (i := 22) rfl) rfl
theorem wd_55 : Cond.instantiable RX11 8 ∈ lwg := tb_1 (List.mem_of_getElem? (i := 23) rfl) rfl
theorem wd_56 : Cond.methodLink RL 10 yX11_init ∈ lwg := tb_1 (List.mem_of_getElem? (i := 24) rfl) rfl
theorem wd_57 : Cond.instanceMethod yX11_init ∈ lwg := tb_1 (List.mem_of_getElem? (i := 25) rfl) rfl
theorem wd_58 : Cond.code yX11_init cX11_init 2 none ∈ lwg := tb_1 (List.mem_of_getElem? (i := 26) rfl) rfl
theorem nw_L_8 : NW RL 8 11 := ⟨cf_11, by decide, wd_54, wd_55, wd_33, by decide +kernel⟩
theorem mi_L_10 : MLI RL 10 yX11_init cX11_init 2 0 := ⟨⟨.inl wd_56, wd_57, wd_33, wd_58⟩, by decide +kernel, by decide +kernel, by decide +kernel, rfl⟩
def m_law (xs : Nat → Int32) (N : Nat) (σ : St) (δ : Dy) : Option Unit :=
  (nwO σ 11).bind fun s1 =>
  (m_X11_init s1 (sn σ) (nwD σ δ)).bind fun v2 =>
  m_law_b8 xs N v2.1 (sn σ) v2.2
set_option maxHeartbeats 4000000 in
set_option maxRecDepth 100000 in
theorem w_law {xs : Nat → Int32} {N : Nat} {J : JT} (hI : IsL xs N J) (σ : St) (δ : Dy) : SJ (m_law xs N σ δ) (fun _ : Unit => True) (J 0 [(0, .ref roB)] [] (600086, 7301442) σ δ) := by
  have hJ := hI.cor
  unfold m_law
  refine sj_new hJ (N := 8) nw_L_8 rfl (Nat.le_of_ble_eq_true rfl) (Nat.le_of_ble_eq_true rfl) dL_law_0 (fun s1 => ?_)
  refine sj (j_dup hJ dL_law_3 rfl) ?_
  refine sj_callI hJ [] (st := [.ref (sn σ)]) (fr' := 4) (lo' := 86) (mc' := 1097) (ms' := 59166) mi_L_10 (by decide) (by decide) (Nat.le_of_ble_eq_true rfl) (Nat.le_of_ble_eq_true rfl) (Nat.le_of_ble_eq_true rfl) dL_law_4 rfl (fun _ h9 => ct_X11_init h9) (fun v2 => ?_)
  refine sj (j_astore_n hJ (L' := [(1, .ref (sn σ)), (0, .ref roB)]) dL_law_7 rfl (by decide) rfl) ?_
  refine sj (j_sub hJ (L' := [(0, .ref roB), (1, .ref (sn σ))]) [1, 0] rfl) ?_
  exact w_law_b8 hI v2.1 (sn σ) v2.2
theorem kn_all {s : State} {args : Array Value} (hts : ∀ w ∈ lwg, w.before args s = true) : ∀ c : Nat, ∃ x : ClassId × (Nat → Nat), ∀ q, tkCl[c]? = some q → u_Kn s q.1 q.2.1 q.2.2 x.1 x.2 := by
  have one : ∀ {own : String} {idx ci : Nat}, NW own idx ci → ∃ x : ClassId × (Nat → Nat), ∀ q, tkCl[ci]? = some q → u_Kn s q.1 q.2.1 q.2.2 x.1 x.2 := by
    intro own idx ci h
    obtain ⟨⟨hcf1, hcf2, -, -⟩, -, -, hw, -, -⟩ := h
    obtain ⟨cC, iS, hk⟩ := u_known hts hcf2 (hts _ hw)
    refine ⟨(cC, iS), fun q hq => ?_⟩
    rw [hcf1] at hq
    cases hq
    exact hk
  intro c
  match c with
  | 0 => exact one nw_X10_38
  | 1 => exact one nw_X4_9
  | 2 => exact one nw_X10_18
  | 3 => exact one nw_X6_11
  | 4 => exact one nw_X10_32
  | 5 => exact one nw_X11_7
  | 6 => exact one nw_X10_49
  | 7 => exact one nw_X11_16
  | 8 => exact one nw_X10_9
  | 9 => exact one nw_X11_22
  | 10 => exact one nw_X11_34
  | 11 => exact one nw_L_8
  | c + 12 => exact ⟨(0, fun _ => 0), fun q hq => by simp at hq⟩
set_option maxRecDepth 100000 in
theorem sta_start {s : State} {b : Nat} (hts : ∀ w ∈ lw_tbl, w.before #[Value.ref b] s = true) (hgv : (Jvm.Cond.and given_1 narrow_1).before #[Value.ref b] s = true) : STA s := by
  have hf := flat_of_before _ hgv
  have hstr : ∀ {idx : Nat} {tx : String}, Cond.stringRef RX11 idx tx ∈ lw_tbl → Cond.exactly (.string RX11 idx) "java/lang/String" ∈ flatC (Jvm.Cond.and given_1 narrow_1) → ∃ a, vk_R RX11 idx tx a s := by
    intro idx tx h1 h2
    obtain ⟨a, c, cA, kA, q1, -⟩ := Cond.exactly_spec (args := #[Value.ref b]) (first := s) (o := none) (s := s) (idx := []) (t := .string RX11 idx) (cls := "java/lang/String") (hf _ h2)
    exact ⟨a, vk_R.of (hts _ h1) q1⟩
  refine ⟨?_, ?_, ?_, ?_, ⟨?_, ?_, ?_⟩, ?_⟩
  · exact (List.forall_mem_cons.mpr ⟨va_Nw.of rfl (hts (.methodLinkNest RX11 9 yX5_init "Tellcourt") (by decide +kernel)), List.forall_mem_cons.mpr ⟨va_Nw.of rfl (hts (.methodLinkNest RX11 24 yX9_init "Tellcourt") (by decide +kernel)), List.forall_mem_cons.mpr ⟨va_Nw.of rfl (hts (.methodLinkNest RX11 33 yX7_init "Tellcourt") (by decide +kernel)), List.forall_mem_cons.mpr ⟨va_Nw.of rfl (hts (.methodLinkNest RX10 11 yX8_init "Tellcourt") (by decide +kernel)), List.forall_mem_cons.mpr ⟨va_Nw.of rfl (hts (.methodLinkNest RX10 20 yX2_init "Tellcourt") (by decide +kernel)), List.forall_mem_cons.mpr ⟨va_Nw.of rfl (hts (.methodLinkNest RX10 40 yX0_init "Tellcourt") (by decide +kernel)), List.forall_mem_cons.mpr ⟨va_Nw.of rfl (hts (.methodLinkNest RX6 39 yX3_init "Tellcourt") (by decide +kernel)), List.forall_mem_cons.mpr ⟨va_Nw.of rfl (hts (.methodLinkNest RX10 58 yX4_init "Tellcourt") (by decide +kernel)), List.forall_mem_cons.mpr ⟨va_Nw.of rfl (hts (.methodLinkNest RX6 166 yX11_isSlot "Tellcourt") (by decide +kernel)), List.forall_mem_cons.mpr ⟨va_Nw.of rfl (hts (.methodLinkNest RX0 19 yX11_isSlot "Tellcourt") (by decide +kernel)), fun _ h => absurd h List.not_mem_nil⟩⟩⟩⟩⟩⟩⟩⟩⟩⟩)
  · exact (List.forall_mem_cons.mpr ⟨va_Nw.of rfl (hts (.castable "java/lang/IllegalStateException" "java/lang/IllegalStateException") (by decide +kernel)), List.forall_mem_cons.mpr ⟨va_Nw.of rfl (hts (.castable "java/lang/IllegalArgumentException" "java/lang/IllegalArgumentException") (by decide +kernel)), List.forall_mem_cons.mpr ⟨va_Nw.of rfl (hts (.castable "java/lang/IndexOutOfBoundsException" "java/lang/IndexOutOfBoundsException") (by decide +kernel)), fun _ h => absurd h List.not_mem_nil⟩⟩⟩)
  · exact (List.forall_mem_cons.mpr ⟨va_Nw.of rfl (hts (.declares ⟨"java/lang/RuntimeException", "<init>", "()V"⟩) (by decide +kernel)), List.forall_mem_cons.mpr ⟨va_Nw.of rfl (hts (.declares ⟨"java/lang/RuntimeException", "<init>", "(Ljava/lang/String;)V"⟩) (by decide +kernel)), List.forall_mem_cons.mpr ⟨va_Nw.of rfl (hts (.declares ⟨"java/lang/Exception", "<init>", "()V"⟩) (by decide +kernel)), List.forall_mem_cons.mpr ⟨va_Nw.of rfl (hts (.declares ⟨"java/lang/Exception", "<init>", "(Ljava/lang/String;)V"⟩) (by decide +kernel)), List.forall_mem_cons.mpr ⟨va_Nw.of rfl (hts (.declares ⟨"java/lang/Throwable", "<init>", "()V"⟩) (by decide +kernel)), List.forall_mem_cons.mpr ⟨va_Nw.of rfl (hts (.declares ⟨"java/lang/Throwable", "<init>", "(Ljava/lang/String;)V"⟩) (by decide +kernel)), fun _ h => absurd h List.not_mem_nil⟩⟩⟩⟩⟩⟩)
  · exact (List.forall_mem_cons.mpr ⟨hstr (idx := 62) (tx := "no variable can be made") (by decide +kernel) (by decide +kernel), List.forall_mem_cons.mpr ⟨hstr (idx := 315) (tx := "neither a value nor a slot") (by decide +kernel) (by decide +kernel), List.forall_mem_cons.mpr ⟨hstr (idx := 308) (tx := "there are as many nodes as there may be") (by decide +kernel) (by decide +kernel), List.forall_mem_cons.mpr ⟨hstr (idx := 310) (tx := "an argument is out of its range") (by decide +kernel) (by decide +kernel), List.forall_mem_cons.mpr ⟨hstr (idx := 302) (tx := "there is no such node") (by decide +kernel) (by decide +kernel), List.forall_mem_cons.mpr ⟨hstr (idx := 177) (tx := "there is no such variable") (by decide +kernel) (by decide +kernel), List.forall_mem_cons.mpr ⟨hstr (idx := 183) (tx := "neither a value nor a variable") (by decide +kernel) (by decide +kernel), List.forall_mem_cons.mpr ⟨hstr (idx := 188) (tx := "no agent can be begun") (by decide +kernel) (by decide +kernel), List.forall_mem_cons.mpr ⟨hstr (idx := 196) (tx := "no step can be done") (by decide +kernel) (by decide +kernel), List.forall_mem_cons.mpr ⟨hstr (idx := 218) (tx := "the store has failed") (by decide +kernel) (by decide +kernel), List.forall_mem_cons.mpr ⟨hstr (idx := 306) (tx := "there is no such token") (by decide +kernel) (by decide +kernel), List.forall_mem_cons.mpr ⟨hstr (idx := 270) (tx := "there is no such part") (by decide +kernel) (by decide +kernel), fun _ h => absurd h List.not_mem_nil⟩⟩⟩⟩⟩⟩⟩⟩⟩⟩⟩⟩)
  · exact va_AO.of (hts (.arrayOver (.object RX4)) (by decide +kernel))
  · exact va_AO.of (hts (.arrayOver (.object RX7)) (by decide +kernel))
  · exact va_AO.of (hts (.arrayOver (.object RX3)) (by decide +kernel))
  · intro q hq r hr hn
    cases hq
theorem arr_start {s : State} {args : Array Value} {ty : FieldType} (h : (Cond.arrayClass ty).before args s = true) : ∃ cA : ClassId, ArrOfT s cA ty ∧ s.vm.findClass ("[" ++ ty.toString) = some cA := by
  obtain ⟨c, k, comp, h1, h2, h3⟩ := Cond.arrayClass_spec h
  exact ⟨c, fun n z => ⟨fun k h => (by cases h), k, h2, comp, h3⟩, h1⟩
theorem over_start {s : State} {C : String} (h : va_AO C s) : ∃ cA : ClassId, ArrOfT s cA (.object C) ∧ va_RA s cA (.object C) := by
  obtain ⟨comp, c, k, h1, -, h3, h4, h5⟩ := Cond.arrayOver_spec h
  exact ⟨c, fun n z => ⟨fun k h => (by cases h), k, h3, comp, h4⟩, k, comp, h3, h4, h1, h5⟩
def σE : St := (fun _ => 0, fun _ => 0, fun _ _ => none, 0)
def δE : Dy := (fun _ _ => 0, fun _ _ => 0)
theorem prm_start {s : State} {b : Nat} (hts : ∀ w ∈ lw_tbl, w.before #[Value.ref b] s = true) (hgv : (Jvm.Cond.and given_1 narrow_1).before #[Value.ref b] s = true) : ∃ t : Nat, (va_X t 7 prm s s.heap ∧ t < s.heap.size) ∧ va_Z "Tellcourt$Draws" "PRIMES" "[I" (.ref t) (fun q : Nat => s.heap.size ≤ q) s s.heap := by
  have hf := flat_of_before _ hgv
  have hA : ∀ a : Nat, a < s.heap.size → ¬ (fun q : Nat => s.heap.size ≤ q) a := fun a h => Nat.not_le.mpr h
  have hel : ∀ j : Nat, j < 7 → (Cond.eq (.elem (.static "Tellcourt$Draws" "PRIMES" "[I") (.int (Int32.ofNat j))) (.int (prm j))) ∈ flatC (Jvm.Cond.and given_1 narrow_1) := by decide +kernel
  obtain ⟨t, ht, cell, h1, h2, h3, h4, h5, h6, h7⟩ := va_Tof (args := #[Value.ref b]) (s := s) (tm := .static "Tellcourt$Draws" "PRIMES" "[I") (ty := .int) (N := 7) (f := fun j => .int (prm j)) (A := fun q : Nat => s.heap.size ≤ q) (by decide) (hf _ (by decide +kernel)) (va_eqt (hf (Cond.eq (.length (.static "Tellcourt$Draws" "PRIMES" "[I")) (.int (7 : Int32))) (by decide +kernel))) (fun j hj => va_eqt (hf _ (hel j hj))) hA
  obtain ⟨t', cell', ht', hat', hv'⟩ := Term.length_spec (va_eqt (hf (Cond.eq (.length (.static "Tellcourt$Draws" "PRIMES" "[I")) (.int (7 : Int32))) (by decide +kernel)))
  cases ht.symm.trans ht'
  obtain ⟨hcell', -, -, hlt⟩ := State.arrayAt?_spec hat'
  cases h1.symm.trans hcell'
  refine ⟨t, ⟨⟨cell, h1, h2, h3, ?_, h6⟩, Nat.not_le.mp h7⟩, va_Zof (hts _ (by decide +kernel)) (hts _ (by decide +kernel)) ht hA⟩
  have hlen := va_eqt (hf (Cond.eq (.length (.static "Tellcourt$Draws" "PRIMES" "[I")) (.int (7 : Int32))) (by decide +kernel))
  have hlen' : ((Term.static "Tellcourt$Draws" "PRIMES" "[I").eval #[Value.ref b] s none [] s).bind (fun v => match v with
    | .ref a => (s.arrayAt? a).bind (fun c => if c.slots.size < 2 ^ 31 then some (Value.int c.slots.size.toInt32) else none)
    | _ => none) = some (Value.int 7) := by
    unfold Term.eval at hlen
    exact hlen
  rw [ht] at hlen'
  simp only [Option.bind_some, hat'] at hlen'
  split at hlen'
  · rename_i hlt9
    have hs2 := Value.int.inj (Option.some.inj hlen')
    have hs3 := congrArg Int32.toNatClampNeg hs2
    rw [show cell.slots.size.toInt32 = Int32.ofNat cell.slots.size from rfl, Int32.toNatClampNeg_ofNat_of_lt hlt9] at hs3
    exact hs3
  · cases hlen'
set_option maxRecDepth 100000 in
theorem law_start {p : Program} {e : Env} {s : State} {m : MethodId} {below : List Frame} {meth : Method} {c : Code} (l : Launch) (hflags : l.flags = flags0) {b L : Nat} {xs : Nat → Int32} (hm : m_law xs L σE δE = some ()) (C0 : lw_At p s m meth c b L xs) : W p l e room_1 s m #[Value.ref b] below meth c s.heap [] 0 0 (lw_Z below #[Value.ref b] s) (entryFrame m ([Value.ref b] : List Value).toArray 31) := by
  obtain ⟨hx, hb, hr, hml, hown, hts, hX, hbl, hlocks, hgv⟩ := id C0
  have htr : l.stackTraces = false := by
    unfold Launch.stackTraces
    rw [hflags]
    decide
  have htg : ∀ w ∈ lwg, w.before #[Value.ref b] s = true := fun w hw => hts w (lwg_mem hw).1
  have hsta := sta_start hts hgv
  obtain ⟨t, ⟨hpX, hpl⟩, hpZ⟩ := prm_start hts hgv
  obtain ⟨kn, hkn⟩ := Classical.axiomOfChoice (kn_all htg)
  obtain ⟨cI, aI1, aI2⟩ := arr_start (htg _ wd_97)
  obtain ⟨cZ, aZ1, aZ2⟩ := arr_start (htg _ wd_173)
  obtain ⟨cJ, aJ1, aJ2⟩ := arr_start (htg _ wd_258)
  obtain ⟨cv, aV1, aV2⟩ := over_start hsta.2.2.2.2.1.1
  obtain ⟨cr, aR1, aR2⟩ := over_start hsta.2.2.2.2.1.2.1
  obtain ⟨cf, aF1, aF2⟩ := over_start hsta.2.2.2.2.1.2.2
  have hf := flat_of_before _ hgv
  have hA9 : ∀ a : Nat, a < s.heap.size → ¬ (fun q : Nat => s.heap.size ≤ q) a := fun a h => Nat.not_le.mpr h
  generalize hD : ((fun k => (kn k).1, fun k => (kn k).2) : va_G) = D
  generalize htc : (fun i : Nat => if i = 100 then cI else if i = 101 then cZ else if i = 102 then cJ else if i = 103 then cv else if i = 104 then cr else cf) = tc
  generalize had : (fun i : Nat => if i = roB then b else t) = ad0
  have a0 : ad0 roB = b := by rw [← had]; exact if_pos rfl
  have a1 : ad0 (roB + 1) = t := by rw [← had]; exact if_neg (by omega)
  have hK : va_K D tkCl (tysOf tc) s := by
    subst hD
    subst htc
    refine ⟨fun c q hq => hkn c q hq, fun k q hk => ?_⟩
    match k with
    | 0 => cases hk; exact ⟨aI1, aI2⟩
    | 1 => cases hk; exact ⟨aZ1, aZ2⟩
    | 2 => cases hk; exact ⟨aJ1, aJ2⟩
    | 3 => cases hk; exact ⟨aV1, aV2⟩
    | 4 => cases hk; exact ⟨aR1, aR2⟩
    | 5 => cases hk; exact ⟨aF1, aF2⟩
    | k + 6 => cases hk
  have hro : ROf ad0 (fun q : Nat => s.heap.size ≤ q) s := by
    unfold ROf
    rw [a1]
    exact ⟨⟨hpX, hpl, Nat.not_le.mpr hpl, hpZ⟩, hsta, vx_Zqof (hts _ (by decide +kernel)) (hts _ (by decide +kernel)) (hf _ (by decide +kernel)) hA9, vx_Zqof (hts _ (by decide +kernel)) (hts _ (by decide +kernel)) (hf _ (by decide +kernel)) hA9⟩
  have hI : IsL xs L (Jdef p l e room_1 s m #[Value.ref b] below meth c D tc (fun q : Nat => s.heap.size ≤ q) ad0 0 31 600086 7301442 (lw_Z below #[Value.ref b] s)) :=
    ⟨p, l, e, s, m, b, below, meth, c, D, tc, ad0, ⟨hx, hb, hml, hown, htg, hK, fun q h => h, Nat.le_of_ble_eq_true rfl, Nat.le_of_ble_eq_true rfl, rfl, rfl, hro, rfl, htr⟩, hr, hlocks, hX, hbl, a0, rfl⟩
  have key := w_law hI σE δE () hm trivial
  have hl := lv_entry ([.ref b]) (n := 31) (Nat.le_of_ble_eq_true rfl)
  rw [lg_entry_eq]
  generalize (lg_sl ([.ref b]) ++ List.replicate (31 - (lg_sl ([.ref b])).length) Slot.unset).toArray = ls at hl ⊢
  have hw0 : wld ad0 tc σE δE = [] := rfl
  refine key ad0 s.heap ls [] 0 0 (fun _ _ => rfl) (Nat.zero_le _) (Nat.zero_le _) (fun q hq => ?_) (fun v hv => by cases hv) (fun i k q hq => by cases hq) ?_ (by rw [hw0]; exact fun k q h => by simp at h) (by rw [hw0]; exact ⟨fun i j p q h => by simp at h, fun k q h => by simp at h⟩) va_S.rf (Nat.zero_add _) (Nat.zero_add _)
  · rcases List.mem_cons.mp hq with rfl | hq
    · exact Or.inr (Nat.le_refl _)
    · cases hq
  · show lv_has ls 31 [(0, Value.ref (ad0 roB))]
    rw [a0]
    exact hl
