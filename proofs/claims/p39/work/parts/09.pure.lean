/-! the ends of a method by its answer, calls of methods that write nothing -/
def PI (σ : St) (an : Option Value × St × Dy) : Int32 × Dy → Prop := fun y => an = (some (.int y.1), σ, y.2)
def PJ (σ : St) (an : Option Value × St × Dy) : Int64 × Dy → Prop := fun y => an = (some (.long y.1), σ, y.2)
def PA (σ : St) (an : Option Value × St × Dy) : Nat × Dy → Prop := fun y => an = (some (.ref y.1), σ, y.2)
def PV (σ : St) (an : Option Value × St × Dy) : Dy → Prop := fun y => an = (none, σ, y)
def PIp (σ : St) (δ : Dy) (an : Option Value × St × Dy) : Int32 → Prop := fun y => an = (some (.int y), σ, δ)
def PJp (σ : St) (δ : Dy) (an : Option Value × St × Dy) : Int64 → Prop := fun y => an = (some (.long y), σ, δ)
def PAp (σ : St) (δ : Dy) (an : Option Value × St × Dy) : Nat → Prop := fun y => an = (some (.ref y), σ, δ)
def PVp (σ : St) (δ : Dy) (an : Option Value × St × Dy) : Unit → Prop := fun _ => an = (none, σ, δ)
theorem sj_ifc {ρ : Type} {c : Prop} [Decidable c] {a b : Option ρ} {P : ρ → Prop} {G : Prop} (k1 : c → SJ a P G) (k2 : ¬ c → SJ b P G) : SJ (if c then a else b) P G := sj_if (fun h1 h2 => (Classical.em c).elim h1 h2) k1 k2
def MLSN (own : String) (idx : Nat) (y : MethodName) (cc : ByteArray) (nL : Nat) (ret : Option FieldType) (n : Nat) : Prop :=
  ((own, idx, y) ∈ nestL ∧ Cond.static y ∈ lwg ∧ Cond.initialized y.cls ∈ lwg ∧ Cond.code y cc nL ret ∈ lwg) ∧ y.cls ≠ "java/lang/invoke/MethodHandle" ∧ y.cls ≠ "java/lang/invoke/VarHandle" ∧ (parseMethodDescriptor y.desc).map (fun d => d.parameters.length) = some n
set_option maxHeartbeats 1000000 in
theorem sj_callSN {cc : ByteArray} {nL : Nat} {own nm : String} {fr lo : Nat} {J : JT} (hJ : Cor cc nL own nm fr lo J) {pc : Nat} {L : List (Nat × Value)} {st : List Value} {β : Bu} {σ : St} {δ : Dy} {ρ τ : Type} {P : ρ → Prop} {mf : Option τ} {f : τ → Option ρ}
    {idx : Nat} {y : MethodName} {cc' : ByteArray} {nL' : Nat} {ret' : Option FieldType} {fr' lo' mc' ms' : Nat} {As : List Value} (an : τ → Option Value × St × Dy) (ml : MLSN own idx y cc' nL' ret' As.length) (hfr : fr' + 1 ≤ fr) (hlo : 8 + (nL' + 11) + lo' ≤ lo) (hrest : (st.map fun v => v.category).sum ≤ 8) (hb1 : mc' ≤ β.1) (hb2 : ms' ≤ β.2)
    (d : decode cc pc = .ok (.invokestatic idx, 3)) (ct : ∀ r, mf = some r → CT y cc' nL' ret' fr' lo' mc' ms' As σ δ (an r))
    (kk : ∀ r, SJ (f r) P (J (pc + 3) L ((an r).1.toList ++ st) (β.1 - mc', β.2 - ms') (an r).2.1 (an r).2.2)) : SJ (mf.bind f) P (J pc L (As.reverse ++ st) β σ δ) := by
  refine sj_bind fun r hr => sj (fun k' => ?_) (kk r)
  have hct := ct r hr
  obtain ⟨⟨hw1, hw2, hw4, hw5⟩, hy1, hy2, hyn⟩ := ml
  obtain ⟨p, l, e, R, s, m, args, below, meth, c, D, tc, A, ad0, n0, mc, ms, Q, ⟨hx, hb, hml, hown, hts, hK, hA, hfR, hlR, hRc, hRs, hro, hnm, htr⟩, rfl⟩ := hJ
  intro ad H ls locs cells slots h1 h2 h3 hL hst h4 hl hP hD hS hc hs
  have hstr : ∀ v ∈ st, wfv (sn σ) v := fun v hv => hst v (List.mem_append_right _ hv)
  have hwA : ∀ x ∈ As, wfv (sn σ) x := fun x hx => hst x (List.mem_append_left _ (List.mem_reverse.mpr hx))
  have hM := hct l D tc ad H.size htr h3 h4 hwA
  have hadr : ad (roB + 1) = ad0 (roB + 1) := h1 _ (Or.inr (Nat.le_succ _))
  have hfA : ∀ q, va_A (wld ad tc σ δ) H.size q → A q := by
    intro q hq
    rcases hq with ⟨i, e9, he⟩ | hq
    · exact hD.2 i _ he
    · exact hA q (Nat.le_trans hS.1 hq)
  have hgi : GoodIn lwg (.code y cc' nL' ret' :: lwg) := lwg_in (by
      intro w hw
      rcases List.mem_cons.mp hw with rfl | hw
      · exact hw5
      · exact hw)
  have hcb : va_CN R s args own idx y "Tellcourt" cc' nL' ret' (.code y cc' nL' ret' :: lwg) { frames := fr', cells := mc', slots := ms', locals := lo' } mc' ms' As.length := va_cnB As.length hts hgi rfl rfl rfl (hro.2.1.1 _ hw1) (hts _ hw4) ⟨hy1, hy2, hyn⟩ ⟨Nat.le_trans hfr hfR, Nat.le_trans hlo hlR⟩
  have hrun := va_runSN (As := As.map (cv ad)) (rest := st.map (cv ad)) (H := H) (locs := locs) (cells := cells) (slots := slots) (g := F0 m pc ls ((As.reverse ++ st).map (cv ad))) (R := R) (e := e) (below := below) (meth := meth) ⟨hx, hb, hml, hown, hts⟩ hM
    ⟨hcb, hts _ hw2, trivial⟩
    ⟨PcT_blind, fun U hU hW => ⟨rfl, by rw [hU], ⟨by rw [hU]; exact hP, va_K.moved hW.alike hK, hD.weaken (fun _ _ _ _ => trivial)⟩, ROf_to hro hadr hU hW hfA hS⟩⟩
    rfl (by rw [List.length_map]) hl.1 (by simp [List.map_append, List.map_reverse]) (lv_room (by rw [cat_cv]; exact hrest)) d ⟨by rw [hRc]; omega, by rw [hRs]; omega⟩
  exact run_J h1 h2 hL hstr hl hD hS hc hs hA hb1 hb2 hrun k'
theorem sj_callSNi {cc : ByteArray} {nL : Nat} {own nm : String} {fr lo : Nat} {J : JT} (hJ : Cor cc nL own nm fr lo J) {pc : Nat} {L : List (Nat × Value)} {st : List Value} {β : Bu} {σ : St} {δ : Dy} {ρ : Type} {P : ρ → Prop} {mf : Option (Int32 × Dy)} {f : Int32 × Dy → Option ρ}
    {idx : Nat} {y : MethodName} {cc' : ByteArray} {nL' : Nat} {ret' : Option FieldType} {fr' lo' : Nat} (As : List Value) (ml : MLSN own idx y cc' nL' ret' As.length) (hfr : fr' + 1 ≤ fr) (hlo : 8 + (nL' + 11) + lo' ≤ lo) (hrest : (st.map fun v => v.category).sum ≤ 8)
    (d : decode cc pc = .ok (.invokestatic idx, 3)) {stk : List Value} (hstk : stk = As.reverse ++ st) (ct : ∀ r, mf = some r → CT y cc' nL' ret' fr' lo' 0 0 As σ δ ((some (.int r.1)), σ, r.2))
    (kk : ∀ r : Int32 × Dy, SJ (f r) P (J (pc + 3) L (.int r.1 :: st) β σ r.2)) : SJ (mf.bind f) P (J pc L stk β σ δ) := by
  subst hstk
  exact sj_callSN hJ (fun r => ((some (.int r.1)), σ, r.2)) ml hfr hlo hrest (Nat.zero_le _) (Nat.zero_le _) d ct kk
theorem sj_callVip {cc : ByteArray} {nL : Nat} {own nm : String} {fr lo : Nat} {J : JT} (hJ : Cor cc nL own nm fr lo J) {pc : Nat} {L : List (Nat × Value)} {st : List Value} {β : Bu} {σ : St} {δ : Dy} {ρ : Type} {P : ρ → Prop} {mf : Option (Int32)} {f : Int32 → Option ρ}
    {idx : Nat} {y : MethodName} {cc' : ByteArray} {nL' : Nat} {ret' : Option FieldType} {fr' lo' : Nat} (As : List Value) {b ci : Nat} (ml : MLV own idx y cc' nL' ret' As.length) (hcl : tkCl[ci]? = some (clC ci) ∧ (clC ci).1 = y.cls ∧ ci < 100) (hfr : fr' + 1 ≤ fr) (hlo : 8 + (nL' + 11) + lo' ≤ lo) (hrest : (st.map fun v => v.category).sum ≤ 8)
    (d : decode cc pc = .ok (.invokevirtual idx, 3)) {stk : List Value} (hstk : stk = As.reverse ++ .ref b :: st) (ct : ∀ r, mf = some r → CT y cc' nL' ret' fr' lo' 0 0 (.ref b :: As) σ δ ((some (.int r)), σ, δ))
    (kk : ∀ r : Int32, SJ (f r) P (J (pc + 3) L (.int r :: st) β σ δ)) : SJ ((chk σ ci b).bind fun _ => mf.bind f) P (J pc L stk β σ δ) := by
  subst hstk
  exact sj_callV hJ (fun r => ((some (.int r)), σ, δ)) ml hcl hfr hlo hrest (Nat.zero_le _) (Nat.zero_le _) d ct kk
theorem sj_callSip {cc : ByteArray} {nL : Nat} {own nm : String} {fr lo : Nat} {J : JT} (hJ : Cor cc nL own nm fr lo J) {pc : Nat} {L : List (Nat × Value)} {st : List Value} {β : Bu} {σ : St} {δ : Dy} {ρ : Type} {P : ρ → Prop} {mf : Option (Int32)} {f : Int32 → Option ρ}
    {idx : Nat} {y : MethodName} {cc' : ByteArray} {nL' : Nat} {ret' : Option FieldType} {fr' lo' : Nat} (As : List Value) (ml : MLS own idx y cc' nL' ret' As.length) (hfr : fr' + 1 ≤ fr) (hlo : 8 + (nL' + 11) + lo' ≤ lo) (hrest : (st.map fun v => v.category).sum ≤ 8)
    (d : decode cc pc = .ok (.invokestatic idx, 3)) {stk : List Value} (hstk : stk = As.reverse ++ st) (ct : ∀ r, mf = some r → CT y cc' nL' ret' fr' lo' 0 0 As σ δ ((some (.int r)), σ, δ))
    (kk : ∀ r : Int32, SJ (f r) P (J (pc + 3) L (.int r :: st) β σ δ)) : SJ (mf.bind f) P (J pc L stk β σ δ) := by
  subst hstk
  exact sj_callS hJ (fun r => ((some (.int r)), σ, δ)) ml hfr hlo hrest (Nat.zero_le _) (Nat.zero_le _) d ct kk
theorem sj_callSNip {cc : ByteArray} {nL : Nat} {own nm : String} {fr lo : Nat} {J : JT} (hJ : Cor cc nL own nm fr lo J) {pc : Nat} {L : List (Nat × Value)} {st : List Value} {β : Bu} {σ : St} {δ : Dy} {ρ : Type} {P : ρ → Prop} {mf : Option (Int32)} {f : Int32 → Option ρ}
    {idx : Nat} {y : MethodName} {cc' : ByteArray} {nL' : Nat} {ret' : Option FieldType} {fr' lo' : Nat} (As : List Value) (ml : MLSN own idx y cc' nL' ret' As.length) (hfr : fr' + 1 ≤ fr) (hlo : 8 + (nL' + 11) + lo' ≤ lo) (hrest : (st.map fun v => v.category).sum ≤ 8)
    (d : decode cc pc = .ok (.invokestatic idx, 3)) {stk : List Value} (hstk : stk = As.reverse ++ st) (ct : ∀ r, mf = some r → CT y cc' nL' ret' fr' lo' 0 0 As σ δ ((some (.int r)), σ, δ))
    (kk : ∀ r : Int32, SJ (f r) P (J (pc + 3) L (.int r :: st) β σ δ)) : SJ (mf.bind f) P (J pc L stk β σ δ) := by
  subst hstk
  exact sj_callSN hJ (fun r => ((some (.int r)), σ, δ)) ml hfr hlo hrest (Nat.zero_le _) (Nat.zero_le _) d ct kk
theorem sj_callSNl {cc : ByteArray} {nL : Nat} {own nm : String} {fr lo : Nat} {J : JT} (hJ : Cor cc nL own nm fr lo J) {pc : Nat} {L : List (Nat × Value)} {st : List Value} {β : Bu} {σ : St} {δ : Dy} {ρ : Type} {P : ρ → Prop} {mf : Option (Int64 × Dy)} {f : Int64 × Dy → Option ρ}
    {idx : Nat} {y : MethodName} {cc' : ByteArray} {nL' : Nat} {ret' : Option FieldType} {fr' lo' : Nat} (As : List Value) (ml : MLSN own idx y cc' nL' ret' As.length) (hfr : fr' + 1 ≤ fr) (hlo : 8 + (nL' + 11) + lo' ≤ lo) (hrest : (st.map fun v => v.category).sum ≤ 8)
    (d : decode cc pc = .ok (.invokestatic idx, 3)) {stk : List Value} (hstk : stk = As.reverse ++ st) (ct : ∀ r, mf = some r → CT y cc' nL' ret' fr' lo' 0 0 As σ δ ((some (.long r.1)), σ, r.2))
    (kk : ∀ r : Int64 × Dy, SJ (f r) P (J (pc + 3) L (.long r.1 :: st) β σ r.2)) : SJ (mf.bind f) P (J pc L stk β σ δ) := by
  subst hstk
  exact sj_callSN hJ (fun r => ((some (.long r.1)), σ, r.2)) ml hfr hlo hrest (Nat.zero_le _) (Nat.zero_le _) d ct kk
theorem sj_callVlp {cc : ByteArray} {nL : Nat} {own nm : String} {fr lo : Nat} {J : JT} (hJ : Cor cc nL own nm fr lo J) {pc : Nat} {L : List (Nat × Value)} {st : List Value} {β : Bu} {σ : St} {δ : Dy} {ρ : Type} {P : ρ → Prop} {mf : Option (Int64)} {f : Int64 → Option ρ}
    {idx : Nat} {y : MethodName} {cc' : ByteArray} {nL' : Nat} {ret' : Option FieldType} {fr' lo' : Nat} (As : List Value) {b ci : Nat} (ml : MLV own idx y cc' nL' ret' As.length) (hcl : tkCl[ci]? = some (clC ci) ∧ (clC ci).1 = y.cls ∧ ci < 100) (hfr : fr' + 1 ≤ fr) (hlo : 8 + (nL' + 11) + lo' ≤ lo) (hrest : (st.map fun v => v.category).sum ≤ 8)
    (d : decode cc pc = .ok (.invokevirtual idx, 3)) {stk : List Value} (hstk : stk = As.reverse ++ .ref b :: st) (ct : ∀ r, mf = some r → CT y cc' nL' ret' fr' lo' 0 0 (.ref b :: As) σ δ ((some (.long r)), σ, δ))
    (kk : ∀ r : Int64, SJ (f r) P (J (pc + 3) L (.long r :: st) β σ δ)) : SJ ((chk σ ci b).bind fun _ => mf.bind f) P (J pc L stk β σ δ) := by
  subst hstk
  exact sj_callV hJ (fun r => ((some (.long r)), σ, δ)) ml hcl hfr hlo hrest (Nat.zero_le _) (Nat.zero_le _) d ct kk
theorem sj_callSlp {cc : ByteArray} {nL : Nat} {own nm : String} {fr lo : Nat} {J : JT} (hJ : Cor cc nL own nm fr lo J) {pc : Nat} {L : List (Nat × Value)} {st : List Value} {β : Bu} {σ : St} {δ : Dy} {ρ : Type} {P : ρ → Prop} {mf : Option (Int64)} {f : Int64 → Option ρ}
    {idx : Nat} {y : MethodName} {cc' : ByteArray} {nL' : Nat} {ret' : Option FieldType} {fr' lo' : Nat} (As : List Value) (ml : MLS own idx y cc' nL' ret' As.length) (hfr : fr' + 1 ≤ fr) (hlo : 8 + (nL' + 11) + lo' ≤ lo) (hrest : (st.map fun v => v.category).sum ≤ 8)
    (d : decode cc pc = .ok (.invokestatic idx, 3)) {stk : List Value} (hstk : stk = As.reverse ++ st) (ct : ∀ r, mf = some r → CT y cc' nL' ret' fr' lo' 0 0 As σ δ ((some (.long r)), σ, δ))
    (kk : ∀ r : Int64, SJ (f r) P (J (pc + 3) L (.long r :: st) β σ δ)) : SJ (mf.bind f) P (J pc L stk β σ δ) := by
  subst hstk
  exact sj_callS hJ (fun r => ((some (.long r)), σ, δ)) ml hfr hlo hrest (Nat.zero_le _) (Nat.zero_le _) d ct kk
theorem sj_callSNlp {cc : ByteArray} {nL : Nat} {own nm : String} {fr lo : Nat} {J : JT} (hJ : Cor cc nL own nm fr lo J) {pc : Nat} {L : List (Nat × Value)} {st : List Value} {β : Bu} {σ : St} {δ : Dy} {ρ : Type} {P : ρ → Prop} {mf : Option (Int64)} {f : Int64 → Option ρ}
    {idx : Nat} {y : MethodName} {cc' : ByteArray} {nL' : Nat} {ret' : Option FieldType} {fr' lo' : Nat} (As : List Value) (ml : MLSN own idx y cc' nL' ret' As.length) (hfr : fr' + 1 ≤ fr) (hlo : 8 + (nL' + 11) + lo' ≤ lo) (hrest : (st.map fun v => v.category).sum ≤ 8)
    (d : decode cc pc = .ok (.invokestatic idx, 3)) {stk : List Value} (hstk : stk = As.reverse ++ st) (ct : ∀ r, mf = some r → CT y cc' nL' ret' fr' lo' 0 0 As σ δ ((some (.long r)), σ, δ))
    (kk : ∀ r : Int64, SJ (f r) P (J (pc + 3) L (.long r :: st) β σ δ)) : SJ (mf.bind f) P (J pc L stk β σ δ) := by
  subst hstk
  exact sj_callSN hJ (fun r => ((some (.long r)), σ, δ)) ml hfr hlo hrest (Nat.zero_le _) (Nat.zero_le _) d ct kk
theorem sj_callSNa {cc : ByteArray} {nL : Nat} {own nm : String} {fr lo : Nat} {J : JT} (hJ : Cor cc nL own nm fr lo J) {pc : Nat} {L : List (Nat × Value)} {st : List Value} {β : Bu} {σ : St} {δ : Dy} {ρ : Type} {P : ρ → Prop} {mf : Option (Nat × Dy)} {f : Nat × Dy → Option ρ}
    {idx : Nat} {y : MethodName} {cc' : ByteArray} {nL' : Nat} {ret' : Option FieldType} {fr' lo' : Nat} (As : List Value) (ml : MLSN own idx y cc' nL' ret' As.length) (hfr : fr' + 1 ≤ fr) (hlo : 8 + (nL' + 11) + lo' ≤ lo) (hrest : (st.map fun v => v.category).sum ≤ 8)
    (d : decode cc pc = .ok (.invokestatic idx, 3)) {stk : List Value} (hstk : stk = As.reverse ++ st) (ct : ∀ r, mf = some r → CT y cc' nL' ret' fr' lo' 0 0 As σ δ ((some (.ref r.1)), σ, r.2))
    (kk : ∀ r : Nat × Dy, SJ (f r) P (J (pc + 3) L (.ref r.1 :: st) β σ r.2)) : SJ (mf.bind f) P (J pc L stk β σ δ) := by
  subst hstk
  exact sj_callSN hJ (fun r => ((some (.ref r.1)), σ, r.2)) ml hfr hlo hrest (Nat.zero_le _) (Nat.zero_le _) d ct kk
theorem sj_callVap {cc : ByteArray} {nL : Nat} {own nm : String} {fr lo : Nat} {J : JT} (hJ : Cor cc nL own nm fr lo J) {pc : Nat} {L : List (Nat × Value)} {st : List Value} {β : Bu} {σ : St} {δ : Dy} {ρ : Type} {P : ρ → Prop} {mf : Option (Nat)} {f : Nat → Option ρ}
    {idx : Nat} {y : MethodName} {cc' : ByteArray} {nL' : Nat} {ret' : Option FieldType} {fr' lo' : Nat} (As : List Value) {b ci : Nat} (ml : MLV own idx y cc' nL' ret' As.length) (hcl : tkCl[ci]? = some (clC ci) ∧ (clC ci).1 = y.cls ∧ ci < 100) (hfr : fr' + 1 ≤ fr) (hlo : 8 + (nL' + 11) + lo' ≤ lo) (hrest : (st.map fun v => v.category).sum ≤ 8)
    (d : decode cc pc = .ok (.invokevirtual idx, 3)) {stk : List Value} (hstk : stk = As.reverse ++ .ref b :: st) (ct : ∀ r, mf = some r → CT y cc' nL' ret' fr' lo' 0 0 (.ref b :: As) σ δ ((some (.ref r)), σ, δ))
    (kk : ∀ r : Nat, SJ (f r) P (J (pc + 3) L (.ref r :: st) β σ δ)) : SJ ((chk σ ci b).bind fun _ => mf.bind f) P (J pc L stk β σ δ) := by
  subst hstk
  exact sj_callV hJ (fun r => ((some (.ref r)), σ, δ)) ml hcl hfr hlo hrest (Nat.zero_le _) (Nat.zero_le _) d ct kk
theorem sj_callSap {cc : ByteArray} {nL : Nat} {own nm : String} {fr lo : Nat} {J : JT} (hJ : Cor cc nL own nm fr lo J) {pc : Nat} {L : List (Nat × Value)} {st : List Value} {β : Bu} {σ : St} {δ : Dy} {ρ : Type} {P : ρ → Prop} {mf : Option (Nat)} {f : Nat → Option ρ}
    {idx : Nat} {y : MethodName} {cc' : ByteArray} {nL' : Nat} {ret' : Option FieldType} {fr' lo' : Nat} (As : List Value) (ml : MLS own idx y cc' nL' ret' As.length) (hfr : fr' + 1 ≤ fr) (hlo : 8 + (nL' + 11) + lo' ≤ lo) (hrest : (st.map fun v => v.category).sum ≤ 8)
    (d : decode cc pc = .ok (.invokestatic idx, 3)) {stk : List Value} (hstk : stk = As.reverse ++ st) (ct : ∀ r, mf = some r → CT y cc' nL' ret' fr' lo' 0 0 As σ δ ((some (.ref r)), σ, δ))
    (kk : ∀ r : Nat, SJ (f r) P (J (pc + 3) L (.ref r :: st) β σ δ)) : SJ (mf.bind f) P (J pc L stk β σ δ) := by
  subst hstk
  exact sj_callS hJ (fun r => ((some (.ref r)), σ, δ)) ml hfr hlo hrest (Nat.zero_le _) (Nat.zero_le _) d ct kk
theorem sj_callSNap {cc : ByteArray} {nL : Nat} {own nm : String} {fr lo : Nat} {J : JT} (hJ : Cor cc nL own nm fr lo J) {pc : Nat} {L : List (Nat × Value)} {st : List Value} {β : Bu} {σ : St} {δ : Dy} {ρ : Type} {P : ρ → Prop} {mf : Option (Nat)} {f : Nat → Option ρ}
    {idx : Nat} {y : MethodName} {cc' : ByteArray} {nL' : Nat} {ret' : Option FieldType} {fr' lo' : Nat} (As : List Value) (ml : MLSN own idx y cc' nL' ret' As.length) (hfr : fr' + 1 ≤ fr) (hlo : 8 + (nL' + 11) + lo' ≤ lo) (hrest : (st.map fun v => v.category).sum ≤ 8)
    (d : decode cc pc = .ok (.invokestatic idx, 3)) {stk : List Value} (hstk : stk = As.reverse ++ st) (ct : ∀ r, mf = some r → CT y cc' nL' ret' fr' lo' 0 0 As σ δ ((some (.ref r)), σ, δ))
    (kk : ∀ r : Nat, SJ (f r) P (J (pc + 3) L (.ref r :: st) β σ δ)) : SJ (mf.bind f) P (J pc L stk β σ δ) := by
  subst hstk
  exact sj_callSN hJ (fun r => ((some (.ref r)), σ, δ)) ml hfr hlo hrest (Nat.zero_le _) (Nat.zero_le _) d ct kk
theorem sj_callSNv {cc : ByteArray} {nL : Nat} {own nm : String} {fr lo : Nat} {J : JT} (hJ : Cor cc nL own nm fr lo J) {pc : Nat} {L : List (Nat × Value)} {st : List Value} {β : Bu} {σ : St} {δ : Dy} {ρ : Type} {P : ρ → Prop} {mf : Option (Dy)} {f : Dy → Option ρ}
    {idx : Nat} {y : MethodName} {cc' : ByteArray} {nL' : Nat} {ret' : Option FieldType} {fr' lo' : Nat} (As : List Value) (ml : MLSN own idx y cc' nL' ret' As.length) (hfr : fr' + 1 ≤ fr) (hlo : 8 + (nL' + 11) + lo' ≤ lo) (hrest : (st.map fun v => v.category).sum ≤ 8)
    (d : decode cc pc = .ok (.invokestatic idx, 3)) {stk : List Value} (hstk : stk = As.reverse ++ st) (ct : ∀ r, mf = some r → CT y cc' nL' ret' fr' lo' 0 0 As σ δ (none, σ, r))
    (kk : ∀ r : Dy, SJ (f r) P (J (pc + 3) L (st) β σ r)) : SJ (mf.bind f) P (J pc L stk β σ δ) := by
  subst hstk
  exact sj_callSN hJ (fun r => (none, σ, r)) ml hfr hlo hrest (Nat.zero_le _) (Nat.zero_le _) d ct kk
theorem sj_callVvp {cc : ByteArray} {nL : Nat} {own nm : String} {fr lo : Nat} {J : JT} (hJ : Cor cc nL own nm fr lo J) {pc : Nat} {L : List (Nat × Value)} {st : List Value} {β : Bu} {σ : St} {δ : Dy} {ρ : Type} {P : ρ → Prop} {mf : Option (Unit)} {f : Unit → Option ρ}
    {idx : Nat} {y : MethodName} {cc' : ByteArray} {nL' : Nat} {ret' : Option FieldType} {fr' lo' : Nat} (As : List Value) {b ci : Nat} (ml : MLV own idx y cc' nL' ret' As.length) (hcl : tkCl[ci]? = some (clC ci) ∧ (clC ci).1 = y.cls ∧ ci < 100) (hfr : fr' + 1 ≤ fr) (hlo : 8 + (nL' + 11) + lo' ≤ lo) (hrest : (st.map fun v => v.category).sum ≤ 8)
    (d : decode cc pc = .ok (.invokevirtual idx, 3)) {stk : List Value} (hstk : stk = As.reverse ++ .ref b :: st) (ct : ∀ r, mf = some r → CT y cc' nL' ret' fr' lo' 0 0 (.ref b :: As) σ δ (none, σ, δ))
    (kk : ∀ r : Unit, SJ (f r) P (J (pc + 3) L (st) β σ δ)) : SJ ((chk σ ci b).bind fun _ => mf.bind f) P (J pc L stk β σ δ) := by
  subst hstk
  exact sj_callV hJ (fun r => (none, σ, δ)) ml hcl hfr hlo hrest (Nat.zero_le _) (Nat.zero_le _) d ct kk
theorem sj_callSvp {cc : ByteArray} {nL : Nat} {own nm : String} {fr lo : Nat} {J : JT} (hJ : Cor cc nL own nm fr lo J) {pc : Nat} {L : List (Nat × Value)} {st : List Value} {β : Bu} {σ : St} {δ : Dy} {ρ : Type} {P : ρ → Prop} {mf : Option (Unit)} {f : Unit → Option ρ}
    {idx : Nat} {y : MethodName} {cc' : ByteArray} {nL' : Nat} {ret' : Option FieldType} {fr' lo' : Nat} (As : List Value) (ml : MLS own idx y cc' nL' ret' As.length) (hfr : fr' + 1 ≤ fr) (hlo : 8 + (nL' + 11) + lo' ≤ lo) (hrest : (st.map fun v => v.category).sum ≤ 8)
    (d : decode cc pc = .ok (.invokestatic idx, 3)) {stk : List Value} (hstk : stk = As.reverse ++ st) (ct : ∀ r, mf = some r → CT y cc' nL' ret' fr' lo' 0 0 As σ δ (none, σ, δ))
    (kk : ∀ r : Unit, SJ (f r) P (J (pc + 3) L (st) β σ δ)) : SJ (mf.bind f) P (J pc L stk β σ δ) := by
  subst hstk
  exact sj_callS hJ (fun r => (none, σ, δ)) ml hfr hlo hrest (Nat.zero_le _) (Nat.zero_le _) d ct kk
theorem sj_callSNvp {cc : ByteArray} {nL : Nat} {own nm : String} {fr lo : Nat} {J : JT} (hJ : Cor cc nL own nm fr lo J) {pc : Nat} {L : List (Nat × Value)} {st : List Value} {β : Bu} {σ : St} {δ : Dy} {ρ : Type} {P : ρ → Prop} {mf : Option (Unit)} {f : Unit → Option ρ}
    {idx : Nat} {y : MethodName} {cc' : ByteArray} {nL' : Nat} {ret' : Option FieldType} {fr' lo' : Nat} (As : List Value) (ml : MLSN own idx y cc' nL' ret' As.length) (hfr : fr' + 1 ≤ fr) (hlo : 8 + (nL' + 11) + lo' ≤ lo) (hrest : (st.map fun v => v.category).sum ≤ 8)
    (d : decode cc pc = .ok (.invokestatic idx, 3)) {stk : List Value} (hstk : stk = As.reverse ++ st) (ct : ∀ r, mf = some r → CT y cc' nL' ret' fr' lo' 0 0 As σ δ (none, σ, δ))
    (kk : ∀ r : Unit, SJ (f r) P (J (pc + 3) L (st) β σ δ)) : SJ (mf.bind f) P (J pc L stk β σ δ) := by
  subst hstk
  exact sj_callSN hJ (fun r => (none, σ, δ)) ml hfr hlo hrest (Nat.zero_le _) (Nat.zero_le _) d ct kk
