/-! BASE. The pure memory: St = what is fixed once made (kind, length, references, how many), Dy = the numbers. References are places 0, 1, .. in the order of making; 'ad' says where each lies in the heap. -/
abbrev St : Type := (Nat → Nat) × (Nat → Nat) × (Nat → Nat → Option Nat) × Nat
abbrev Dy : Type := (Nat → Nat → Int32) × (Nat → Nat → Int64)
abbrev Bu : Type := Nat × Nat
def skd (σ : St) (i : Nat) : Nat := σ.1 i
def sln (σ : St) (i : Nat) : Nat := σ.2.1 i
def srv (σ : St) (i k : Nat) : Option Nat := σ.2.2.1 i k
def sn (σ : St) : Nat := σ.2.2.2
def roB : Nat := 1000000000
def u2 {α : Type} (f : Nat → Nat → α) (i k : Nat) (x : α) : Nat → Nat → α := fun a b => if a = i ∧ b = k then x else f a b
abbrev tkCl : List vw_C := [(RX0, TX0, 4), (RX1, TX1, 5), (RX2, TX2, 2), (RX3, TX3, 9), (RX4, TX4, 11), (RX5, TX5, 7), (RX6, TX6, 10), (RX7, TX7, 12), (RX8, TX8, 13), (RX9, TX9, 6), (RX10, TX10, 12), (RX11, TX11, 8)]
def clC (c : Nat) : vw_C := tkCl.getD c (RX0, TX0, 0)
def fcode (d : String) : Nat := if d = "I" then 0 else if d = "Z" then 1 else if d = "J" then 2 else 3
def wfv (n : Nat) (v : Value) : Prop := match v with
  | .ref i => i < n ∨ roB ≤ i
  | _ => True
def cv (ad : Nat → Nat) (v : Value) : Value := match v with
  | .ref i => .ref (ad i)
  | v => v
def cL (ad : Nat → Nat) (L : List (Nat × Value)) : List (Nat × Value) := L.map (fun q => (q.1, cv ad q.2))
theorem cv_cat (ad : Nat → Nat) (v : Value) : (cv ad v).category = v.category := by cases v <;> rfl
def rfv (r : Option Nat) : Value := match r with
  | none => .null
  | some a => .ref a
/-- the value of field k, by its kind -/
def fval (ad : Nat → Nat) (σ : St) (δ : Dy) (i k t : Nat) : Value := match t with
  | 0 => .int (δ.1 i k)
  | 1 => .int (δ.1 i k)
  | 2 => .long (δ.2 i k)
  | _ => va_rf ((srv σ i k).map ad)
def acon (ad : Nat → Nat) (σ : St) (δ : Dy) (i t : Nat) : vp_A := match t with
  | 100 => (sln σ i, .inl (δ.1 i))
  | 101 => (sln σ i, .inl (δ.1 i))
  | 102 => (sln σ i, .inr (.inl (δ.2 i)))
  | _ => (sln σ i, .inr (.inr (.inr (.inr (fun j => (srv σ i j).map ad)))))
def cel (ad : Nat → Nat) (tc : Nat → ClassId) (σ : St) (δ : Dy) (i : Nat) : va_E :=
  if skd σ i < 100 then .inr (skd σ i, (List.range (clC (skd σ i)).2.2).map (fun k => fval ad σ δ i k (fcode ((clC (skd σ i)).2.1 k).2.2.1)))
  else .inl (tc (skd σ i), acon ad σ δ i (skd σ i))
def wld (ad : Nat → Nat) (tc : Nat → ClassId) (σ : St) (δ : Dy) : va_W := (List.range (sn σ)).map (fun i => (ad i, cel ad tc σ δ i))
theorem wld_get {ad : Nat → Nat} {tc : Nat → ClassId} {σ : St} {δ : Dy} {i : Nat} (h : i < sn σ) : (wld ad tc σ δ)[i]? = some (ad i, cel ad tc σ δ i) := by
  simp [wld, List.getElem?_map, List.getElem?_range h]
theorem wld_len {ad : Nat → Nat} {tc : Nat → ClassId} {σ : St} {δ : Dy} : (wld ad tc σ δ).length = sn σ := by simp [wld]
theorem wld_inv {ad : Nat → Nat} {tc : Nat → ClassId} {σ : St} {δ : Dy} {i : Nat} {q : Nat × va_E} (h : (wld ad tc σ δ)[i]? = some q) : i < sn σ ∧ q = (ad i, cel ad tc σ δ i) := by
  have h1 : i < (wld ad tc σ δ).length := (List.getElem?_eq_some_iff.mp h).1
  rw [wld_len] at h1
  rw [wld_get h1] at h
  exact ⟨h1, (Option.some.inj h).symm⟩
theorem wld_set {ad : Nat → Nat} {tc : Nat → ClassId} {σ σ' : St} {δ δ' : Dy} {i : Nat} {e : va_E} (hn : sn σ' = sn σ) (hi : cel ad tc σ' δ' i = e) (hj : ∀ j, j ≠ i → cel ad tc σ' δ' j = cel ad tc σ δ j) : (wld ad tc σ δ).set i (ad i, e) = wld ad tc σ' δ' := by
  apply List.ext_getElem?
  intro j
  by_cases hjn : j < sn σ
  · rw [wld_get (by rw [hn]; exact hjn), List.getElem?_set, wld_len]
    by_cases hji : i = j
    · subst hji
      simp [hjn, hi]
    · rw [if_neg hji, wld_get hjn, hj j (fun h => hji h.symm)]
  · rw [List.getElem?_eq_none (by rw [List.length_set, wld_len]; omega), List.getElem?_eq_none (by rw [wld_len, hn]; omega)]
theorem wld_push {ad ad' : Nat → Nat} {tc : Nat → ClassId} {σ σ' : St} {δ δ' : Dy} {e : va_E} {q : Nat} (hn : sn σ' = sn σ + 1) (hq : ad' (sn σ) = q) (he : cel ad' tc σ' δ' (sn σ) = e) (ha : ∀ j, j < sn σ → ad' j = ad j) (hj : ∀ j, j < sn σ → cel ad' tc σ' δ' j = cel ad tc σ δ j) : wld ad tc σ δ ++ [(q, e)] = wld ad' tc σ' δ' := by
  apply List.ext_getElem?
  intro j
  by_cases hjn : j < sn σ
  · rw [List.getElem?_append_left (by rw [wld_len]; exact hjn), wld_get hjn, wld_get (by omega), ha j hjn, hj j hjn]
  · rw [List.getElem?_append_right (by rw [wld_len]; omega), wld_len]
    by_cases hje : j = sn σ
    · subst hje
      rw [wld_get (by omega), hq, he]
      simp
    · rw [List.getElem?_eq_none (by simp; omega), List.getElem?_eq_none (by rw [wld_len]; omega)]
theorem range_set {α : Type} (n k : Nat) (g g' : Nat → α) (v : α) (hk : g' k = v) (hj : ∀ j, j ≠ k → g' j = g j) : ((List.range n).map g).set k v = (List.range n).map g' := by
  apply List.ext_getElem?
  intro j
  rw [List.getElem?_set]
  by_cases hjn : j < n
  · by_cases hkj : k = j
    · subst hkj
      simp [hjn, hk]
    · rw [if_neg hkj]
      simp [List.getElem?_map, List.getElem?_range hjn, hj j (fun h => hkj h.symm)]
  · by_cases hkj : k = j
    · subst hkj
      simp [hjn]
    · rw [if_neg hkj, List.getElem?_eq_none (by simp; omega), List.getElem?_eq_none (by simp; omega)]
/-- the array classes -/
def tysOf (tc : Nat → ClassId) : List (ClassId × FieldType) := [(tc 100, .int), (tc 101, .boolean), (tc 102, .long), (tc 103, .object RX4), (tc 104, .object RX7), (tc 105, .object RX3)]
def wfm (σ : St) : Prop := ∀ i k q, srv σ i k = some q → q < sn σ
def prm (j : Nat) : Int32 := match j with
  | 0 => 2
  | 1 => 3
  | 2 => 5
  | 3 => 7
  | 4 => 11
  | 5 => 13
  | _ => 17
def nestL : List (String × Nat × MethodName) := [(RX11, 9, yX5_init), (RX11, 24, yX9_init), (RX11, 33, yX7_init), (RX10, 11, yX8_init), (RX10, 20, yX2_init), (RX10, 40, yX0_init), (RX6, 39, yX3_init), (RX10, 58, yX4_init), (RX6, 166, yX11_isSlot), (RX0, 19, yX11_isSlot)]
def xN : List String := ["java/lang/IllegalStateException", "java/lang/IllegalArgumentException", "java/lang/IndexOutOfBoundsException"]
def declL : List MethodName := [⟨"java/lang/RuntimeException", "<init>", "()V"⟩, ⟨"java/lang/RuntimeException", "<init>", "(Ljava/lang/String;)V"⟩, ⟨"java/lang/Exception", "<init>", "()V"⟩, ⟨"java/lang/Exception", "<init>", "(Ljava/lang/String;)V"⟩, ⟨"java/lang/Throwable", "<init>", "()V"⟩, ⟨"java/lang/Throwable", "<init>", "(Ljava/lang/String;)V"⟩]
def strL : List (Nat × String) := [(62, "no variable can be made"), (315, "neither a value nor a slot"), (308, "there are as many nodes as there may be"), (310, "an argument is out of its range"), (302, "there is no such node"), (177, "there is no such variable"), (183, "neither a value nor a variable"), (188, "no agent can be begun"), (196, "no step can be done"), (218, "the store has failed"), (306, "there is no such token"), (270, "there is no such part")]
/-- words that stay, but not by the tables alone -/
def STA (U : State) : Prop := (∀ q ∈ nestL, va_Nw (.methodLinkNest q.1 q.2.1 q.2.2 "Tellcourt") U) ∧ (∀ q ∈ xN, va_Nw (.castable q q) U) ∧ (∀ q ∈ declL, va_Nw (.declares q) U) ∧ (∀ q ∈ strL, ∃ a, vk_R RX11 q.1 q.2 a U) ∧ (va_AO RX4 U ∧ va_AO RX7 U ∧ va_AO RX3 U) ∧ (∀ q ∈ ([] : List String), ∀ r ∈ xN, q ≠ r → va_Nc q r U)
theorem STA.warm {s U : State} (hW : s.WarmedH U.vm) (h : STA s) : STA U := by
  obtain ⟨h1, h2, h3, h4, ⟨h5, h6, h7⟩, h8⟩ := h
  exact ⟨fun q hq => va_Nw.warmM hW (h1 q hq), fun q hq => va_Nw.warmC hW (h2 q hq), fun q hq => va_Nw.warmD hW (h3 q hq), fun q hq => (h4 q hq).elim fun a ha => ⟨a, vk_R.warm hW ha⟩, ⟨va_AO.moved hW.alike h5, va_AO.moved hW.alike h6, va_AO.moved hW.alike h7⟩, fun q hq r hr hn => va_Nc.moved hW.alike (h8 q hq r hr hn)⟩
theorem STA.same {s U : State} (hv : s.vm = U.vm) (h : STA s) : STA U := by
  obtain ⟨h1, h2, h3, h4, ⟨h5, h6, h7⟩, h8⟩ := h
  have hal : s.vm.Alike U.vm := by rw [← hv]; exact Vm.Alike.refl _
  exact ⟨fun q hq => va_Nw.same rfl hv (h1 q hq), fun q hq => va_Nw.same rfl hv (h2 q hq), fun q hq => va_Nw.same rfl hv (h3 q hq), fun q hq => (h4 q hq).elim fun a ha => ⟨a, vk_R.same hv.symm ha⟩, ⟨va_AO.moved hal h5, va_AO.moved hal h6, va_AO.moved hal h7⟩, fun q hq r hr hn => va_Nc.moved hal (h8 q hq r hr hn)⟩
/-- what stands in the old heap and is read: the static array, what a throw needs -/
def ROf (ad : Nat → Nat) (A : Nat → Prop) (U : State) : Prop := (va_X (ad (roB + 1)) 7 prm U U.heap ∧ ad (roB + 1) < U.heap.size ∧ ¬ A (ad (roB + 1)) ∧ va_Z "Tellcourt$Draws" "PRIMES" "[I" (.ref (ad (roB + 1))) A U U.heap) ∧ STA U ∧ vx_Zq Bundle.tN "UNASSIGNED_STACK" Bundle.steD A U U.heap ∧ vx_Zq Bundle.tN "SUPPRESSED_SENTINEL" Bundle.listD A U U.heap
/-- the words of every method: the tables' -/
def lwg : List Cond := lw_tbl.filter goodWord
/-- a method with and without handlers -/
def wCode (y : MethodName) (cc : ByteArray) (nL : Nat) (ret : Option FieldType) (hh : Option (List (Nat × Nat × Nat × Nat))) : Cond := match hh with
  | none => .code y cc nL ret
  | some t => .codeWith y cc nL ret t
def wsT (y : MethodName) (cc : ByteArray) (nL : Nat) (ret : Option FieldType) (hh : Option (List (Nat × Nat × Nat × Nat))) : List Cond := wCode y cc nL ret hh :: lwg
/-- the judgement of one method's run, all of the machine hidden but pc, locals, stack, room left, memory -/
def Jdef (p : Program) (l : Launch) (e : Env) (R : Room) (s : State) (m : MethodId) (args : Array Value) (below : List Frame) (meth : Method) (c : Code) (D : va_G) (tc : Nat → ClassId) (A : Nat → Prop) (ad0 : Nat → Nat) (n0 nL mc ms : Nat) (Q : State → Prop) : Nat → List (Nat × Value) → List Value → Bu → St → Dy → Prop := fun pc L st β σ δ =>
  ∀ (ad : Nat → Nat) (H : Heap) (ls : Array Slot) (locs : List Loc) (cells slots : Nat), (∀ i, i < n0 ∨ roB ≤ i → ad i = ad0 i) → n0 ≤ sn σ → sn σ ≤ roB → (∀ q ∈ L, wfv (sn σ) q.2) → (∀ v ∈ st, wfv (sn σ) v) → wfm σ →
    lv_has ls nL (cL ad L) → va_P D tkCl (wld ad tc σ δ) H → va_D A (wld ad tc σ δ) → va_S A s.heap H locs → cells + β.1 = mc → slots + β.2 = ms →
    W p l e R s m args below meth c H locs cells slots Q (F0 m pc ls (st.map (cv ad)))
/-- the machine's facts that stay -/
def Fac (p : Program) (l : Launch) (s : State) (R : Room) (m : MethodId) (args : Array Value) (c : Code) (D : va_G) (tc : Nat → ClassId) (A : Nat → Prop) (ad0 : Nat → Nat) (cc : ByteArray) (nL : Nat) (own : String) (fr lo mc ms : Nat) (meth : Method) (nm : String) : Prop :=
  p.tables.exec = Jvm.exec ∧ c.code = cc ∧ c.maxLocals = nL ∧ s.vm.findClass own = some m.cls ∧ (∀ w ∈ lwg, w.before args s = true) ∧ va_K D tkCl (tysOf tc) s ∧ (∀ q, s.heap.size ≤ q → A q) ∧ fr ≤ R.frames ∧ lo ≤ R.locals ∧ R.cells = mc ∧ R.slots = ms ∧ ROf ad0 A s ∧ meth.name = nm ∧ l.stackTraces = false
abbrev JT : Type := Nat → List (Nat × Value) → List Value → Bu → St → Dy → Prop
def Cor (cc : ByteArray) (nL : Nat) (own nm : String) (fr lo : Nat) (J : JT) : Prop :=
  ∃ (p : Program) (l : Launch) (e : Env) (R : Room) (s : State) (m : MethodId) (args : Array Value) (below : List Frame) (meth : Method) (c : Code) (D : va_G) (tc : Nat → ClassId) (A : Nat → Prop) (ad0 : Nat → Nat) (n0 mc ms : Nat) (Q : State → Prop),
    Fac p l s R m args c D tc A ad0 cc nL own fr lo mc ms meth nm ∧ J = Jdef p l e R s m args below meth c D tc A ad0 n0 nL mc ms Q
/-- m's answer x, if it has one, and P x, give G -/
def SJ {ρ : Type} (m : Option ρ) (P : ρ → Prop) (G : Prop) : Prop := ∀ x, m = some x → P x → G
theorem sj {ρ : Type} {m : Option ρ} {P : ρ → Prop} {G G' : Prop} (h : G' → G) (k : SJ m P G') : SJ m P G := fun x hm hP => h (k x hm hP)
theorem sj_if {ρ : Type} {c : Prop} [Decidable c] {a b : Option ρ} {P : ρ → Prop} {G G1 G2 : Prop} (h : (c → G1) → (¬ c → G2) → G) (k1 : c → SJ a P G1) (k2 : ¬ c → SJ b P G2) : SJ (if c then a else b) P G := by
  intro x hm hP
  by_cases hc : c
  · rw [if_pos hc] at hm
    exact h (fun h1 => k1 h1 x hm hP) (fun h2 => absurd hc h2)
  · rw [if_neg hc] at hm
    exact h (fun h1 => absurd h1 hc) (fun h2 => k2 h2 x hm hP)
theorem sj_end {ρ : Type} {y : ρ} {P : ρ → Prop} {G : Prop} (h : P y → G) : SJ (some y) P G := fun x hm hP => by
  cases hm
  exact h hP
theorem sj_none {ρ : Type} {P : ρ → Prop} {G : Prop} : SJ (none : Option ρ) P G := fun x hm _ => by cases hm
theorem sj_map {ρ τ : Type} {m : Option ρ} {f : ρ → τ} {P : τ → Prop} {G : Prop} (k : SJ m (fun r => P (f r)) G) : SJ (m.bind fun r => some (f r)) P G := by
  intro x hm hP
  obtain ⟨r, hr, hx⟩ := Option.bind_eq_some_iff.mp hm
  cases hx
  exact k r hr hP
theorem sj_bind {ρ τ : Type} {m : Option τ} {f : τ → Option ρ} {P : ρ → Prop} {G : Prop} (k : ∀ r, m = some r → SJ (f r) P G) : SJ (m.bind f) P G := by
  intro x hm hP
  obtain ⟨r, hr, hx⟩ := Option.bind_eq_some_iff.mp hm
  exact k r hr x hx hP
/-- loops: a step goes on or is through -/
def lpF {σ ρ : Type} (f : σ → Option (σ ⊕ ρ)) (n : Nat) (s : σ) : Option ρ := match n with
  | 0 => none
  | n + 1 => match f s with
    | none => none
    | some (.inl s') => lpF f n s'
    | some (.inr r) => some r
def fuel : Nat := 18446744073709551616
def lp {σ ρ : Type} (f : σ → Option (σ ⊕ ρ)) (s : σ) : Option ρ := lpF f fuel s
def PL {σ ρ : Type} (G : σ → Prop) (P : ρ → Prop) : σ ⊕ ρ → Prop := fun x => match x with
  | .inl s => G s
  | .inr r => P r
theorem sj_lp {σ ρ : Type} {f : σ → Option (σ ⊕ ρ)} {P : ρ → Prop} {G : σ → Prop} (h : ∀ s, SJ (f s) (PL G P) (G s)) (s : σ) : SJ (lp f s) P (G s) := by
  have key : ∀ (n : Nat) (s : σ), SJ (lpF f n s) P (G s) := by
    intro n
    induction n with
    | zero => intro s x hm; cases hm
    | succ n ih =>
      intro s x hm hP
      unfold lpF at hm
      cases hf : f s with
      | none => rw [hf] at hm; cases hm
      | some y =>
        rw [hf] at hm
        cases y with
        | inl s' => exact h s (.inl s') hf (ih s' x hm hP)
        | inr r =>
          cases hm
          exact h s (.inr x) hf hP
  exact key fuel s
