/-! what a method that may throw answers; calls by kind -/
def ox_i (y : Int32 ⊕ Nat) : Option Value ⊕ Nat := match y with
  | .inl v => .inl (some (.int v))
  | .inr e => .inr e
def ox_a (y : Nat ⊕ Nat) : Option Value ⊕ Nat := match y with
  | .inl v => .inl (some (.ref v))
  | .inr e => .inr e
def ox_v (y : Unit ⊕ Nat) : Option Value ⊕ Nat := match y with
  | .inl _ => .inl none
  | .inr e => .inr e
def PXI (σ : St) (an : AX) : (Int32 ⊕ Nat) × Dy → Prop := fun y => an = (ox_i y.1, σ, y.2)
def PXA (σ : St) (an : AX) : (Nat ⊕ Nat) × Dy → Prop := fun y => an = (ox_a y.1, σ, y.2)
def PXV (σ : St) (an : AX) : (Unit ⊕ Nat) × Dy → Prop := fun y => an = (ox_v y.1, σ, y.2)
def PXIp (σ : St) (δ : Dy) (an : AX) : Int32 ⊕ Nat → Prop := fun y => an = (ox_i y, σ, δ)
def PXAp (σ : St) (δ : Dy) (an : AX) : Nat ⊕ Nat → Prop := fun y => an = (ox_a y, σ, δ)
def PXVp (σ : St) (δ : Dy) (an : AX) : Unit ⊕ Nat → Prop := fun y => an = (ox_v y, σ, δ)
/-- goes on with a value, or passes an exception on -/
def xel {α ρ : Type} (v : α ⊕ Nat) (g : α → Option ρ) (k : Nat → ρ) : Option ρ := match v with
  | .inl x => g x
  | .inr e => some (k e)
theorem sx_callVip {cc : ByteArray} {nL : Nat} {own nm : String} {fr lo : Nat} {J : JT} {an : AX} {ret : Option FieldType} (hI : IsX cc nL own nm fr lo ret an J) {pc : Nat} {L : List (Nat × Value)} {st : List Value} {β : Bu} {σ : St} {δ : Dy} {ρ : Type} {P : ρ → Prop} {mf : Option (Int32 ⊕ Nat)} {g : Int32 → Option ρ} {k : Nat → ρ}
    {idx : Nat} {y : MethodName} {cc' : ByteArray} {nL' : Nat} {ret' : Option FieldType} {fr' lo' : Nat} (As : List Value) {b ci : Nat} (ml : MLV own idx y cc' nL' ret' As.length) (hcl : tkCl[ci]? = some (clC ci) ∧ (clC ci).1 = y.cls ∧ ci < 100) (hfr : fr' + 1 ≤ fr) (hlo : 8 + (nL' + 11) + lo' ≤ lo) (hrest : (st.map fun v => v.category).sum ≤ 8) (hβ : β = bX an)
    (d : decode cc pc = .ok (.invokevirtual idx, 3)) {stk : List Value} (hstk : stk = As.reverse ++ .ref b :: st) (ct : ∀ r, mf = some r → CTX y cc' nL' ret' fr' lo' (.ref b :: As) σ δ (ox_i r, σ, δ))
    (kk : ∀ x : Int32, SJ (g x) P (J (pc + 3) L (.int x :: st) β σ δ)) (kx : ∀ e : Nat, P (k e) → an = (.inr e, σ, δ)) : SJ ((chk σ ci b).bind fun _ => mf.bind fun v => xel v g k) P (J pc L stk β σ δ) := by
  exact sx_callV hI As (fun r => (ox_i r, δ)) ml hcl hfr hlo hrest hβ d hstk ct (fun r v hv => by
    cases r with
    | inl x =>
      cases hv
      exact kk x
    | inr e => cases hv) (fun r e he => by
    cases r with
    | inl x => cases he
    | inr e1 =>
      cases he
      exact ⟨_, rfl, kx e⟩)
theorem sx_callVi {cc : ByteArray} {nL : Nat} {own nm : String} {fr lo : Nat} {J : JT} {an : AX} {ret : Option FieldType} (hI : IsX cc nL own nm fr lo ret an J) {pc : Nat} {L : List (Nat × Value)} {st : List Value} {β : Bu} {σ : St} {δ : Dy} {ρ : Type} {P : ρ → Prop} {mf : Option ((Int32 ⊕ Nat) × Dy)} {g : Dy → Int32 → Option ρ} {k : Dy → Nat → ρ}
    {idx : Nat} {y : MethodName} {cc' : ByteArray} {nL' : Nat} {ret' : Option FieldType} {fr' lo' : Nat} (As : List Value) {b ci : Nat} (ml : MLV own idx y cc' nL' ret' As.length) (hcl : tkCl[ci]? = some (clC ci) ∧ (clC ci).1 = y.cls ∧ ci < 100) (hfr : fr' + 1 ≤ fr) (hlo : 8 + (nL' + 11) + lo' ≤ lo) (hrest : (st.map fun v => v.category).sum ≤ 8) (hβ : β = bX an)
    (d : decode cc pc = .ok (.invokevirtual idx, 3)) {stk : List Value} (hstk : stk = As.reverse ++ .ref b :: st) (ct : ∀ r, mf = some r → CTX y cc' nL' ret' fr' lo' (.ref b :: As) σ δ (ox_i r.1, σ, r.2))
    (kk : ∀ (x : Int32) (δ' : Dy), SJ (g δ' x) P (J (pc + 3) L (.int x :: st) β σ δ')) (kx : ∀ (e : Nat) (δ' : Dy), P (k δ' e) → an = (.inr e, σ, δ')) : SJ ((chk σ ci b).bind fun _ => mf.bind fun v => xel v.1 (g v.2) (k v.2)) P (J pc L stk β σ δ) := by
  exact sx_callV hI As (fun r => (ox_i r.1, r.2)) ml hcl hfr hlo hrest hβ d hstk ct (fun r v hv => by
    obtain ⟨r1, δ'⟩ := r
    cases r1 with
    | inl x =>
      cases hv
      exact kk x δ'
    | inr e => cases hv) (fun r e he => by
    obtain ⟨r1, δ'⟩ := r
    cases r1 with
    | inl x => cases he
    | inr e1 =>
      cases he
      exact ⟨_, rfl, kx e δ'⟩)
theorem sx_callVap {cc : ByteArray} {nL : Nat} {own nm : String} {fr lo : Nat} {J : JT} {an : AX} {ret : Option FieldType} (hI : IsX cc nL own nm fr lo ret an J) {pc : Nat} {L : List (Nat × Value)} {st : List Value} {β : Bu} {σ : St} {δ : Dy} {ρ : Type} {P : ρ → Prop} {mf : Option (Nat ⊕ Nat)} {g : Nat → Option ρ} {k : Nat → ρ}
    {idx : Nat} {y : MethodName} {cc' : ByteArray} {nL' : Nat} {ret' : Option FieldType} {fr' lo' : Nat} (As : List Value) {b ci : Nat} (ml : MLV own idx y cc' nL' ret' As.length) (hcl : tkCl[ci]? = some (clC ci) ∧ (clC ci).1 = y.cls ∧ ci < 100) (hfr : fr' + 1 ≤ fr) (hlo : 8 + (nL' + 11) + lo' ≤ lo) (hrest : (st.map fun v => v.category).sum ≤ 8) (hβ : β = bX an)
    (d : decode cc pc = .ok (.invokevirtual idx, 3)) {stk : List Value} (hstk : stk = As.reverse ++ .ref b :: st) (ct : ∀ r, mf = some r → CTX y cc' nL' ret' fr' lo' (.ref b :: As) σ δ (ox_a r, σ, δ))
    (kk : ∀ x : Nat, SJ (g x) P (J (pc + 3) L (.ref x :: st) β σ δ)) (kx : ∀ e : Nat, P (k e) → an = (.inr e, σ, δ)) : SJ ((chk σ ci b).bind fun _ => mf.bind fun v => xel v g k) P (J pc L stk β σ δ) := by
  exact sx_callV hI As (fun r => (ox_a r, δ)) ml hcl hfr hlo hrest hβ d hstk ct (fun r v hv => by
    cases r with
    | inl x =>
      cases hv
      exact kk x
    | inr e => cases hv) (fun r e he => by
    cases r with
    | inl x => cases he
    | inr e1 =>
      cases he
      exact ⟨_, rfl, kx e⟩)
theorem sx_callVa {cc : ByteArray} {nL : Nat} {own nm : String} {fr lo : Nat} {J : JT} {an : AX} {ret : Option FieldType} (hI : IsX cc nL own nm fr lo ret an J) {pc : Nat} {L : List (Nat × Value)} {st : List Value} {β : Bu} {σ : St} {δ : Dy} {ρ : Type} {P : ρ → Prop} {mf : Option ((Nat ⊕ Nat) × Dy)} {g : Dy → Nat → Option ρ} {k : Dy → Nat → ρ}
    {idx : Nat} {y : MethodName} {cc' : ByteArray} {nL' : Nat} {ret' : Option FieldType} {fr' lo' : Nat} (As : List Value) {b ci : Nat} (ml : MLV own idx y cc' nL' ret' As.length) (hcl : tkCl[ci]? = some (clC ci) ∧ (clC ci).1 = y.cls ∧ ci < 100) (hfr : fr' + 1 ≤ fr) (hlo : 8 + (nL' + 11) + lo' ≤ lo) (hrest : (st.map fun v => v.category).sum ≤ 8) (hβ : β = bX an)
    (d : decode cc pc = .ok (.invokevirtual idx, 3)) {stk : List Value} (hstk : stk = As.reverse ++ .ref b :: st) (ct : ∀ r, mf = some r → CTX y cc' nL' ret' fr' lo' (.ref b :: As) σ δ (ox_a r.1, σ, r.2))
    (kk : ∀ (x : Nat) (δ' : Dy), SJ (g δ' x) P (J (pc + 3) L (.ref x :: st) β σ δ')) (kx : ∀ (e : Nat) (δ' : Dy), P (k δ' e) → an = (.inr e, σ, δ')) : SJ ((chk σ ci b).bind fun _ => mf.bind fun v => xel v.1 (g v.2) (k v.2)) P (J pc L stk β σ δ) := by
  exact sx_callV hI As (fun r => (ox_a r.1, r.2)) ml hcl hfr hlo hrest hβ d hstk ct (fun r v hv => by
    obtain ⟨r1, δ'⟩ := r
    cases r1 with
    | inl x =>
      cases hv
      exact kk x δ'
    | inr e => cases hv) (fun r e he => by
    obtain ⟨r1, δ'⟩ := r
    cases r1 with
    | inl x => cases he
    | inr e1 =>
      cases he
      exact ⟨_, rfl, kx e δ'⟩)
theorem sx_callVvp {cc : ByteArray} {nL : Nat} {own nm : String} {fr lo : Nat} {J : JT} {an : AX} {ret : Option FieldType} (hI : IsX cc nL own nm fr lo ret an J) {pc : Nat} {L : List (Nat × Value)} {st : List Value} {β : Bu} {σ : St} {δ : Dy} {ρ : Type} {P : ρ → Prop} {mf : Option (Unit ⊕ Nat)} {g : Unit → Option ρ} {k : Nat → ρ}
    {idx : Nat} {y : MethodName} {cc' : ByteArray} {nL' : Nat} {ret' : Option FieldType} {fr' lo' : Nat} (As : List Value) {b ci : Nat} (ml : MLV own idx y cc' nL' ret' As.length) (hcl : tkCl[ci]? = some (clC ci) ∧ (clC ci).1 = y.cls ∧ ci < 100) (hfr : fr' + 1 ≤ fr) (hlo : 8 + (nL' + 11) + lo' ≤ lo) (hrest : (st.map fun v => v.category).sum ≤ 8) (hβ : β = bX an)
    (d : decode cc pc = .ok (.invokevirtual idx, 3)) {stk : List Value} (hstk : stk = As.reverse ++ .ref b :: st) (ct : ∀ r, mf = some r → CTX y cc' nL' ret' fr' lo' (.ref b :: As) σ δ (ox_v r, σ, δ))
    (kk : ∀ x : Unit, SJ (g x) P (J (pc + 3) L (st) β σ δ)) (kx : ∀ e : Nat, P (k e) → an = (.inr e, σ, δ)) : SJ ((chk σ ci b).bind fun _ => mf.bind fun v => xel v g k) P (J pc L stk β σ δ) := by
  exact sx_callV hI As (fun r => (ox_v r, δ)) ml hcl hfr hlo hrest hβ d hstk ct (fun r v hv => by
    cases r with
    | inl x =>
      cases hv
      exact kk x
    | inr e => cases hv) (fun r e he => by
    cases r with
    | inl x => cases he
    | inr e1 =>
      cases he
      exact ⟨_, rfl, kx e⟩)
theorem sx_callVv {cc : ByteArray} {nL : Nat} {own nm : String} {fr lo : Nat} {J : JT} {an : AX} {ret : Option FieldType} (hI : IsX cc nL own nm fr lo ret an J) {pc : Nat} {L : List (Nat × Value)} {st : List Value} {β : Bu} {σ : St} {δ : Dy} {ρ : Type} {P : ρ → Prop} {mf : Option ((Unit ⊕ Nat) × Dy)} {g : Dy → Unit → Option ρ} {k : Dy → Nat → ρ}
    {idx : Nat} {y : MethodName} {cc' : ByteArray} {nL' : Nat} {ret' : Option FieldType} {fr' lo' : Nat} (As : List Value) {b ci : Nat} (ml : MLV own idx y cc' nL' ret' As.length) (hcl : tkCl[ci]? = some (clC ci) ∧ (clC ci).1 = y.cls ∧ ci < 100) (hfr : fr' + 1 ≤ fr) (hlo : 8 + (nL' + 11) + lo' ≤ lo) (hrest : (st.map fun v => v.category).sum ≤ 8) (hβ : β = bX an)
    (d : decode cc pc = .ok (.invokevirtual idx, 3)) {stk : List Value} (hstk : stk = As.reverse ++ .ref b :: st) (ct : ∀ r, mf = some r → CTX y cc' nL' ret' fr' lo' (.ref b :: As) σ δ (ox_v r.1, σ, r.2))
    (kk : ∀ (x : Unit) (δ' : Dy), SJ (g δ' x) P (J (pc + 3) L (st) β σ δ')) (kx : ∀ (e : Nat) (δ' : Dy), P (k δ' e) → an = (.inr e, σ, δ')) : SJ ((chk σ ci b).bind fun _ => mf.bind fun v => xel v.1 (g v.2) (k v.2)) P (J pc L stk β σ δ) := by
  exact sx_callV hI As (fun r => (ox_v r.1, r.2)) ml hcl hfr hlo hrest hβ d hstk ct (fun r v hv => by
    obtain ⟨r1, δ'⟩ := r
    cases r1 with
    | inl x =>
      cases hv
      exact kk x δ'
    | inr e => cases hv) (fun r e he => by
    obtain ⟨r1, δ'⟩ := r
    cases r1 with
    | inl x => cases he
    | inr e1 =>
      cases he
      exact ⟨_, rfl, kx e δ'⟩)
theorem sx_callSip {cc : ByteArray} {nL : Nat} {own nm : String} {fr lo : Nat} {J : JT} {an : AX} {ret : Option FieldType} (hI : IsX cc nL own nm fr lo ret an J) {pc : Nat} {L : List (Nat × Value)} {st : List Value} {β : Bu} {σ : St} {δ : Dy} {ρ : Type} {P : ρ → Prop} {mf : Option (Int32 ⊕ Nat)} {g : Int32 → Option ρ} {k : Nat → ρ}
    {idx : Nat} {y : MethodName} {cc' : ByteArray} {nL' : Nat} {ret' : Option FieldType} {fr' lo' : Nat} (As : List Value) (ml : MLS own idx y cc' nL' ret' As.length) (hfr : fr' + 1 ≤ fr) (hlo : 8 + (nL' + 11) + lo' ≤ lo) (hrest : (st.map fun v => v.category).sum ≤ 8) (hβ : β = bX an)
    (d : decode cc pc = .ok (.invokestatic idx, 3)) {stk : List Value} (hstk : stk = As.reverse ++ st) (ct : ∀ r, mf = some r → CTX y cc' nL' ret' fr' lo' As σ δ (ox_i r, σ, δ))
    (kk : ∀ x : Int32, SJ (g x) P (J (pc + 3) L (.int x :: st) β σ δ)) (kx : ∀ e : Nat, P (k e) → an = (.inr e, σ, δ)) : SJ (mf.bind fun v => xel v g k) P (J pc L stk β σ δ) := by
  exact sx_callS hI As (fun r => (ox_i r, δ)) ml hfr hlo hrest hβ d hstk ct (fun r v hv => by
    cases r with
    | inl x =>
      cases hv
      exact kk x
    | inr e => cases hv) (fun r e he => by
    cases r with
    | inl x => cases he
    | inr e1 =>
      cases he
      exact ⟨_, rfl, kx e⟩)
theorem sx_callSi {cc : ByteArray} {nL : Nat} {own nm : String} {fr lo : Nat} {J : JT} {an : AX} {ret : Option FieldType} (hI : IsX cc nL own nm fr lo ret an J) {pc : Nat} {L : List (Nat × Value)} {st : List Value} {β : Bu} {σ : St} {δ : Dy} {ρ : Type} {P : ρ → Prop} {mf : Option ((Int32 ⊕ Nat) × Dy)} {g : Dy → Int32 → Option ρ} {k : Dy → Nat → ρ}
    {idx : Nat} {y : MethodName} {cc' : ByteArray} {nL' : Nat} {ret' : Option FieldType} {fr' lo' : Nat} (As : List Value) (ml : MLS own idx y cc' nL' ret' As.length) (hfr : fr' + 1 ≤ fr) (hlo : 8 + (nL' + 11) + lo' ≤ lo) (hrest : (st.map fun v => v.category).sum ≤ 8) (hβ : β = bX an)
    (d : decode cc pc = .ok (.invokestatic idx, 3)) {stk : List Value} (hstk : stk = As.reverse ++ st) (ct : ∀ r, mf = some r → CTX y cc' nL' ret' fr' lo' As σ δ (ox_i r.1, σ, r.2))
    (kk : ∀ (x : Int32) (δ' : Dy), SJ (g δ' x) P (J (pc + 3) L (.int x :: st) β σ δ')) (kx : ∀ (e : Nat) (δ' : Dy), P (k δ' e) → an = (.inr e, σ, δ')) : SJ (mf.bind fun v => xel v.1 (g v.2) (k v.2)) P (J pc L stk β σ δ) := by
  exact sx_callS hI As (fun r => (ox_i r.1, r.2)) ml hfr hlo hrest hβ d hstk ct (fun r v hv => by
    obtain ⟨r1, δ'⟩ := r
    cases r1 with
    | inl x =>
      cases hv
      exact kk x δ'
    | inr e => cases hv) (fun r e he => by
    obtain ⟨r1, δ'⟩ := r
    cases r1 with
    | inl x => cases he
    | inr e1 =>
      cases he
      exact ⟨_, rfl, kx e δ'⟩)
theorem sx_callSap {cc : ByteArray} {nL : Nat} {own nm : String} {fr lo : Nat} {J : JT} {an : AX} {ret : Option FieldType} (hI : IsX cc nL own nm fr lo ret an J) {pc : Nat} {L : List (Nat × Value)} {st : List Value} {β : Bu} {σ : St} {δ : Dy} {ρ : Type} {P : ρ → Prop} {mf : Option (Nat ⊕ Nat)} {g : Nat → Option ρ} {k : Nat → ρ}
    {idx : Nat} {y : MethodName} {cc' : ByteArray} {nL' : Nat} {ret' : Option FieldType} {fr' lo' : Nat} (As : List Value) (ml : MLS own idx y cc' nL' ret' As.length) (hfr : fr' + 1 ≤ fr) (hlo : 8 + (nL' + 11) + lo' ≤ lo) (hrest : (st.map fun v => v.category).sum ≤ 8) (hβ : β = bX an)
    (d : decode cc pc = .ok (.invokestatic idx, 3)) {stk : List Value} (hstk : stk = As.reverse ++ st) (ct : ∀ r, mf = some r → CTX y cc' nL' ret' fr' lo' As σ δ (ox_a r, σ, δ))
    (kk : ∀ x : Nat, SJ (g x) P (J (pc + 3) L (.ref x :: st) β σ δ)) (kx : ∀ e : Nat, P (k e) → an = (.inr e, σ, δ)) : SJ (mf.bind fun v => xel v g k) P (J pc L stk β σ δ) := by
  exact sx_callS hI As (fun r => (ox_a r, δ)) ml hfr hlo hrest hβ d hstk ct (fun r v hv => by
    cases r with
    | inl x =>
      cases hv
      exact kk x
    | inr e => cases hv) (fun r e he => by
    cases r with
    | inl x => cases he
    | inr e1 =>
      cases he
      exact ⟨_, rfl, kx e⟩)
theorem sx_callSa {cc : ByteArray} {nL : Nat} {own nm : String} {fr lo : Nat} {J : JT} {an : AX} {ret : Option FieldType} (hI : IsX cc nL own nm fr lo ret an J) {pc : Nat} {L : List (Nat × Value)} {st : List Value} {β : Bu} {σ : St} {δ : Dy} {ρ : Type} {P : ρ → Prop} {mf : Option ((Nat ⊕ Nat) × Dy)} {g : Dy → Nat → Option ρ} {k : Dy → Nat → ρ}
    {idx : Nat} {y : MethodName} {cc' : ByteArray} {nL' : Nat} {ret' : Option FieldType} {fr' lo' : Nat} (As : List Value) (ml : MLS own idx y cc' nL' ret' As.length) (hfr : fr' + 1 ≤ fr) (hlo : 8 + (nL' + 11) + lo' ≤ lo) (hrest : (st.map fun v => v.category).sum ≤ 8) (hβ : β = bX an)
    (d : decode cc pc = .ok (.invokestatic idx, 3)) {stk : List Value} (hstk : stk = As.reverse ++ st) (ct : ∀ r, mf = some r → CTX y cc' nL' ret' fr' lo' As σ δ (ox_a r.1, σ, r.2))
    (kk : ∀ (x : Nat) (δ' : Dy), SJ (g δ' x) P (J (pc + 3) L (.ref x :: st) β σ δ')) (kx : ∀ (e : Nat) (δ' : Dy), P (k δ' e) → an = (.inr e, σ, δ')) : SJ (mf.bind fun v => xel v.1 (g v.2) (k v.2)) P (J pc L stk β σ δ) := by
  exact sx_callS hI As (fun r => (ox_a r.1, r.2)) ml hfr hlo hrest hβ d hstk ct (fun r v hv => by
    obtain ⟨r1, δ'⟩ := r
    cases r1 with
    | inl x =>
      cases hv
      exact kk x δ'
    | inr e => cases hv) (fun r e he => by
    obtain ⟨r1, δ'⟩ := r
    cases r1 with
    | inl x => cases he
    | inr e1 =>
      cases he
      exact ⟨_, rfl, kx e δ'⟩)
theorem sx_callSvp {cc : ByteArray} {nL : Nat} {own nm : String} {fr lo : Nat} {J : JT} {an : AX} {ret : Option FieldType} (hI : IsX cc nL own nm fr lo ret an J) {pc : Nat} {L : List (Nat × Value)} {st : List Value} {β : Bu} {σ : St} {δ : Dy} {ρ : Type} {P : ρ → Prop} {mf : Option (Unit ⊕ Nat)} {g : Unit → Option ρ} {k : Nat → ρ}
    {idx : Nat} {y : MethodName} {cc' : ByteArray} {nL' : Nat} {ret' : Option FieldType} {fr' lo' : Nat} (As : List Value) (ml : MLS own idx y cc' nL' ret' As.length) (hfr : fr' + 1 ≤ fr) (hlo : 8 + (nL' + 11) + lo' ≤ lo) (hrest : (st.map fun v => v.category).sum ≤ 8) (hβ : β = bX an)
    (d : decode cc pc = .ok (.invokestatic idx, 3)) {stk : List Value} (hstk : stk = As.reverse ++ st) (ct : ∀ r, mf = some r → CTX y cc' nL' ret' fr' lo' As σ δ (ox_v r, σ, δ))
    (kk : ∀ x : Unit, SJ (g x) P (J (pc + 3) L (st) β σ δ)) (kx : ∀ e : Nat, P (k e) → an = (.inr e, σ, δ)) : SJ (mf.bind fun v => xel v g k) P (J pc L stk β σ δ) := by
  exact sx_callS hI As (fun r => (ox_v r, δ)) ml hfr hlo hrest hβ d hstk ct (fun r v hv => by
    cases r with
    | inl x =>
      cases hv
      exact kk x
    | inr e => cases hv) (fun r e he => by
    cases r with
    | inl x => cases he
    | inr e1 =>
      cases he
      exact ⟨_, rfl, kx e⟩)
theorem sx_callSv {cc : ByteArray} {nL : Nat} {own nm : String} {fr lo : Nat} {J : JT} {an : AX} {ret : Option FieldType} (hI : IsX cc nL own nm fr lo ret an J) {pc : Nat} {L : List (Nat × Value)} {st : List Value} {β : Bu} {σ : St} {δ : Dy} {ρ : Type} {P : ρ → Prop} {mf : Option ((Unit ⊕ Nat) × Dy)} {g : Dy → Unit → Option ρ} {k : Dy → Nat → ρ}
    {idx : Nat} {y : MethodName} {cc' : ByteArray} {nL' : Nat} {ret' : Option FieldType} {fr' lo' : Nat} (As : List Value) (ml : MLS own idx y cc' nL' ret' As.length) (hfr : fr' + 1 ≤ fr) (hlo : 8 + (nL' + 11) + lo' ≤ lo) (hrest : (st.map fun v => v.category).sum ≤ 8) (hβ : β = bX an)
    (d : decode cc pc = .ok (.invokestatic idx, 3)) {stk : List Value} (hstk : stk = As.reverse ++ st) (ct : ∀ r, mf = some r → CTX y cc' nL' ret' fr' lo' As σ δ (ox_v r.1, σ, r.2))
    (kk : ∀ (x : Unit) (δ' : Dy), SJ (g δ' x) P (J (pc + 3) L (st) β σ δ')) (kx : ∀ (e : Nat) (δ' : Dy), P (k δ' e) → an = (.inr e, σ, δ')) : SJ (mf.bind fun v => xel v.1 (g v.2) (k v.2)) P (J pc L stk β σ δ) := by
  exact sx_callS hI As (fun r => (ox_v r.1, r.2)) ml hfr hlo hrest hβ d hstk ct (fun r v hv => by
    obtain ⟨r1, δ'⟩ := r
    cases r1 with
    | inl x =>
      cases hv
      exact kk x δ'
    | inr e => cases hv) (fun r e he => by
    obtain ⟨r1, δ'⟩ := r
    cases r1 with
    | inl x => cases he
    | inr e1 =>
      cases he
      exact ⟨_, rfl, kx e δ'⟩)
