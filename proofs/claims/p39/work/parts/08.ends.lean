/-! RETURNS, Math, copies, calls by kind -/
theorem sj_iret {cc : ByteArray} {nL : Nat} {own nm : String} {fr lo : Nat} {J : JT} {an : Option Value × St × Dy} (hI : Isj cc nL own nm fr lo (some .int) an J) {pc : Nat} {L : List (Nat × Value)} {β : Bu} {σ : St} {δ : Dy} {ρ : Type} {P : ρ → Prop} {y : ρ} {x : Int32} (d : decode cc pc = .ok (.ireturn, 1)) (hp : P y → an = ((some (.int x)), σ, δ)) : SJ (some y) P (J pc L [.int x] β σ δ) := by
  refine sj_end (fun h => ?_)
  have hpe := hp h
  subst hpe
  obtain ⟨p, l, e, R, s, m, args, below, meth, c, D, tc, A, ad0, n0, mc, ms, ⟨hx, hb, hml, hown, hts, hK, hA, hfr, hlo, hRc, hRs, hro, hnm, htr⟩, hr, hlocks, rfl⟩ := hI
  intro ad H ls locs cells slots h1 h2 h3 hL hst h4 hl hP hD hS hc hs
  refine W.widen (k := mc) (n := ms) (by omega) (by omega) ?_
  exact W.iret hx hb hr (fun t ht hW => ⟨⟨ad, h1, rfl, ⟨by rw [ht]; exact hP, va_K.moved hW.alike hK, hD⟩, h2, h3, h4, fun x hx => by cases hx; trivial⟩, hS.F ht⟩) hS.2.2 d hlocks
theorem sj_zret {cc : ByteArray} {nL : Nat} {own nm : String} {fr lo : Nat} {J : JT} {an : Option Value × St × Dy} (hI : Isj cc nL own nm fr lo (some .boolean) an J) {pc : Nat} {L : List (Nat × Value)} {β : Bu} {σ : St} {δ : Dy} {ρ : Type} {P : ρ → Prop} {y : ρ} {x : Int32} (hx01 : x = 0 ∨ x = 1) (d : decode cc pc = .ok (.ireturn, 1)) (hp : P y → an = ((some (.int x)), σ, δ)) : SJ (some y) P (J pc L [.int x] β σ δ) := by
  refine sj_end (fun h => ?_)
  have hpe := hp h
  subst hpe
  obtain ⟨p, l, e, R, s, m, args, below, meth, c, D, tc, A, ad0, n0, mc, ms, ⟨hx, hb, hml, hown, hts, hK, hA, hfr, hlo, hRc, hRs, hro, hnm, htr⟩, hr, hlocks, rfl⟩ := hI
  intro ad H ls locs cells slots h1 h2 h3 hL hst h4 hl hP hD hS hc hs
  refine W.widen (k := mc) (n := ms) (by omega) (by omega) ?_
  exact W.zret hx hb hr (by rcases hx01 with rfl | rfl <;> rfl) (fun t ht hW => ⟨⟨ad, h1, rfl, ⟨by rw [ht]; exact hP, va_K.moved hW.alike hK, hD⟩, h2, h3, h4, fun x hx => by cases hx; trivial⟩, hS.F ht⟩) hS.2.2 d hlocks
theorem sj_lret {cc : ByteArray} {nL : Nat} {own nm : String} {fr lo : Nat} {J : JT} {an : Option Value × St × Dy} (hI : Isj cc nL own nm fr lo (some .long) an J) {pc : Nat} {L : List (Nat × Value)} {β : Bu} {σ : St} {δ : Dy} {ρ : Type} {P : ρ → Prop} {y : ρ} {x : Int64} (d : decode cc pc = .ok (.lreturn, 1)) (hp : P y → an = ((some (.long x)), σ, δ)) : SJ (some y) P (J pc L [.long x] β σ δ) := by
  refine sj_end (fun h => ?_)
  have hpe := hp h
  subst hpe
  obtain ⟨p, l, e, R, s, m, args, below, meth, c, D, tc, A, ad0, n0, mc, ms, ⟨hx, hb, hml, hown, hts, hK, hA, hfr, hlo, hRc, hRs, hro, hnm, htr⟩, hr, hlocks, rfl⟩ := hI
  intro ad H ls locs cells slots h1 h2 h3 hL hst h4 hl hP hD hS hc hs
  refine W.widen (k := mc) (n := ms) (by omega) (by omega) ?_
  exact W.lret hx hb hr (fun t ht hW => ⟨⟨ad, h1, rfl, ⟨by rw [ht]; exact hP, va_K.moved hW.alike hK, hD⟩, h2, h3, h4, fun x hx => by cases hx; trivial⟩, hS.F ht⟩) hS.2.2 d hlocks
theorem sj_vret {cc : ByteArray} {nL : Nat} {own nm : String} {fr lo : Nat} {J : JT} {an : Option Value × St × Dy} (hI : Isj cc nL own nm fr lo none an J) {pc : Nat} {L : List (Nat × Value)} {β : Bu} {σ : St} {δ : Dy} {ρ : Type} {P : ρ → Prop} {y : ρ} (d : decode cc pc = .ok (.return_, 1)) (hp : P y → an = (none, σ, δ)) : SJ (some y) P (J pc L [] β σ δ) := by
  refine sj_end (fun h => ?_)
  have hpe := hp h
  subst hpe
  obtain ⟨p, l, e, R, s, m, args, below, meth, c, D, tc, A, ad0, n0, mc, ms, ⟨hx, hb, hml, hown, hts, hK, hA, hfr, hlo, hRc, hRs, hro, hnm, htr⟩, hr, hlocks, rfl⟩ := hI
  intro ad H ls locs cells slots h1 h2 h3 hL hst h4 hl hP hD hS hc hs
  refine W.widen (k := mc) (n := ms) (by omega) (by omega) ?_
  exact W.vret hx hb hr (fun t ht hW => ⟨⟨ad, h1, rfl, ⟨by rw [ht]; exact hP, va_K.moved hW.alike hK, hD⟩, h2, h3, h4, fun x hx => by cases hx⟩, hS.F ht⟩) hS.2.2 d hlocks
theorem sj_aret {cc : ByteArray} {nL : Nat} {own nm : String} {fr lo : Nat} {J : JT} {an : Option Value × St × Dy} {rt : FieldType} (hrt : (∃ n, rt = .object n) ∨ ∃ t, rt = .array t) (hI : Isj cc nL own nm fr lo (some rt) an J) {pc : Nat} {L : List (Nat × Value)} {β : Bu} {σ : St} {δ : Dy} {ρ : Type} {P : ρ → Prop} {y : ρ} {x : Nat} (d : decode cc pc = .ok (.areturn, 1)) (hp : P y → an = (some (.ref x), σ, δ)) : SJ (some y) P (J pc L [.ref x] β σ δ) := by
  refine sj_end (fun h => ?_)
  have hpe := hp h
  subst hpe
  obtain ⟨p, l, e, R, s, m, args, below, meth, c, D, tc, A, ad0, n0, mc, ms, ⟨hx, hb, hml, hown, hts, hK, hA, hfr, hlo, hRc, hRs, hro, hnm, htr⟩, hr, hlocks, rfl⟩ := hI
  intro ad H ls locs cells slots h1 h2 h3 hL hst h4 hl hP hD hS hc hs
  refine W.widen (k := mc) (n := ms) (by omega) (by omega) ?_
  exact W.aret hx hb hr hrt (Or.inr ⟨_, rfl⟩) (fun t ht hW => ⟨⟨ad, h1, rfl, ⟨by rw [ht]; exact hP, va_K.moved hW.alike hK, hD⟩, h2, h3, h4, fun z hz => by cases hz; exact hst _ List.mem_cons_self⟩, hS.F ht⟩) hS.2.2 d hlocks
def zo (x : Int32) : Option Unit := if x = 0 ∨ x = 1 then some () else none
theorem sj_zretG {cc : ByteArray} {nL : Nat} {own nm : String} {fr lo : Nat} {J : JT} {an : Option Value × St × Dy} (hI : Isj cc nL own nm fr lo (some .boolean) an J) {pc : Nat} {L : List (Nat × Value)} {β : Bu} {σ : St} {δ : Dy} {ρ : Type} {P : ρ → Prop} {y : ρ} {x : Int32} (d : decode cc pc = .ok (.ireturn, 1)) (hp : P y → an = (some (.int x), σ, δ)) : SJ ((zo x).bind fun _ => some y) P (J pc L [.int x] β σ δ) := by
  refine sj_bind fun u hu => ?_
  exact sj_zret hI (if_some hu).1 d hp
def MMmax (own : String) (idx : Nat) : Prop := Cond.methodLink own idx Lib.Math.max.name ∈ lwg ∧ Cond.static Lib.Math.max.name ∈ lwg ∧ Cond.initialized "java/lang/Math" ∈ lwg ∧ Cond.code Lib.Math.max.name Lib.Math.max.code 2 (some .int) ∈ lwg
theorem j_mmax {cc : ByteArray} {nL : Nat} {own nm : String} {fr lo : Nat} {J : JT} (hJ : Cor cc nL own nm fr lo J) {pc : Nat} {L : List (Nat × Value)} {st : List Value} {β : Bu} {σ : St} {δ : Dy} {idx : Nat} {x y : Int32} (mm : MMmax own idx) (hf1 : 1 ≤ fr) (hl1 : 8 + 13 ≤ lo) (hrest : (st.map fun v => v.category).sum ≤ 8) (d : decode cc pc = .ok (.invokestatic idx, 3)) (k : J (pc + 3) L (.int (if x < y then y else x) :: st) β σ δ) : J pc L (.int y :: .int x :: st) β σ δ := by
  obtain ⟨m1, m2, m3, m4⟩ := mm
  obtain ⟨p, l, e, R, s, m, args, below, meth, c, D, tc, A, ad0, n0, mc, ms, Q, ⟨hx, hb, hml, hown, hts, hK, hA, hfr, hlo, hRc, hRs, hro, hnm, htr⟩, rfl⟩ := hJ
  intro ad H ls locs cells slots h1 h2 h3 hL hst h4 hl hP hD hS hc hs
  have hsz := hl.1
  exact va_mmax hx hb (hml.trans hsz.symm) hown (hts _ m1) (hts _ m2) (hts _ m3) (hts _ m4) (Nat.le_trans hf1 hfr) (by rw [cat_cv]; omega) (by omega) (by omega) d (k ad H ls locs cells slots h1 h2 h3 hL (wfc trivial (wft (wft hst))) h4 hl hP hD hS hc hs)
def MMmin (own : String) (idx : Nat) : Prop := Cond.methodLink own idx Lib.Math.min.name ∈ lwg ∧ Cond.static Lib.Math.min.name ∈ lwg ∧ Cond.initialized "java/lang/Math" ∈ lwg ∧ Cond.code Lib.Math.min.name Lib.Math.min.code 2 (some .int) ∈ lwg
theorem j_mmin {cc : ByteArray} {nL : Nat} {own nm : String} {fr lo : Nat} {J : JT} (hJ : Cor cc nL own nm fr lo J) {pc : Nat} {L : List (Nat × Value)} {st : List Value} {β : Bu} {σ : St} {δ : Dy} {idx : Nat} {x y : Int32} (mm : MMmin own idx) (hf1 : 1 ≤ fr) (hl1 : 8 + 13 ≤ lo) (hrest : (st.map fun v => v.category).sum ≤ 8) (d : decode cc pc = .ok (.invokestatic idx, 3)) (k : J (pc + 3) L (.int (if y < x then y else x) :: st) β σ δ) : J pc L (.int y :: .int x :: st) β σ δ := by
  obtain ⟨m1, m2, m3, m4⟩ := mm
  obtain ⟨p, l, e, R, s, m, args, below, meth, c, D, tc, A, ad0, n0, mc, ms, Q, ⟨hx, hb, hml, hown, hts, hK, hA, hfr, hlo, hRc, hRs, hro, hnm, htr⟩, rfl⟩ := hJ
  intro ad H ls locs cells slots h1 h2 h3 hL hst h4 hl hP hD hS hc hs
  have hsz := hl.1
  exact va_mmin hx hb (hml.trans hsz.symm) hown (hts _ m1) (hts _ m2) (hts _ m3) (hts _ m4) (Nat.le_trans hf1 hfr) (by rw [cat_cv]; omega) (by omega) (by omega) d (k ad H ls locs cells slots h1 h2 h3 hL (wfc trivial (wft (wft hst))) h4 hl hP hD hS hc hs)
def uR {α : Type} (f : Nat → Nat → α) (i : Nat) (g : Nat → α) : Nat → Nat → α := fun a => if a = i then g else f a
theorem uR_ne {α : Type} {f : Nat → Nat → α} {i j : Nat} {g : Nat → α} (h : j ≠ i) : uR f i g j = f j := by simp [uR, h]
theorem uR_eq {α : Type} {f : Nat → Nat → α} {i : Nat} {g : Nat → α} : uR f i g i = g := by simp [uR]
def cpOk (σ : St) (t a : Nat) (sp : Int32) (b : Nat) (dp n : Int32) : Prop := ((a < sn σ ∧ skd σ a = t) ∧ b < sn σ ∧ skd σ b = t) ∧ (¬ sp < 0 ∧ ¬ dp < 0 ∧ ¬ n < 0) ∧ sp.toNatClampNeg + n.toNatClampNeg ≤ sln σ a ∧ dp.toNatClampNeg + n.toNatClampNeg ≤ sln σ b
def cpI (σ : St) (δ : Dy) (a : Nat) (sp : Int32) (b : Nat) (dp n : Int32) : Option Dy := if ((a < sn σ ∧ skd σ a = 100) ∧ b < sn σ ∧ skd σ b = 100) ∧ (¬ sp < 0 ∧ ¬ dp < 0 ∧ ¬ n < 0) ∧ sp.toNatClampNeg + n.toNatClampNeg ≤ sln σ a ∧ dp.toNatClampNeg + n.toNatClampNeg ≤ sln σ b then some (uR δ.1 b (va_cpy (δ.1 a) (δ.1 b) sp.toNatClampNeg dp.toNatClampNeg n.toNatClampNeg), δ.2) else none
def cpZ (σ : St) (δ : Dy) (a : Nat) (sp : Int32) (b : Nat) (dp n : Int32) : Option Dy := if (((a < sn σ ∧ skd σ a = 101) ∧ b < sn σ ∧ skd σ b = 101) ∧ (¬ sp < 0 ∧ ¬ dp < 0 ∧ ¬ n < 0) ∧ sp.toNatClampNeg + n.toNatClampNeg ≤ sln σ a ∧ dp.toNatClampNeg + n.toNatClampNeg ≤ sln σ b) ∧ ∀ i, i < n.toNatClampNeg → δ.1 a (sp.toNatClampNeg + i) = 0 ∨ δ.1 a (sp.toNatClampNeg + i) = 1 then some (uR δ.1 b (va_cpy (δ.1 a) (δ.1 b) sp.toNatClampNeg dp.toNatClampNeg n.toNatClampNeg), δ.2) else none
def cpL (σ : St) (δ : Dy) (a : Nat) (sp : Int32) (b : Nat) (dp n : Int32) : Option Dy := if ((a < sn σ ∧ skd σ a = 102) ∧ b < sn σ ∧ skd σ b = 102) ∧ (¬ sp < 0 ∧ ¬ dp < 0 ∧ ¬ n < 0) ∧ sp.toNatClampNeg + n.toNatClampNeg ≤ sln σ a ∧ dp.toNatClampNeg + n.toNatClampNeg ≤ sln σ b then some (δ.1, uR δ.2 b (va_cpy (δ.2 a) (δ.2 b) sp.toNatClampNeg dp.toNatClampNeg n.toNatClampNeg)) else none
def MCp (own : String) (idx : Nat) : Prop := Cond.methodLink own idx arraycopyName ∈ lwg ∧ Cond.native arraycopyName ∈ lwg ∧ Cond.static arraycopyName ∈ lwg ∧ Cond.initialized "java/lang/System" ∈ lwg
theorem sj_cpI {cc : ByteArray} {nL : Nat} {own nm : String} {fr lo : Nat} {J : JT} (hJ : Cor cc nL own nm fr lo J) {pc : Nat} {L : List (Nat × Value)} {st : List Value} {β : Bu} {σ : St} {δ : Dy} {ρ : Type} {P : ρ → Prop} {f : Dy → Option ρ} {idx a b : Nat} {sp dp n : Int32} (mm : MCp own idx) (hf1 : 1 ≤ fr) (hl1 : 8 + (nativeFrameWords "java/lang/System" "arraycopy" 5 + 11) ≤ lo) (hrest : (st.map fun v => v.category).sum ≤ 8) (d : decode cc pc = .ok (.invokestatic idx, 3)) (kk : ∀ δ', SJ (f δ') P (J (pc + 3) L st β σ δ')) : SJ ((cpI σ δ a sp b dp n).bind f) P (J pc L (.int n :: .int dp :: .ref b :: .int sp :: .ref a :: st) β σ δ) := by
  refine sj_bind fun δ' hv => ?_
  obtain ⟨⟨⟨⟨hr, hkd⟩, hr2, hkd2⟩, ⟨q1, q2, q3⟩, q4, q5⟩, hve⟩ := if_some hv
  refine sj (fun k' => ?_) (kk δ')
  obtain ⟨m1, m2, m3, m4⟩ := mm
  obtain ⟨p, l, e, R, s, m, args, below, meth, c, D, tc, A, ad0, n0, mc, ms, Q, ⟨hx, hb, hml, hown, hts, hK, hA, hfr, hlo, hRc, hRs, hro, hnm, htr⟩, rfl⟩ := hJ
  intro ad H ls locs cells slots h1 h2 h3 hL hst h4 hl hP hD hS hc hs
  have hsz := hl.1
  refine va_copyi hx hb (hml.trans hsz.symm) hown (hts _ m1) (hts _ m2) (hts _ m3) (hts _ m4) hK hP hD hS a b 0 0 ((wld_get hr).trans (by rw [cel_arr hkd (by decide)]; rfl)) ((wld_get hr2).trans (by rw [cel_arr hkd2 (by decide)]; rfl)) rfl rfl rfl q1 q2 q3 q4 q5 (fun _ _ => rfl) (Nat.le_trans hf1 hfr) (by rw [cat_cv]; omega) d (fun H1 locs1 hP1 hD1 hS1 => ?_)
  have hw : (wld ad tc σ δ).set b (ad b, .inl (tc 100, sln σ b, (.inl (va_cpy (δ.1 a) (δ.1 b) sp.toNatClampNeg dp.toNatClampNeg n.toNatClampNeg)))) = wld ad tc σ δ' := by
    subst hve
    refine wld_set rfl ?_ (fun j hj => cel_congr rfl rfl (uR_ne hj) rfl rfl)
    rw [cel_arr hkd2 (by decide)]
    show (Sum.inl (tc 100, sln σ b, (.inl (uR δ.1 b (va_cpy (δ.1 a) (δ.1 b) sp.toNatClampNeg dp.toNatClampNeg n.toNatClampNeg) b))) : va_E) = _
    rw [uR_eq]
  rw [hw] at hP1 hD1
  exact k' ad H1 ls locs1 cells slots h1 h2 h3 hL (wft (wft (wft (wft (wft hst))))) h4 hl hP1 hD1 hS1 hc hs
theorem sj_cpZ {cc : ByteArray} {nL : Nat} {own nm : String} {fr lo : Nat} {J : JT} (hJ : Cor cc nL own nm fr lo J) {pc : Nat} {L : List (Nat × Value)} {st : List Value} {β : Bu} {σ : St} {δ : Dy} {ρ : Type} {P : ρ → Prop} {f : Dy → Option ρ} {idx a b : Nat} {sp dp n : Int32} (mm : MCp own idx) (hf1 : 1 ≤ fr) (hl1 : 8 + (nativeFrameWords "java/lang/System" "arraycopy" 5 + 11) ≤ lo) (hrest : (st.map fun v => v.category).sum ≤ 8) (d : decode cc pc = .ok (.invokestatic idx, 3)) (kk : ∀ δ', SJ (f δ') P (J (pc + 3) L st β σ δ')) : SJ ((cpZ σ δ a sp b dp n).bind f) P (J pc L (.int n :: .int dp :: .ref b :: .int sp :: .ref a :: st) β σ δ) := by
  refine sj_bind fun δ' hv => ?_
  obtain ⟨⟨⟨⟨⟨hr, hkd⟩, hr2, hkd2⟩, ⟨q1, q2, q3⟩, q4, q5⟩, hfit⟩, hve⟩ := if_some hv
  refine sj (fun k' => ?_) (kk δ')
  obtain ⟨m1, m2, m3, m4⟩ := mm
  obtain ⟨p, l, e, R, s, m, args, below, meth, c, D, tc, A, ad0, n0, mc, ms, Q, ⟨hx, hb, hml, hown, hts, hK, hA, hfr, hlo, hRc, hRs, hro, hnm, htr⟩, rfl⟩ := hJ
  intro ad H ls locs cells slots h1 h2 h3 hL hst h4 hl hP hD hS hc hs
  have hsz := hl.1
  refine va_copyi hx hb (hml.trans hsz.symm) hown (hts _ m1) (hts _ m2) (hts _ m3) (hts _ m4) hK hP hD hS a b 1 1 ((wld_get hr).trans (by rw [cel_arr hkd (by decide)]; rfl)) ((wld_get hr2).trans (by rw [cel_arr hkd2 (by decide)]; rfl)) rfl rfl rfl q1 q2 q3 q4 q5 (fun i hi => by rcases hfit i hi with h | h <;> rw [h] <;> rfl) (Nat.le_trans hf1 hfr) (by rw [cat_cv]; omega) d (fun H1 locs1 hP1 hD1 hS1 => ?_)
  have hw : (wld ad tc σ δ).set b (ad b, .inl (tc 101, sln σ b, (.inl (va_cpy (δ.1 a) (δ.1 b) sp.toNatClampNeg dp.toNatClampNeg n.toNatClampNeg)))) = wld ad tc σ δ' := by
    subst hve
    refine wld_set rfl ?_ (fun j hj => cel_congr rfl rfl (uR_ne hj) rfl rfl)
    rw [cel_arr hkd2 (by decide)]
    show (Sum.inl (tc 101, sln σ b, (.inl (uR δ.1 b (va_cpy (δ.1 a) (δ.1 b) sp.toNatClampNeg dp.toNatClampNeg n.toNatClampNeg) b))) : va_E) = _
    rw [uR_eq]
  rw [hw] at hP1 hD1
  exact k' ad H1 ls locs1 cells slots h1 h2 h3 hL (wft (wft (wft (wft (wft hst))))) h4 hl hP1 hD1 hS1 hc hs
theorem sj_cpL {cc : ByteArray} {nL : Nat} {own nm : String} {fr lo : Nat} {J : JT} (hJ : Cor cc nL own nm fr lo J) {pc : Nat} {L : List (Nat × Value)} {st : List Value} {β : Bu} {σ : St} {δ : Dy} {ρ : Type} {P : ρ → Prop} {f : Dy → Option ρ} {idx a b : Nat} {sp dp n : Int32} (mm : MCp own idx) (hf1 : 1 ≤ fr) (hl1 : 8 + (nativeFrameWords "java/lang/System" "arraycopy" 5 + 11) ≤ lo) (hrest : (st.map fun v => v.category).sum ≤ 8) (d : decode cc pc = .ok (.invokestatic idx, 3)) (kk : ∀ δ', SJ (f δ') P (J (pc + 3) L st β σ δ')) : SJ ((cpL σ δ a sp b dp n).bind f) P (J pc L (.int n :: .int dp :: .ref b :: .int sp :: .ref a :: st) β σ δ) := by
  refine sj_bind fun δ' hv => ?_
  obtain ⟨⟨⟨⟨hr, hkd⟩, hr2, hkd2⟩, ⟨q1, q2, q3⟩, q4, q5⟩, hve⟩ := if_some hv
  refine sj (fun k' => ?_) (kk δ')
  obtain ⟨m1, m2, m3, m4⟩ := mm
  obtain ⟨p, l, e, R, s, m, args, below, meth, c, D, tc, A, ad0, n0, mc, ms, Q, ⟨hx, hb, hml, hown, hts, hK, hA, hfr, hlo, hRc, hRs, hro, hnm, htr⟩, rfl⟩ := hJ
  intro ad H ls locs cells slots h1 h2 h3 hL hst h4 hl hP hD hS hc hs
  have hsz := hl.1
  refine va_copyl hx hb (hml.trans hsz.symm) hown (hts _ m1) (hts _ m2) (hts _ m3) (hts _ m4) hK hP hD hS a b 2 2 ((wld_get hr).trans (by rw [cel_arr hkd (by decide)]; rfl)) ((wld_get hr2).trans (by rw [cel_arr hkd2 (by decide)]; rfl)) rfl rfl rfl q1 q2 q3 q4 q5 (fun _ _ => rfl) (Nat.le_trans hf1 hfr) (by rw [cat_cv]; omega) d (fun H1 locs1 hP1 hD1 hS1 => ?_)
  have hw : (wld ad tc σ δ).set b (ad b, .inl (tc 102, sln σ b, (.inr (.inl (va_cpy (δ.2 a) (δ.2 b) sp.toNatClampNeg dp.toNatClampNeg n.toNatClampNeg))))) = wld ad tc σ δ' := by
    subst hve
    refine wld_set rfl ?_ (fun j hj => cel_congr rfl rfl rfl (uR_ne hj) rfl)
    rw [cel_arr hkd2 (by decide)]
    show (Sum.inl (tc 102, sln σ b, (.inr (.inl (uR δ.2 b (va_cpy (δ.2 a) (δ.2 b) sp.toNatClampNeg dp.toNatClampNeg n.toNatClampNeg) b)))) : va_E) = _
    rw [uR_eq]
  rw [hw] at hP1 hD1
  exact k' ad H1 ls locs1 cells slots h1 h2 h3 hL (wft (wft (wft (wft (wft hst))))) h4 hl hP1 hD1 hS1 hc hs
theorem sj_callVi {cc : ByteArray} {nL : Nat} {own nm : String} {fr lo : Nat} {J : JT} (hJ : Cor cc nL own nm fr lo J) {pc : Nat} {L : List (Nat × Value)} {st : List Value} {β : Bu} {σ : St} {δ : Dy} {ρ : Type} {P : ρ → Prop} {mf : Option (Int32 × Dy)} {f : Int32 × Dy → Option ρ}
    {idx : Nat} {y : MethodName} {cc' : ByteArray} {nL' : Nat} {ret' : Option FieldType} {fr' lo' : Nat} (As : List Value) {b ci : Nat} (ml : MLV own idx y cc' nL' ret' As.length) (hcl : tkCl[ci]? = some (clC ci) ∧ (clC ci).1 = y.cls ∧ ci < 100) (hfr : fr' + 1 ≤ fr) (hlo : 8 + (nL' + 11) + lo' ≤ lo) (hrest : (st.map fun v => v.category).sum ≤ 8)
    (d : decode cc pc = .ok (.invokevirtual idx, 3)) {stk : List Value} (hstk : stk = As.reverse ++ .ref b :: st) (ct : ∀ r, mf = some r → CT y cc' nL' ret' fr' lo' 0 0 (.ref b :: As) σ δ ((some (.int r.1)), σ, r.2))
    (kk : ∀ r : Int32 × Dy, SJ (f r) P (J (pc + 3) L (.int r.1 :: st) β σ r.2)) : SJ ((chk σ ci b).bind fun _ => mf.bind f) P (J pc L stk β σ δ) := by
  subst hstk
  exact sj_callV hJ (fun r => ((some (.int r.1)), σ, r.2)) ml hcl hfr hlo hrest (Nat.zero_le _) (Nat.zero_le _) d ct kk
theorem sj_callSi {cc : ByteArray} {nL : Nat} {own nm : String} {fr lo : Nat} {J : JT} (hJ : Cor cc nL own nm fr lo J) {pc : Nat} {L : List (Nat × Value)} {st : List Value} {β : Bu} {σ : St} {δ : Dy} {ρ : Type} {P : ρ → Prop} {mf : Option (Int32 × Dy)} {f : Int32 × Dy → Option ρ}
    {idx : Nat} {y : MethodName} {cc' : ByteArray} {nL' : Nat} {ret' : Option FieldType} {fr' lo' : Nat} (As : List Value) (ml : MLS own idx y cc' nL' ret' As.length) (hfr : fr' + 1 ≤ fr) (hlo : 8 + (nL' + 11) + lo' ≤ lo) (hrest : (st.map fun v => v.category).sum ≤ 8)
    (d : decode cc pc = .ok (.invokestatic idx, 3)) {stk : List Value} (hstk : stk = As.reverse ++ st) (ct : ∀ r, mf = some r → CT y cc' nL' ret' fr' lo' 0 0 As σ δ ((some (.int r.1)), σ, r.2))
    (kk : ∀ r : Int32 × Dy, SJ (f r) P (J (pc + 3) L (.int r.1 :: st) β σ r.2)) : SJ (mf.bind f) P (J pc L stk β σ δ) := by
  subst hstk
  exact sj_callS hJ (fun r => ((some (.int r.1)), σ, r.2)) ml hfr hlo hrest (Nat.zero_le _) (Nat.zero_le _) d ct kk
theorem sj_callVl {cc : ByteArray} {nL : Nat} {own nm : String} {fr lo : Nat} {J : JT} (hJ : Cor cc nL own nm fr lo J) {pc : Nat} {L : List (Nat × Value)} {st : List Value} {β : Bu} {σ : St} {δ : Dy} {ρ : Type} {P : ρ → Prop} {mf : Option (Int64 × Dy)} {f : Int64 × Dy → Option ρ}
    {idx : Nat} {y : MethodName} {cc' : ByteArray} {nL' : Nat} {ret' : Option FieldType} {fr' lo' : Nat} (As : List Value) {b ci : Nat} (ml : MLV own idx y cc' nL' ret' As.length) (hcl : tkCl[ci]? = some (clC ci) ∧ (clC ci).1 = y.cls ∧ ci < 100) (hfr : fr' + 1 ≤ fr) (hlo : 8 + (nL' + 11) + lo' ≤ lo) (hrest : (st.map fun v => v.category).sum ≤ 8)
    (d : decode cc pc = .ok (.invokevirtual idx, 3)) {stk : List Value} (hstk : stk = As.reverse ++ .ref b :: st) (ct : ∀ r, mf = some r → CT y cc' nL' ret' fr' lo' 0 0 (.ref b :: As) σ δ ((some (.long r.1)), σ, r.2))
    (kk : ∀ r : Int64 × Dy, SJ (f r) P (J (pc + 3) L (.long r.1 :: st) β σ r.2)) : SJ ((chk σ ci b).bind fun _ => mf.bind f) P (J pc L stk β σ δ) := by
  subst hstk
  exact sj_callV hJ (fun r => ((some (.long r.1)), σ, r.2)) ml hcl hfr hlo hrest (Nat.zero_le _) (Nat.zero_le _) d ct kk
theorem sj_callSl {cc : ByteArray} {nL : Nat} {own nm : String} {fr lo : Nat} {J : JT} (hJ : Cor cc nL own nm fr lo J) {pc : Nat} {L : List (Nat × Value)} {st : List Value} {β : Bu} {σ : St} {δ : Dy} {ρ : Type} {P : ρ → Prop} {mf : Option (Int64 × Dy)} {f : Int64 × Dy → Option ρ}
    {idx : Nat} {y : MethodName} {cc' : ByteArray} {nL' : Nat} {ret' : Option FieldType} {fr' lo' : Nat} (As : List Value) (ml : MLS own idx y cc' nL' ret' As.length) (hfr : fr' + 1 ≤ fr) (hlo : 8 + (nL' + 11) + lo' ≤ lo) (hrest : (st.map fun v => v.category).sum ≤ 8)
    (d : decode cc pc = .ok (.invokestatic idx, 3)) {stk : List Value} (hstk : stk = As.reverse ++ st) (ct : ∀ r, mf = some r → CT y cc' nL' ret' fr' lo' 0 0 As σ δ ((some (.long r.1)), σ, r.2))
    (kk : ∀ r : Int64 × Dy, SJ (f r) P (J (pc + 3) L (.long r.1 :: st) β σ r.2)) : SJ (mf.bind f) P (J pc L stk β σ δ) := by
  subst hstk
  exact sj_callS hJ (fun r => ((some (.long r.1)), σ, r.2)) ml hfr hlo hrest (Nat.zero_le _) (Nat.zero_le _) d ct kk
theorem sj_callVa {cc : ByteArray} {nL : Nat} {own nm : String} {fr lo : Nat} {J : JT} (hJ : Cor cc nL own nm fr lo J) {pc : Nat} {L : List (Nat × Value)} {st : List Value} {β : Bu} {σ : St} {δ : Dy} {ρ : Type} {P : ρ → Prop} {mf : Option (Nat × Dy)} {f : Nat × Dy → Option ρ}
    {idx : Nat} {y : MethodName} {cc' : ByteArray} {nL' : Nat} {ret' : Option FieldType} {fr' lo' : Nat} (As : List Value) {b ci : Nat} (ml : MLV own idx y cc' nL' ret' As.length) (hcl : tkCl[ci]? = some (clC ci) ∧ (clC ci).1 = y.cls ∧ ci < 100) (hfr : fr' + 1 ≤ fr) (hlo : 8 + (nL' + 11) + lo' ≤ lo) (hrest : (st.map fun v => v.category).sum ≤ 8)
    (d : decode cc pc = .ok (.invokevirtual idx, 3)) {stk : List Value} (hstk : stk = As.reverse ++ .ref b :: st) (ct : ∀ r, mf = some r → CT y cc' nL' ret' fr' lo' 0 0 (.ref b :: As) σ δ ((some (.ref r.1)), σ, r.2))
    (kk : ∀ r : Nat × Dy, SJ (f r) P (J (pc + 3) L (.ref r.1 :: st) β σ r.2)) : SJ ((chk σ ci b).bind fun _ => mf.bind f) P (J pc L stk β σ δ) := by
  subst hstk
  exact sj_callV hJ (fun r => ((some (.ref r.1)), σ, r.2)) ml hcl hfr hlo hrest (Nat.zero_le _) (Nat.zero_le _) d ct kk
theorem sj_callSa {cc : ByteArray} {nL : Nat} {own nm : String} {fr lo : Nat} {J : JT} (hJ : Cor cc nL own nm fr lo J) {pc : Nat} {L : List (Nat × Value)} {st : List Value} {β : Bu} {σ : St} {δ : Dy} {ρ : Type} {P : ρ → Prop} {mf : Option (Nat × Dy)} {f : Nat × Dy → Option ρ}
    {idx : Nat} {y : MethodName} {cc' : ByteArray} {nL' : Nat} {ret' : Option FieldType} {fr' lo' : Nat} (As : List Value) (ml : MLS own idx y cc' nL' ret' As.length) (hfr : fr' + 1 ≤ fr) (hlo : 8 + (nL' + 11) + lo' ≤ lo) (hrest : (st.map fun v => v.category).sum ≤ 8)
    (d : decode cc pc = .ok (.invokestatic idx, 3)) {stk : List Value} (hstk : stk = As.reverse ++ st) (ct : ∀ r, mf = some r → CT y cc' nL' ret' fr' lo' 0 0 As σ δ ((some (.ref r.1)), σ, r.2))
    (kk : ∀ r : Nat × Dy, SJ (f r) P (J (pc + 3) L (.ref r.1 :: st) β σ r.2)) : SJ (mf.bind f) P (J pc L stk β σ δ) := by
  subst hstk
  exact sj_callS hJ (fun r => ((some (.ref r.1)), σ, r.2)) ml hfr hlo hrest (Nat.zero_le _) (Nat.zero_le _) d ct kk
theorem sj_callVv {cc : ByteArray} {nL : Nat} {own nm : String} {fr lo : Nat} {J : JT} (hJ : Cor cc nL own nm fr lo J) {pc : Nat} {L : List (Nat × Value)} {st : List Value} {β : Bu} {σ : St} {δ : Dy} {ρ : Type} {P : ρ → Prop} {mf : Option (Dy)} {f : Dy → Option ρ}
    {idx : Nat} {y : MethodName} {cc' : ByteArray} {nL' : Nat} {ret' : Option FieldType} {fr' lo' : Nat} (As : List Value) {b ci : Nat} (ml : MLV own idx y cc' nL' ret' As.length) (hcl : tkCl[ci]? = some (clC ci) ∧ (clC ci).1 = y.cls ∧ ci < 100) (hfr : fr' + 1 ≤ fr) (hlo : 8 + (nL' + 11) + lo' ≤ lo) (hrest : (st.map fun v => v.category).sum ≤ 8)
    (d : decode cc pc = .ok (.invokevirtual idx, 3)) {stk : List Value} (hstk : stk = As.reverse ++ .ref b :: st) (ct : ∀ r, mf = some r → CT y cc' nL' ret' fr' lo' 0 0 (.ref b :: As) σ δ (none, σ, r))
    (kk : ∀ r : Dy, SJ (f r) P (J (pc + 3) L (st) β σ r)) : SJ ((chk σ ci b).bind fun _ => mf.bind f) P (J pc L stk β σ δ) := by
  subst hstk
  exact sj_callV hJ (fun r => (none, σ, r)) ml hcl hfr hlo hrest (Nat.zero_le _) (Nat.zero_le _) d ct kk
theorem sj_callSv {cc : ByteArray} {nL : Nat} {own nm : String} {fr lo : Nat} {J : JT} (hJ : Cor cc nL own nm fr lo J) {pc : Nat} {L : List (Nat × Value)} {st : List Value} {β : Bu} {σ : St} {δ : Dy} {ρ : Type} {P : ρ → Prop} {mf : Option (Dy)} {f : Dy → Option ρ}
    {idx : Nat} {y : MethodName} {cc' : ByteArray} {nL' : Nat} {ret' : Option FieldType} {fr' lo' : Nat} (As : List Value) (ml : MLS own idx y cc' nL' ret' As.length) (hfr : fr' + 1 ≤ fr) (hlo : 8 + (nL' + 11) + lo' ≤ lo) (hrest : (st.map fun v => v.category).sum ≤ 8)
    (d : decode cc pc = .ok (.invokestatic idx, 3)) {stk : List Value} (hstk : stk = As.reverse ++ st) (ct : ∀ r, mf = some r → CT y cc' nL' ret' fr' lo' 0 0 As σ δ (none, σ, r))
    (kk : ∀ r : Dy, SJ (f r) P (J (pc + 3) L (st) β σ r)) : SJ (mf.bind f) P (J pc L stk β σ δ) := by
  subst hstk
  exact sj_callS hJ (fun r => (none, σ, r)) ml hfr hlo hrest (Nat.zero_le _) (Nat.zero_le _) d ct kk
