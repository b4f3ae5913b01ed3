/-! HEAP ROWS: fields and arrays -/
def CF (c : Nat) : Prop := tkCl[c]? = some (clC c) ∧ (∀ w ∈ u_ws (clC c).1 (clC c).2.1 (clC c).2.2, w ∈ lwg) ∧ (∃ ty0 : Nat → FieldType, ∀ k, k < (clC c).2.2 → parseFieldDescriptor ((clC c).2.1 k).2.2.1 = some (ty0 k)) ∧ (∀ a, a < (clC c).2.2 → ∀ b, b < (clC c).2.2 → a ≠ b → ((clC c).2.1 a).2.1 ≠ ((clC c).2.1 b).2.1)
def FL (own : String) (idx c k t : Nat) : Prop := CF c ∧ c < 100 ∧ k < (clC c).2.2 ∧ Cond.fieldLink own idx ((clC c).2.1 k).1 ((clC c).2.1 k).2.1 ((clC c).2.1 k).2.2.1 ∈ lwg ∧ fcode ((clC c).2.1 k).2.2.1 = t
theorem fc0 {d : String} (h : fcode d = 0) : d = "I" := by
  unfold fcode at h
  split at h
  · assumption
  · split at h
    · cases h
    · split at h <;> cases h
theorem fc1 {d : String} (h : fcode d = 1) : d = "Z" := by
  unfold fcode at h
  split at h
  · cases h
  · split at h
    · assumption
    · split at h <;> cases h
theorem fc2 {d : String} (h : fcode d = 2) : d = "J" := by
  unfold fcode at h
  split at h
  · cases h
  · split at h
    · cases h
    · split at h
      · assumption
      · cases h
theorem u2_ne {α : Type} {f : Nat → Nat → α} {i j k : Nat} {x : α} (h : j ≠ i) : u2 f i k x j = f j := by
  funext b
  simp [u2, h]
theorem u2_eq {α : Type} {f : Nat → Nat → α} {i k : Nat} {x : α} : u2 f i k x i k = x := by simp [u2]
theorem u2_nk {α : Type} {f : Nat → Nat → α} {i k j : Nat} {x : α} (h : j ≠ k) : u2 f i k x i j = f i j := by simp [u2, h]
theorem u2_upd {f : Nat → Nat → Int32} {i k : Nat} {x : Int32} : u2 f i k x i = upd (f i) k x := by
  funext b
  simp [u2, upd]
theorem u2_updL {f : Nat → Nat → Int64} {i k : Nat} {x : Int64} : u2 f i k x i = vp_updL (f i) k x := by
  funext b
  simp [u2, vp_updL]
theorem fval_congr {ad : Nat → Nat} {σ σ' : St} {δ δ' : Dy} {i k t : Nat} (h1 : δ.1 i = δ'.1 i) (h2 : δ.2 i = δ'.2 i) (h3 : srv σ i = srv σ' i) : fval ad σ δ i k t = fval ad σ' δ' i k t := by
  unfold fval
  rw [h1, h2, h3]
theorem acon_congr {ad : Nat → Nat} {σ σ' : St} {δ δ' : Dy} {i t : Nat} (h0 : sln σ i = sln σ' i) (h1 : δ.1 i = δ'.1 i) (h2 : δ.2 i = δ'.2 i) (h3 : srv σ i = srv σ' i) : acon ad σ δ i t = acon ad σ' δ' i t := by
  unfold acon
  rw [h0, h1, h2, h3]
theorem cel_congr {ad : Nat → Nat} {tc : Nat → ClassId} {σ σ' : St} {δ δ' : Dy} {i : Nat} (hk : skd σ i = skd σ' i) (h0 : sln σ i = sln σ' i) (h1 : δ.1 i = δ'.1 i) (h2 : δ.2 i = δ'.2 i) (h3 : srv σ i = srv σ' i) : cel ad tc σ δ i = cel ad tc σ' δ' i := by
  unfold cel
  rw [hk, acon_congr (ad := ad) (t := skd σ' i) h0 h1 h2 h3]
  by_cases h : skd σ' i < 100
  · rw [if_pos h, if_pos h]
    congr 2
    apply List.map_congr_left
    intro k _
    exact fval_congr h1 h2 h3
  · rw [if_neg h, if_neg h]
def fds (ad : Nat → Nat) (σ : St) (δ : Dy) (r c : Nat) : List Value := (List.range (clC c).2.2).map (fun k => fval ad σ δ r k (fcode ((clC c).2.1 k).2.2.1))
theorem cel_obj {ad : Nat → Nat} {tc : Nat → ClassId} {σ : St} {δ : Dy} {r c : Nat} (h : skd σ r = c) (hc : c < 100) : cel ad tc σ δ r = .inr (c, fds ad σ δ r c) := by
  subst h
  unfold cel fds
  rw [if_pos hc]
theorem cel_arr {ad : Nat → Nat} {tc : Nat → ClassId} {σ : St} {δ : Dy} {r t : Nat} (h : skd σ r = t) (hc : ¬ t < 100) : cel ad tc σ δ r = .inl (tc t, acon ad σ δ r t) := by
  subst h
  unfold cel
  rw [if_neg hc]
theorem fds_at {ad : Nat → Nat} {σ : St} {δ : Dy} {r c k : Nat} (hk : k < (clC c).2.2) : (fds ad σ δ r c)[k]? = some (fval ad σ δ r k (fcode ((clC c).2.1 k).2.2.1)) := by
  simp [fds, List.getElem?_map, List.getElem?_range hk]
theorem fds_len {ad : Nat → Nat} {σ : St} {δ : Dy} {r c : Nat} : (fds ad σ δ r c).length = (clC c).2.2 := by simp [fds]
theorem fds_set {ad : Nat → Nat} {σ σ' : St} {δ δ' : Dy} {r c k : Nat} {v : Value} (hk : fval ad σ' δ' r k (fcode ((clC c).2.1 k).2.2.1) = v) (hj : ∀ j, j ≠ k → fval ad σ' δ' r j (fcode ((clC c).2.1 j).2.2.1) = fval ad σ δ r j (fcode ((clC c).2.1 j).2.2.1)) : (fds ad σ δ r c).set k v = fds ad σ' δ' r c := range_set _ _ _ _ _ hk hj
def gI (σ : St) (δ : Dy) (c r k : Nat) : Option Int32 := if r < sn σ ∧ skd σ r = c then some (δ.1 r k) else none
def gL (σ : St) (δ : Dy) (c r k : Nat) : Option Int64 := if r < sn σ ∧ skd σ r = c then some (δ.2 r k) else none
def gR (σ : St) (c r k : Nat) : Option Nat := if r < sn σ ∧ skd σ r = c then srv σ r k else none
def chk (σ : St) (c r : Nat) : Option Unit := if r < sn σ ∧ skd σ r = c then some () else none
def pI (σ : St) (δ : Dy) (c r k : Nat) (x : Int32) : Option Dy := if r < sn σ ∧ skd σ r = c then some (u2 δ.1 r k x, δ.2) else none
def pZ (σ : St) (δ : Dy) (c r k : Nat) (x : Int32) : Option Dy := if (r < sn σ ∧ skd σ r = c) ∧ (x = 0 ∨ x = 1) then some (u2 δ.1 r k x, δ.2) else none
def pL (σ : St) (δ : Dy) (c r k : Nat) (x : Int64) : Option Dy := if r < sn σ ∧ skd σ r = c then some (δ.1, u2 δ.2 r k x) else none
def inb (i : Int32) (n : Nat) : Bool := !(decide (i < 0) || decide (n ≤ i.toNatClampNeg))
theorem inb_vp {i : Int32} {n : Nat} (h : inb i n = true) : vp_in i n := by
  simp only [inb, Bool.not_eq_true', Bool.or_eq_false_iff, decide_eq_false_iff_not] at h
  exact fun q => q.elim h.1 h.2
def rI (σ : St) (δ : Dy) (r : Nat) (i : Int32) : Option Int32 := if (r < sn σ ∧ skd σ r = 100) ∧ inb i (sln σ r) = true then some (δ.1 r i.toNatClampNeg) else none
def rZ (σ : St) (δ : Dy) (r : Nat) (i : Int32) : Option Int32 := if (r < sn σ ∧ skd σ r = 101) ∧ inb i (sln σ r) = true then some (δ.1 r i.toNatClampNeg) else none
def rL (σ : St) (δ : Dy) (r : Nat) (i : Int32) : Option Int64 := if (r < sn σ ∧ skd σ r = 102) ∧ inb i (sln σ r) = true then some (δ.2 r i.toNatClampNeg) else none
def rA (σ : St) (t r : Nat) (i : Int32) : Option Nat := if (r < sn σ ∧ skd σ r = t) ∧ inb i (sln σ r) = true then srv σ r i.toNatClampNeg else none
def rP (i : Int32) : Option Int32 := if inb i 7 = true then some (prm i.toNatClampNeg) else none
def wI (σ : St) (δ : Dy) (r : Nat) (i x : Int32) : Option Dy := if (r < sn σ ∧ skd σ r = 100) ∧ inb i (sln σ r) = true then some (u2 δ.1 r i.toNatClampNeg x, δ.2) else none
def wZ (σ : St) (δ : Dy) (r : Nat) (i x : Int32) : Option Dy := if ((r < sn σ ∧ skd σ r = 101) ∧ inb i (sln σ r) = true) ∧ (x = 0 ∨ x = 1) then some (u2 δ.1 r i.toNatClampNeg x, δ.2) else none
def wLo (σ : St) (δ : Dy) (r : Nat) (i : Int32) (x : Int64) : Option Dy := if (r < sn σ ∧ skd σ r = 102) ∧ inb i (sln σ r) = true then some (δ.1, u2 δ.2 r i.toNatClampNeg x) else none
def aln (σ : St) (t r : Nat) : Option Int32 := if r < sn σ ∧ skd σ r = t then some (Int32.ofNat (sln σ r)) else none
def dvI (x y : Int32) : Option Int32 := if y = 0 then none else some (x / y)
def rmI (x y : Int32) : Option Int32 := if y = 0 then none else some (x - x / y * y)
def dvL (x y : Int64) : Option Int64 := if y = 0 then none else some (x / y)
def rmL (x y : Int64) : Option Int64 := if y = 0 then none else some (x - x / y * y)
theorem if_some {α : Type} {c : Prop} [Decidable c] {a b : α} (h : (if c then some a else none) = some b) : c ∧ a = b := by
  by_cases hc : c
  · rw [if_pos hc] at h
    exact ⟨hc, Option.some.inj h⟩
  · rw [if_neg hc] at h
    cases h
theorem if_someO {α : Type} {c : Prop} [Decidable c] {a : Option α} {b : α} (h : (if c then a else none) = some b) : c ∧ a = some b := by
  by_cases hc : c
  · rw [if_pos hc] at h
    exact ⟨hc, h⟩
  · rw [if_neg hc] at h
    cases h
theorem sj_gI {cc : ByteArray} {nL : Nat} {own nm : String} {fr lo : Nat} {J : JT} (hJ : Cor cc nL own nm fr lo J) {pc : Nat} {L : List (Nat × Value)} {st : List Value} {β : Bu} {σ : St} {δ : Dy} {ρ : Type} {P : ρ → Prop} {f : Int32 → Option ρ} {idx ci k t r : Nat} (fl : FL own idx ci k t) (ht : t = 0 ∨ t = 1) (d : decode cc pc = .ok (.getfield idx, 3)) (kk : ∀ v, SJ (f v) P (J (pc + 3) L (.int v :: st) β σ δ)) : SJ ((gI σ δ ci r k).bind f) P (J pc L (.ref r :: st) β σ δ) := by
  refine sj_bind fun v hv => ?_
  obtain ⟨⟨hr, hkd⟩, hve⟩ := if_some hv
  refine sj (fun k' => ?_) (kk v)
  obtain ⟨⟨hcf1, hcf2, hcf3, hcf4⟩, hc100, hkN, hlw, hfc⟩ := fl
  obtain ⟨p, l, e, R, s, m, args, below, meth, c, D, tc, A, ad0, n0, mc, ms, Q, ⟨hx, hb, hml, hown, hts, hK, hA, hfr, hlo, hRc, hRs, hro, hnm, htr⟩, rfl⟩ := hJ
  intro ad H ls locs cells slots h1 h2 h3 hL hst h4 hl hP hD hS hc hs
  have hwf : wfv (sn σ) (.int v) := trivial
  have hres := k' ad H ls locs cells slots h1 h2 h3 hL (wfc hwf (wft hst)) h4 hl hP hD hS hc hs
  refine va_get (D := D) (ci := ci) hx hb hts hcf2 hown hK hP r ((wld_get hr).trans (by rw [cel_obj hkd hc100])) hcf1 k hkN (hts _ hlw) (fun _ h => h) (v := cv ad (.int v)) ?_ d hres
  rw [fds_at hkN, hfc]
  subst hve; rcases ht with rfl | rfl <;> rfl
theorem sj_gL {cc : ByteArray} {nL : Nat} {own nm : String} {fr lo : Nat} {J : JT} (hJ : Cor cc nL own nm fr lo J) {pc : Nat} {L : List (Nat × Value)} {st : List Value} {β : Bu} {σ : St} {δ : Dy} {ρ : Type} {P : ρ → Prop} {f : Int64 → Option ρ} {idx ci k t r : Nat} (fl : FL own idx ci k t) (ht : t = 2) (d : decode cc pc = .ok (.getfield idx, 3)) (kk : ∀ v, SJ (f v) P (J (pc + 3) L (.long v :: st) β σ δ)) : SJ ((gL σ δ ci r k).bind f) P (J pc L (.ref r :: st) β σ δ) := by
  refine sj_bind fun v hv => ?_
  obtain ⟨⟨hr, hkd⟩, hve⟩ := if_some hv
  refine sj (fun k' => ?_) (kk v)
  obtain ⟨⟨hcf1, hcf2, hcf3, hcf4⟩, hc100, hkN, hlw, hfc⟩ := fl
  obtain ⟨p, l, e, R, s, m, args, below, meth, c, D, tc, A, ad0, n0, mc, ms, Q, ⟨hx, hb, hml, hown, hts, hK, hA, hfr, hlo, hRc, hRs, hro, hnm, htr⟩, rfl⟩ := hJ
  intro ad H ls locs cells slots h1 h2 h3 hL hst h4 hl hP hD hS hc hs
  have hwf : wfv (sn σ) (.long v) := trivial
  have hres := k' ad H ls locs cells slots h1 h2 h3 hL (wfc hwf (wft hst)) h4 hl hP hD hS hc hs
  refine va_get (D := D) (ci := ci) hx hb hts hcf2 hown hK hP r ((wld_get hr).trans (by rw [cel_obj hkd hc100])) hcf1 k hkN (hts _ hlw) (fun _ h => h) (v := cv ad (.long v)) ?_ d hres
  rw [fds_at hkN, hfc]
  subst hve; subst ht; rfl
theorem sj_gR {cc : ByteArray} {nL : Nat} {own nm : String} {fr lo : Nat} {J : JT} (hJ : Cor cc nL own nm fr lo J) {pc : Nat} {L : List (Nat × Value)} {st : List Value} {β : Bu} {σ : St} {δ : Dy} {ρ : Type} {P : ρ → Prop} {f : Nat → Option ρ} {idx ci k t r : Nat} (fl : FL own idx ci k t) (ht : t = 3) (d : decode cc pc = .ok (.getfield idx, 3)) (kk : ∀ v, SJ (f v) P (J (pc + 3) L (.ref v :: st) β σ δ)) : SJ ((gR σ ci r k).bind f) P (J pc L (.ref r :: st) β σ δ) := by
  refine sj_bind fun v hv => ?_
  obtain ⟨⟨hr, hkd⟩, hve⟩ := if_someO hv
  refine sj (fun k' => ?_) (kk v)
  obtain ⟨⟨hcf1, hcf2, hcf3, hcf4⟩, hc100, hkN, hlw, hfc⟩ := fl
  obtain ⟨p, l, e, R, s, m, args, below, meth, c, D, tc, A, ad0, n0, mc, ms, Q, ⟨hx, hb, hml, hown, hts, hK, hA, hfr, hlo, hRc, hRs, hro, hnm, htr⟩, rfl⟩ := hJ
  intro ad H ls locs cells slots h1 h2 h3 hL hst h4 hl hP hD hS hc hs
  have hwf : wfv (sn σ) (.ref v) := Or.inl (h4 r k v hve)
  have hres := k' ad H ls locs cells slots h1 h2 h3 hL (wfc hwf (wft hst)) h4 hl hP hD hS hc hs
  refine va_get (D := D) (ci := ci) hx hb hts hcf2 hown hK hP r ((wld_get hr).trans (by rw [cel_obj hkd hc100])) hcf1 k hkN (hts _ hlw) (fun _ h => h) (v := cv ad (.ref v)) ?_ d hres
  rw [fds_at hkN, hfc]
  subst ht; show some (va_rf ((srv σ r k).map ad)) = _; rw [hve]; rfl
theorem sj_pI {cc : ByteArray} {nL : Nat} {own nm : String} {fr lo : Nat} {J : JT} (hJ : Cor cc nL own nm fr lo J) {pc : Nat} {L : List (Nat × Value)} {st : List Value} {β : Bu} {σ : St} {δ : Dy} {ρ : Type} {P : ρ → Prop} {f : Dy → Option ρ} {idx ci k r : Nat} {x : Int32} (fl : FL own idx ci k 0) (hfin : ((clC ci).2.1 k).2.2.2 = false) (d : decode cc pc = .ok (.putfield idx, 3)) (kk : ∀ δ', SJ (f δ') P (J (pc + 3) L st β σ δ')) : SJ ((pI σ δ ci r k x).bind f) P (J pc L (.int x :: .ref r :: st) β σ δ) := by
  refine sj_bind fun δ' hv => ?_
  obtain ⟨⟨hr, hkd⟩, hve⟩ := if_some hv
  refine sj (fun k' => ?_) (kk δ')
  obtain ⟨⟨hcf1, hcf2, ⟨ty0, hcf3⟩, hcf4⟩, hc100, hkN, hlw, hfc⟩ := fl
  obtain ⟨p, l, e, R, s, m, args, below, meth, c, D, tc, A, ad0, n0, mc, ms, Q, ⟨hx, hb, hml, hown, hts, hK, hA, hfr, hlo, hRc, hRs, hro, hnm, htr⟩, rfl⟩ := hJ
  intro ad H ls locs cells slots h1 h2 h3 hL hst h4 hl hP hD hS hc hs
  have hd := fc0 hfc
  refine va_put (D := D) (ci := ci) (v := cv ad (.int x)) (ty := .int) hx hb hts hcf2 ty0 hcf3 hcf4 hown hK hP hD hS r ((wld_get hr).trans (by rw [cel_obj hkd hc100])) hcf1 k hkN (hts _ hlw) (fun _ h => h) hfin (by rw [hd]; decide +kernel) rfl rfl (by rw [fds_len]; exact hkN) d (fun H1 locs1 hP1 hD1 hS1 => ?_)
  have hw : (wld ad tc σ δ).set r (ad r, .inr (ci, (fds ad σ δ r ci).set k (cv ad (.int x)))) = wld ad tc σ δ' := by
    subst hve
    refine wld_set rfl ?_ (fun j hj => cel_congr rfl rfl (u2_ne hj) rfl rfl)
    rw [cel_obj hkd hc100, fds_set (σ' := σ) (δ' := (u2 δ.1 r k x, δ.2))]
    · rw [hfc]
      show Value.int (u2 δ.1 r k x r k) = _
      rw [u2_eq]
      rfl
    · intro j hj
      have hq : (u2 δ.1 r k x) r j = δ.1 r j := u2_nk hj
      unfold fval
      dsimp only
      rw [hq]
  rw [hw] at hP1 hD1
  exact k' ad H1 ls locs1 cells slots h1 h2 h3 hL (wft (wft hst)) h4 hl hP1 hD1 hS1 hc hs
theorem sj_pZ {cc : ByteArray} {nL : Nat} {own nm : String} {fr lo : Nat} {J : JT} (hJ : Cor cc nL own nm fr lo J) {pc : Nat} {L : List (Nat × Value)} {st : List Value} {β : Bu} {σ : St} {δ : Dy} {ρ : Type} {P : ρ → Prop} {f : Dy → Option ρ} {idx ci k r : Nat} {x : Int32} (fl : FL own idx ci k 1) (hfin : ((clC ci).2.1 k).2.2.2 = false) (d : decode cc pc = .ok (.putfield idx, 3)) (kk : ∀ δ', SJ (f δ') P (J (pc + 3) L st β σ δ')) : SJ ((pZ σ δ ci r k x).bind f) P (J pc L (.int x :: .ref r :: st) β σ δ) := by
  refine sj_bind fun δ' hv => ?_
  obtain ⟨⟨⟨hr, hkd⟩, hx01⟩, hve⟩ := if_some hv
  refine sj (fun k' => ?_) (kk δ')
  obtain ⟨⟨hcf1, hcf2, ⟨ty0, hcf3⟩, hcf4⟩, hc100, hkN, hlw, hfc⟩ := fl
  obtain ⟨p, l, e, R, s, m, args, below, meth, c, D, tc, A, ad0, n0, mc, ms, Q, ⟨hx, hb, hml, hown, hts, hK, hA, hfr, hlo, hRc, hRs, hro, hnm, htr⟩, rfl⟩ := hJ
  intro ad H ls locs cells slots h1 h2 h3 hL hst h4 hl hP hD hS hc hs
  have hd := fc1 hfc
  refine va_put (D := D) (ci := ci) (v := cv ad (.int x)) (ty := .boolean) hx hb hts hcf2 ty0 hcf3 hcf4 hown hK hP hD hS r ((wld_get hr).trans (by rw [cel_obj hkd hc100])) hcf1 k hkN (hts _ hlw) (fun _ h => h) hfin (by rw [hd]; decide +kernel) (by rcases hx01 with rfl | rfl <;> rfl) (by rcases hx01 with rfl | rfl <;> rfl) (by rw [fds_len]; exact hkN) d (fun H1 locs1 hP1 hD1 hS1 => ?_)
  have hw : (wld ad tc σ δ).set r (ad r, .inr (ci, (fds ad σ δ r ci).set k (cv ad (.int x)))) = wld ad tc σ δ' := by
    subst hve
    refine wld_set rfl ?_ (fun j hj => cel_congr rfl rfl (u2_ne hj) rfl rfl)
    rw [cel_obj hkd hc100, fds_set (σ' := σ) (δ' := (u2 δ.1 r k x, δ.2))]
    · rw [hfc]
      show Value.int (u2 δ.1 r k x r k) = _
      rw [u2_eq]
      rfl
    · intro j hj
      have hq : (u2 δ.1 r k x) r j = δ.1 r j := u2_nk hj
      unfold fval
      dsimp only
      rw [hq]
  rw [hw] at hP1 hD1
  exact k' ad H1 ls locs1 cells slots h1 h2 h3 hL (wft (wft hst)) h4 hl hP1 hD1 hS1 hc hs
theorem sj_pL {cc : ByteArray} {nL : Nat} {own nm : String} {fr lo : Nat} {J : JT} (hJ : Cor cc nL own nm fr lo J) {pc : Nat} {L : List (Nat × Value)} {st : List Value} {β : Bu} {σ : St} {δ : Dy} {ρ : Type} {P : ρ → Prop} {f : Dy → Option ρ} {idx ci k r : Nat} {x : Int64} (fl : FL own idx ci k 2) (hfin : ((clC ci).2.1 k).2.2.2 = false) (d : decode cc pc = .ok (.putfield idx, 3)) (kk : ∀ δ', SJ (f δ') P (J (pc + 3) L st β σ δ')) : SJ ((pL σ δ ci r k x).bind f) P (J pc L (.long x :: .ref r :: st) β σ δ) := by
  refine sj_bind fun δ' hv => ?_
  obtain ⟨⟨hr, hkd⟩, hve⟩ := if_some hv
  refine sj (fun k' => ?_) (kk δ')
  obtain ⟨⟨hcf1, hcf2, ⟨ty0, hcf3⟩, hcf4⟩, hc100, hkN, hlw, hfc⟩ := fl
  obtain ⟨p, l, e, R, s, m, args, below, meth, c, D, tc, A, ad0, n0, mc, ms, Q, ⟨hx, hb, hml, hown, hts, hK, hA, hfr, hlo, hRc, hRs, hro, hnm, htr⟩, rfl⟩ := hJ
  intro ad H ls locs cells slots h1 h2 h3 hL hst h4 hl hP hD hS hc hs
  have hd := fc2 hfc
  refine va_put (D := D) (ci := ci) (v := cv ad (.long x)) (ty := .long) hx hb hts hcf2 ty0 hcf3 hcf4 hown hK hP hD hS r ((wld_get hr).trans (by rw [cel_obj hkd hc100])) hcf1 k hkN (hts _ hlw) (fun _ h => h) hfin (by rw [hd]; decide +kernel) rfl rfl (by rw [fds_len]; exact hkN) d (fun H1 locs1 hP1 hD1 hS1 => ?_)
  have hw : (wld ad tc σ δ).set r (ad r, .inr (ci, (fds ad σ δ r ci).set k (cv ad (.long x)))) = wld ad tc σ δ' := by
    subst hve
    refine wld_set rfl ?_ (fun j hj => cel_congr rfl rfl rfl (u2_ne hj) rfl)
    rw [cel_obj hkd hc100, fds_set (σ' := σ) (δ' := (δ.1, u2 δ.2 r k x))]
    · rw [hfc]
      show Value.long (u2 δ.2 r k x r k) = _
      rw [u2_eq]
      rfl
    · intro j hj
      have hq : (u2 δ.2 r k x) r j = δ.2 r j := u2_nk hj
      unfold fval
      dsimp only
      rw [hq]
  rw [hw] at hP1 hD1
  exact k' ad H1 ls locs1 cells slots h1 h2 h3 hL (wft (wft hst)) h4 hl hP1 hD1 hS1 hc hs
theorem sj_rI {cc : ByteArray} {nL : Nat} {own nm : String} {fr lo : Nat} {J : JT} (hJ : Cor cc nL own nm fr lo J) {pc : Nat} {L : List (Nat × Value)} {st : List Value} {β : Bu} {σ : St} {δ : Dy} {ρ : Type} {P : ρ → Prop} {f : Int32 → Option ρ} {r : Nat} {i : Int32} (d : decode cc pc = .ok (.iaload, 1)) (kk : ∀ v, SJ (f v) P (J (pc + 1) L (.int v :: st) β σ δ)) : SJ ((rI σ δ r i).bind f) P (J pc L (.int i :: .ref r :: st) β σ δ) := by
  refine sj_bind fun v hv => ?_
  obtain ⟨⟨⟨hr, hkd⟩, hin⟩, hve⟩ := if_some hv
  refine sj (fun k' => ?_) (kk v)
  obtain ⟨p, l, e, R, s, m, args, below, meth, c, D, tc, A, ad0, n0, mc, ms, Q, ⟨hx, hb, hml, hown, hts, hK, hA, hfr, hlo, hRc, hRs, hro, hnm, htr⟩, rfl⟩ := hJ
  intro ad H ls locs cells slots h1 h2 h3 hL hst h4 hl hP hD hS hc hs
  have hres := k' ad H ls locs cells slots h1 h2 h3 hL (wfc trivial (wft (wft hst))) h4 hl hP hD hS hc hs
  subst hve
  exact va_iald hx hb hK hP r 0 ((wld_get hr).trans (by rw [cel_arr hkd (by decide)]; rfl)) rfl (inb_vp hin) d hres
theorem sj_rZ {cc : ByteArray} {nL : Nat} {own nm : String} {fr lo : Nat} {J : JT} (hJ : Cor cc nL own nm fr lo J) {pc : Nat} {L : List (Nat × Value)} {st : List Value} {β : Bu} {σ : St} {δ : Dy} {ρ : Type} {P : ρ → Prop} {f : Int32 → Option ρ} {r : Nat} {i : Int32} (d : decode cc pc = .ok (.baload, 1)) (kk : ∀ v, SJ (f v) P (J (pc + 1) L (.int v :: st) β σ δ)) : SJ ((rZ σ δ r i).bind f) P (J pc L (.int i :: .ref r :: st) β σ δ) := by
  refine sj_bind fun v hv => ?_
  obtain ⟨⟨⟨hr, hkd⟩, hin⟩, hve⟩ := if_some hv
  refine sj (fun k' => ?_) (kk v)
  obtain ⟨p, l, e, R, s, m, args, below, meth, c, D, tc, A, ad0, n0, mc, ms, Q, ⟨hx, hb, hml, hown, hts, hK, hA, hfr, hlo, hRc, hRs, hro, hnm, htr⟩, rfl⟩ := hJ
  intro ad H ls locs cells slots h1 h2 h3 hL hst h4 hl hP hD hS hc hs
  have hres := k' ad H ls locs cells slots h1 h2 h3 hL (wfc trivial (wft (wft hst))) h4 hl hP hD hS hc hs
  subst hve
  exact va_zald hx hb hK hP r 1 ((wld_get hr).trans (by rw [cel_arr hkd (by decide)]; rfl)) rfl (inb_vp hin) d hres
theorem sj_rL {cc : ByteArray} {nL : Nat} {own nm : String} {fr lo : Nat} {J : JT} (hJ : Cor cc nL own nm fr lo J) {pc : Nat} {L : List (Nat × Value)} {st : List Value} {β : Bu} {σ : St} {δ : Dy} {ρ : Type} {P : ρ → Prop} {f : Int64 → Option ρ} {r : Nat} {i : Int32} (d : decode cc pc = .ok (.laload, 1)) (kk : ∀ v, SJ (f v) P (J (pc + 1) L (.long v :: st) β σ δ)) : SJ ((rL σ δ r i).bind f) P (J pc L (.int i :: .ref r :: st) β σ δ) := by
  refine sj_bind fun v hv => ?_
  obtain ⟨⟨⟨hr, hkd⟩, hin⟩, hve⟩ := if_some hv
  refine sj (fun k' => ?_) (kk v)
  obtain ⟨p, l, e, R, s, m, args, below, meth, c, D, tc, A, ad0, n0, mc, ms, Q, ⟨hx, hb, hml, hown, hts, hK, hA, hfr, hlo, hRc, hRs, hro, hnm, htr⟩, rfl⟩ := hJ
  intro ad H ls locs cells slots h1 h2 h3 hL hst h4 hl hP hD hS hc hs
  have hres := k' ad H ls locs cells slots h1 h2 h3 hL (wfc trivial (wft (wft hst))) h4 hl hP hD hS hc hs
  subst hve
  exact va_lald hx hb hK hP r 2 ((wld_get hr).trans (by rw [cel_arr hkd (by decide)]; rfl)) rfl (inb_vp hin) d hres
theorem sj_rALv {cc : ByteArray} {nL : Nat} {own nm : String} {fr lo : Nat} {J : JT} (hJ : Cor cc nL own nm fr lo J) {pc : Nat} {L : List (Nat × Value)} {st : List Value} {β : Bu} {σ : St} {δ : Dy} {ρ : Type} {P : ρ → Prop} {f : Nat → Option ρ} {r : Nat} {i : Int32} (d : decode cc pc = .ok (.aaload, 1)) (kk : ∀ v, SJ (f v) P (J (pc + 1) L (.ref v :: st) β σ δ)) : SJ ((rA σ 103 r i).bind f) P (J pc L (.int i :: .ref r :: st) β σ δ) := by
  refine sj_bind fun v hv => ?_
  obtain ⟨⟨⟨hr, hkd⟩, hin⟩, hve⟩ := if_someO hv
  refine sj (fun k' => ?_) (kk v)
  obtain ⟨p, l, e, R, s, m, args, below, meth, c, D, tc, A, ad0, n0, mc, ms, Q, ⟨hx, hb, hml, hown, hts, hK, hA, hfr, hlo, hRc, hRs, hro, hnm, htr⟩, rfl⟩ := hJ
  intro ad H ls locs cells slots h1 h2 h3 hL hst h4 hl hP hD hS hc hs
  have hres := k' ad H ls locs cells slots h1 h2 h3 hL (wfc (Or.inl (h4 r _ v hve)) (wft (wft hst))) h4 hl hP hD hS hc hs
  refine va_aldq hx hb hK hP r 3 ((wld_get hr).trans (by rw [cel_arr hkd (by decide)]; rfl)) rfl (inb_vp hin) d ?_
  rw [hve]
  exact hres
theorem sj_rARu {cc : ByteArray} {nL : Nat} {own nm : String} {fr lo : Nat} {J : JT} (hJ : Cor cc nL own nm fr lo J) {pc : Nat} {L : List (Nat × Value)} {st : List Value} {β : Bu} {σ : St} {δ : Dy} {ρ : Type} {P : ρ → Prop} {f : Nat → Option ρ} {r : Nat} {i : Int32} (d : decode cc pc = .ok (.aaload, 1)) (kk : ∀ v, SJ (f v) P (J (pc + 1) L (.ref v :: st) β σ δ)) : SJ ((rA σ 104 r i).bind f) P (J pc L (.int i :: .ref r :: st) β σ δ) := by
  refine sj_bind fun v hv => ?_
  obtain ⟨⟨⟨hr, hkd⟩, hin⟩, hve⟩ := if_someO hv
  refine sj (fun k' => ?_) (kk v)
  obtain ⟨p, l, e, R, s, m, args, below, meth, c, D, tc, A, ad0, n0, mc, ms, Q, ⟨hx, hb, hml, hown, hts, hK, hA, hfr, hlo, hRc, hRs, hro, hnm, htr⟩, rfl⟩ := hJ
  intro ad H ls locs cells slots h1 h2 h3 hL hst h4 hl hP hD hS hc hs
  have hres := k' ad H ls locs cells slots h1 h2 h3 hL (wfc (Or.inl (h4 r _ v hve)) (wft (wft hst))) h4 hl hP hD hS hc hs
  refine va_aldq hx hb hK hP r 4 ((wld_get hr).trans (by rw [cel_arr hkd (by decide)]; rfl)) rfl (inb_vp hin) d ?_
  rw [hve]
  exact hres
theorem sj_rAFr {cc : ByteArray} {nL : Nat} {own nm : String} {fr lo : Nat} {J : JT} (hJ : Cor cc nL own nm fr lo J) {pc : Nat} {L : List (Nat × Value)} {st : List Value} {β : Bu} {σ : St} {δ : Dy} {ρ : Type} {P : ρ → Prop} {f : Nat → Option ρ} {r : Nat} {i : Int32} (d : decode cc pc = .ok (.aaload, 1)) (kk : ∀ v, SJ (f v) P (J (pc + 1) L (.ref v :: st) β σ δ)) : SJ ((rA σ 105 r i).bind f) P (J pc L (.int i :: .ref r :: st) β σ δ) := by
  refine sj_bind fun v hv => ?_
  obtain ⟨⟨⟨hr, hkd⟩, hin⟩, hve⟩ := if_someO hv
  refine sj (fun k' => ?_) (kk v)
  obtain ⟨p, l, e, R, s, m, args, below, meth, c, D, tc, A, ad0, n0, mc, ms, Q, ⟨hx, hb, hml, hown, hts, hK, hA, hfr, hlo, hRc, hRs, hro, hnm, htr⟩, rfl⟩ := hJ
  intro ad H ls locs cells slots h1 h2 h3 hL hst h4 hl hP hD hS hc hs
  have hres := k' ad H ls locs cells slots h1 h2 h3 hL (wfc (Or.inl (h4 r _ v hve)) (wft (wft hst))) h4 hl hP hD hS hc hs
  refine va_aldq hx hb hK hP r 5 ((wld_get hr).trans (by rw [cel_arr hkd (by decide)]; rfl)) rfl (inb_vp hin) d ?_
  rw [hve]
  exact hres
theorem sj_wI {cc : ByteArray} {nL : Nat} {own nm : String} {fr lo : Nat} {J : JT} (hJ : Cor cc nL own nm fr lo J) {pc : Nat} {L : List (Nat × Value)} {st : List Value} {β : Bu} {σ : St} {δ : Dy} {ρ : Type} {P : ρ → Prop} {f : Dy → Option ρ} {r : Nat} {i : Int32} {x : Int32} (d : decode cc pc = .ok (.iastore, 1)) (kk : ∀ δ', SJ (f δ') P (J (pc + 1) L st β σ δ')) : SJ ((wI σ δ r i x).bind f) P (J pc L (.int x :: .int i :: .ref r :: st) β σ δ) := by
  refine sj_bind fun δ' hv => ?_
  obtain ⟨⟨⟨hr, hkd⟩, hin⟩, hve⟩ := if_some hv
  refine sj (fun k' => ?_) (kk δ')
  obtain ⟨p, l, e, R, s, m, args, below, meth, c, D, tc, A, ad0, n0, mc, ms, Q, ⟨hx, hb, hml, hown, hts, hK, hA, hfr, hlo, hRc, hRs, hro, hnm, htr⟩, rfl⟩ := hJ
  intro ad H ls locs cells slots h1 h2 h3 hL hst h4 hl hP hD hS hc hs
  refine va_iast hx hb hK hP hD hS r 0 ((wld_get hr).trans (by rw [cel_arr hkd (by decide)]; rfl)) rfl (inb_vp hin) d (fun H1 locs1 hP1 hD1 hS1 => ?_)
  have hw : (wld ad tc σ δ).set r (ad r, .inl (tc 100, sln σ r, .inl (upd (δ.1 r) i.toNatClampNeg x))) = wld ad tc σ δ' := by
    subst hve
    refine wld_set rfl ?_ (fun j hj => cel_congr rfl rfl (u2_ne hj) rfl rfl)
    rw [cel_arr hkd (by decide)]
    show (Sum.inl (tc 100, sln σ r, .inl (u2 δ.1 r i.toNatClampNeg x r)) : va_E) = _
    rw [u2_upd]
  rw [hw] at hP1 hD1
  exact k' ad H1 ls locs1 cells slots h1 h2 h3 hL (wft (wft (wft hst))) h4 hl hP1 hD1 hS1 hc hs
theorem sj_wZ {cc : ByteArray} {nL : Nat} {own nm : String} {fr lo : Nat} {J : JT} (hJ : Cor cc nL own nm fr lo J) {pc : Nat} {L : List (Nat × Value)} {st : List Value} {β : Bu} {σ : St} {δ : Dy} {ρ : Type} {P : ρ → Prop} {f : Dy → Option ρ} {r : Nat} {i : Int32} {x : Int32} (d : decode cc pc = .ok (.bastore, 1)) (kk : ∀ δ', SJ (f δ') P (J (pc + 1) L st β σ δ')) : SJ ((wZ σ δ r i x).bind f) P (J pc L (.int x :: .int i :: .ref r :: st) β σ δ) := by
  refine sj_bind fun δ' hv => ?_
  obtain ⟨⟨⟨⟨hr, hkd⟩, hin⟩, hx01⟩, hve⟩ := if_some hv
  refine sj (fun k' => ?_) (kk δ')
  obtain ⟨p, l, e, R, s, m, args, below, meth, c, D, tc, A, ad0, n0, mc, ms, Q, ⟨hx, hb, hml, hown, hts, hK, hA, hfr, hlo, hRc, hRs, hro, hnm, htr⟩, rfl⟩ := hJ
  intro ad H ls locs cells slots h1 h2 h3 hL hst h4 hl hP hD hS hc hs
  refine va_zast hx hb hK hP hD hS r 1 ((wld_get hr).trans (by rw [cel_arr hkd (by decide)]; rfl)) rfl (inb_vp hin) d (fun H1 locs1 hP1 hD1 hS1 => ?_)
  have hnar : vp_nar .boolean x = x := by rcases hx01 with rfl | rfl <;> rfl
  rw [hnar] at hP1 hD1
  have hw : (wld ad tc σ δ).set r (ad r, .inl (tc 101, sln σ r, .inl (upd (δ.1 r) i.toNatClampNeg x))) = wld ad tc σ δ' := by
    subst hve
    refine wld_set rfl ?_ (fun j hj => cel_congr rfl rfl (u2_ne hj) rfl rfl)
    rw [cel_arr hkd (by decide)]
    show (Sum.inl (tc 101, sln σ r, .inl (u2 δ.1 r i.toNatClampNeg x r)) : va_E) = _
    rw [u2_upd]
  rw [hw] at hP1 hD1
  exact k' ad H1 ls locs1 cells slots h1 h2 h3 hL (wft (wft (wft hst))) h4 hl hP1 hD1 hS1 hc hs
theorem sj_wLo {cc : ByteArray} {nL : Nat} {own nm : String} {fr lo : Nat} {J : JT} (hJ : Cor cc nL own nm fr lo J) {pc : Nat} {L : List (Nat × Value)} {st : List Value} {β : Bu} {σ : St} {δ : Dy} {ρ : Type} {P : ρ → Prop} {f : Dy → Option ρ} {r : Nat} {i : Int32} {x : Int64} (d : decode cc pc = .ok (.lastore, 1)) (kk : ∀ δ', SJ (f δ') P (J (pc + 1) L st β σ δ')) : SJ ((wLo σ δ r i x).bind f) P (J pc L (.long x :: .int i :: .ref r :: st) β σ δ) := by
  refine sj_bind fun δ' hv => ?_
  obtain ⟨⟨⟨hr, hkd⟩, hin⟩, hve⟩ := if_some hv
  refine sj (fun k' => ?_) (kk δ')
  obtain ⟨p, l, e, R, s, m, args, below, meth, c, D, tc, A, ad0, n0, mc, ms, Q, ⟨hx, hb, hml, hown, hts, hK, hA, hfr, hlo, hRc, hRs, hro, hnm, htr⟩, rfl⟩ := hJ
  intro ad H ls locs cells slots h1 h2 h3 hL hst h4 hl hP hD hS hc hs
  refine va_last hx hb hK hP hD hS r 2 ((wld_get hr).trans (by rw [cel_arr hkd (by decide)]; rfl)) rfl (inb_vp hin) d (fun H1 locs1 hP1 hD1 hS1 => ?_)
  have hw : (wld ad tc σ δ).set r (ad r, .inl (tc 102, sln σ r, .inr (.inl (vp_updL (δ.2 r) i.toNatClampNeg x)))) = wld ad tc σ δ' := by
    subst hve
    refine wld_set rfl ?_ (fun j hj => cel_congr rfl rfl rfl (u2_ne hj) rfl)
    rw [cel_arr hkd (by decide)]
    show (Sum.inl (tc 102, sln σ r, .inr (.inl (u2 δ.2 r i.toNatClampNeg x r))) : va_E) = _
    rw [u2_updL]
  rw [hw] at hP1 hD1
  exact k' ad H1 ls locs1 cells slots h1 h2 h3 hL (wft (wft (wft hst))) h4 hl hP1 hD1 hS1 hc hs
theorem sj_alnI {cc : ByteArray} {nL : Nat} {own nm : String} {fr lo : Nat} {J : JT} (hJ : Cor cc nL own nm fr lo J) {pc : Nat} {L : List (Nat × Value)} {st : List Value} {β : Bu} {σ : St} {δ : Dy} {ρ : Type} {P : ρ → Prop} {f : Int32 → Option ρ} {r : Nat} (d : decode cc pc = .ok (.arraylength, 1)) (kk : ∀ v, SJ (f v) P (J (pc + 1) L (.int v :: st) β σ δ)) : SJ ((aln σ 100 r).bind f) P (J pc L (.ref r :: st) β σ δ) := by
  refine sj_bind fun v hv => ?_
  obtain ⟨⟨hr, hkd⟩, hve⟩ := if_some hv
  refine sj (fun k' => ?_) (kk v)
  obtain ⟨p, l, e, R, s, m, args, below, meth, c, D, tc, A, ad0, n0, mc, ms, Q, ⟨hx, hb, hml, hown, hts, hK, hA, hfr, hlo, hRc, hRs, hro, hnm, htr⟩, rfl⟩ := hJ
  intro ad H ls locs cells slots h1 h2 h3 hL hst h4 hl hP hD hS hc hs
  have hres := k' ad H ls locs cells slots h1 h2 h3 hL (wfc trivial (wft hst)) h4 hl hP hD hS hc hs
  exact va_alen hx hb hK hP r 0 ((wld_get hr).trans (by rw [cel_arr hkd (by decide)])) rfl hve d hres
theorem sj_alnZ {cc : ByteArray} {nL : Nat} {own nm : String} {fr lo : Nat} {J : JT} (hJ : Cor cc nL own nm fr lo J) {pc : Nat} {L : List (Nat × Value)} {st : List Value} {β : Bu} {σ : St} {δ : Dy} {ρ : Type} {P : ρ → Prop} {f : Int32 → Option ρ} {r : Nat} (d : decode cc pc = .ok (.arraylength, 1)) (kk : ∀ v, SJ (f v) P (J (pc + 1) L (.int v :: st) β σ δ)) : SJ ((aln σ 101 r).bind f) P (J pc L (.ref r :: st) β σ δ) := by
  refine sj_bind fun v hv => ?_
  obtain ⟨⟨hr, hkd⟩, hve⟩ := if_some hv
  refine sj (fun k' => ?_) (kk v)
  obtain ⟨p, l, e, R, s, m, args, below, meth, c, D, tc, A, ad0, n0, mc, ms, Q, ⟨hx, hb, hml, hown, hts, hK, hA, hfr, hlo, hRc, hRs, hro, hnm, htr⟩, rfl⟩ := hJ
  intro ad H ls locs cells slots h1 h2 h3 hL hst h4 hl hP hD hS hc hs
  have hres := k' ad H ls locs cells slots h1 h2 h3 hL (wfc trivial (wft hst)) h4 hl hP hD hS hc hs
  exact va_alen hx hb hK hP r 1 ((wld_get hr).trans (by rw [cel_arr hkd (by decide)])) rfl hve d hres
theorem sj_alnL {cc : ByteArray} {nL : Nat} {own nm : String} {fr lo : Nat} {J : JT} (hJ : Cor cc nL own nm fr lo J) {pc : Nat} {L : List (Nat × Value)} {st : List Value} {β : Bu} {σ : St} {δ : Dy} {ρ : Type} {P : ρ → Prop} {f : Int32 → Option ρ} {r : Nat} (d : decode cc pc = .ok (.arraylength, 1)) (kk : ∀ v, SJ (f v) P (J (pc + 1) L (.int v :: st) β σ δ)) : SJ ((aln σ 102 r).bind f) P (J pc L (.ref r :: st) β σ δ) := by
  refine sj_bind fun v hv => ?_
  obtain ⟨⟨hr, hkd⟩, hve⟩ := if_some hv
  refine sj (fun k' => ?_) (kk v)
  obtain ⟨p, l, e, R, s, m, args, below, meth, c, D, tc, A, ad0, n0, mc, ms, Q, ⟨hx, hb, hml, hown, hts, hK, hA, hfr, hlo, hRc, hRs, hro, hnm, htr⟩, rfl⟩ := hJ
  intro ad H ls locs cells slots h1 h2 h3 hL hst h4 hl hP hD hS hc hs
  have hres := k' ad H ls locs cells slots h1 h2 h3 hL (wfc trivial (wft hst)) h4 hl hP hD hS hc hs
  exact va_alen hx hb hK hP r 2 ((wld_get hr).trans (by rw [cel_arr hkd (by decide)])) rfl hve d hres
theorem sj_dvI {cc : ByteArray} {nL : Nat} {own nm : String} {fr lo : Nat} {J : JT} (hJ : Cor cc nL own nm fr lo J) {pc : Nat} {L : List (Nat × Value)} {st : List Value} {β : Bu} {σ : St} {δ : Dy} {ρ : Type} {P : ρ → Prop} {f : Int32 → Option ρ} {x y : Int32} (d : decode cc pc = .ok (.idiv, 1)) (kk : ∀ v, SJ (f v) P (J (pc + 1) L (.int v :: st) β σ δ)) : SJ ((dvI x y).bind f) P (J pc L (.int y :: .int x :: st) β σ δ) := by
  refine sj_bind fun v hv => ?_
  have hy : ¬ y = 0 := by
    intro h
    unfold dvI at hv
    rw [if_pos h] at hv
    cases hv
  unfold dvI at hv
  rw [if_neg hy] at hv
  cases hv
  exact sj (fun k' => j_idiv hJ d hy k') (kk _)
theorem sj_rmI {cc : ByteArray} {nL : Nat} {own nm : String} {fr lo : Nat} {J : JT} (hJ : Cor cc nL own nm fr lo J) {pc : Nat} {L : List (Nat × Value)} {st : List Value} {β : Bu} {σ : St} {δ : Dy} {ρ : Type} {P : ρ → Prop} {f : Int32 → Option ρ} {x y : Int32} (d : decode cc pc = .ok (.irem, 1)) (kk : ∀ v, SJ (f v) P (J (pc + 1) L (.int v :: st) β σ δ)) : SJ ((rmI x y).bind f) P (J pc L (.int y :: .int x :: st) β σ δ) := by
  refine sj_bind fun v hv => ?_
  have hy : ¬ y = 0 := by
    intro h
    unfold rmI at hv
    rw [if_pos h] at hv
    cases hv
  unfold rmI at hv
  rw [if_neg hy] at hv
  cases hv
  exact sj (fun k' => j_irem hJ d hy k') (kk _)
theorem sj_dvL {cc : ByteArray} {nL : Nat} {own nm : String} {fr lo : Nat} {J : JT} (hJ : Cor cc nL own nm fr lo J) {pc : Nat} {L : List (Nat × Value)} {st : List Value} {β : Bu} {σ : St} {δ : Dy} {ρ : Type} {P : ρ → Prop} {f : Int64 → Option ρ} {x y : Int64} (d : decode cc pc = .ok (.ldiv, 1)) (kk : ∀ v, SJ (f v) P (J (pc + 1) L (.long v :: st) β σ δ)) : SJ ((dvL x y).bind f) P (J pc L (.long y :: .long x :: st) β σ δ) := by
  refine sj_bind fun v hv => ?_
  have hy : ¬ y = 0 := by
    intro h
    unfold dvL at hv
    rw [if_pos h] at hv
    cases hv
  unfold dvL at hv
  rw [if_neg hy] at hv
  cases hv
  exact sj (fun k' => j_ldiv hJ d hy k') (kk _)
theorem sj_rmL {cc : ByteArray} {nL : Nat} {own nm : String} {fr lo : Nat} {J : JT} (hJ : Cor cc nL own nm fr lo J) {pc : Nat} {L : List (Nat × Value)} {st : List Value} {β : Bu} {σ : St} {δ : Dy} {ρ : Type} {P : ρ → Prop} {f : Int64 → Option ρ} {x y : Int64} (d : decode cc pc = .ok (.lrem, 1)) (kk : ∀ v, SJ (f v) P (J (pc + 1) L (.long v :: st) β σ δ)) : SJ ((rmL x y).bind f) P (J pc L (.long y :: .long x :: st) β σ δ) := by
  refine sj_bind fun v hv => ?_
  have hy : ¬ y = 0 := by
    intro h
    unfold rmL at hv
    rw [if_pos h] at hv
    cases hv
  unfold rmL at hv
  rw [if_neg hy] at hv
  cases hv
  exact sj (fun k' => j_lrem hJ d hy k') (kk _)
theorem j_prm {cc : ByteArray} {nL : Nat} {own nm : String} {fr lo : Nat} {J : JT} (hJ : Cor cc nL own nm fr lo J) {pc : Nat} {L : List (Nat × Value)} {st : List Value} {β : Bu} {σ : St} {δ : Dy} {idx : Nat} (hlk : Cond.fieldLink own idx "Tellcourt$Draws" "PRIMES" "[I" ∈ lwg) (d : decode cc pc = .ok (.getstatic idx, 3)) (k : J (pc + 3) L (.ref (roB + 1) :: st) β σ δ) : J pc L st β σ δ := by
  obtain ⟨p, l, e, R, s, m, args, below, meth, c, D, tc, A, ad0, n0, mc, ms, Q, ⟨hx, hb, hml, hown, hts, hK, hA, hfr, hlo, hRc, hRs, hro, hnm, htr⟩, rfl⟩ := hJ
  intro ad H ls locs cells slots h1 h2 h3 hL hst h4 hl hP hD hS hc hs
  have hres := k ad H ls locs cells slots h1 h2 h3 hL (wfc (Or.inr (Nat.le_succ _)) hst) h4 hl hP hD hS hc hs
  have ha : ad (roB + 1) = ad0 (roB + 1) := h1 _ (Or.inr (Nat.le_succ _))
  refine va_gets (v := .ref (ad (roB + 1))) hx hb (by rw [ha]; exact hro.1.2.2.2) hS hown (hts _ hlk) (fun _ h => h) d hres
theorem sj_rP {cc : ByteArray} {nL : Nat} {own nm : String} {fr lo : Nat} {J : JT} (hJ : Cor cc nL own nm fr lo J) {pc : Nat} {L : List (Nat × Value)} {st : List Value} {β : Bu} {σ : St} {δ : Dy} {ρ : Type} {P : ρ → Prop} {f : Int32 → Option ρ} {i : Int32} (d : decode cc pc = .ok (.iaload, 1)) (kk : ∀ v, SJ (f v) P (J (pc + 1) L (.int v :: st) β σ δ)) : SJ ((rP i).bind f) P (J pc L (.int i :: .ref (roB + 1) :: st) β σ δ) := by
  refine sj_bind fun v hv => ?_
  obtain ⟨hin, hve⟩ := if_some hv
  refine sj (fun k' => ?_) (kk v)
  obtain ⟨p, l, e, R, s, m, args, below, meth, c, D, tc, A, ad0, n0, mc, ms, Q, ⟨hx, hb, hml, hown, hts, hK, hA, hfr, hlo, hRc, hRs, hro, hnm, htr⟩, rfl⟩ := hJ
  intro ad H ls locs cells slots h1 h2 h3 hL hst h4 hl hP hD hS hc hs
  have hres := k' ad H ls locs cells slots h1 h2 h3 hL (wfc trivial (wft (wft hst))) h4 hl hP hD hS hc hs
  have ha : ad (roB + 1) = ad0 (roB + 1) := h1 _ (Or.inr (Nat.le_succ _))
  subst hve
  exact va_sld hx hb (by rw [ha]; exact hro.1.1) (by rw [ha]; exact hro.1.2.1) (by rw [ha]; exact hro.1.2.2.1) hS (inb_vp hin) d hres
theorem j_prmLen {cc : ByteArray} {nL : Nat} {own nm : String} {fr lo : Nat} {J : JT} (hJ : Cor cc nL own nm fr lo J) {pc : Nat} {L : List (Nat × Value)} {st : List Value} {β : Bu} {σ : St} {δ : Dy} (d : decode cc pc = .ok (.arraylength, 1)) (k : J (pc + 1) L (.int 7 :: st) β σ δ) : J pc L (.ref (roB + 1) :: st) β σ δ := by
  obtain ⟨p, l, e, R, s, m, args, below, meth, c, D, tc, A, ad0, n0, mc, ms, Q, ⟨hx, hb, hml, hown, hts, hK, hA, hfr, hlo, hRc, hRs, hro, hnm, htr⟩, rfl⟩ := hJ
  intro ad H ls locs cells slots h1 h2 h3 hL hst h4 hl hP hD hS hc hs
  have hres := k ad H ls locs cells slots h1 h2 h3 hL (wfc trivial (wft hst)) h4 hl hP hD hS hc hs
  have ha : ad (roB + 1) = ad0 (roB + 1) := h1 _ (Or.inr (Nat.le_succ _))
  exact va_slen hx hb (by rw [ha]; exact hro.1.1) (by rw [ha]; exact hro.1.2.1) (by rw [ha]; exact hro.1.2.2.1) hS d hres
