/-! THE LAW: what stands between two calls, whatever is still to come -/
/-- F goes on from E: the same counts, the same below them -/
def AgE (E F : Ev) : Prop := e_ct F = e_ct E ∧ e_md F = e_md E ∧ e_df F = e_df E ∧ (∀ n, gNode E n → e_kd F n = e_kd E n ∧ e_wh F n = e_wh E n ∧ e_a F n = e_a E n ∧ e_b F n = e_b E n ∧ e_on F n = e_on E n ∧ e_ot F n = e_ot E n) ∧ ∀ w, 0 ≤ w → w < e_md E → e_Rs F w = e_Rs E w
theorem AgE_rf {E : Ev} : AgE E E := ⟨rfl, rfl, rfl, fun n _ => ⟨rfl, rfl, rfl, rfl, rfl, rfl⟩, fun w _ _ => rfl⟩
/-- a node is made -/
def newE (E : Ev) (k w a b on ot : Int) : Ev := ((e_ct E + 1, upf (e_kd E) (e_ct E) k, upf (e_wh E) (e_ct E) w, upf (e_a E) (e_ct E) a, upf (e_b E) (e_ct E) b, upf (e_on E) (e_ct E) on, upf (e_ot E) (e_ct E) ot), E.2)
/-- a rule is made -/
def rulE (E : Ev) (R : Rl) : Ev := (E.1, E.2.1, (fun w => if w = e_md E then R else e_Rs E w), e_md E + 1)
/-- the same with earlier counts -/
def backN (F : Ev) (ct : Int) : Ev := ((ct, F.1.2), F.2)
def backR (F : Ev) (md : Int) : Ev := (F.1, F.2.1, F.2.2.1, md)
section
variable {σ : St} {δ d : Dy} {mo p3 k : Nat} {E F : Ev} {bd : Bool} {R : Rl} {I : Iw} {jr : List Jn} {kk w a b on ot : Int}
theorem upf_ne {f : Int → Int} {x v n : Int} (h : ¬ n = x) : upf f x v n = f n := if_neg h
theorem upf_at {f : Int → Int} {x v : Int} : upf f x v x = v := if_pos rfl
theorem newE_back (c0 : 0 ≤ e_ct E) (h : AgE (newE E kk w a b on ot) F) : AgE E (backN F (e_ct E)) ∧ HasN (backN F (e_ct E)) kk w a b on ot ∧ bumpN (backN F (e_ct E)) = F := by
  obtain ⟨h1, h2, h3, h4, h5⟩ := h
  have hct : e_ct F = e_ct E + 1 := h1
  refine ⟨⟨rfl, h2, h3, fun n hn => ?_, h5⟩, ?_, ?_⟩
  · have hn' : 0 ≤ n ∧ n < e_ct E := hn
    have hne : ¬ n = e_ct E := by omega
    obtain ⟨q1, q2, q3, q4, q5, q6⟩ := h4 n ⟨hn'.1, by show n < e_ct E + 1; omega⟩
    exact ⟨q1.trans (upf_ne hne), q2.trans (upf_ne hne), q3.trans (upf_ne hne), q4.trans (upf_ne hne), q5.trans (upf_ne hne), q6.trans (upf_ne hne)⟩
  · obtain ⟨q1, q2, q3, q4, q5, q6⟩ := h4 (e_ct E) ⟨c0, by show e_ct E < e_ct E + 1; omega⟩
    exact ⟨q1.trans upf_at, q2.trans upf_at, q3.trans upf_at, q4.trans upf_at, q5.trans upf_at, q6.trans upf_at⟩
  · obtain ⟨⟨ct, N⟩, x⟩ := F
    have : ct = e_ct E + 1 := hct
    subst this
    rfl
theorem rulE_back (hm : 0 ≤ e_md E) (h : AgE (rulE E R) F) : AgE E (backR F (e_md E)) ∧ e_Rs (backR F (e_md E)) (e_md (backR F (e_md E))) = R ∧ ruE (backR F (e_md E)) = F := by
  obtain ⟨h1, h2, h3, h4, h5⟩ := h
  have hmd : e_md F = e_md E + 1 := h2
  refine ⟨⟨h1, rfl, h3, h4, fun w w0 w1 => ?_⟩, ?_, ?_⟩
  · have := h5 w w0 (by show w < e_md E + 1; omega)
    exact this.trans (if_neg (by omega))
  · have := h5 (e_md E) hm (by show e_md E < e_md E + 1; omega)
    exact this.trans (if_pos rfl)
  · obtain ⟨N, x, Rs, md⟩ := F
    have : md = e_md E + 1 := hmd
    subst this
    rfl
theorem dfE_back {z n : Int} (h : AgE (dfE E z n) F) : AgE E (F.1, e_df E, F.2.2) ∧ dfE (F.1, e_df E, F.2.2) z n = F := by
  obtain ⟨h1, h2, h3, h4, h5⟩ := h
  refine ⟨⟨h1, h2, rfl, h4, h5⟩, ?_⟩
  obtain ⟨N, x, r⟩ := F
  have : x = upf (e_df E) z n := h3
  subst this
  rfl
theorem Core_k {k' : Nat} (h : Core δ mo k E bd R I jr) (hk : k ≤ k') : Core δ mo k' E bd R I jr := ⟨h.1, h.2.1, h.2.2.1, Nat.le_trans h.2.2.2.1 hk, h.2.2.2.2⟩
/-- a call on both sides, and what may be answered -/
def LXP (mo p3 : Nat) (mL : Option (Int32 × Dy)) (mX : Dy → Option (Int32 × Dy)) (P : Int32 → Prop) (Q : Dy → Prop) : Prop := ∃ (c : Int32) (d1 : Dy) (v : Int32) (d2 : Dy), mL = some (c, d1) ∧ mX d1 = some (v, d2) ∧ d2.1 mo 50 = c ∧ (c = 0 → d2.2 p3 0 = v.toInt64) ∧ (c = 0 → P v) ∧ Q d2
theorem LXP_all {mL : Option (Int32 × Dy)} {mX : Dy → Option (Int32 × Dy)} {P : Int32 → Prop} {α : Type} {A : α → Prop} {Q : α → Dy → Prop} (h : ∀ x, A x → LXP mo p3 mL mX P (Q x)) (hne : ∃ x, A x) : LXP mo p3 mL mX P (fun d => ∀ x, A x → Q x d) := by
  obtain ⟨x0, h0⟩ := hne
  obtain ⟨c, d1, v, d2, e1, e2, e3, e4, e5, -⟩ := h x0 h0
  refine ⟨c, d1, v, d2, e1, e2, e3, e4, e5, fun x hx => ?_⟩
  obtain ⟨c', d1', v', d2', f1, f2, f3, f4, f5, f6⟩ := h x hx
  have g1 : (c, d1) = (c', d1') := Option.some.inj (e1.symm.trans f1)
  obtain ⟨rfl, rfl⟩ := Prod.mk.inj g1
  have g2 : (v, d2) = (v', d2') := Option.some.inj (e2.symm.trans f2)
  obtain ⟨rfl, rfl⟩ := Prod.mk.inj g2
  exact f6
theorem LX.p {mL : Option (Int32 × Dy)} {mX : Dy → Option (Int32 × Dy)} {Q Q' : Dy → Prop} (h : LX mo p3 mL mX Q) (hQ : ∀ d, Q d → Q' d) : LXP mo p3 mL mX (fun _ => True) Q' := by
  obtain ⟨c, d1, v, d2, e1, e2, e3, e4, e5⟩ := h
  exact ⟨c, d1, v, d2, e1, e2, e3, e4, fun _ => trivial, hQ d2 e5⟩
theorem LXV.p {mL : Option (Int32 × Dy)} {mX : Dy → Option (Int32 × Dy)} {Q Q' : Dy → Prop} {v0 : Int32} (h : LXV mo p3 v0 mL mX Q) (h0 : v0 = 0 ∨ v0 = 1) (hQ : ∀ d, Q d → Q' d) : LXP mo p3 mL mX (fun v => v = 0 ∨ v = 1) Q' := by
  obtain ⟨c, d1, v, d2, e1, e2, e3, e4, e5, e6⟩ := h
  exact ⟨c, d1, v, d2, e1, e2, e3, e4, fun hc => by rw [e6 hc]; exact h0, hQ d2 e5⟩
theorem bi01 (b : Bool) : bi b = 0 ∨ bi b = 1 := by cases b <;> first | exact Or.inl rfl | exact Or.inr rfl
/-- what stands between two calls -/
def InvL (σ : St) (mo p3 k : Nat) (δ : Dy) : Prop := (KT σ ∧ KM σ mo ∧ KD σ p3 102 1 ∧ (1040 ≤ mo ∧ mo + 37 ≤ p3)) ∧ ∃ E bd R, ∀ F, AgE E F → ∃ I jr, Core δ mo k F bd R I jr
end
