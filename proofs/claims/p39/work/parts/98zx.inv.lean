/-- F goes on from E: the same counts, the same below them -/
def AgE (E F : Ev) : Prop := e_ct F = e_ct E ∧ e_md F = e_md E ∧ e_df F = e_df E ∧ (∀ n, gNode E n → e_kd F n = e_kd E n ∧ e_wh F n = e_wh E n ∧ e_a F n = e_a E n ∧ e_b F n = e_b E n ∧ e_on F n = e_on E n ∧ e_ot F n = e_ot E n) ∧ ∀ w, 0 ≤ w → w < e_md E → e_Rs F w = e_Rs E w
theorem AgE_rf {E : Ev} : AgE E E := ⟨rfl, rfl, rfl, fun n _ => ⟨rfl, rfl, rfl, rfl, rfl, rfl⟩, fun w _ _ => rfl⟩
/-- a node is made -/
def newE (E : Ev) (k w a b on ot : Int) : Ev := ((e_ct E + 1, upf (e_kd E) (e_ct E) k, upf (e_wh E) (e_ct E) w, upf (e_a E) (e_ct E) a, upf (e_b E) (e_ct E) b, upf (e_on E) (e_ct E) on, upf (e_ot E) (e_ct E) ot), E.2)
/-- the same with earlier counts -/
def backN (F : Ev) (ct : Int) : Ev := ((ct, F.1.2), F.2)
section
variable {σ : St} {δ d : Dy} {mo p3 k : Nat} {E F : Ev} {bd : Bool} {R : Rl} {I : Iw} {jr : List Jn} {kk w a b on ot : Int}
theorem upf_ne {f : Int → Int} {x v n : Int} (h : ¬ n = x) : upf f x v n = f n := if_neg h
theorem upf_at {f : Int → Int} {x v : Int} : upf f x v x = v := if_pos rfl
theorem newE_back (c0 : 0 ≤ e_ct E) (h : AgE (newE E kk w a b on ot) F) : AgE E (backN F (e_ct E)) ∧ HasN (backN F (e_ct E)) kk w a b on ot ∧ bumpN (backN F (e_ct E)) = F := by
  obtain ⟨h1, h2, h3, h4, h5⟩ := h
  have hct : e_ct F = e_ct E + 1 := h1
  refine ⟨⟨rfl, h2, h3, fun n hn => ?_, h5⟩, ?_, ?_⟩
  · have hn' : 0 ≤ n ∧ n < e_ct E := hn
    have hne : ¬ n = e_ct E := by omega
    obtain ⟨q1, q2, q3, q4, q5, q6⟩ := h4 n ⟨hn'.1, by show n < e_ct E + 1; omega⟩
    exact ⟨q1.trans (upf_ne hne), q2.trans (upf_ne hne), q3.trans (upf_ne hne), q4.trans (upf_ne hne), q5.trans (upf_ne hne), q6.trans (upf_ne hne)⟩
  · obtain ⟨q1, q2, q3, q4, q5, q6⟩ := h4 (e_ct E) ⟨c0, by show e_ct E < e_ct E + 1; omega⟩
    exact ⟨q1.trans upf_at, q2.trans upf_at, q3.trans upf_at, q4.trans upf_at, q5.trans upf_at, q6.trans upf_at⟩
  · obtain ⟨⟨ct, N⟩, x⟩ := F
    have : ct = e_ct E + 1 := hct
    subst this
    rfl
theorem bi01 (b : Bool) : bi b = 0 ∨ bi b = 1 := by cases b <;> first | exact Or.inl rfl | exact Or.inr rfl
end
