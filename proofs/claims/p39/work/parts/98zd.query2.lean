/-- one factor, taken into the line -/
def mulR (x : Int64) (p : Int32) : Int64 := x * p.toInt64 - x * p.toInt64 / 1000003 * 1000003
def lnI (x : Int64) (p : Int32) : Nat → Int64
  | 0 => x
  | n + 1 => mulR (lnI x p n) p
def lnO (e : Int → Int) : Nat → Int64
  | 0 => 1
  | n + 1 => lnI (lnO e n) (ii (pr7 n)) (e n).toNat
theorem rmL_m (x : Int64) (p : Int32) : rmL (x * p.toInt64) (1000003 : Int64) = some (mulR x p) := by
  unfold rmL
  rw [if_neg (show ¬ (1000003 : Int64) = 0 by decide)]
  rfl
section
variable {σ : St} {δ d : Dy} {mo p3 k wp dr : Nat} {E : Ev} {bd kp : Bool} {R : Rl} {I : Iw} {jr : List Jn} {md n a b z x : Int} {S : Sto}
theorem c_var (hT : KT σ) (hR : RId δ 68 md I) (hn : 0 ≤ s_nv (v_S (i_V I)) ∧ s_nv (v_S (i_V I)) ≤ 60) (hz : rng z) : ((0 ≤ z ∧ z < s_nv (v_S (i_V I))) → m_X11_needVariable σ 0 (ii z) δ = some (.inl ())) ∧ (¬ (0 ≤ z ∧ z < s_nv (v_S (i_V I))) → m_X11_needVariable σ 0 (ii z) δ = some (.inr 2)) := by
  have kW : KO σ 68 10 := hT.2.2.2.2.1.2.1
  have kS := hT.2.2.2.2.1.2.2.1
  have kst : KS σ (68 + 1) := hT.2.2.2.2.1.2.2.2.2.2.1
  have x1 : gI σ δ 8 (68 + 1) 2 = some (ii (s_nv (v_S (i_V I)))) := by rw [gI_ko kst.1]; exact congrArg some hR.1.1
  constructor
  · intro g
    have n0 : (ii z < (0 : Int32)) = False := i_nlt (b := 0) hz (by omega) (by omega)
    have n1 : (ii z < ii (s_nv (v_S (i_V I)))) = True := i_lt hz (by omega) (by omega)
    simp only [m_X11_needVariable, n0, ↓reduceIte, gR_ko hT.1 hT.2.1.2.2.1, gR_ko kW kS.2.1, ob_some, x1, n1]
  · intro g
    by_cases c : z < 0
    · have n0 : (ii z < (0 : Int32)) = True := i_lt (b := 0) hz (by omega) (by omega)
      simp only [m_X11_needVariable, n0, ↓reduceIte, m_X11_needVariable_b18]
    · have n0 : (ii z < (0 : Int32)) = False := i_nlt (b := 0) hz (by omega) (by omega)
      have n1 : (ii z < ii (s_nv (v_S (i_V I)))) = False := i_nlt hz (by omega) (by omega)
      simp only [m_X11_needVariable, n0, ↓reduceIte, gR_ko hT.1 hT.2.1.2.2.1, gR_ko kW kS.2.1, ob_some, x1, n1, m_X11_needVariable_b18]
theorem c_tok (hT : KT σ) (hR : RId δ 68 md I) (hn : 0 ≤ s_nt (v_S (i_V I)) ∧ s_nt (v_S (i_V I)) ≤ 100) (hz : rng z) : ((0 ≤ z ∧ z < s_nt (v_S (i_V I))) → m_X11_needToken σ 0 (ii z) δ = some (.inl ())) ∧ (¬ (0 ≤ z ∧ z < s_nt (v_S (i_V I))) → m_X11_needToken σ 0 (ii z) δ = some (.inr 2)) := by
  have kW : KO σ 68 10 := hT.2.2.2.2.1.2.1
  have kS := hT.2.2.2.2.1.2.2.1
  have kst : KS σ (68 + 1) := hT.2.2.2.2.1.2.2.2.2.2.1
  have x1 : gI σ δ 8 (68 + 1) 10 = some (ii (s_nt (v_S (i_V I)))) := by rw [gI_ko kst.1]; exact congrArg some hR.1.2.1
  constructor
  · intro g
    have n0 : (ii z < (0 : Int32)) = False := i_nlt (b := 0) hz (by omega) (by omega)
    have n1 : (ii z < ii (s_nt (v_S (i_V I)))) = True := i_lt hz (by omega) (by omega)
    simp only [m_X11_needToken, n0, ↓reduceIte, gR_ko hT.1 hT.2.1.2.2.1, gR_ko kW kS.2.1, ob_some, x1, n1]
  · intro g
    by_cases c : z < 0
    · have n0 : (ii z < (0 : Int32)) = True := i_lt (b := 0) hz (by omega) (by omega)
      simp only [m_X11_needToken, n0, ↓reduceIte, m_X11_needToken_b18]
    · have n0 : (ii z < (0 : Int32)) = False := i_nlt (b := 0) hz (by omega) (by omega)
      have n1 : (ii z < ii (s_nt (v_S (i_V I)))) = False := i_nlt hz (by omega) (by omega)
      simp only [m_X11_needToken, n0, ↓reduceIte, gR_ko hT.1 hT.2.1.2.2.1, gR_ko kW kS.2.1, ob_some, x1, n1, m_X11_needToken_b18]
end
