def m_L_variable (σ : St) (p0 : Nat) (p1 : Nat) (δ : Dy) : Option (Int32 × Dy) :=
  (chk σ 11 p0).bind fun _ => (m_X11_variable σ p0 δ).bind fun v1 => xhw v1 (fun (d3 : Dy) x2 =>
    (wLo σ d3 p1 (0 : Int32) (x2).toInt64).bind fun d4 =>
    some ((0 : Int32), d4)) (fun (d3 : Dy) (e : Nat) => if e = 0 then some ((1 : Int32), d3) else none)
set_option maxHeartbeats 4000000 in
set_option maxRecDepth 100000 in
theorem w_L_variable {J : JT} {an : Option Value × St × Dy} (hI : IsW cL_variable 3 RL "variable" 10 250 (some .int) [(0, 8, 11, 13)] an J) (σ : St) (p0 : Nat) (p1 : Nat) (δ : Dy) : SJ (m_L_variable σ p0 p1 δ) (PI σ an) (J 0 [(0, .ref p0), (1, .ref p1)] [] (1, 6) σ δ) := by
  have hJ := hI.isj.cor
  unfold m_L_variable
  refine sj (j_aload_n hJ dL_variable_0 rfl 1 rfl) ?_
  refine sj (j_iconst hJ (v := 0) dL_variable_1 ic_0) ?_
  refine sj (j_aload_n hJ dL_variable_2 rfl 0 rfl) ?_
  refine sw_callVi hI [] (st := [.int (0 : Int32), .ref p1]) (fr' := 9) (lo' := 229) ml_L_7 hc_11 (by decide) (by decide) (Nat.le_of_ble_eq_true rfl) dL_variable_3 rfl (fun _ h9 => ct_X11_variable h9) (fun x2 d3 => ?_) (fun e d3 => ?_)
  · refine sj (j_i2l hJ dL_variable_6) ?_
    refine sj_wLo hJ dL_variable_7 (fun d4 => ?_)
    refine sj (j_goto hJ (tgt := 14) dL_variable_8 (by decide)) ?_
    refine sj (j_iconst hJ (v := 0) dL_variable_14 ic_0) ?_
    exact sj_iret hI.isj dL_variable_15 (fun h => h)
  · by_cases h0 : e = 0
    · subst h0
      exact Or.inr ⟨_, 1, rfl, fun h => h, hnd_L_variable_0⟩
    exact Or.inl (by rw [if_neg h0])
theorem ct_L_variable {σ : St} {p0 : Nat} {p1 : Nat} {δ : Dy} {r : (Int32 × Dy)} (h : m_L_variable σ p0 p1 δ = some r) : CTW yL_variable cL_variable 3 (some .int) [(0, 8, 11, 13)] 10 250 [.ref p0, .ref p1] σ δ ((some (.int r.1)), σ, r.2) := CTW_of (by decide +kernel) (Nat.le_of_ble_eq_true rfl) (fun J hI => w_L_variable hI σ p0 p1 δ r h rfl)
def m_L_equate (σ : St) (p0 : Nat) (p1 : Int32) (p2 : Int32) (p3 : Nat) (δ : Dy) : Option (Int32 × Dy) :=
  (chk σ 11 p0).bind fun _ => (m_X11_equate σ p0 p1 p2 δ).bind fun v1 => xhw v1 (fun (d3 : Dy) x2 =>
    (wLo σ d3 p3 (0 : Int32) (x2).toInt64).bind fun d4 =>
    some ((0 : Int32), d4)) (fun (d3 : Dy) (e : Nat) => if e = 1 then some ((1 : Int32), d3) else if e = 0 then some ((2 : Int32), d3) else none)
set_option maxHeartbeats 4000000 in
set_option maxRecDepth 100000 in
theorem w_L_equate {J : JT} {an : Option Value × St × Dy} (hI : IsW cL_equate 5 RL "equate" 11 272 (some .int) [(0, 10, 13, 19), (0, 10, 17, 13)] an J) (σ : St) (p0 : Nat) (p1 : Int32) (p2 : Int32) (p3 : Nat) (δ : Dy) : SJ (m_L_equate σ p0 p1 p2 p3 δ) (PI σ an) (J 0 [(0, .ref p0), (1, .int p1), (2, .int p2), (3, .ref p3)] [] (1, 6) σ δ) := by
  have hJ := hI.isj.cor
  unfold m_L_equate
  refine sj (j_aload_n hJ dL_equate_0 rfl 3 rfl) ?_
  refine sj (j_iconst hJ (v := 0) dL_equate_1 ic_0) ?_
  refine sj (j_aload_n hJ dL_equate_2 rfl 0 rfl) ?_
  refine sj (j_iload_n hJ dL_equate_3 rfl 1 rfl) ?_
  refine sj (j_iload_n hJ dL_equate_4 rfl 2 rfl) ?_
  refine sw_callVi hI [.int p1, .int p2] (st := [.int (0 : Int32), .ref p3]) (fr' := 10) (lo' := 250) ml_L_15 hc_11 (by decide) (by decide) (Nat.le_of_ble_eq_true rfl) dL_equate_5 rfl (fun _ h9 => ct_X11_equate h9) (fun x2 d3 => ?_) (fun e d3 => ?_)
  · refine sj (j_i2l hJ dL_equate_8) ?_
    refine sj_wLo hJ dL_equate_9 (fun d4 => ?_)
    refine sj (j_goto hJ (tgt := 21) dL_equate_10 (by decide)) ?_
    refine sj (j_iconst hJ (v := 0) dL_equate_21 ic_0) ?_
    exact sj_iret hI.isj dL_equate_22 (fun h => h)
  · by_cases h0 : e = 1
    · subst h0
      exact Or.inr ⟨_, 1, rfl, fun h => h, hnd_L_equate_1⟩
    by_cases h1 : e = 0
    · subst h1
      exact Or.inr ⟨_, 2, rfl, fun h => h, hnd_L_equate_0⟩
    exact Or.inl (by rw [if_neg h0, if_neg h1])
theorem ct_L_equate {σ : St} {p0 : Nat} {p1 : Int32} {p2 : Int32} {p3 : Nat} {δ : Dy} {r : (Int32 × Dy)} (h : m_L_equate σ p0 p1 p2 p3 δ = some r) : CTW yL_equate cL_equate 5 (some .int) [(0, 10, 13, 19), (0, 10, 17, 13)] 11 272 [.ref p0, .int p1, .int p2, .ref p3] σ δ ((some (.int r.1)), σ, r.2) := CTW_of (by decide +kernel) (Nat.le_of_ble_eq_true rfl) (fun J hI => w_L_equate hI σ p0 p1 p2 p3 δ r h rfl)
def m_L_token (σ : St) (p0 : Nat) (p1 : Int32) (p2 : Int32) (p3 : Int32) (p4 : Int32) (p5 : Nat) (δ : Dy) : Option (Int32 × Dy) :=
  (chk σ 11 p0).bind fun _ => (m_X11_token σ p0 p1 p2 p3 p4 δ).bind fun v1 => xhw v1 (fun (d3 : Dy) x2 =>
    (wLo σ d3 p5 (0 : Int32) (x2).toInt64).bind fun d4 =>
    some ((0 : Int32), d4)) (fun (d3 : Dy) (e : Nat) => if e = 1 then some ((1 : Int32), d3) else if e = 0 then some ((2 : Int32), d3) else none)
set_option maxHeartbeats 4000000 in
set_option maxRecDepth 100000 in
theorem w_L_token {J : JT} {an : Option Value × St × Dy} (hI : IsW cL_token 7 RL "token" 12 295 (some .int) [(0, 14, 17, 19), (0, 14, 21, 13)] an J) (σ : St) (p0 : Nat) (p1 : Int32) (p2 : Int32) (p3 : Int32) (p4 : Int32) (p5 : Nat) (δ : Dy) : SJ (m_L_token σ p0 p1 p2 p3 p4 p5 δ) (PI σ an) (J 0 [(0, .ref p0), (1, .int p1), (2, .int p2), (3, .int p3), (4, .int p4), (5, .ref p5)] [] (1, 6) σ δ) := by
  have hJ := hI.isj.cor
  unfold m_L_token
  refine sj (j_aload hJ dL_token_0 5 rfl) ?_
  refine sj (j_iconst hJ (v := 0) dL_token_2 ic_0) ?_
  refine sj (j_aload_n hJ dL_token_3 rfl 0 rfl) ?_
  refine sj (j_iload_n hJ dL_token_4 rfl 1 rfl) ?_
  refine sj (j_iload_n hJ dL_token_5 rfl 2 rfl) ?_
  refine sj (j_iload_n hJ dL_token_6 rfl 3 rfl) ?_
  refine sj (j_iload hJ dL_token_7 4 rfl) ?_
  refine sw_callVi hI [.int p1, .int p2, .int p3, .int p4] (st := [.int (0 : Int32), .ref p5]) (fr' := 11) (lo' := 271) ml_L_21 hc_11 (by decide) (by decide) (Nat.le_of_ble_eq_true rfl) dL_token_9 rfl (fun _ h9 => ct_X11_token h9) (fun x2 d3 => ?_) (fun e d3 => ?_)
  · refine sj (j_i2l hJ dL_token_12) ?_
    refine sj_wLo hJ dL_token_13 (fun d4 => ?_)
    refine sj (j_goto hJ (tgt := 25) dL_token_14 (by decide)) ?_
    refine sj (j_iconst hJ (v := 0) dL_token_25 ic_0) ?_
    exact sj_iret hI.isj dL_token_26 (fun h => h)
  · by_cases h0 : e = 1
    · subst h0
      exact Or.inr ⟨_, 1, rfl, fun h => h, hnd_L_token_1⟩
    by_cases h1 : e = 0
    · subst h1
      exact Or.inr ⟨_, 2, rfl, fun h => h, hnd_L_token_0⟩
    exact Or.inl (by rw [if_neg h0, if_neg h1])
theorem ct_L_token {σ : St} {p0 : Nat} {p1 : Int32} {p2 : Int32} {p3 : Int32} {p4 : Int32} {p5 : Nat} {δ : Dy} {r : (Int32 × Dy)} (h : m_L_token σ p0 p1 p2 p3 p4 p5 δ = some r) : CTW yL_token cL_token 7 (some .int) [(0, 14, 17, 19), (0, 14, 21, 13)] 12 295 [.ref p0, .int p1, .int p2, .int p3, .int p4, .ref p5] σ δ ((some (.int r.1)), σ, r.2) := CTW_of (by decide +kernel) (Nat.le_of_ble_eq_true rfl) (fun J hI => w_L_token hI σ p0 p1 p2 p3 p4 p5 δ r h rfl)
def m_L_both (σ : St) (p0 : Nat) (p1 : Int32) (p2 : Int32) (p3 : Nat) (δ : Dy) : Option (Int32 × Dy) :=
  (chk σ 11 p0).bind fun _ => (m_X11_both σ p0 p1 p2 δ).bind fun v1 => xhw v1 (fun (d3 : Dy) x2 =>
    (wLo σ d3 p3 (0 : Int32) (x2).toInt64).bind fun d4 =>
    some ((0 : Int32), d4)) (fun (d3 : Dy) (e : Nat) => if e = 2 then some ((1 : Int32), d3) else if e = 0 then some ((2 : Int32), d3) else none)
set_option maxHeartbeats 4000000 in
set_option maxRecDepth 100000 in
theorem w_L_both {J : JT} {an : Option Value × St × Dy} (hI : IsW cL_both 5 RL "both" 11 272 (some .int) [(0, 10, 13, 28), (0, 10, 17, 13)] an J) (σ : St) (p0 : Nat) (p1 : Int32) (p2 : Int32) (p3 : Nat) (δ : Dy) : SJ (m_L_both σ p0 p1 p2 p3 δ) (PI σ an) (J 0 [(0, .ref p0), (1, .int p1), (2, .int p2), (3, .ref p3)] [] (1, 6) σ δ) := by
  have hJ := hI.isj.cor
  unfold m_L_both
  refine sj (j_aload_n hJ dL_both_0 rfl 3 rfl) ?_
  refine sj (j_iconst hJ (v := 0) dL_both_1 ic_0) ?_
  refine sj (j_aload_n hJ dL_both_2 rfl 0 rfl) ?_
  refine sj (j_iload_n hJ dL_both_3 rfl 1 rfl) ?_
  refine sj (j_iload_n hJ dL_both_4 rfl 2 rfl) ?_
  refine sw_callVi hI [.int p1, .int p2] (st := [.int (0 : Int32), .ref p3]) (fr' := 10) (lo' := 250) ml_L_25 hc_11 (by decide) (by decide) (Nat.le_of_ble_eq_true rfl) dL_both_5 rfl (fun _ h9 => ct_X11_both h9) (fun x2 d3 => ?_) (fun e d3 => ?_)
  · refine sj (j_i2l hJ dL_both_8) ?_
    refine sj_wLo hJ dL_both_9 (fun d4 => ?_)
    refine sj (j_goto hJ (tgt := 21) dL_both_10 (by decide)) ?_
    refine sj (j_iconst hJ (v := 0) dL_both_21 ic_0) ?_
    exact sj_iret hI.isj dL_both_22 (fun h => h)
  · by_cases h0 : e = 2
    · subst h0
      exact Or.inr ⟨_, 1, rfl, fun h => h, hnd_L_both_2⟩
    by_cases h1 : e = 0
    · subst h1
      exact Or.inr ⟨_, 2, rfl, fun h => h, hnd_L_both_0⟩
    exact Or.inl (by rw [if_neg h0, if_neg h1])
theorem ct_L_both {σ : St} {p0 : Nat} {p1 : Int32} {p2 : Int32} {p3 : Nat} {δ : Dy} {r : (Int32 × Dy)} (h : m_L_both σ p0 p1 p2 p3 δ = some r) : CTW yL_both cL_both 5 (some .int) [(0, 10, 13, 28), (0, 10, 17, 13)] 11 272 [.ref p0, .int p1, .int p2, .ref p3] σ δ ((some (.int r.1)), σ, r.2) := CTW_of (by decide +kernel) (Nat.le_of_ble_eq_true rfl) (fun J hI => w_L_both hI σ p0 p1 p2 p3 δ r h rfl)
def m_L_when (σ : St) (p0 : Nat) (p1 : Int32) (p2 : Int32) (p3 : Int32) (p4 : Int32) (p5 : Nat) (δ : Dy) : Option (Int32 × Dy) :=
  (chk σ 11 p0).bind fun _ => (m_X11_when σ p0 p1 p2 p3 p4 δ).bind fun v1 => xhw v1 (fun (d3 : Dy) x2 =>
    (wLo σ d3 p5 (0 : Int32) (x2).toInt64).bind fun d4 =>
    some ((0 : Int32), d4)) (fun (d3 : Dy) (e : Nat) => if e = 2 then some ((1 : Int32), d3) else if e = 1 then some ((2 : Int32), d3) else if e = 0 then some ((3 : Int32), d3) else none)
set_option maxHeartbeats 4000000 in
set_option maxRecDepth 100000 in
theorem w_L_when {J : JT} {an : Option Value × St × Dy} (hI : IsW cL_when 7 RL "when" 12 296 (some .int) [(0, 14, 17, 28), (0, 14, 21, 19), (0, 14, 25, 13)] an J) (σ : St) (p0 : Nat) (p1 : Int32) (p2 : Int32) (p3 : Int32) (p4 : Int32) (p5 : Nat) (δ : Dy) : SJ (m_L_when σ p0 p1 p2 p3 p4 p5 δ) (PI σ an) (J 0 [(0, .ref p0), (1, .int p1), (2, .int p2), (3, .int p3), (4, .int p4), (5, .ref p5)] [] (1, 6) σ δ) := by
  have hJ := hI.isj.cor
  unfold m_L_when
  refine sj (j_aload hJ dL_when_0 5 rfl) ?_
  refine sj (j_iconst hJ (v := 0) dL_when_2 ic_0) ?_
  refine sj (j_aload_n hJ dL_when_3 rfl 0 rfl) ?_
  refine sj (j_iload_n hJ dL_when_4 rfl 1 rfl) ?_
  refine sj (j_iload_n hJ dL_when_5 rfl 2 rfl) ?_
  refine sj (j_iload_n hJ dL_when_6 rfl 3 rfl) ?_
  refine sj (j_iload hJ dL_when_7 4 rfl) ?_
  refine sw_callVi hI [.int p1, .int p2, .int p3, .int p4] (st := [.int (0 : Int32), .ref p5]) (fr' := 11) (lo' := 271) ml_L_30 hc_11 (by decide) (by decide) (Nat.le_of_ble_eq_true rfl) dL_when_9 rfl (fun _ h9 => ct_X11_when h9) (fun x2 d3 => ?_) (fun e d3 => ?_)
  · refine sj (j_i2l hJ dL_when_12) ?_
    refine sj_wLo hJ dL_when_13 (fun d4 => ?_)
    refine sj (j_goto hJ (tgt := 29) dL_when_14 (by decide)) ?_
    refine sj (j_iconst hJ (v := 0) dL_when_29 ic_0) ?_
    exact sj_iret hI.isj dL_when_30 (fun h => h)
  · by_cases h0 : e = 2
    · subst h0
      exact Or.inr ⟨_, 1, rfl, fun h => h, hnd_L_when_2⟩
    by_cases h1 : e = 1
    · subst h1
      exact Or.inr ⟨_, 2, rfl, fun h => h, hnd_L_when_1⟩
    by_cases h2 : e = 0
    · subst h2
      exact Or.inr ⟨_, 3, rfl, fun h => h, hnd_L_when_0⟩
    exact Or.inl (by rw [if_neg h0, if_neg h1, if_neg h2])
theorem ct_L_when {σ : St} {p0 : Nat} {p1 : Int32} {p2 : Int32} {p3 : Int32} {p4 : Int32} {p5 : Nat} {δ : Dy} {r : (Int32 × Dy)} (h : m_L_when σ p0 p1 p2 p3 p4 p5 δ = some r) : CTW yL_when cL_when 7 (some .int) [(0, 14, 17, 28), (0, 14, 21, 19), (0, 14, 25, 13)] 12 296 [.ref p0, .int p1, .int p2, .int p3, .int p4, .ref p5] σ δ ((some (.int r.1)), σ, r.2) := CTW_of (by decide +kernel) (Nat.le_of_ble_eq_true rfl) (fun J hI => w_L_when hI σ p0 p1 p2 p3 p4 p5 δ r h rfl)
def m_L_either (σ : St) (p0 : Nat) (p1 : Int32) (p2 : Int32) (p3 : Int32) (p4 : Int32) (p5 : Nat) (δ : Dy) : Option (Int32 × Dy) :=
  (chk σ 11 p0).bind fun _ => (m_X11_either σ p0 p1 p2 p3 p4 δ).bind fun v1 => xhw v1 (fun (d3 : Dy) x2 =>
    (wLo σ d3 p5 (0 : Int32) (x2).toInt64).bind fun d4 =>
    some ((0 : Int32), d4)) (fun (d3 : Dy) (e : Nat) => if e = 2 then some ((1 : Int32), d3) else if e = 1 then some ((2 : Int32), d3) else if e = 0 then some ((3 : Int32), d3) else none)
set_option maxHeartbeats 4000000 in
set_option maxRecDepth 100000 in
theorem w_L_either {J : JT} {an : Option Value × St × Dy} (hI : IsW cL_either 7 RL "either" 11 275 (some .int) [(0, 14, 17, 28), (0, 14, 21, 19), (0, 14, 25, 13)] an J) (σ : St) (p0 : Nat) (p1 : Int32) (p2 : Int32) (p3 : Int32) (p4 : Int32) (p5 : Nat) (δ : Dy) : SJ (m_L_either σ p0 p1 p2 p3 p4 p5 δ) (PI σ an) (J 0 [(0, .ref p0), (1, .int p1), (2, .int p2), (3, .int p3), (4, .int p4), (5, .ref p5)] [] (1, 6) σ δ) := by
  have hJ := hI.isj.cor
  unfold m_L_either
  refine sj (j_aload hJ dL_either_0 5 rfl) ?_
  refine sj (j_iconst hJ (v := 0) dL_either_2 ic_0) ?_
  refine sj (j_aload_n hJ dL_either_3 rfl 0 rfl) ?_
  refine sj (j_iload_n hJ dL_either_4 rfl 1 rfl) ?_
  refine sj (j_iload_n hJ dL_either_5 rfl 2 rfl) ?_
  refine sj (j_iload_n hJ dL_either_6 rfl 3 rfl) ?_
  refine sj (j_iload hJ dL_either_7 4 rfl) ?_
  refine sw_callVi hI [.int p1, .int p2, .int p3, .int p4] (st := [.int (0 : Int32), .ref p5]) (fr' := 10) (lo' := 251) ml_L_34 hc_11 (by decide) (by decide) (Nat.le_of_ble_eq_true rfl) dL_either_9 rfl (fun _ h9 => ct_X11_either h9) (fun x2 d3 => ?_) (fun e d3 => ?_)
  · refine sj (j_i2l hJ dL_either_12) ?_
    refine sj_wLo hJ dL_either_13 (fun d4 => ?_)
    refine sj (j_goto hJ (tgt := 29) dL_either_14 (by decide)) ?_
    refine sj (j_iconst hJ (v := 0) dL_either_29 ic_0) ?_
    exact sj_iret hI.isj dL_either_30 (fun h => h)
  · by_cases h0 : e = 2
    · subst h0
      exact Or.inr ⟨_, 1, rfl, fun h => h, hnd_L_either_2⟩
    by_cases h1 : e = 1
    · subst h1
      exact Or.inr ⟨_, 2, rfl, fun h => h, hnd_L_either_1⟩
    by_cases h2 : e = 0
    · subst h2
      exact Or.inr ⟨_, 3, rfl, fun h => h, hnd_L_either_0⟩
    exact Or.inl (by rw [if_neg h0, if_neg h1, if_neg h2])
theorem ct_L_either {σ : St} {p0 : Nat} {p1 : Int32} {p2 : Int32} {p3 : Int32} {p4 : Int32} {p5 : Nat} {δ : Dy} {r : (Int32 × Dy)} (h : m_L_either σ p0 p1 p2 p3 p4 p5 δ = some r) : CTW yL_either cL_either 7 (some .int) [(0, 14, 17, 28), (0, 14, 21, 19), (0, 14, 25, 13)] 11 275 [.ref p0, .int p1, .int p2, .int p3, .int p4, .ref p5] σ δ ((some (.int r.1)), σ, r.2) := CTW_of (by decide +kernel) (Nat.le_of_ble_eq_true rfl) (fun J hI => w_L_either hI σ p0 p1 p2 p3 p4 p5 δ r h rfl)
def m_L_hide (σ : St) (p0 : Nat) (p1 : Int32) (p2 : Int32) (p3 : Nat) (δ : Dy) : Option (Int32 × Dy) :=
  (chk σ 11 p0).bind fun _ => (m_X11_hide σ p0 p1 p2 δ).bind fun v1 => xhw v1 (fun (d3 : Dy) x2 =>
    (wLo σ d3 p3 (0 : Int32) (x2).toInt64).bind fun d4 =>
    some ((0 : Int32), d4)) (fun (d3 : Dy) (e : Nat) => if e = 2 then some ((1 : Int32), d3) else if e = 1 then some ((2 : Int32), d3) else if e = 0 then some ((3 : Int32), d3) else none)
set_option maxHeartbeats 4000000 in
set_option maxRecDepth 100000 in
theorem w_L_hide {J : JT} {an : Option Value × St × Dy} (hI : IsW cL_hide 5 RL "hide" 11 273 (some .int) [(0, 10, 13, 28), (0, 10, 17, 19), (0, 10, 21, 13)] an J) (σ : St) (p0 : Nat) (p1 : Int32) (p2 : Int32) (p3 : Nat) (δ : Dy) : SJ (m_L_hide σ p0 p1 p2 p3 δ) (PI σ an) (J 0 [(0, .ref p0), (1, .int p1), (2, .int p2), (3, .ref p3)] [] (1, 6) σ δ) := by
  have hJ := hI.isj.cor
  unfold m_L_hide
  refine sj (j_aload_n hJ dL_hide_0 rfl 3 rfl) ?_
  refine sj (j_iconst hJ (v := 0) dL_hide_1 ic_0) ?_
  refine sj (j_aload_n hJ dL_hide_2 rfl 0 rfl) ?_
  refine sj (j_iload_n hJ dL_hide_3 rfl 1 rfl) ?_
  refine sj (j_iload_n hJ dL_hide_4 rfl 2 rfl) ?_
  refine sw_callVi hI [.int p1, .int p2] (st := [.int (0 : Int32), .ref p3]) (fr' := 10) (lo' := 251) ml_L_37 hc_11 (by decide) (by decide) (Nat.le_of_ble_eq_true rfl) dL_hide_5 rfl (fun _ h9 => ct_X11_hide h9) (fun x2 d3 => ?_) (fun e d3 => ?_)
  · refine sj (j_i2l hJ dL_hide_8) ?_
    refine sj_wLo hJ dL_hide_9 (fun d4 => ?_)
    refine sj (j_goto hJ (tgt := 25) dL_hide_10 (by decide)) ?_
    refine sj (j_iconst hJ (v := 0) dL_hide_25 ic_0) ?_
    exact sj_iret hI.isj dL_hide_26 (fun h => h)
  · by_cases h0 : e = 2
    · subst h0
      exact Or.inr ⟨_, 1, rfl, fun h => h, hnd_L_hide_2⟩
    by_cases h1 : e = 1
    · subst h1
      exact Or.inr ⟨_, 2, rfl, fun h => h, hnd_L_hide_1⟩
    by_cases h2 : e = 0
    · subst h2
      exact Or.inr ⟨_, 3, rfl, fun h => h, hnd_L_hide_0⟩
    exact Or.inl (by rw [if_neg h0, if_neg h1, if_neg h2])
theorem ct_L_hide {σ : St} {p0 : Nat} {p1 : Int32} {p2 : Int32} {p3 : Nat} {δ : Dy} {r : (Int32 × Dy)} (h : m_L_hide σ p0 p1 p2 p3 δ = some r) : CTW yL_hide cL_hide 5 (some .int) [(0, 10, 13, 28), (0, 10, 17, 19), (0, 10, 21, 13)] 11 273 [.ref p0, .int p1, .int p2, .ref p3] σ δ ((some (.int r.1)), σ, r.2) := CTW_of (by decide +kernel) (Nat.le_of_ble_eq_true rfl) (fun J hI => w_L_hide hI σ p0 p1 p2 p3 δ r h rfl)
def m_L_call (σ : St) (p0 : Nat) (p1 : Int32) (p2 : Int32) (p3 : Int32) (p4 : Nat) (δ : Dy) : Option (Int32 × Dy) :=
  (chk σ 11 p0).bind fun _ => (m_X11_call σ p0 p1 p2 p3 δ).bind fun v1 => xhw v1 (fun (d3 : Dy) x2 =>
    (wLo σ d3 p4 (0 : Int32) (x2).toInt64).bind fun d4 =>
    some ((0 : Int32), d4)) (fun (d3 : Dy) (e : Nat) => if e = 2 then some ((1 : Int32), d3) else if e = 1 then some ((2 : Int32), d3) else if e = 0 then some ((3 : Int32), d3) else none)
set_option maxHeartbeats 4000000 in
set_option maxRecDepth 100000 in
theorem w_L_call {J : JT} {an : Option Value × St × Dy} (hI : IsW cL_call 6 RL "call" 11 273 (some .int) [(0, 12, 15, 28), (0, 12, 19, 19), (0, 12, 23, 13)] an J) (σ : St) (p0 : Nat) (p1 : Int32) (p2 : Int32) (p3 : Int32) (p4 : Nat) (δ : Dy) : SJ (m_L_call σ p0 p1 p2 p3 p4 δ) (PI σ an) (J 0 [(0, .ref p0), (1, .int p1), (2, .int p2), (3, .int p3), (4, .ref p4)] [] (1, 6) σ δ) := by
  have hJ := hI.isj.cor
  unfold m_L_call
  refine sj (j_aload hJ dL_call_0 4 rfl) ?_
  refine sj (j_iconst hJ (v := 0) dL_call_2 ic_0) ?_
  refine sj (j_aload_n hJ dL_call_3 rfl 0 rfl) ?_
  refine sj (j_iload_n hJ dL_call_4 rfl 1 rfl) ?_
  refine sj (j_iload_n hJ dL_call_5 rfl 2 rfl) ?_
  refine sj (j_iload_n hJ dL_call_6 rfl 3 rfl) ?_
  refine sw_callVi hI [.int p1, .int p2, .int p3] (st := [.int (0 : Int32), .ref p4]) (fr' := 10) (lo' := 250) ml_L_40 hc_11 (by decide) (by decide) (Nat.le_of_ble_eq_true rfl) dL_call_7 rfl (fun _ h9 => ct_X11_call h9) (fun x2 d3 => ?_) (fun e d3 => ?_)
  · refine sj (j_i2l hJ dL_call_10) ?_
    refine sj_wLo hJ dL_call_11 (fun d4 => ?_)
    refine sj (j_goto hJ (tgt := 27) dL_call_12 (by decide)) ?_
    refine sj (j_iconst hJ (v := 0) dL_call_27 ic_0) ?_
    exact sj_iret hI.isj dL_call_28 (fun h => h)
  · by_cases h0 : e = 2
    · subst h0
      exact Or.inr ⟨_, 1, rfl, fun h => h, hnd_L_call_2⟩
    by_cases h1 : e = 1
    · subst h1
      exact Or.inr ⟨_, 2, rfl, fun h => h, hnd_L_call_1⟩
    by_cases h2 : e = 0
    · subst h2
      exact Or.inr ⟨_, 3, rfl, fun h => h, hnd_L_call_0⟩
    exact Or.inl (by rw [if_neg h0, if_neg h1, if_neg h2])
theorem ct_L_call {σ : St} {p0 : Nat} {p1 : Int32} {p2 : Int32} {p3 : Int32} {p4 : Nat} {δ : Dy} {r : (Int32 × Dy)} (h : m_L_call σ p0 p1 p2 p3 p4 δ = some r) : CTW yL_call cL_call 6 (some .int) [(0, 12, 15, 28), (0, 12, 19, 19), (0, 12, 23, 13)] 11 273 [.ref p0, .int p1, .int p2, .int p3, .ref p4] σ δ ((some (.int r.1)), σ, r.2) := CTW_of (by decide +kernel) (Nat.le_of_ble_eq_true rfl) (fun J hI => w_L_call hI σ p0 p1 p2 p3 p4 δ r h rfl)
def m_L_next (σ : St) (p0 : Nat) (p1 : Int32) (p2 : Nat) (δ : Dy) : Option (Int32 × Dy) :=
  (chk σ 11 p0).bind fun _ => (m_X11_next σ p0 p1 δ).bind fun v1 => xhw v1 (fun (d3 : Dy) x2 =>
    (wLo σ d3 p2 (0 : Int32) (x2).toInt64).bind fun d4 =>
    some ((0 : Int32), d4)) (fun (d3 : Dy) (e : Nat) => if e = 2 then some ((1 : Int32), d3) else if e = 0 then some ((2 : Int32), d3) else none)
set_option maxHeartbeats 4000000 in
set_option maxRecDepth 100000 in
theorem w_L_next {J : JT} {an : Option Value × St × Dy} (hI : IsW cL_next 4 RL "next" 11 271 (some .int) [(0, 9, 12, 28), (0, 9, 15, 13)] an J) (σ : St) (p0 : Nat) (p1 : Int32) (p2 : Nat) (δ : Dy) : SJ (m_L_next σ p0 p1 p2 δ) (PI σ an) (J 0 [(0, .ref p0), (1, .int p1), (2, .ref p2)] [] (1, 6) σ δ) := by
  have hJ := hI.isj.cor
  unfold m_L_next
  refine sj (j_aload_n hJ dL_next_0 rfl 2 rfl) ?_
  refine sj (j_iconst hJ (v := 0) dL_next_1 ic_0) ?_
  refine sj (j_aload_n hJ dL_next_2 rfl 0 rfl) ?_
  refine sj (j_iload_n hJ dL_next_3 rfl 1 rfl) ?_
  refine sw_callVi hI [.int p1] (st := [.int (0 : Int32), .ref p2]) (fr' := 10) (lo' := 250) ml_L_44 hc_11 (by decide) (by decide) (Nat.le_of_ble_eq_true rfl) dL_next_4 rfl (fun _ h9 => ct_X11_next h9) (fun x2 d3 => ?_) (fun e d3 => ?_)
  · refine sj (j_i2l hJ dL_next_7) ?_
    refine sj_wLo hJ dL_next_8 (fun d4 => ?_)
    refine sj (j_goto hJ (tgt := 18) dL_next_9 (by decide)) ?_
    refine sj (j_iconst hJ (v := 0) dL_next_18 ic_0) ?_
    exact sj_iret hI.isj dL_next_19 (fun h => h)
  · by_cases h0 : e = 2
    · subst h0
      exact Or.inr ⟨_, 1, rfl, fun h => h, hnd_L_next_2⟩
    by_cases h1 : e = 0
    · subst h1
      exact Or.inr ⟨_, 2, rfl, fun h => h, hnd_L_next_0⟩
    exact Or.inl (by rw [if_neg h0, if_neg h1])
theorem ct_L_next {σ : St} {p0 : Nat} {p1 : Int32} {p2 : Nat} {δ : Dy} {r : (Int32 × Dy)} (h : m_L_next σ p0 p1 p2 δ = some r) : CTW yL_next cL_next 4 (some .int) [(0, 9, 12, 28), (0, 9, 15, 13)] 11 271 [.ref p0, .int p1, .ref p2] σ δ ((some (.int r.1)), σ, r.2) := CTW_of (by decide +kernel) (Nat.le_of_ble_eq_true rfl) (fun J hI => w_L_next hI σ p0 p1 p2 δ r h rfl)
def m_L_each (σ : St) (p0 : Nat) (p1 : Int32) (p2 : Nat) (δ : Dy) : Option (Int32 × Dy) :=
  (chk σ 11 p0).bind fun _ => (m_X11_each σ p0 p1 δ).bind fun v1 => xhw v1 (fun (d3 : Dy) x2 =>
    (wLo σ d3 p2 (0 : Int32) (x2).toInt64).bind fun d4 =>
    some ((0 : Int32), d4)) (fun (d3 : Dy) (e : Nat) => if e = 2 then some ((1 : Int32), d3) else if e = 0 then some ((2 : Int32), d3) else none)
set_option maxHeartbeats 4000000 in
set_option maxRecDepth 100000 in
theorem w_L_each {J : JT} {an : Option Value × St × Dy} (hI : IsW cL_each 4 RL "each" 11 271 (some .int) [(0, 9, 12, 28), (0, 9, 15, 13)] an J) (σ : St) (p0 : Nat) (p1 : Int32) (p2 : Nat) (δ : Dy) : SJ (m_L_each σ p0 p1 p2 δ) (PI σ an) (J 0 [(0, .ref p0), (1, .int p1), (2, .ref p2)] [] (1, 6) σ δ) := by
  have hJ := hI.isj.cor
  unfold m_L_each
  refine sj (j_aload_n hJ dL_each_0 rfl 2 rfl) ?_
  refine sj (j_iconst hJ (v := 0) dL_each_1 ic_0) ?_
  refine sj (j_aload_n hJ dL_each_2 rfl 0 rfl) ?_
  refine sj (j_iload_n hJ dL_each_3 rfl 1 rfl) ?_
  refine sw_callVi hI [.int p1] (st := [.int (0 : Int32), .ref p2]) (fr' := 10) (lo' := 250) ml_L_48 hc_11 (by decide) (by decide) (Nat.le_of_ble_eq_true rfl) dL_each_4 rfl (fun _ h9 => ct_X11_each h9) (fun x2 d3 => ?_) (fun e d3 => ?_)
  · refine sj (j_i2l hJ dL_each_7) ?_
    refine sj_wLo hJ dL_each_8 (fun d4 => ?_)
    refine sj (j_goto hJ (tgt := 18) dL_each_9 (by decide)) ?_
    refine sj (j_iconst hJ (v := 0) dL_each_18 ic_0) ?_
    exact sj_iret hI.isj dL_each_19 (fun h => h)
  · by_cases h0 : e = 2
    · subst h0
      exact Or.inr ⟨_, 1, rfl, fun h => h, hnd_L_each_2⟩
    by_cases h1 : e = 0
    · subst h1
      exact Or.inr ⟨_, 2, rfl, fun h => h, hnd_L_each_0⟩
    exact Or.inl (by rw [if_neg h0, if_neg h1])
theorem ct_L_each {σ : St} {p0 : Nat} {p1 : Int32} {p2 : Nat} {δ : Dy} {r : (Int32 × Dy)} (h : m_L_each σ p0 p1 p2 δ = some r) : CTW yL_each cL_each 4 (some .int) [(0, 9, 12, 28), (0, 9, 15, 13)] 11 271 [.ref p0, .int p1, .ref p2] σ δ ((some (.int r.1)), σ, r.2) := CTW_of (by decide +kernel) (Nat.le_of_ble_eq_true rfl) (fun J hI => w_L_each hI σ p0 p1 p2 δ r h rfl)
def m_L_unless (σ : St) (p0 : Nat) (p1 : Int32) (p2 : Int32) (p3 : Int32) (p4 : Int32) (p5 : Int32) (p6 : Nat) (δ : Dy) : Option (Int32 × Dy) :=
  (chk σ 11 p0).bind fun _ => (m_X11_unless σ p0 p1 p2 p3 p4 p5 δ).bind fun v1 => xhw v1 (fun (d3 : Dy) x2 =>
    (wLo σ d3 p6 (0 : Int32) (x2).toInt64).bind fun d4 =>
    some ((0 : Int32), d4)) (fun (d3 : Dy) (e : Nat) => if e = 2 then some ((1 : Int32), d3) else if e = 1 then some ((2 : Int32), d3) else if e = 0 then some ((3 : Int32), d3) else none)
set_option maxHeartbeats 4000000 in
set_option maxRecDepth 100000 in
theorem w_L_unless {J : JT} {an : Option Value × St × Dy} (hI : IsW cL_unless 8 RL "unless" 12 297 (some .int) [(0, 16, 19, 28), (0, 16, 23, 19), (0, 16, 27, 13)] an J) (σ : St) (p0 : Nat) (p1 : Int32) (p2 : Int32) (p3 : Int32) (p4 : Int32) (p5 : Int32) (p6 : Nat) (δ : Dy) : SJ (m_L_unless σ p0 p1 p2 p3 p4 p5 p6 δ) (PI σ an) (J 0 [(0, .ref p0), (1, .int p1), (2, .int p2), (3, .int p3), (4, .int p4), (5, .int p5), (6, .ref p6)] [] (1, 6) σ δ) := by
  have hJ := hI.isj.cor
  unfold m_L_unless
  refine sj (j_aload hJ dL_unless_0 6 rfl) ?_
  refine sj (j_iconst hJ (v := 0) dL_unless_2 ic_0) ?_
  refine sj (j_aload_n hJ dL_unless_3 rfl 0 rfl) ?_
  refine sj (j_iload_n hJ dL_unless_4 rfl 1 rfl) ?_
  refine sj (j_iload_n hJ dL_unless_5 rfl 2 rfl) ?_
  refine sj (j_iload_n hJ dL_unless_6 rfl 3 rfl) ?_
  refine sj (j_iload hJ dL_unless_7 4 rfl) ?_
  refine sj (j_iload hJ dL_unless_9 5 rfl) ?_
  refine sw_callVi hI [.int p1, .int p2, .int p3, .int p4, .int p5] (st := [.int (0 : Int32), .ref p6]) (fr' := 11) (lo' := 271) ml_L_51 hc_11 (by decide) (by decide) (Nat.le_of_ble_eq_true rfl) dL_unless_11 rfl (fun _ h9 => ct_X11_unless h9) (fun x2 d3 => ?_) (fun e d3 => ?_)
  · refine sj (j_i2l hJ dL_unless_14) ?_
    refine sj_wLo hJ dL_unless_15 (fun d4 => ?_)
    refine sj (j_goto hJ (tgt := 31) dL_unless_16 (by decide)) ?_
    refine sj (j_iconst hJ (v := 0) dL_unless_31 ic_0) ?_
    exact sj_iret hI.isj dL_unless_32 (fun h => h)
  · by_cases h0 : e = 2
    · subst h0
      exact Or.inr ⟨_, 1, rfl, fun h => h, hnd_L_unless_2⟩
    by_cases h1 : e = 1
    · subst h1
      exact Or.inr ⟨_, 2, rfl, fun h => h, hnd_L_unless_1⟩
    by_cases h2 : e = 0
    · subst h2
      exact Or.inr ⟨_, 3, rfl, fun h => h, hnd_L_unless_0⟩
    exact Or.inl (by rw [if_neg h0, if_neg h1, if_neg h2])
theorem ct_L_unless {σ : St} {p0 : Nat} {p1 : Int32} {p2 : Int32} {p3 : Int32} {p4 : Int32} {p5 : Int32} {p6 : Nat} {δ : Dy} {r : (Int32 × Dy)} (h : m_L_unless σ p0 p1 p2 p3 p4 p5 p6 δ = some r) : CTW yL_unless cL_unless 8 (some .int) [(0, 16, 19, 28), (0, 16, 23, 19), (0, 16, 27, 13)] 12 297 [.ref p0, .int p1, .int p2, .int p3, .int p4, .int p5, .ref p6] σ δ ((some (.int r.1)), σ, r.2) := CTW_of (by decide +kernel) (Nat.le_of_ble_eq_true rfl) (fun J hI => w_L_unless hI σ p0 p1 p2 p3 p4 p5 p6 δ r h rfl)
def m_L_lot (σ : St) (p0 : Nat) (p1 : Int32) (p2 : Int32) (p3 : Int32) (p4 : Int32) (p5 : Nat) (δ : Dy) : Option (Int32 × Dy) :=
  (chk σ 11 p0).bind fun _ => (m_X11_lot σ p0 p1 p2 p3 p4 δ).bind fun v1 => xhw v1 (fun (d3 : Dy) x2 =>
    (wLo σ d3 p5 (0 : Int32) (x2).toInt64).bind fun d4 =>
    some ((0 : Int32), d4)) (fun (d3 : Dy) (e : Nat) => if e = 2 then some ((1 : Int32), d3) else if e = 1 then some ((2 : Int32), d3) else if e = 0 then some ((3 : Int32), d3) else none)
set_option maxHeartbeats 4000000 in
set_option maxRecDepth 100000 in
theorem w_L_lot {J : JT} {an : Option Value × St × Dy} (hI : IsW cL_lot 7 RL "lot" 11 275 (some .int) [(0, 14, 17, 28), (0, 14, 21, 19), (0, 14, 25, 13)] an J) (σ : St) (p0 : Nat) (p1 : Int32) (p2 : Int32) (p3 : Int32) (p4 : Int32) (p5 : Nat) (δ : Dy) : SJ (m_L_lot σ p0 p1 p2 p3 p4 p5 δ) (PI σ an) (J 0 [(0, .ref p0), (1, .int p1), (2, .int p2), (3, .int p3), (4, .int p4), (5, .ref p5)] [] (1, 6) σ δ) := by
  have hJ := hI.isj.cor
  unfold m_L_lot
  refine sj (j_aload hJ dL_lot_0 5 rfl) ?_
  refine sj (j_iconst hJ (v := 0) dL_lot_2 ic_0) ?_
  refine sj (j_aload_n hJ dL_lot_3 rfl 0 rfl) ?_
  refine sj (j_iload_n hJ dL_lot_4 rfl 1 rfl) ?_
  refine sj (j_iload_n hJ dL_lot_5 rfl 2 rfl) ?_
  refine sj (j_iload_n hJ dL_lot_6 rfl 3 rfl) ?_
  refine sj (j_iload hJ dL_lot_7 4 rfl) ?_
  refine sw_callVi hI [.int p1, .int p2, .int p3, .int p4] (st := [.int (0 : Int32), .ref p5]) (fr' := 10) (lo' := 251) ml_L_55 hc_11 (by decide) (by decide) (Nat.le_of_ble_eq_true rfl) dL_lot_9 rfl (fun _ h9 => ct_X11_lot h9) (fun x2 d3 => ?_) (fun e d3 => ?_)
  · refine sj (j_i2l hJ dL_lot_12) ?_
    refine sj_wLo hJ dL_lot_13 (fun d4 => ?_)
    refine sj (j_goto hJ (tgt := 29) dL_lot_14 (by decide)) ?_
    refine sj (j_iconst hJ (v := 0) dL_lot_29 ic_0) ?_
    exact sj_iret hI.isj dL_lot_30 (fun h => h)
  · by_cases h0 : e = 2
    · subst h0
      exact Or.inr ⟨_, 1, rfl, fun h => h, hnd_L_lot_2⟩
    by_cases h1 : e = 1
    · subst h1
      exact Or.inr ⟨_, 2, rfl, fun h => h, hnd_L_lot_1⟩
    by_cases h2 : e = 0
    · subst h2
      exact Or.inr ⟨_, 3, rfl, fun h => h, hnd_L_lot_0⟩
    exact Or.inl (by rw [if_neg h0, if_neg h1, if_neg h2])
theorem ct_L_lot {σ : St} {p0 : Nat} {p1 : Int32} {p2 : Int32} {p3 : Int32} {p4 : Int32} {p5 : Nat} {δ : Dy} {r : (Int32 × Dy)} (h : m_L_lot σ p0 p1 p2 p3 p4 p5 δ = some r) : CTW yL_lot cL_lot 7 (some .int) [(0, 14, 17, 28), (0, 14, 21, 19), (0, 14, 25, 13)] 11 275 [.ref p0, .int p1, .int p2, .int p3, .int p4, .ref p5] σ δ ((some (.int r.1)), σ, r.2) := CTW_of (by decide +kernel) (Nat.le_of_ble_eq_true rfl) (fun J hI => w_L_lot hI σ p0 p1 p2 p3 p4 p5 δ r h rfl)
def m_L_attempt (σ : St) (p0 : Nat) (p1 : Int32) (p2 : Int32) (p3 : Nat) (δ : Dy) : Option (Int32 × Dy) :=
  (chk σ 11 p0).bind fun _ => (m_X11_attempt σ p0 p1 p2 δ).bind fun v1 => xhw v1 (fun (d3 : Dy) x2 =>
    (wLo σ d3 p3 (0 : Int32) (x2).toInt64).bind fun d4 =>
    some ((0 : Int32), d4)) (fun (d3 : Dy) (e : Nat) => if e = 2 then some ((1 : Int32), d3) else if e = 0 then some ((2 : Int32), d3) else none)
set_option maxHeartbeats 4000000 in
set_option maxRecDepth 100000 in
theorem w_L_attempt {J : JT} {an : Option Value × St × Dy} (hI : IsW cL_attempt 5 RL "attempt" 11 272 (some .int) [(0, 10, 13, 28), (0, 10, 17, 13)] an J) (σ : St) (p0 : Nat) (p1 : Int32) (p2 : Int32) (p3 : Nat) (δ : Dy) : SJ (m_L_attempt σ p0 p1 p2 p3 δ) (PI σ an) (J 0 [(0, .ref p0), (1, .int p1), (2, .int p2), (3, .ref p3)] [] (1, 6) σ δ) := by
  have hJ := hI.isj.cor
  unfold m_L_attempt
  refine sj (j_aload_n hJ dL_attempt_0 rfl 3 rfl) ?_
  refine sj (j_iconst hJ (v := 0) dL_attempt_1 ic_0) ?_
  refine sj (j_aload_n hJ dL_attempt_2 rfl 0 rfl) ?_
  refine sj (j_iload_n hJ dL_attempt_3 rfl 1 rfl) ?_
  refine sj (j_iload_n hJ dL_attempt_4 rfl 2 rfl) ?_
  refine sw_callVi hI [.int p1, .int p2] (st := [.int (0 : Int32), .ref p3]) (fr' := 10) (lo' := 250) ml_L_58 hc_11 (by decide) (by decide) (Nat.le_of_ble_eq_true rfl) dL_attempt_5 rfl (fun _ h9 => ct_X11_attempt h9) (fun x2 d3 => ?_) (fun e d3 => ?_)
  · refine sj (j_i2l hJ dL_attempt_8) ?_
    refine sj_wLo hJ dL_attempt_9 (fun d4 => ?_)
    refine sj (j_goto hJ (tgt := 21) dL_attempt_10 (by decide)) ?_
    refine sj (j_iconst hJ (v := 0) dL_attempt_21 ic_0) ?_
    exact sj_iret hI.isj dL_attempt_22 (fun h => h)
  · by_cases h0 : e = 2
    · subst h0
      exact Or.inr ⟨_, 1, rfl, fun h => h, hnd_L_attempt_2⟩
    by_cases h1 : e = 0
    · subst h1
      exact Or.inr ⟨_, 2, rfl, fun h => h, hnd_L_attempt_0⟩
    exact Or.inl (by rw [if_neg h0, if_neg h1])
theorem ct_L_attempt {σ : St} {p0 : Nat} {p1 : Int32} {p2 : Int32} {p3 : Nat} {δ : Dy} {r : (Int32 × Dy)} (h : m_L_attempt σ p0 p1 p2 p3 δ = some r) : CTW yL_attempt cL_attempt 5 (some .int) [(0, 10, 13, 28), (0, 10, 17, 13)] 11 272 [.ref p0, .int p1, .int p2, .ref p3] σ δ ((some (.int r.1)), σ, r.2) := CTW_of (by decide +kernel) (Nat.le_of_ble_eq_true rfl) (fun J hI => w_L_attempt hI σ p0 p1 p2 p3 δ r h rfl)
def m_L_define (σ : St) (p0 : Nat) (p1 : Int32) (p2 : Int32) (p3 : Nat) (δ : Dy) : Option (Int32 × Dy) :=
  (chk σ 11 p0).bind fun _ => (m_X11_define σ p0 p1 p2 δ).bind fun v1 => xhw v1 (fun (d3 : Dy) x2 =>
    (wLo σ d3 p3 (0 : Int32) (x2).toInt64).bind fun d4 =>
    some ((0 : Int32), d4)) (fun (d3 : Dy) (e : Nat) => if e = 2 then some ((1 : Int32), d3) else none)
set_option maxHeartbeats 4000000 in
set_option maxRecDepth 100000 in
theorem w_L_define {J : JT} {an : Option Value × St × Dy} (hI : IsW cL_define 5 RL "define" 11 273 (some .int) [(0, 10, 13, 28)] an J) (σ : St) (p0 : Nat) (p1 : Int32) (p2 : Int32) (p3 : Nat) (δ : Dy) : SJ (m_L_define σ p0 p1 p2 p3 δ) (PI σ an) (J 0 [(0, .ref p0), (1, .int p1), (2, .int p2), (3, .ref p3)] [] (1, 6) σ δ) := by
  have hJ := hI.isj.cor
  unfold m_L_define
  refine sj (j_aload_n hJ dL_define_0 rfl 3 rfl) ?_
  refine sj (j_iconst hJ (v := 0) dL_define_1 ic_0) ?_
  refine sj (j_aload_n hJ dL_define_2 rfl 0 rfl) ?_
  refine sj (j_iload_n hJ dL_define_3 rfl 1 rfl) ?_
  refine sj (j_iload_n hJ dL_define_4 rfl 2 rfl) ?_
  refine sw_callVi hI [.int p1, .int p2] (st := [.int (0 : Int32), .ref p3]) (fr' := 10) (lo' := 250) ml_L_61 hc_11 (by decide) (by decide) (Nat.le_of_ble_eq_true rfl) dL_define_5 rfl (fun _ h9 => ct_X11_define h9) (fun x2 d3 => ?_) (fun e d3 => ?_)
  · refine sj (j_i2l hJ dL_define_8) ?_
    refine sj_wLo hJ dL_define_9 (fun d4 => ?_)
    refine sj (j_goto hJ (tgt := 17) dL_define_10 (by decide)) ?_
    refine sj (j_iconst hJ (v := 0) dL_define_17 ic_0) ?_
    exact sj_iret hI.isj dL_define_18 (fun h => h)
  · by_cases h0 : e = 2
    · subst h0
      exact Or.inr ⟨_, 1, rfl, fun h => h, hnd_L_define_2⟩
    exact Or.inl (by rw [if_neg h0])
theorem ct_L_define {σ : St} {p0 : Nat} {p1 : Int32} {p2 : Int32} {p3 : Nat} {δ : Dy} {r : (Int32 × Dy)} (h : m_L_define σ p0 p1 p2 p3 δ = some r) : CTW yL_define cL_define 5 (some .int) [(0, 10, 13, 28)] 11 273 [.ref p0, .int p1, .int p2, .ref p3] σ δ ((some (.int r.1)), σ, r.2) := CTW_of (by decide +kernel) (Nat.le_of_ble_eq_true rfl) (fun J hI => w_L_define hI σ p0 p1 p2 p3 δ r h rfl)
def m_L_head_b20 (σ : St) (q0 : Nat) (q1 : Int32) (q2 : Int64) (δ : Dy) : Option (Int32 × Dy) :=
  (wLo σ δ q0 q1 q2).bind fun d4 =>
  some ((0 : Int32), d4)
def m_L_head (σ : St) (p0 : Nat) (p1 : Int32) (p2 : Int32) (p3 : Int32) (p4 : Int32) (p5 : Nat) (δ : Dy) : Option (Int32 × Dy) :=
  (chk σ 11 p0).bind fun _ => (m_X11_head σ p0 p1 p2 p3 p4 δ).bind fun v1 => xhw v1 (fun (d3 : Dy) x2 =>
    if x2 = 0 then
      m_L_head_b20 σ p5 (0 : Int32) (0 : Int64) d3
    else
      m_L_head_b20 σ p5 (0 : Int32) (1 : Int64) d3) (fun (d3 : Dy) (e : Nat) => if e = 1 then some ((1 : Int32), d3) else none)
set_option maxHeartbeats 4000000 in
set_option maxRecDepth 100000 in
theorem w_L_head_b20 {J : JT} {an : Option Value × St × Dy} (hI : IsW cL_head 7 RL "head" 12 297 (some .int) [(0, 21, 24, 19)] an J) (σ : St) (q0 : Nat) (q1 : Int32) (q2 : Int64) (δ : Dy) : SJ (m_L_head_b20 σ q0 q1 q2 δ) (PI σ an) (J 20 [] [.long q2, .int q1, .ref q0] (1, 6) σ δ) := by
  have hJ := hI.isj.cor
  unfold m_L_head_b20
  refine sj_wLo hJ dL_head_20 (fun d4 => ?_)
  refine sj (j_goto hJ (tgt := 28) dL_head_21 (by decide)) ?_
  refine sj (j_iconst hJ (v := 0) dL_head_28 ic_0) ?_
  exact sj_iret hI.isj dL_head_29 (fun h => h)
set_option maxHeartbeats 4000000 in
set_option maxRecDepth 100000 in
theorem w_L_head {J : JT} {an : Option Value × St × Dy} (hI : IsW cL_head 7 RL "head" 12 297 (some .int) [(0, 21, 24, 19)] an J) (σ : St) (p0 : Nat) (p1 : Int32) (p2 : Int32) (p3 : Int32) (p4 : Int32) (p5 : Nat) (δ : Dy) : SJ (m_L_head σ p0 p1 p2 p3 p4 p5 δ) (PI σ an) (J 0 [(0, .ref p0), (1, .int p1), (2, .int p2), (3, .int p3), (4, .int p4), (5, .ref p5)] [] (1, 6) σ δ) := by
  have hJ := hI.isj.cor
  unfold m_L_head
  refine sj (j_aload hJ dL_head_0 5 rfl) ?_
  refine sj (j_iconst hJ (v := 0) dL_head_2 ic_0) ?_
  refine sj (j_aload_n hJ dL_head_3 rfl 0 rfl) ?_
  refine sj (j_iload_n hJ dL_head_4 rfl 1 rfl) ?_
  refine sj (j_iload_n hJ dL_head_5 rfl 2 rfl) ?_
  refine sj (j_iload_n hJ dL_head_6 rfl 3 rfl) ?_
  refine sj (j_iload hJ dL_head_7 4 rfl) ?_
  refine sw_callVi hI [.int p1, .int p2, .int p3, .int p4] (st := [.int (0 : Int32), .ref p5]) (fr' := 11) (lo' := 271) ml_L_64 hc_11 (by decide) (by decide) (Nat.le_of_ble_eq_true rfl) dL_head_9 rfl (fun _ h9 => ct_X11_head h9) (fun x2 d3 => ?_) (fun e d3 => ?_)
  · refine sj_if (j_if_eq hJ (tgt := 19) dL_head_12 (by decide)) (fun _ => ?_) (fun _ => ?_)
    · refine sj (j_lconst hJ (v := 0) dL_head_19 rfl) ?_
      refine sj (j_sub hJ (L' := []) [] rfl) ?_
      exact w_L_head_b20 hI σ p5 (0 : Int32) (0 : Int64) d3
    · refine sj (j_lconst hJ (v := 1) dL_head_15 rfl) ?_
      refine sj (j_goto hJ (tgt := 20) dL_head_16 (by decide)) ?_
      refine sj (j_sub hJ (L' := []) [] rfl) ?_
      exact w_L_head_b20 hI σ p5 (0 : Int32) (1 : Int64) d3
  · by_cases h0 : e = 1
    · subst h0
      exact Or.inr ⟨_, 1, rfl, fun h => h, hnd_L_head_1⟩
    exact Or.inl (by rw [if_neg h0])
theorem ct_L_head {σ : St} {p0 : Nat} {p1 : Int32} {p2 : Int32} {p3 : Int32} {p4 : Int32} {p5 : Nat} {δ : Dy} {r : (Int32 × Dy)} (h : m_L_head σ p0 p1 p2 p3 p4 p5 δ = some r) : CTW yL_head cL_head 7 (some .int) [(0, 21, 24, 19)] 12 297 [.ref p0, .int p1, .int p2, .int p3, .int p4, .ref p5] σ δ ((some (.int r.1)), σ, r.2) := CTW_of (by decide +kernel) (Nat.le_of_ble_eq_true rfl) (fun J hI => w_L_head hI σ p0 p1 p2 p3 p4 p5 δ r h rfl)
def m_L_other (σ : St) (p0 : Nat) (p1 : Int32) (p2 : Int32) (p3 : Int32) (p4 : Int32) (p5 : Nat) (δ : Dy) : Option (Int32 × Dy) :=
  (chk σ 11 p0).bind fun _ => (m_X11_other σ p0 p1 p2 p3 p4 δ).bind fun v1 => xhw v1 (fun (d3 : Dy) x2 =>
    (wLo σ d3 p5 (0 : Int32) (x2).toInt64).bind fun d4 =>
    some ((0 : Int32), d4)) (fun (d3 : Dy) (e : Nat) => if e = 1 then some ((1 : Int32), d3) else if e = 0 then some ((2 : Int32), d3) else none)
set_option maxHeartbeats 4000000 in
set_option maxRecDepth 100000 in
theorem w_L_other {J : JT} {an : Option Value × St × Dy} (hI : IsW cL_other 7 RL "other" 12 296 (some .int) [(0, 14, 17, 19), (0, 14, 21, 13)] an J) (σ : St) (p0 : Nat) (p1 : Int32) (p2 : Int32) (p3 : Int32) (p4 : Int32) (p5 : Nat) (δ : Dy) : SJ (m_L_other σ p0 p1 p2 p3 p4 p5 δ) (PI σ an) (J 0 [(0, .ref p0), (1, .int p1), (2, .int p2), (3, .int p3), (4, .int p4), (5, .ref p5)] [] (1, 6) σ δ) := by
  have hJ := hI.isj.cor
  unfold m_L_other
  refine sj (j_aload hJ dL_other_0 5 rfl) ?_
  refine sj (j_iconst hJ (v := 0) dL_other_2 ic_0) ?_
  refine sj (j_aload_n hJ dL_other_3 rfl 0 rfl) ?_
  refine sj (j_iload_n hJ dL_other_4 rfl 1 rfl) ?_
  refine sj (j_iload_n hJ dL_other_5 rfl 2 rfl) ?_
  refine sj (j_iload_n hJ dL_other_6 rfl 3 rfl) ?_
  refine sj (j_iload hJ dL_other_7 4 rfl) ?_
  refine sw_callVi hI [.int p1, .int p2, .int p3, .int p4] (st := [.int (0 : Int32), .ref p5]) (fr' := 11) (lo' := 271) ml_L_68 hc_11 (by decide) (by decide) (Nat.le_of_ble_eq_true rfl) dL_other_9 rfl (fun _ h9 => ct_X11_other h9) (fun x2 d3 => ?_) (fun e d3 => ?_)
  · refine sj (j_i2l hJ dL_other_12) ?_
    refine sj_wLo hJ dL_other_13 (fun d4 => ?_)
    refine sj (j_goto hJ (tgt := 25) dL_other_14 (by decide)) ?_
    refine sj (j_iconst hJ (v := 0) dL_other_25 ic_0) ?_
    exact sj_iret hI.isj dL_other_26 (fun h => h)
  · by_cases h0 : e = 1
    · subst h0
      exact Or.inr ⟨_, 1, rfl, fun h => h, hnd_L_other_1⟩
    by_cases h1 : e = 0
    · subst h1
      exact Or.inr ⟨_, 2, rfl, fun h => h, hnd_L_other_0⟩
    exact Or.inl (by rw [if_neg h0, if_neg h1])
theorem ct_L_other {σ : St} {p0 : Nat} {p1 : Int32} {p2 : Int32} {p3 : Int32} {p4 : Int32} {p5 : Nat} {δ : Dy} {r : (Int32 × Dy)} (h : m_L_other σ p0 p1 p2 p3 p4 p5 δ = some r) : CTW yL_other cL_other 7 (some .int) [(0, 14, 17, 19), (0, 14, 21, 13)] 12 296 [.ref p0, .int p1, .int p2, .int p3, .int p4, .ref p5] σ δ ((some (.int r.1)), σ, r.2) := CTW_of (by decide +kernel) (Nat.le_of_ble_eq_true rfl) (fun J hI => w_L_other hI σ p0 p1 p2 p3 p4 p5 δ r h rfl)
def m_L_guard_b18 (σ : St) (q0 : Nat) (q1 : Int32) (q2 : Int64) (δ : Dy) : Option (Int32 × Dy) :=
  (wLo σ δ q0 q1 q2).bind fun d4 =>
  some ((0 : Int32), d4)
def m_L_guard (σ : St) (p0 : Nat) (p1 : Int32) (p2 : Int32) (p3 : Int32) (p4 : Nat) (δ : Dy) : Option (Int32 × Dy) :=
  (chk σ 11 p0).bind fun _ => (m_X11_guard σ p0 p1 p2 p3 δ).bind fun v1 => xhw v1 (fun (d3 : Dy) x2 =>
    if x2 = 0 then
      m_L_guard_b18 σ p4 (0 : Int32) (0 : Int64) d3
    else
      m_L_guard_b18 σ p4 (0 : Int32) (1 : Int64) d3) (fun (d3 : Dy) (e : Nat) => if e = 1 then some ((1 : Int32), d3) else if e = 0 then some ((2 : Int32), d3) else none)
set_option maxHeartbeats 4000000 in
set_option maxRecDepth 100000 in
theorem w_L_guard_b18 {J : JT} {an : Option Value × St × Dy} (hI : IsW cL_guard 6 RL "guard" 12 296 (some .int) [(0, 19, 22, 19), (0, 19, 26, 13)] an J) (σ : St) (q0 : Nat) (q1 : Int32) (q2 : Int64) (δ : Dy) : SJ (m_L_guard_b18 σ q0 q1 q2 δ) (PI σ an) (J 18 [] [.long q2, .int q1, .ref q0] (1, 6) σ δ) := by
  have hJ := hI.isj.cor
  unfold m_L_guard_b18
  refine sj_wLo hJ dL_guard_18 (fun d4 => ?_)
  refine sj (j_goto hJ (tgt := 30) dL_guard_19 (by decide)) ?_
  refine sj (j_iconst hJ (v := 0) dL_guard_30 ic_0) ?_
  exact sj_iret hI.isj dL_guard_31 (fun h => h)
set_option maxHeartbeats 4000000 in
set_option maxRecDepth 100000 in
theorem w_L_guard {J : JT} {an : Option Value × St × Dy} (hI : IsW cL_guard 6 RL "guard" 12 296 (some .int) [(0, 19, 22, 19), (0, 19, 26, 13)] an J) (σ : St) (p0 : Nat) (p1 : Int32) (p2 : Int32) (p3 : Int32) (p4 : Nat) (δ : Dy) : SJ (m_L_guard σ p0 p1 p2 p3 p4 δ) (PI σ an) (J 0 [(0, .ref p0), (1, .int p1), (2, .int p2), (3, .int p3), (4, .ref p4)] [] (1, 6) σ δ) := by
  have hJ := hI.isj.cor
  unfold m_L_guard
  refine sj (j_aload hJ dL_guard_0 4 rfl) ?_
  refine sj (j_iconst hJ (v := 0) dL_guard_2 ic_0) ?_
  refine sj (j_aload_n hJ dL_guard_3 rfl 0 rfl) ?_
  refine sj (j_iload_n hJ dL_guard_4 rfl 1 rfl) ?_
  refine sj (j_iload_n hJ dL_guard_5 rfl 2 rfl) ?_
  refine sj (j_iload_n hJ dL_guard_6 rfl 3 rfl) ?_
  refine sw_callVi hI [.int p1, .int p2, .int p3] (st := [.int (0 : Int32), .ref p4]) (fr' := 11) (lo' := 271) ml_L_71 hc_11 (by decide) (by decide) (Nat.le_of_ble_eq_true rfl) dL_guard_7 rfl (fun _ h9 => ct_X11_guard h9) (fun x2 d3 => ?_) (fun e d3 => ?_)
  · refine sj_if (j_if_eq hJ (tgt := 17) dL_guard_10 (by decide)) (fun _ => ?_) (fun _ => ?_)
    · refine sj (j_lconst hJ (v := 0) dL_guard_17 rfl) ?_
      refine sj (j_sub hJ (L' := []) [] rfl) ?_
      exact w_L_guard_b18 hI σ p4 (0 : Int32) (0 : Int64) d3
    · refine sj (j_lconst hJ (v := 1) dL_guard_13 rfl) ?_
      refine sj (j_goto hJ (tgt := 18) dL_guard_14 (by decide)) ?_
      refine sj (j_sub hJ (L' := []) [] rfl) ?_
      exact w_L_guard_b18 hI σ p4 (0 : Int32) (1 : Int64) d3
  · by_cases h0 : e = 1
    · subst h0
      exact Or.inr ⟨_, 1, rfl, fun h => h, hnd_L_guard_1⟩
    by_cases h1 : e = 0
    · subst h1
      exact Or.inr ⟨_, 2, rfl, fun h => h, hnd_L_guard_0⟩
    exact Or.inl (by rw [if_neg h0, if_neg h1])
theorem ct_L_guard {σ : St} {p0 : Nat} {p1 : Int32} {p2 : Int32} {p3 : Int32} {p4 : Nat} {δ : Dy} {r : (Int32 × Dy)} (h : m_L_guard σ p0 p1 p2 p3 p4 δ = some r) : CTW yL_guard cL_guard 6 (some .int) [(0, 19, 22, 19), (0, 19, 26, 13)] 12 296 [.ref p0, .int p1, .int p2, .int p3, .ref p4] σ δ ((some (.int r.1)), σ, r.2) := CTW_of (by decide +kernel) (Nat.le_of_ble_eq_true rfl) (fun J hI => w_L_guard hI σ p0 p1 p2 p3 p4 δ r h rfl)
def m_L_body (σ : St) (p0 : Nat) (p1 : Int32) (p2 : Int32) (p3 : Int32) (p4 : Nat) (δ : Dy) : Option (Int32 × Dy) :=
  (chk σ 11 p0).bind fun _ => (m_X11_body σ p0 p1 p2 p3 δ).bind fun v1 => xhw v1 (fun (d3 : Dy) x2 =>
    (wLo σ d3 p4 (0 : Int32) (x2).toInt64).bind fun d4 =>
    some ((0 : Int32), d4)) (fun (d3 : Dy) (e : Nat) => if e = 1 then some ((1 : Int32), d3) else if e = 0 then some ((2 : Int32), d3) else none)
set_option maxHeartbeats 4000000 in
set_option maxRecDepth 100000 in
theorem w_L_body {J : JT} {an : Option Value × St × Dy} (hI : IsW cL_body 6 RL "body" 12 295 (some .int) [(0, 12, 15, 19), (0, 12, 19, 13)] an J) (σ : St) (p0 : Nat) (p1 : Int32) (p2 : Int32) (p3 : Int32) (p4 : Nat) (δ : Dy) : SJ (m_L_body σ p0 p1 p2 p3 p4 δ) (PI σ an) (J 0 [(0, .ref p0), (1, .int p1), (2, .int p2), (3, .int p3), (4, .ref p4)] [] (1, 6) σ δ) := by
  have hJ := hI.isj.cor
  unfold m_L_body
  refine sj (j_aload hJ dL_body_0 4 rfl) ?_
  refine sj (j_iconst hJ (v := 0) dL_body_2 ic_0) ?_
  refine sj (j_aload_n hJ dL_body_3 rfl 0 rfl) ?_
  refine sj (j_iload_n hJ dL_body_4 rfl 1 rfl) ?_
  refine sj (j_iload_n hJ dL_body_5 rfl 2 rfl) ?_
  refine sj (j_iload_n hJ dL_body_6 rfl 3 rfl) ?_
  refine sw_callVi hI [.int p1, .int p2, .int p3] (st := [.int (0 : Int32), .ref p4]) (fr' := 11) (lo' := 271) ml_L_75 hc_11 (by decide) (by decide) (Nat.le_of_ble_eq_true rfl) dL_body_7 rfl (fun _ h9 => ct_X11_body h9) (fun x2 d3 => ?_) (fun e d3 => ?_)
  · refine sj (j_i2l hJ dL_body_10) ?_
    refine sj_wLo hJ dL_body_11 (fun d4 => ?_)
    refine sj (j_goto hJ (tgt := 23) dL_body_12 (by decide)) ?_
    refine sj (j_iconst hJ (v := 0) dL_body_23 ic_0) ?_
    exact sj_iret hI.isj dL_body_24 (fun h => h)
  · by_cases h0 : e = 1
    · subst h0
      exact Or.inr ⟨_, 1, rfl, fun h => h, hnd_L_body_1⟩
    by_cases h1 : e = 0
    · subst h1
      exact Or.inr ⟨_, 2, rfl, fun h => h, hnd_L_body_0⟩
    exact Or.inl (by rw [if_neg h0, if_neg h1])
theorem ct_L_body {σ : St} {p0 : Nat} {p1 : Int32} {p2 : Int32} {p3 : Int32} {p4 : Nat} {δ : Dy} {r : (Int32 × Dy)} (h : m_L_body σ p0 p1 p2 p3 p4 δ = some r) : CTW yL_body cL_body 6 (some .int) [(0, 12, 15, 19), (0, 12, 19, 13)] 12 295 [.ref p0, .int p1, .int p2, .int p3, .ref p4] σ δ ((some (.int r.1)), σ, r.2) := CTW_of (by decide +kernel) (Nat.le_of_ble_eq_true rfl) (fun J hI => w_L_body hI σ p0 p1 p2 p3 p4 δ r h rfl)
def m_L_rule (σ : St) (p0 : Nat) (p1 : Nat) (δ : Dy) : Option (Int32 × Dy) :=
  (chk σ 11 p0).bind fun _ => (m_X11_rule σ p0 δ).bind fun v1 => xhw v1 (fun (d3 : Dy) x2 =>
    (wLo σ d3 p1 (0 : Int32) (x2).toInt64).bind fun d4 =>
    some ((0 : Int32), d4)) (fun (d3 : Dy) (e : Nat) => if e = 0 then some ((1 : Int32), d3) else none)
set_option maxHeartbeats 4000000 in
set_option maxRecDepth 100000 in
theorem w_L_rule {J : JT} {an : Option Value × St × Dy} (hI : IsW cL_rule 3 RL "rule" 10 250 (some .int) [(0, 8, 11, 13)] an J) (σ : St) (p0 : Nat) (p1 : Nat) (δ : Dy) : SJ (m_L_rule σ p0 p1 δ) (PI σ an) (J 0 [(0, .ref p0), (1, .ref p1)] [] (1, 6) σ δ) := by
  have hJ := hI.isj.cor
  unfold m_L_rule
  refine sj (j_aload_n hJ dL_rule_0 rfl 1 rfl) ?_
  refine sj (j_iconst hJ (v := 0) dL_rule_1 ic_0) ?_
  refine sj (j_aload_n hJ dL_rule_2 rfl 0 rfl) ?_
  refine sw_callVi hI [] (st := [.int (0 : Int32), .ref p1]) (fr' := 9) (lo' := 229) ml_L_78 hc_11 (by decide) (by decide) (Nat.le_of_ble_eq_true rfl) dL_rule_3 rfl (fun _ h9 => ct_X11_rule h9) (fun x2 d3 => ?_) (fun e d3 => ?_)
  · refine sj (j_i2l hJ dL_rule_6) ?_
    refine sj_wLo hJ dL_rule_7 (fun d4 => ?_)
    refine sj (j_goto hJ (tgt := 14) dL_rule_8 (by decide)) ?_
    refine sj (j_iconst hJ (v := 0) dL_rule_14 ic_0) ?_
    exact sj_iret hI.isj dL_rule_15 (fun h => h)
  · by_cases h0 : e = 0
    · subst h0
      exact Or.inr ⟨_, 1, rfl, fun h => h, hnd_L_rule_0⟩
    exact Or.inl (by rw [if_neg h0])
theorem ct_L_rule {σ : St} {p0 : Nat} {p1 : Nat} {δ : Dy} {r : (Int32 × Dy)} (h : m_L_rule σ p0 p1 δ = some r) : CTW yL_rule cL_rule 3 (some .int) [(0, 8, 11, 13)] 10 250 [.ref p0, .ref p1] σ δ ((some (.int r.1)), σ, r.2) := CTW_of (by decide +kernel) (Nat.le_of_ble_eq_true rfl) (fun J hI => w_L_rule hI σ p0 p1 δ r h rfl)
def m_L_begin (σ : St) (p0 : Nat) (p1 : Int32) (p2 : Int32) (p3 : Int32) (p4 : Nat) (δ : Dy) : Option (Int32 × Dy) :=
  (chk σ 11 p0).bind fun _ => (m_X11_begin σ p0 p1 p2 p3 δ).bind fun v1 => xhw v1 (fun (d3 : Dy) x2 =>
    (wLo σ d3 p4 (0 : Int32) (x2).toInt64).bind fun d4 =>
    some ((0 : Int32), d4)) (fun (d3 : Dy) (e : Nat) => if e = 2 then some ((1 : Int32), d3) else if e = 1 then some ((2 : Int32), d3) else if e = 0 then some ((3 : Int32), d3) else none)
set_option maxHeartbeats 4000000 in
set_option maxRecDepth 100000 in
theorem w_L_begin {J : JT} {an : Option Value × St × Dy} (hI : IsW cL_begin 6 RL "begin" 11 273 (some .int) [(0, 12, 15, 28), (0, 12, 19, 19), (0, 12, 23, 13)] an J) (σ : St) (p0 : Nat) (p1 : Int32) (p2 : Int32) (p3 : Int32) (p4 : Nat) (δ : Dy) : SJ (m_L_begin σ p0 p1 p2 p3 p4 δ) (PI σ an) (J 0 [(0, .ref p0), (1, .int p1), (2, .int p2), (3, .int p3), (4, .ref p4)] [] (1, 6) σ δ) := by
  have hJ := hI.isj.cor
  unfold m_L_begin
  refine sj (j_aload hJ dL_begin_0 4 rfl) ?_
  refine sj (j_iconst hJ (v := 0) dL_begin_2 ic_0) ?_
  refine sj (j_aload_n hJ dL_begin_3 rfl 0 rfl) ?_
  refine sj (j_iload_n hJ dL_begin_4 rfl 1 rfl) ?_
  refine sj (j_iload_n hJ dL_begin_5 rfl 2 rfl) ?_
  refine sj (j_iload_n hJ dL_begin_6 rfl 3 rfl) ?_
  refine sw_callVi hI [.int p1, .int p2, .int p3] (st := [.int (0 : Int32), .ref p4]) (fr' := 10) (lo' := 250) ml_L_81 hc_11 (by decide) (by decide) (Nat.le_of_ble_eq_true rfl) dL_begin_7 rfl (fun _ h9 => ct_X11_begin h9) (fun x2 d3 => ?_) (fun e d3 => ?_)
  · refine sj (j_i2l hJ dL_begin_10) ?_
    refine sj_wLo hJ dL_begin_11 (fun d4 => ?_)
    refine sj (j_goto hJ (tgt := 27) dL_begin_12 (by decide)) ?_
    refine sj (j_iconst hJ (v := 0) dL_begin_27 ic_0) ?_
    exact sj_iret hI.isj dL_begin_28 (fun h => h)
  · by_cases h0 : e = 2
    · subst h0
      exact Or.inr ⟨_, 1, rfl, fun h => h, hnd_L_begin_2⟩
    by_cases h1 : e = 1
    · subst h1
      exact Or.inr ⟨_, 2, rfl, fun h => h, hnd_L_begin_1⟩
    by_cases h2 : e = 0
    · subst h2
      exact Or.inr ⟨_, 3, rfl, fun h => h, hnd_L_begin_0⟩
    exact Or.inl (by rw [if_neg h0, if_neg h1, if_neg h2])
theorem ct_L_begin {σ : St} {p0 : Nat} {p1 : Int32} {p2 : Int32} {p3 : Int32} {p4 : Nat} {δ : Dy} {r : (Int32 × Dy)} (h : m_L_begin σ p0 p1 p2 p3 p4 δ = some r) : CTW yL_begin cL_begin 6 (some .int) [(0, 12, 15, 28), (0, 12, 19, 19), (0, 12, 23, 13)] 11 273 [.ref p0, .int p1, .int p2, .int p3, .ref p4] σ δ ((some (.int r.1)), σ, r.2) := CTW_of (by decide +kernel) (Nat.le_of_ble_eq_true rfl) (fun J hI => w_L_begin hI σ p0 p1 p2 p3 p4 δ r h rfl)
def m_L_step (σ : St) (p0 : Nat) (p1 : Nat) (δ : Dy) : Option (Int32 × Dy) :=
  (chk σ 11 p0).bind fun _ => (m_X11_step σ p0 δ).bind fun v1 => xhw v1 (fun (d3 : Dy) x2 =>
    (wLo σ d3 p1 (0 : Int32) (x2).toInt64).bind fun d4 =>
    some ((0 : Int32), d4)) (fun (d3 : Dy) (e : Nat) => if e = 0 then some ((1 : Int32), d3) else none)
set_option maxHeartbeats 4000000 in
set_option maxRecDepth 100000 in
theorem w_L_step {J : JT} {an : Option Value × St × Dy} (hI : IsW cL_step 3 RL "step" 10 249 (some .int) [(0, 8, 11, 13)] an J) (σ : St) (p0 : Nat) (p1 : Nat) (δ : Dy) : SJ (m_L_step σ p0 p1 δ) (PI σ an) (J 0 [(0, .ref p0), (1, .ref p1)] [] (1, 6) σ δ) := by
  have hJ := hI.isj.cor
  unfold m_L_step
  refine sj (j_aload_n hJ dL_step_0 rfl 1 rfl) ?_
  refine sj (j_iconst hJ (v := 0) dL_step_1 ic_0) ?_
  refine sj (j_aload_n hJ dL_step_2 rfl 0 rfl) ?_
  refine sw_callVi hI [] (st := [.int (0 : Int32), .ref p1]) (fr' := 9) (lo' := 229) ml_L_84 hc_11 (by decide) (by decide) (Nat.le_of_ble_eq_true rfl) dL_step_3 rfl (fun _ h9 => ct_X11_step h9) (fun x2 d3 => ?_) (fun e d3 => ?_)
  · refine sj (j_i2l hJ dL_step_6) ?_
    refine sj_wLo hJ dL_step_7 (fun d4 => ?_)
    refine sj (j_goto hJ (tgt := 14) dL_step_8 (by decide)) ?_
    refine sj (j_iconst hJ (v := 0) dL_step_14 ic_0) ?_
    exact sj_iret hI.isj dL_step_15 (fun h => h)
  · by_cases h0 : e = 0
    · subst h0
      exact Or.inr ⟨_, 1, rfl, fun h => h, hnd_L_step_0⟩
    exact Or.inl (by rw [if_neg h0])
theorem ct_L_step {σ : St} {p0 : Nat} {p1 : Nat} {δ : Dy} {r : (Int32 × Dy)} (h : m_L_step σ p0 p1 δ = some r) : CTW yL_step cL_step 3 (some .int) [(0, 8, 11, 13)] 10 249 [.ref p0, .ref p1] σ δ ((some (.int r.1)), σ, r.2) := CTW_of (by decide +kernel) (Nat.le_of_ble_eq_true rfl) (fun J hI => w_L_step hI σ p0 p1 δ r h rfl)
def m_L_seed (σ : St) (p0 : Nat) (p1 : Int32) (p2 : Nat) (δ : Dy) : Option (Int32 × Dy) :=
  (chk σ 11 p0).bind fun _ => (m_X11_seed σ p0 p1 δ).bind fun v1 => xhw v1 (fun (d3 : Dy) x2 =>
    (wLo σ d3 p2 (0 : Int32) (x2).toInt64).bind fun d4 =>
    some ((0 : Int32), d4)) (fun (d3 : Dy) (e : Nat) => if e = 1 then some ((1 : Int32), d3) else none)
set_option maxHeartbeats 4000000 in
set_option maxRecDepth 100000 in
theorem w_L_seed {J : JT} {an : Option Value × St × Dy} (hI : IsW cL_seed 4 RL "seed" 11 273 (some .int) [(0, 9, 12, 19)] an J) (σ : St) (p0 : Nat) (p1 : Int32) (p2 : Nat) (δ : Dy) : SJ (m_L_seed σ p0 p1 p2 δ) (PI σ an) (J 0 [(0, .ref p0), (1, .int p1), (2, .ref p2)] [] (1, 6) σ δ) := by
  have hJ := hI.isj.cor
  unfold m_L_seed
  refine sj (j_aload_n hJ dL_seed_0 rfl 2 rfl) ?_
  refine sj (j_iconst hJ (v := 0) dL_seed_1 ic_0) ?_
  refine sj (j_aload_n hJ dL_seed_2 rfl 0 rfl) ?_
  refine sj (j_iload_n hJ dL_seed_3 rfl 1 rfl) ?_
  refine sw_callVi hI [.int p1] (st := [.int (0 : Int32), .ref p2]) (fr' := 10) (lo' := 251) ml_L_87 hc_11 (by decide) (by decide) (Nat.le_of_ble_eq_true rfl) dL_seed_4 rfl (fun _ h9 => ct_X11_seed h9) (fun x2 d3 => ?_) (fun e d3 => ?_)
  · refine sj (j_i2l hJ dL_seed_7) ?_
    refine sj_wLo hJ dL_seed_8 (fun d4 => ?_)
    refine sj (j_goto hJ (tgt := 15) dL_seed_9 (by decide)) ?_
    refine sj (j_iconst hJ (v := 0) dL_seed_15 ic_0) ?_
    exact sj_iret hI.isj dL_seed_16 (fun h => h)
  · by_cases h0 : e = 1
    · subst h0
      exact Or.inr ⟨_, 1, rfl, fun h => h, hnd_L_seed_1⟩
    exact Or.inl (by rw [if_neg h0])
theorem ct_L_seed {σ : St} {p0 : Nat} {p1 : Int32} {p2 : Nat} {δ : Dy} {r : (Int32 × Dy)} (h : m_L_seed σ p0 p1 p2 δ = some r) : CTW yL_seed cL_seed 4 (some .int) [(0, 9, 12, 19)] 11 273 [.ref p0, .int p1, .ref p2] σ δ ((some (.int r.1)), σ, r.2) := CTW_of (by decide +kernel) (Nat.le_of_ble_eq_true rfl) (fun J hI => w_L_seed hI σ p0 p1 p2 δ r h rfl)
def m_L_ends (σ : St) (p0 : Nat) (p1 : Nat) (δ : Dy) : Option (Int32 × Dy) :=
  (chk σ 11 p0).bind fun _ => (m_X11_ends σ p0 δ).bind fun v1 => xhw v1 (fun (d3 : Dy) x2 =>
    (wLo σ d3 p1 (0 : Int32) (x2).toInt64).bind fun d4 =>
    some ((0 : Int32), d4)) (fun (d3 : Dy) (e : Nat) => if e = 0 then some ((1 : Int32), d3) else none)
set_option maxHeartbeats 4000000 in
set_option maxRecDepth 100000 in
theorem w_L_ends {J : JT} {an : Option Value × St × Dy} (hI : IsW cL_ends 3 RL "ends" 10 251 (some .int) [(0, 8, 11, 13)] an J) (σ : St) (p0 : Nat) (p1 : Nat) (δ : Dy) : SJ (m_L_ends σ p0 p1 δ) (PI σ an) (J 0 [(0, .ref p0), (1, .ref p1)] [] (1, 6) σ δ) := by
  have hJ := hI.isj.cor
  unfold m_L_ends
  refine sj (j_aload_n hJ dL_ends_0 rfl 1 rfl) ?_
  refine sj (j_iconst hJ (v := 0) dL_ends_1 ic_0) ?_
  refine sj (j_aload_n hJ dL_ends_2 rfl 0 rfl) ?_
  refine sw_callVi hI [] (st := [.int (0 : Int32), .ref p1]) (fr' := 9) (lo' := 229) ml_L_90 hc_11 (by decide) (by decide) (Nat.le_of_ble_eq_true rfl) dL_ends_3 rfl (fun _ h9 => ct_X11_ends h9) (fun x2 d3 => ?_) (fun e d3 => ?_)
  · refine sj (j_i2l hJ dL_ends_6) ?_
    refine sj_wLo hJ dL_ends_7 (fun d4 => ?_)
    refine sj (j_goto hJ (tgt := 14) dL_ends_8 (by decide)) ?_
    refine sj (j_iconst hJ (v := 0) dL_ends_14 ic_0) ?_
    exact sj_iret hI.isj dL_ends_15 (fun h => h)
  · by_cases h0 : e = 0
    · subst h0
      exact Or.inr ⟨_, 1, rfl, fun h => h, hnd_L_ends_0⟩
    exact Or.inl (by rw [if_neg h0])
theorem ct_L_ends {σ : St} {p0 : Nat} {p1 : Nat} {δ : Dy} {r : (Int32 × Dy)} (h : m_L_ends σ p0 p1 δ = some r) : CTW yL_ends cL_ends 3 (some .int) [(0, 8, 11, 13)] 10 251 [.ref p0, .ref p1] σ δ ((some (.int r.1)), σ, r.2) := CTW_of (by decide +kernel) (Nat.le_of_ble_eq_true rfl) (fun J hI => w_L_ends hI σ p0 p1 δ r h rfl)
def m_L_value (σ : St) (p0 : Nat) (p1 : Int32) (p2 : Nat) (δ : Dy) : Option (Int32 × Dy) :=
  (chk σ 11 p0).bind fun _ => (m_X11_value σ p0 p1 δ).bind fun v1 => xh v1 (fun x2 =>
    (wLo σ δ p2 (0 : Int32) (x2).toInt64).bind fun d3 =>
    some ((0 : Int32), d3)) (fun e => if e = 2 then some ((1 : Int32), δ) else none)
set_option maxHeartbeats 4000000 in
set_option maxRecDepth 100000 in
theorem w_L_value {J : JT} {an : Option Value × St × Dy} (hI : IsW cL_value 4 RL "value" 11 272 (some .int) [(0, 9, 12, 28)] an J) (σ : St) (p0 : Nat) (p1 : Int32) (p2 : Nat) (δ : Dy) : SJ (m_L_value σ p0 p1 p2 δ) (PI σ an) (J 0 [(0, .ref p0), (1, .int p1), (2, .ref p2)] [] (1, 6) σ δ) := by
  have hJ := hI.isj.cor
  unfold m_L_value
  refine sj (j_aload_n hJ dL_value_0 rfl 2 rfl) ?_
  refine sj (j_iconst hJ (v := 0) dL_value_1 ic_0) ?_
  refine sj (j_aload_n hJ dL_value_2 rfl 0 rfl) ?_
  refine sj (j_iload_n hJ dL_value_3 rfl 1 rfl) ?_
  refine sw_callVip hI [.int p1] (st := [.int (0 : Int32), .ref p2]) (fr' := 10) (lo' := 250) ml_L_93 hc_11 (by decide) (by decide) (Nat.le_of_ble_eq_true rfl) dL_value_4 rfl (fun _ h9 => ct_X11_value h9) (fun x2 => ?_) (fun e => ?_)
  · refine sj (j_i2l hJ dL_value_7) ?_
    refine sj_wLo hJ dL_value_8 (fun d3 => ?_)
    refine sj (j_goto hJ (tgt := 15) dL_value_9 (by decide)) ?_
    refine sj (j_iconst hJ (v := 0) dL_value_15 ic_0) ?_
    exact sj_iret hI.isj dL_value_16 (fun h => h)
  · by_cases h0 : e = 2
    · subst h0
      exact Or.inr ⟨_, 1, rfl, fun h => h, hnd_L_value_2⟩
    exact Or.inl (by rw [if_neg h0])
theorem ct_L_value {σ : St} {p0 : Nat} {p1 : Int32} {p2 : Nat} {δ : Dy} {r : (Int32 × Dy)} (h : m_L_value σ p0 p1 p2 δ = some r) : CTW yL_value cL_value 4 (some .int) [(0, 9, 12, 28)] 11 272 [.ref p0, .int p1, .ref p2] σ δ ((some (.int r.1)), σ, r.2) := CTW_of (by decide +kernel) (Nat.le_of_ble_eq_true rfl) (fun J hI => w_L_value hI σ p0 p1 p2 δ r h rfl)
def m_L_areOne_b16 (σ : St) (q0 : Nat) (q1 : Int32) (q2 : Int64) (δ : Dy) : Option (Int32 × Dy) :=
  (wLo σ δ q0 q1 q2).bind fun d3 =>
  some ((0 : Int32), d3)
def m_L_areOne (σ : St) (p0 : Nat) (p1 : Int32) (p2 : Int32) (p3 : Nat) (δ : Dy) : Option (Int32 × Dy) :=
  (chk σ 11 p0).bind fun _ => (m_X11_areOne σ p0 p1 p2 δ).bind fun v1 => xh v1 (fun x2 =>
    if x2 = 0 then
      m_L_areOne_b16 σ p3 (0 : Int32) (0 : Int64) δ
    else
      m_L_areOne_b16 σ p3 (0 : Int32) (1 : Int64) δ) (fun e => if e = 2 then some ((1 : Int32), δ) else none)
set_option maxHeartbeats 4000000 in
set_option maxRecDepth 100000 in
theorem w_L_areOne_b16 {J : JT} {an : Option Value × St × Dy} (hI : IsW cL_areOne 5 RL "areOne" 11 272 (some .int) [(0, 17, 20, 28)] an J) (σ : St) (q0 : Nat) (q1 : Int32) (q2 : Int64) (δ : Dy) : SJ (m_L_areOne_b16 σ q0 q1 q2 δ) (PI σ an) (J 16 [] [.long q2, .int q1, .ref q0] (1, 6) σ δ) := by
  have hJ := hI.isj.cor
  unfold m_L_areOne_b16
  refine sj_wLo hJ dL_areOne_16 (fun d3 => ?_)
  refine sj (j_goto hJ (tgt := 24) dL_areOne_17 (by decide)) ?_
  refine sj (j_iconst hJ (v := 0) dL_areOne_24 ic_0) ?_
  exact sj_iret hI.isj dL_areOne_25 (fun h => h)
set_option maxHeartbeats 4000000 in
set_option maxRecDepth 100000 in
theorem w_L_areOne {J : JT} {an : Option Value × St × Dy} (hI : IsW cL_areOne 5 RL "areOne" 11 272 (some .int) [(0, 17, 20, 28)] an J) (σ : St) (p0 : Nat) (p1 : Int32) (p2 : Int32) (p3 : Nat) (δ : Dy) : SJ (m_L_areOne σ p0 p1 p2 p3 δ) (PI σ an) (J 0 [(0, .ref p0), (1, .int p1), (2, .int p2), (3, .ref p3)] [] (1, 6) σ δ) := by
  have hJ := hI.isj.cor
  unfold m_L_areOne
  refine sj (j_aload_n hJ dL_areOne_0 rfl 3 rfl) ?_
  refine sj (j_iconst hJ (v := 0) dL_areOne_1 ic_0) ?_
  refine sj (j_aload_n hJ dL_areOne_2 rfl 0 rfl) ?_
  refine sj (j_iload_n hJ dL_areOne_3 rfl 1 rfl) ?_
  refine sj (j_iload_n hJ dL_areOne_4 rfl 2 rfl) ?_
  refine sw_callVip hI [.int p1, .int p2] (st := [.int (0 : Int32), .ref p3]) (fr' := 10) (lo' := 250) ml_L_96 hc_11 (by decide) (by decide) (Nat.le_of_ble_eq_true rfl) dL_areOne_5 rfl (fun _ h9 => ct_X11_areOne h9) (fun x2 => ?_) (fun e => ?_)
  · refine sj_if (j_if_eq hJ (tgt := 15) dL_areOne_8 (by decide)) (fun _ => ?_) (fun _ => ?_)
    · refine sj (j_lconst hJ (v := 0) dL_areOne_15 rfl) ?_
      refine sj (j_sub hJ (L' := []) [] rfl) ?_
      exact w_L_areOne_b16 hI σ p3 (0 : Int32) (0 : Int64) δ
    · refine sj (j_lconst hJ (v := 1) dL_areOne_11 rfl) ?_
      refine sj (j_goto hJ (tgt := 16) dL_areOne_12 (by decide)) ?_
      refine sj (j_sub hJ (L' := []) [] rfl) ?_
      exact w_L_areOne_b16 hI σ p3 (0 : Int32) (1 : Int64) δ
  · by_cases h0 : e = 2
    · subst h0
      exact Or.inr ⟨_, 1, rfl, fun h => h, hnd_L_areOne_2⟩
    exact Or.inl (by rw [if_neg h0])
theorem ct_L_areOne {σ : St} {p0 : Nat} {p1 : Int32} {p2 : Int32} {p3 : Nat} {δ : Dy} {r : (Int32 × Dy)} (h : m_L_areOne σ p0 p1 p2 p3 δ = some r) : CTW yL_areOne cL_areOne 5 (some .int) [(0, 17, 20, 28)] 11 272 [.ref p0, .int p1, .int p2, .ref p3] σ δ ((some (.int r.1)), σ, r.2) := CTW_of (by decide +kernel) (Nat.le_of_ble_eq_true rfl) (fun J hI => w_L_areOne hI σ p0 p1 p2 p3 δ r h rfl)
def m_L_part (σ : St) (p0 : Nat) (p1 : Int32) (p2 : Int32) (p3 : Nat) (δ : Dy) : Option (Int32 × Dy) :=
  (chk σ 11 p0).bind fun _ => (m_X11_part σ p0 p1 p2 δ).bind fun v1 => xh v1 (fun x2 =>
    (wLo σ δ p3 (0 : Int32) (x2).toInt64).bind fun d3 =>
    some ((0 : Int32), d3)) (fun e => if e = 2 then some ((1 : Int32), δ) else if e = 1 then some ((2 : Int32), δ) else none)
set_option maxHeartbeats 4000000 in
set_option maxRecDepth 100000 in
theorem w_L_part {J : JT} {an : Option Value × St × Dy} (hI : IsW cL_part 5 RL "part" 11 273 (some .int) [(0, 10, 13, 28), (0, 10, 17, 19)] an J) (σ : St) (p0 : Nat) (p1 : Int32) (p2 : Int32) (p3 : Nat) (δ : Dy) : SJ (m_L_part σ p0 p1 p2 p3 δ) (PI σ an) (J 0 [(0, .ref p0), (1, .int p1), (2, .int p2), (3, .ref p3)] [] (1, 6) σ δ) := by
  have hJ := hI.isj.cor
  unfold m_L_part
  refine sj (j_aload_n hJ dL_part_0 rfl 3 rfl) ?_
  refine sj (j_iconst hJ (v := 0) dL_part_1 ic_0) ?_
  refine sj (j_aload_n hJ dL_part_2 rfl 0 rfl) ?_
  refine sj (j_iload_n hJ dL_part_3 rfl 1 rfl) ?_
  refine sj (j_iload_n hJ dL_part_4 rfl 2 rfl) ?_
  refine sw_callVip hI [.int p1, .int p2] (st := [.int (0 : Int32), .ref p3]) (fr' := 10) (lo' := 250) ml_L_100 hc_11 (by decide) (by decide) (Nat.le_of_ble_eq_true rfl) dL_part_5 rfl (fun _ h9 => ct_X11_part h9) (fun x2 => ?_) (fun e => ?_)
  · refine sj (j_i2l hJ dL_part_8) ?_
    refine sj_wLo hJ dL_part_9 (fun d3 => ?_)
    refine sj (j_goto hJ (tgt := 21) dL_part_10 (by decide)) ?_
    refine sj (j_iconst hJ (v := 0) dL_part_21 ic_0) ?_
    exact sj_iret hI.isj dL_part_22 (fun h => h)
  · by_cases h0 : e = 2
    · subst h0
      exact Or.inr ⟨_, 1, rfl, fun h => h, hnd_L_part_2⟩
    by_cases h1 : e = 1
    · subst h1
      exact Or.inr ⟨_, 2, rfl, fun h => h, hnd_L_part_1⟩
    exact Or.inl (by rw [if_neg h0, if_neg h1])
theorem ct_L_part {σ : St} {p0 : Nat} {p1 : Int32} {p2 : Int32} {p3 : Nat} {δ : Dy} {r : (Int32 × Dy)} (h : m_L_part σ p0 p1 p2 p3 δ = some r) : CTW yL_part cL_part 5 (some .int) [(0, 10, 13, 28), (0, 10, 17, 19)] 11 273 [.ref p0, .int p1, .int p2, .ref p3] σ δ ((some (.int r.1)), σ, r.2) := CTW_of (by decide +kernel) (Nat.le_of_ble_eq_true rfl) (fun J hI => w_L_part hI σ p0 p1 p2 p3 δ r h rfl)
def m_L_isMadeBy_b16 (σ : St) (q0 : Nat) (q1 : Int32) (q2 : Int64) (δ : Dy) : Option (Int32 × Dy) :=
  (wLo σ δ q0 q1 q2).bind fun d3 =>
  some ((0 : Int32), d3)
def m_L_isMadeBy (σ : St) (p0 : Nat) (p1 : Int32) (p2 : Int32) (p3 : Nat) (δ : Dy) : Option (Int32 × Dy) :=
  (chk σ 11 p0).bind fun _ => (m_X11_isMadeBy σ p0 p1 p2 δ).bind fun v1 => xh v1 (fun x2 =>
    if x2 = 0 then
      m_L_isMadeBy_b16 σ p3 (0 : Int32) (0 : Int64) δ
    else
      m_L_isMadeBy_b16 σ p3 (0 : Int32) (1 : Int64) δ) (fun e => if e = 2 then some ((1 : Int32), δ) else none)
set_option maxHeartbeats 4000000 in
set_option maxRecDepth 100000 in
theorem w_L_isMadeBy_b16 {J : JT} {an : Option Value × St × Dy} (hI : IsW cL_isMadeBy 5 RL "isMadeBy" 11 272 (some .int) [(0, 17, 20, 28)] an J) (σ : St) (q0 : Nat) (q1 : Int32) (q2 : Int64) (δ : Dy) : SJ (m_L_isMadeBy_b16 σ q0 q1 q2 δ) (PI σ an) (J 16 [] [.long q2, .int q1, .ref q0] (1, 6) σ δ) := by
  have hJ := hI.isj.cor
  unfold m_L_isMadeBy_b16
  refine sj_wLo hJ dL_isMadeBy_16 (fun d3 => ?_)
  refine sj (j_goto hJ (tgt := 24) dL_isMadeBy_17 (by decide)) ?_
  refine sj (j_iconst hJ (v := 0) dL_isMadeBy_24 ic_0) ?_
  exact sj_iret hI.isj dL_isMadeBy_25 (fun h => h)
set_option maxHeartbeats 4000000 in
set_option maxRecDepth 100000 in
theorem w_L_isMadeBy {J : JT} {an : Option Value × St × Dy} (hI : IsW cL_isMadeBy 5 RL "isMadeBy" 11 272 (some .int) [(0, 17, 20, 28)] an J) (σ : St) (p0 : Nat) (p1 : Int32) (p2 : Int32) (p3 : Nat) (δ : Dy) : SJ (m_L_isMadeBy σ p0 p1 p2 p3 δ) (PI σ an) (J 0 [(0, .ref p0), (1, .int p1), (2, .int p2), (3, .ref p3)] [] (1, 6) σ δ) := by
  have hJ := hI.isj.cor
  unfold m_L_isMadeBy
  refine sj (j_aload_n hJ dL_isMadeBy_0 rfl 3 rfl) ?_
  refine sj (j_iconst hJ (v := 0) dL_isMadeBy_1 ic_0) ?_
  refine sj (j_aload_n hJ dL_isMadeBy_2 rfl 0 rfl) ?_
  refine sj (j_iload_n hJ dL_isMadeBy_3 rfl 1 rfl) ?_
  refine sj (j_iload_n hJ dL_isMadeBy_4 rfl 2 rfl) ?_
  refine sw_callVip hI [.int p1, .int p2] (st := [.int (0 : Int32), .ref p3]) (fr' := 10) (lo' := 250) ml_L_103 hc_11 (by decide) (by decide) (Nat.le_of_ble_eq_true rfl) dL_isMadeBy_5 rfl (fun _ h9 => ct_X11_isMadeBy h9) (fun x2 => ?_) (fun e => ?_)
  · refine sj_if (j_if_eq hJ (tgt := 15) dL_isMadeBy_8 (by decide)) (fun _ => ?_) (fun _ => ?_)
    · refine sj (j_lconst hJ (v := 0) dL_isMadeBy_15 rfl) ?_
      refine sj (j_sub hJ (L' := []) [] rfl) ?_
      exact w_L_isMadeBy_b16 hI σ p3 (0 : Int32) (0 : Int64) δ
    · refine sj (j_lconst hJ (v := 1) dL_isMadeBy_11 rfl) ?_
      refine sj (j_goto hJ (tgt := 16) dL_isMadeBy_12 (by decide)) ?_
      refine sj (j_sub hJ (L' := []) [] rfl) ?_
      exact w_L_isMadeBy_b16 hI σ p3 (0 : Int32) (1 : Int64) δ
  · by_cases h0 : e = 2
    · subst h0
      exact Or.inr ⟨_, 1, rfl, fun h => h, hnd_L_isMadeBy_2⟩
    exact Or.inl (by rw [if_neg h0])
theorem ct_L_isMadeBy {σ : St} {p0 : Nat} {p1 : Int32} {p2 : Int32} {p3 : Nat} {δ : Dy} {r : (Int32 × Dy)} (h : m_L_isMadeBy σ p0 p1 p2 p3 δ = some r) : CTW yL_isMadeBy cL_isMadeBy 5 (some .int) [(0, 17, 20, 28)] 11 272 [.ref p0, .int p1, .int p2, .ref p3] σ δ ((some (.int r.1)), σ, r.2) := CTW_of (by decide +kernel) (Nat.le_of_ble_eq_true rfl) (fun J hI => w_L_isMadeBy hI σ p0 p1 p2 p3 δ r h rfl)
def m_L_fired (σ : St) (p0 : Nat) (p1 : Int32) (p2 : Nat) (δ : Dy) : Option (Int32 × Dy) :=
  (chk σ 11 p0).bind fun _ => (m_X11_fired σ p0 p1 δ).bind fun v1 => xh v1 (fun x2 =>
    (wLo σ δ p2 (0 : Int32) (x2).toInt64).bind fun d3 =>
    some ((0 : Int32), d3)) (fun e => if e = 2 then some ((1 : Int32), δ) else none)
set_option maxHeartbeats 4000000 in
set_option maxRecDepth 100000 in
theorem w_L_fired {J : JT} {an : Option Value × St × Dy} (hI : IsW cL_fired 4 RL "fired" 10 250 (some .int) [(0, 9, 12, 28)] an J) (σ : St) (p0 : Nat) (p1 : Int32) (p2 : Nat) (δ : Dy) : SJ (m_L_fired σ p0 p1 p2 δ) (PI σ an) (J 0 [(0, .ref p0), (1, .int p1), (2, .ref p2)] [] (1, 6) σ δ) := by
  have hJ := hI.isj.cor
  unfold m_L_fired
  refine sj (j_aload_n hJ dL_fired_0 rfl 2 rfl) ?_
  refine sj (j_iconst hJ (v := 0) dL_fired_1 ic_0) ?_
  refine sj (j_aload_n hJ dL_fired_2 rfl 0 rfl) ?_
  refine sj (j_iload_n hJ dL_fired_3 rfl 1 rfl) ?_
  refine sw_callVip hI [.int p1] (st := [.int (0 : Int32), .ref p2]) (fr' := 9) (lo' := 229) ml_L_106 hc_11 (by decide) (by decide) (Nat.le_of_ble_eq_true rfl) dL_fired_4 rfl (fun _ h9 => ct_X11_fired h9) (fun x2 => ?_) (fun e => ?_)
  · refine sj (j_i2l hJ dL_fired_7) ?_
    refine sj_wLo hJ dL_fired_8 (fun d3 => ?_)
    refine sj (j_goto hJ (tgt := 15) dL_fired_9 (by decide)) ?_
    refine sj (j_iconst hJ (v := 0) dL_fired_15 ic_0) ?_
    exact sj_iret hI.isj dL_fired_16 (fun h => h)
  · by_cases h0 : e = 2
    · subst h0
      exact Or.inr ⟨_, 1, rfl, fun h => h, hnd_L_fired_2⟩
    exact Or.inl (by rw [if_neg h0])
theorem ct_L_fired {σ : St} {p0 : Nat} {p1 : Int32} {p2 : Nat} {δ : Dy} {r : (Int32 × Dy)} (h : m_L_fired σ p0 p1 p2 δ = some r) : CTW yL_fired cL_fired 4 (some .int) [(0, 9, 12, 28)] 10 250 [.ref p0, .int p1, .ref p2] σ δ ((some (.int r.1)), σ, r.2) := CTW_of (by decide +kernel) (Nat.le_of_ble_eq_true rfl) (fun J hI => w_L_fired hI σ p0 p1 p2 δ r h rfl)
