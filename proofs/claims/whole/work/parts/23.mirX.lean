def m_X11_variable_b24 (σ : St) (δ : Dy) : Option ((Int32 ⊕ Nat) × Dy) :=
  some (Sum.inr 0, δ)
def m_X11_variable (σ : St) (p0 : Nat) (δ : Dy) : Option ((Int32 ⊕ Nat) × Dy) :=
  (gR σ 11 p0 2).bind fun v1 =>
  (gR σ 10 v1 1).bind fun v2 =>
  (gI σ δ 8 v2 2).bind fun v3 =>
  if (60 : Int32) ≤ v3 then
    m_X11_variable_b24 σ δ
  else
    (gI σ δ 8 v2 12).bind fun v4 =>
    if v4 = 0 then
      (chk σ 11 p0).bind fun _ => (m_X11_note σ p0 (0 : Int32) (0 : Int32) (0 : Int32) (0 : Int32) δ).bind fun v5 =>
      (chk σ 8 v2).bind fun _ => (m_X8_makeVariable σ v2 v5).bind fun v6 =>
      some (Sum.inl v6.1, v6.2)
    else
      m_X11_variable_b24 σ δ
set_option maxHeartbeats 4000000 in
set_option maxRecDepth 100000 in
theorem w_X11_variable_b24 {J : JT} {an : AX} (hI : IsX cX11_variable 2 RX11 "variable" 9 229 (some .int) an J) (σ : St) (δ : Dy) : SJ (m_X11_variable_b24 σ δ) (PXI σ an) (J 24 [] [] (bX an) σ δ) := by
  have hJ := hI.cor
  unfold m_X11_variable_b24
  exact sx_throw hI (text := "no variable can be made") tx_60_64 (by decide) rfl (by decide) (by decide) (Nat.le_of_ble_eq_true rfl) dX11_variable_24 dX11_variable_27 dX11_variable_28 dX11_variable_30 dX11_variable_33 (fun h => h)
set_option maxHeartbeats 4000000 in
set_option maxRecDepth 100000 in
theorem w_X11_variable {J : JT} {an : AX} (hI : IsX cX11_variable 2 RX11 "variable" 9 229 (some .int) an J) (σ : St) (p0 : Nat) (δ : Dy) : SJ (m_X11_variable σ p0 δ) (PXI σ an) (J 0 [(0, .ref p0)] [] (bX an) σ δ) := by
  have hJ := hI.cor
  unfold m_X11_variable
  refine sj (j_aload_n hJ dX11_variable_0 rfl 0 rfl) ?_
  refine sj_gR hJ fl_X11_39 rfl dX11_variable_1 (fun v1 => ?_)
  refine sj_gR hJ fl_X11_46 rfl dX11_variable_4 (fun v2 => ?_)
  refine sj (j_astore_n hJ (L' := [(1, .ref v2), (0, .ref p0)]) dX11_variable_7 rfl (by decide) rfl) ?_
  refine sj (j_aload_n hJ dX11_variable_8 rfl 0 rfl) ?_
  refine sj_gI hJ fl_X11_50 (Or.inl rfl) dX11_variable_9 (fun v3 => ?_)
  refine sj (j_bipush hJ (v := 60) dX11_variable_12 ib_60) ?_
  refine sj_if (j_icmp_ge hJ (tgt := 24) dX11_variable_14 (by decide)) (fun _ => ?_) (fun _ => ?_)
  · refine sj (j_sub hJ (L' := []) [] rfl) ?_
    exact w_X11_variable_b24 hI σ δ
  · refine sj (j_aload_n hJ dX11_variable_17 rfl 0 rfl) ?_
    refine sj_gI hJ fl_X11_56 (Or.inr rfl) dX11_variable_18 (fun v4 => ?_)
    refine sj_if (j_if_eq hJ (tgt := 34) dX11_variable_21 (by decide)) (fun _ => ?_) (fun _ => ?_)
    · refine sj (j_aload_n hJ dX11_variable_34 rfl 1 rfl) ?_
      refine sj (j_iconst hJ (v := 0) dX11_variable_35 ic_0) ?_
      refine sj (j_iconst hJ (v := 0) dX11_variable_36 ic_0) ?_
      refine sj (j_iconst hJ (v := 0) dX11_variable_37 ic_0) ?_
      refine sj (j_iconst hJ (v := 0) dX11_variable_38 ic_0) ?_
      refine sj_callVv hJ [.int (0 : Int32), .int (0 : Int32), .int (0 : Int32), .int (0 : Int32)] (st := []) (fr' := 0) (lo' := 0) ml_X11_67 hc_11 (by decide) (by decide) (Nat.le_of_ble_eq_true rfl) dX11_variable_39 rfl (fun _ h9 => ct_X11_note h9) (fun v5 => ?_)
      refine sj (j_aload_n hJ dX11_variable_42 rfl 0 rfl) ?_
      refine sj_callVi hJ [] (st := []) (fr' := 0) (lo' := 0) ml_X11_71 hc_8 (by decide) (by decide) (Nat.le_of_ble_eq_true rfl) dX11_variable_43 rfl (fun _ h9 => ct_X8_makeVariable h9) (fun v6 => ?_)
      exact sx_iret hI dX11_variable_46 (fun h => h)
    · refine sj (j_sub hJ (L' := []) [] rfl) ?_
      exact w_X11_variable_b24 hI σ δ
theorem ct_X11_variable {σ : St} {p0 : Nat} {δ : Dy} {r : ((Int32 ⊕ Nat) × Dy)} (h : m_X11_variable σ p0 δ = some r) : CTX yX11_variable cX11_variable 2 (some .int) 9 229 [.ref p0] σ δ (ox_i r.1, σ, r.2) := CTX_of (by decide +kernel) (Nat.le_of_ble_eq_true rfl) (fun J hI => w_X11_variable hI σ p0 δ r h rfl)
def m_X11_needTerms_b14 (σ : St) (δ : Dy) : Option (Unit ⊕ Nat) :=
  some (Sum.inr 1)
def m_X11_needTerms (σ : St) (p0 : Int32) (p1 : Int32) (δ : Dy) : Option (Unit ⊕ Nat) :=
  (m_X11_isTerm σ p0 δ).bind fun v1 =>
  if v1 = 0 then
    m_X11_needTerms_b14 σ δ
  else
    (m_X11_isTerm σ p1 δ).bind fun v2 =>
    if v2 = 0 then
      m_X11_needTerms_b14 σ δ
    else
      some (Sum.inl ())
set_option maxHeartbeats 4000000 in
set_option maxRecDepth 100000 in
theorem w_X11_needTerms_b14 {J : JT} {an : AX} (hI : IsX cX11_needTerms 2 RX11 "needTerms" 9 229 none an J) (σ : St) (δ : Dy) : SJ (m_X11_needTerms_b14 σ δ) (PXVp σ δ an) (J 14 [] [] (bX an) σ δ) := by
  have hJ := hI.cor
  unfold m_X11_needTerms_b14
  exact sx_throwW hI (text := "neither a value nor a slot") tx_103_107 (by decide) rfl (by decide) (by decide) (Nat.le_of_ble_eq_true rfl) dX11_needTerms_14 dX11_needTerms_17 dX11_needTerms_18 dX11_needTerms_21 dX11_needTerms_24 (fun h => h)
set_option maxHeartbeats 4000000 in
set_option maxRecDepth 100000 in
theorem w_X11_needTerms {J : JT} {an : AX} (hI : IsX cX11_needTerms 2 RX11 "needTerms" 9 229 none an J) (σ : St) (p0 : Int32) (p1 : Int32) (δ : Dy) : SJ (m_X11_needTerms σ p0 p1 δ) (PXVp σ δ an) (J 0 [(0, .int p0), (1, .int p1)] [] (bX an) σ δ) := by
  have hJ := hI.cor
  unfold m_X11_needTerms
  refine sj (j_iload_n hJ dX11_needTerms_0 rfl 0 rfl) ?_
  refine sj_callSip hJ [.int p0] (st := []) (fr' := 1) (lo' := 20) ml_X11_312 (by decide) (by decide) (Nat.le_of_ble_eq_true rfl) dX11_needTerms_1 rfl (fun _ h9 => ct_X11_isTerm h9) (fun v1 => ?_)
  refine sj_if (j_if_eq hJ (tgt := 14) dX11_needTerms_4 (by decide)) (fun _ => ?_) (fun _ => ?_)
  · refine sj (j_sub hJ (L' := []) [] rfl) ?_
    exact w_X11_needTerms_b14 hI σ δ
  · refine sj (j_iload_n hJ dX11_needTerms_7 rfl 1 rfl) ?_
    refine sj_callSip hJ [.int p1] (st := []) (fr' := 1) (lo' := 20) ml_X11_312 (by decide) (by decide) (Nat.le_of_ble_eq_true rfl) dX11_needTerms_8 rfl (fun _ h9 => ct_X11_isTerm h9) (fun v2 => ?_)
    refine sj_if (j_if_ne hJ (tgt := 25) dX11_needTerms_11 (by decide)) (fun _ => ?_) (fun _ => ?_)
    · refine sj (j_sub hJ (L' := []) [] rfl) ?_
      exact w_X11_needTerms_b14 hI σ δ
    · exact sx_vret hI dX11_needTerms_25 (fun h => h)
theorem ct_X11_needTerms {σ : St} {p0 : Int32} {p1 : Int32} {δ : Dy} {r : (Unit ⊕ Nat)} (h : m_X11_needTerms σ p0 p1 δ = some r) : CTX yX11_needTerms cX11_needTerms 2 none 9 229 [.int p0, .int p1] σ δ (ox_v r, σ, δ) := CTX_of (by decide +kernel) (Nat.le_of_ble_eq_true rfl) (fun J hI => w_X11_needTerms hI σ p0 p1 δ r h rfl)
def m_X11_needRoom (σ : St) (p0 : Nat) (δ : Dy) : Option (Unit ⊕ Nat) :=
  (gR σ 11 p0 0).bind fun v1 =>
  (gI σ δ 5 v1 6).bind fun v2 =>
  if v2 < (60 : Int32) then
    some (Sum.inl ())
  else
    some (Sum.inr 0)
set_option maxHeartbeats 4000000 in
set_option maxRecDepth 100000 in
theorem w_X11_needRoom {J : JT} {an : AX} (hI : IsX cX11_needRoom 1 RX11 "needRoom" 9 229 none an J) (σ : St) (p0 : Nat) (δ : Dy) : SJ (m_X11_needRoom σ p0 δ) (PXVp σ δ an) (J 0 [(0, .ref p0)] [] (bX an) σ δ) := by
  have hJ := hI.cor
  unfold m_X11_needRoom
  refine sj (j_aload_n hJ dX11_needRoom_0 rfl 0 rfl) ?_
  refine sj_gR hJ fl_X11_10 rfl dX11_needRoom_1 (fun v1 => ?_)
  refine sj_gI hJ fl_X11_299 (Or.inl rfl) dX11_needRoom_4 (fun v2 => ?_)
  refine sj (j_bipush hJ (v := 60) dX11_needRoom_7 ib_60) ?_
  refine sj_if (j_icmp_lt hJ (tgt := 23) dX11_needRoom_9 (by decide)) (fun _ => ?_) (fun _ => ?_)
  · exact sx_vret hI dX11_needRoom_23 (fun h => h)
  · exact sx_throwW hI (text := "there are as many nodes as there may be") tx_60_64 (by decide) rfl (by decide) (by decide) (Nat.le_of_ble_eq_true rfl) dX11_needRoom_12 dX11_needRoom_15 dX11_needRoom_16 dX11_needRoom_19 dX11_needRoom_22 (fun h => h)
theorem ct_X11_needRoom {σ : St} {p0 : Nat} {δ : Dy} {r : (Unit ⊕ Nat)} (h : m_X11_needRoom σ p0 δ = some r) : CTX yX11_needRoom cX11_needRoom 1 none 9 229 [.ref p0] σ δ (ox_v r, σ, δ) := CTX_of (by decide +kernel) (Nat.le_of_ble_eq_true rfl) (fun J hI => w_X11_needRoom hI σ p0 δ r h rfl)
def m_X11_equate (σ : St) (p0 : Nat) (p1 : Int32) (p2 : Int32) (δ : Dy) : Option ((Int32 ⊕ Nat) × Dy) :=
  (m_X11_needTerms σ p1 p2 δ).bind fun v1 => xel v1 (fun x2 =>
    (chk σ 11 p0).bind fun _ => (m_X11_needRoom σ p0 δ).bind fun v3 => xel v3 (fun x4 =>
      (gR σ 11 p0 0).bind fun v5 =>
      (chk σ 5 v5).bind fun _ => (m_X5_add σ v5 (0 : Int32) (0 : Int32) p1 p2 (-1 : Int32) (-1 : Int32) δ).bind fun v6 =>
      some (Sum.inl v6.1, v6.2)) (fun e => (Sum.inr e, δ))) (fun e => (Sum.inr e, δ))
set_option maxHeartbeats 4000000 in
set_option maxRecDepth 100000 in
theorem w_X11_equate {J : JT} {an : AX} (hI : IsX cX11_equate 3 RX11 "equate" 10 250 (some .int) an J) (σ : St) (p0 : Nat) (p1 : Int32) (p2 : Int32) (δ : Dy) : SJ (m_X11_equate σ p0 p1 p2 δ) (PXI σ an) (J 0 [(0, .ref p0), (1, .int p1), (2, .int p2)] [] (bX an) σ δ) := by
  have hJ := hI.cor
  unfold m_X11_equate
  refine sj (j_iload_n hJ dX11_equate_0 rfl 1 rfl) ?_
  refine sj (j_iload_n hJ dX11_equate_1 rfl 2 rfl) ?_
  refine sx_callSvp hI [.int p1, .int p2] (st := []) (fr' := 9) (lo' := 229) ml_X11_75 (by decide) (by decide) (Nat.le_of_ble_eq_true rfl) rfl dX11_equate_2 rfl (fun _ h9 => ct_X11_needTerms h9) (fun x2 => ?_) (fun e h => h)
  refine sj (j_aload_n hJ dX11_equate_5 rfl 0 rfl) ?_
  refine sx_callVvp hI [] (st := []) (fr' := 9) (lo' := 229) ml_X11_79 hc_11 (by decide) (by decide) (Nat.le_of_ble_eq_true rfl) rfl dX11_equate_6 rfl (fun _ h9 => ct_X11_needRoom h9) (fun x4 => ?_) (fun e h => h)
  refine sj (j_aload_n hJ dX11_equate_9 rfl 0 rfl) ?_
  refine sj_gR hJ fl_X11_10 rfl dX11_equate_10 (fun v5 => ?_)
  refine sj (j_iconst hJ (v := 0) dX11_equate_13 ic_0) ?_
  refine sj (j_iconst hJ (v := 0) dX11_equate_14 ic_0) ?_
  refine sj (j_iload_n hJ dX11_equate_15 rfl 1 rfl) ?_
  refine sj (j_iload_n hJ dX11_equate_16 rfl 2 rfl) ?_
  refine sj (j_iconst hJ (v := -1) dX11_equate_17 ic_m1) ?_
  refine sj (j_iconst hJ (v := -1) dX11_equate_18 ic_m1) ?_
  refine sj_callVi hJ [.int (0 : Int32), .int (0 : Int32), .int p1, .int p2, .int (-1 : Int32), .int (-1 : Int32)] (st := []) (fr' := 0) (lo' := 0) ml_X11_82 hc_5 (by decide) (by decide) (Nat.le_of_ble_eq_true rfl) dX11_equate_19 rfl (fun _ h9 => ct_X5_add h9) (fun v6 => ?_)
  exact sx_iret hI dX11_equate_22 (fun h => h)
theorem ct_X11_equate {σ : St} {p0 : Nat} {p1 : Int32} {p2 : Int32} {δ : Dy} {r : ((Int32 ⊕ Nat) × Dy)} (h : m_X11_equate σ p0 p1 p2 δ = some r) : CTX yX11_equate cX11_equate 3 (some .int) 10 250 [.ref p0, .int p1, .int p2] σ δ (ox_i r.1, σ, r.2) := CTX_of (by decide +kernel) (Nat.le_of_ble_eq_true rfl) (fun J hI => w_X11_equate hI σ p0 p1 p2 δ r h rfl)
def m_X11_needWithin_b10 (σ : St) (δ : Dy) : Option (Unit ⊕ Nat) :=
  some (Sum.inr 1)
def m_X11_needWithin (σ : St) (p0 : Int32) (p1 : Int32) (p2 : Int32) (δ : Dy) : Option (Unit ⊕ Nat) :=
  if p0 < p1 then
    m_X11_needWithin_b10 σ δ
  else
    if p0 ≤ p2 then
      some (Sum.inl ())
    else
      m_X11_needWithin_b10 σ δ
set_option maxHeartbeats 4000000 in
set_option maxRecDepth 100000 in
theorem w_X11_needWithin_b10 {J : JT} {an : AX} (hI : IsX cX11_needWithin 3 RX11 "needWithin" 9 229 none an J) (σ : St) (δ : Dy) : SJ (m_X11_needWithin_b10 σ δ) (PXVp σ δ an) (J 10 [] [] (bX an) σ δ) := by
  have hJ := hI.cor
  unfold m_X11_needWithin_b10
  exact sx_throwW hI (text := "an argument is out of its range") tx_103_107 (by decide) rfl (by decide) (by decide) (Nat.le_of_ble_eq_true rfl) dX11_needWithin_10 dX11_needWithin_13 dX11_needWithin_14 dX11_needWithin_17 dX11_needWithin_20 (fun h => h)
set_option maxHeartbeats 4000000 in
set_option maxRecDepth 100000 in
theorem w_X11_needWithin {J : JT} {an : AX} (hI : IsX cX11_needWithin 3 RX11 "needWithin" 9 229 none an J) (σ : St) (p0 : Int32) (p1 : Int32) (p2 : Int32) (δ : Dy) : SJ (m_X11_needWithin σ p0 p1 p2 δ) (PXVp σ δ an) (J 0 [(0, .int p0), (1, .int p1), (2, .int p2)] [] (bX an) σ δ) := by
  have hJ := hI.cor
  unfold m_X11_needWithin
  refine sj (j_iload_n hJ dX11_needWithin_0 rfl 0 rfl) ?_
  refine sj (j_iload_n hJ dX11_needWithin_1 rfl 1 rfl) ?_
  refine sj_if (j_icmp_lt hJ (tgt := 10) dX11_needWithin_2 (by decide)) (fun _ => ?_) (fun _ => ?_)
  · refine sj (j_sub hJ (L' := []) [] rfl) ?_
    exact w_X11_needWithin_b10 hI σ δ
  · refine sj (j_iload_n hJ dX11_needWithin_5 rfl 0 rfl) ?_
    refine sj (j_iload_n hJ dX11_needWithin_6 rfl 2 rfl) ?_
    refine sj_if (j_icmp_le hJ (tgt := 21) dX11_needWithin_7 (by decide)) (fun _ => ?_) (fun _ => ?_)
    · exact sx_vret hI dX11_needWithin_21 (fun h => h)
    · refine sj (j_sub hJ (L' := []) [] rfl) ?_
      exact w_X11_needWithin_b10 hI σ δ
theorem ct_X11_needWithin {σ : St} {p0 : Int32} {p1 : Int32} {p2 : Int32} {δ : Dy} {r : (Unit ⊕ Nat)} (h : m_X11_needWithin σ p0 p1 p2 δ = some r) : CTX yX11_needWithin cX11_needWithin 3 none 9 229 [.int p0, .int p1, .int p2] σ δ (ox_v r, σ, δ) := CTX_of (by decide +kernel) (Nat.le_of_ble_eq_true rfl) (fun J hI => w_X11_needWithin hI σ p0 p1 p2 δ r h rfl)
def m_X11_needSort (σ : St) (p0 : Int32) (δ : Dy) : Option (Unit ⊕ Nat) :=
  (m_X11_needWithin σ p0 (0 : Int32) (5 : Int32) δ).bind fun v1 => xel v1 (fun x2 =>
    some (Sum.inl ())) (fun e => (Sum.inr e))
set_option maxHeartbeats 4000000 in
set_option maxRecDepth 100000 in
theorem w_X11_needSort {J : JT} {an : AX} (hI : IsX cX11_needSort 1 RX11 "needSort" 10 251 none an J) (σ : St) (p0 : Int32) (δ : Dy) : SJ (m_X11_needSort σ p0 δ) (PXVp σ δ an) (J 0 [(0, .int p0)] [] (bX an) σ δ) := by
  have hJ := hI.cor
  unfold m_X11_needSort
  refine sj (j_iload_n hJ dX11_needSort_0 rfl 0 rfl) ?_
  refine sj (j_iconst hJ (v := 0) dX11_needSort_1 ic_0) ?_
  refine sj (j_iconst hJ (v := 5) dX11_needSort_2 ic_5) ?_
  refine sx_callSvp hI [.int p0, .int (0 : Int32), .int (5 : Int32)] (st := []) (fr' := 9) (lo' := 229) ml_X11_108 (by decide) (by decide) (Nat.le_of_ble_eq_true rfl) rfl dX11_needSort_3 rfl (fun _ h9 => ct_X11_needWithin h9) (fun x2 => ?_) (fun e h => h)
  exact sx_vret hI dX11_needSort_6 (fun h => h)
theorem ct_X11_needSort {σ : St} {p0 : Int32} {δ : Dy} {r : (Unit ⊕ Nat)} (h : m_X11_needSort σ p0 δ = some r) : CTX yX11_needSort cX11_needSort 1 none 10 251 [.int p0] σ δ (ox_v r, σ, δ) := CTX_of (by decide +kernel) (Nat.le_of_ble_eq_true rfl) (fun J hI => w_X11_needSort hI σ p0 δ r h rfl)
def m_X11_token_b27 (σ : St) (p1 : Int32) (p2 : Int32) (p3 : Int32) (q0 : Nat) (q1 : Int32) (δ : Dy) : Option ((Int32 ⊕ Nat) × Dy) :=
  (chk σ 5 q0).bind fun _ => (m_X5_add σ q0 q1 p1 p2 p3 (-1 : Int32) (-1 : Int32) δ).bind fun v8 =>
  some (Sum.inl v8.1, v8.2)
def m_X11_token (σ : St) (p0 : Nat) (p1 : Int32) (p2 : Int32) (p3 : Int32) (p4 : Int32) (δ : Dy) : Option ((Int32 ⊕ Nat) × Dy) :=
  (m_X11_needSort σ p1 δ).bind fun v1 => xel v1 (fun x2 =>
    (m_X11_needTerms σ p2 p3 δ).bind fun v3 => xel v3 (fun x4 =>
      (chk σ 11 p0).bind fun _ => (m_X11_needRoom σ p0 δ).bind fun v5 => xel v5 (fun x6 =>
        (gR σ 11 p0 0).bind fun v7 =>
        if p4 = 0 then
          m_X11_token_b27 σ p1 p2 p3 v7 (1 : Int32) δ
        else
          m_X11_token_b27 σ p1 p2 p3 v7 (2 : Int32) δ) (fun e => (Sum.inr e, δ))) (fun e => (Sum.inr e, δ))) (fun e => (Sum.inr e, δ))
set_option maxHeartbeats 4000000 in
set_option maxRecDepth 100000 in
theorem w_X11_token_b27 {J : JT} {an : AX} (hI : IsX cX11_token 5 RX11 "token" 11 271 (some .int) an J) (σ : St) (p1 : Int32) (p2 : Int32) (p3 : Int32) (q0 : Nat) (q1 : Int32) (δ : Dy) : SJ (m_X11_token_b27 σ p1 p2 p3 q0 q1 δ) (PXI σ an) (J 27 [(1, .int p1), (2, .int p2), (3, .int p3)] [.int q1, .ref q0] (bX an) σ δ) := by
  have hJ := hI.cor
  unfold m_X11_token_b27
  refine sj (j_iload_n hJ dX11_token_27 rfl 0 rfl) ?_
  refine sj (j_iload_n hJ dX11_token_28 rfl 1 rfl) ?_
  refine sj (j_iload_n hJ dX11_token_29 rfl 2 rfl) ?_
  refine sj (j_iconst hJ (v := -1) dX11_token_30 ic_m1) ?_
  refine sj (j_iconst hJ (v := -1) dX11_token_31 ic_m1) ?_
  refine sj_callVi hJ [.int q1, .int p1, .int p2, .int p3, .int (-1 : Int32), .int (-1 : Int32)] (st := []) (fr' := 0) (lo' := 0) ml_X11_82 hc_5 (by decide) (by decide) (Nat.le_of_ble_eq_true rfl) dX11_token_32 rfl (fun _ h9 => ct_X5_add h9) (fun v8 => ?_)
  exact sx_iret hI dX11_token_35 (fun h => h)
set_option maxHeartbeats 4000000 in
set_option maxRecDepth 100000 in
theorem w_X11_token {J : JT} {an : AX} (hI : IsX cX11_token 5 RX11 "token" 11 271 (some .int) an J) (σ : St) (p0 : Nat) (p1 : Int32) (p2 : Int32) (p3 : Int32) (p4 : Int32) (δ : Dy) : SJ (m_X11_token σ p0 p1 p2 p3 p4 δ) (PXI σ an) (J 0 [(0, .ref p0), (1, .int p1), (2, .int p2), (3, .int p3), (4, .int p4)] [] (bX an) σ δ) := by
  have hJ := hI.cor
  unfold m_X11_token
  refine sj (j_iload_n hJ dX11_token_0 rfl 1 rfl) ?_
  refine sx_callSvp hI [.int p1] (st := []) (fr' := 10) (lo' := 251) ml_X11_86 (by decide) (by decide) (Nat.le_of_ble_eq_true rfl) rfl dX11_token_1 rfl (fun _ h9 => ct_X11_needSort h9) (fun x2 => ?_) (fun e h => h)
  refine sj (j_iload_n hJ dX11_token_4 rfl 2 rfl) ?_
  refine sj (j_iload_n hJ dX11_token_5 rfl 3 rfl) ?_
  refine sx_callSvp hI [.int p2, .int p3] (st := []) (fr' := 9) (lo' := 229) ml_X11_75 (by decide) (by decide) (Nat.le_of_ble_eq_true rfl) rfl dX11_token_6 rfl (fun _ h9 => ct_X11_needTerms h9) (fun x4 => ?_) (fun e h => h)
  refine sj (j_aload_n hJ dX11_token_9 rfl 0 rfl) ?_
  refine sx_callVvp hI [] (st := []) (fr' := 9) (lo' := 229) ml_X11_79 hc_11 (by decide) (by decide) (Nat.le_of_ble_eq_true rfl) rfl dX11_token_10 rfl (fun _ h9 => ct_X11_needRoom h9) (fun x6 => ?_) (fun e h => h)
  refine sj (j_aload_n hJ dX11_token_13 rfl 0 rfl) ?_
  refine sj_gR hJ fl_X11_10 rfl dX11_token_14 (fun v7 => ?_)
  refine sj (j_iload hJ dX11_token_17 4 rfl) ?_
  refine sj_if (j_if_eq hJ (tgt := 26) dX11_token_19 (by decide)) (fun _ => ?_) (fun _ => ?_)
  · refine sj (j_iconst hJ (v := 1) dX11_token_26 ic_1) ?_
    refine sj (j_sub hJ (L' := [(1, .int p1), (2, .int p2), (3, .int p3)]) [1, 2, 3] rfl) ?_
    exact w_X11_token_b27 hI σ p1 p2 p3 v7 (1 : Int32) δ
  · refine sj (j_iconst hJ (v := 2) dX11_token_22 ic_2) ?_
    refine sj (j_goto hJ (tgt := 27) dX11_token_23 (by decide)) ?_
    refine sj (j_sub hJ (L' := [(1, .int p1), (2, .int p2), (3, .int p3)]) [1, 2, 3] rfl) ?_
    exact w_X11_token_b27 hI σ p1 p2 p3 v7 (2 : Int32) δ
theorem ct_X11_token {σ : St} {p0 : Nat} {p1 : Int32} {p2 : Int32} {p3 : Int32} {p4 : Int32} {δ : Dy} {r : ((Int32 ⊕ Nat) × Dy)} (h : m_X11_token σ p0 p1 p2 p3 p4 δ = some r) : CTX yX11_token cX11_token 5 (some .int) 11 271 [.ref p0, .int p1, .int p2, .int p3, .int p4] σ δ (ox_i r.1, σ, r.2) := CTX_of (by decide +kernel) (Nat.le_of_ble_eq_true rfl) (fun J hI => w_X11_token hI σ p0 p1 p2 p3 p4 δ r h rfl)
def m_X11_needNode_b15 (σ : St) (δ : Dy) : Option (Unit ⊕ Nat) :=
  some (Sum.inr 2)
def m_X11_needNode (σ : St) (p0 : Nat) (p1 : Int32) (δ : Dy) : Option (Unit ⊕ Nat) :=
  if p1 < 0 then
    m_X11_needNode_b15 σ δ
  else
    (gR σ 11 p0 0).bind fun v1 =>
    (gI σ δ 5 v1 6).bind fun v2 =>
    if p1 < v2 then
      some (Sum.inl ())
    else
      m_X11_needNode_b15 σ δ
set_option maxHeartbeats 4000000 in
set_option maxRecDepth 100000 in
theorem w_X11_needNode_b15 {J : JT} {an : AX} (hI : IsX cX11_needNode 2 RX11 "needNode" 9 229 none an J) (σ : St) (δ : Dy) : SJ (m_X11_needNode_b15 σ δ) (PXVp σ δ an) (J 15 [] [] (bX an) σ δ) := by
  have hJ := hI.cor
  unfold m_X11_needNode_b15
  exact sx_throwW hI (text := "there is no such node") tx_175_179 (by decide) rfl (by decide) (by decide) (Nat.le_of_ble_eq_true rfl) dX11_needNode_15 dX11_needNode_18 dX11_needNode_19 dX11_needNode_22 dX11_needNode_25 (fun h => h)
set_option maxHeartbeats 4000000 in
set_option maxRecDepth 100000 in
theorem w_X11_needNode {J : JT} {an : AX} (hI : IsX cX11_needNode 2 RX11 "needNode" 9 229 none an J) (σ : St) (p0 : Nat) (p1 : Int32) (δ : Dy) : SJ (m_X11_needNode σ p0 p1 δ) (PXVp σ δ an) (J 0 [(0, .ref p0), (1, .int p1)] [] (bX an) σ δ) := by
  have hJ := hI.cor
  unfold m_X11_needNode
  refine sj (j_iload_n hJ dX11_needNode_0 rfl 1 rfl) ?_
  refine sj_if (j_if_lt hJ (tgt := 15) dX11_needNode_1 (by decide)) (fun _ => ?_) (fun _ => ?_)
  · refine sj (j_sub hJ (L' := []) [] rfl) ?_
    exact w_X11_needNode_b15 hI σ δ
  · refine sj (j_iload_n hJ dX11_needNode_4 rfl 1 rfl) ?_
    refine sj (j_aload_n hJ dX11_needNode_5 rfl 0 rfl) ?_
    refine sj_gR hJ fl_X11_10 rfl dX11_needNode_6 (fun v1 => ?_)
    refine sj_gI hJ fl_X11_299 (Or.inl rfl) dX11_needNode_9 (fun v2 => ?_)
    refine sj_if (j_icmp_lt hJ (tgt := 26) dX11_needNode_12 (by decide)) (fun _ => ?_) (fun _ => ?_)
    · exact sx_vret hI dX11_needNode_26 (fun h => h)
    · refine sj (j_sub hJ (L' := []) [] rfl) ?_
      exact w_X11_needNode_b15 hI σ δ
theorem ct_X11_needNode {σ : St} {p0 : Nat} {p1 : Int32} {δ : Dy} {r : (Unit ⊕ Nat)} (h : m_X11_needNode σ p0 p1 δ = some r) : CTX yX11_needNode cX11_needNode 2 none 9 229 [.ref p0, .int p1] σ δ (ox_v r, σ, δ) := CTX_of (by decide +kernel) (Nat.le_of_ble_eq_true rfl) (fun J hI => w_X11_needNode hI σ p0 p1 δ r h rfl)
def m_X11_both (σ : St) (p0 : Nat) (p1 : Int32) (p2 : Int32) (δ : Dy) : Option ((Int32 ⊕ Nat) × Dy) :=
  (chk σ 11 p0).bind fun _ => (m_X11_needNode σ p0 p1 δ).bind fun v1 => xel v1 (fun x2 =>
    (chk σ 11 p0).bind fun _ => (m_X11_needNode σ p0 p2 δ).bind fun v3 => xel v3 (fun x4 =>
      (chk σ 11 p0).bind fun _ => (m_X11_needRoom σ p0 δ).bind fun v5 => xel v5 (fun x6 =>
        (gR σ 11 p0 0).bind fun v7 =>
        (chk σ 5 v7).bind fun _ => (m_X5_add σ v7 (3 : Int32) (0 : Int32) (0 : Int32) (0 : Int32) p1 p2 δ).bind fun v8 =>
        some (Sum.inl v8.1, v8.2)) (fun e => (Sum.inr e, δ))) (fun e => (Sum.inr e, δ))) (fun e => (Sum.inr e, δ))
set_option maxHeartbeats 4000000 in
set_option maxRecDepth 100000 in
theorem w_X11_both {J : JT} {an : AX} (hI : IsX cX11_both 3 RX11 "both" 10 250 (some .int) an J) (σ : St) (p0 : Nat) (p1 : Int32) (p2 : Int32) (δ : Dy) : SJ (m_X11_both σ p0 p1 p2 δ) (PXI σ an) (J 0 [(0, .ref p0), (1, .int p1), (2, .int p2)] [] (bX an) σ δ) := by
  have hJ := hI.cor
  unfold m_X11_both
  refine sj (j_aload_n hJ dX11_both_0 rfl 0 rfl) ?_
  refine sj (j_iload_n hJ dX11_both_1 rfl 1 rfl) ?_
  refine sx_callVvp hI [.int p1] (st := []) (fr' := 9) (lo' := 229) ml_X11_90 hc_11 (by decide) (by decide) (Nat.le_of_ble_eq_true rfl) rfl dX11_both_2 rfl (fun _ h9 => ct_X11_needNode h9) (fun x2 => ?_) (fun e h => h)
  refine sj (j_aload_n hJ dX11_both_5 rfl 0 rfl) ?_
  refine sj (j_iload_n hJ dX11_both_6 rfl 2 rfl) ?_
  refine sx_callVvp hI [.int p2] (st := []) (fr' := 9) (lo' := 229) ml_X11_90 hc_11 (by decide) (by decide) (Nat.le_of_ble_eq_true rfl) rfl dX11_both_7 rfl (fun _ h9 => ct_X11_needNode h9) (fun x4 => ?_) (fun e h => h)
  refine sj (j_aload_n hJ dX11_both_10 rfl 0 rfl) ?_
  refine sx_callVvp hI [] (st := []) (fr' := 9) (lo' := 229) ml_X11_79 hc_11 (by decide) (by decide) (Nat.le_of_ble_eq_true rfl) rfl dX11_both_11 rfl (fun _ h9 => ct_X11_needRoom h9) (fun x6 => ?_) (fun e h => h)
  refine sj (j_aload_n hJ dX11_both_14 rfl 0 rfl) ?_
  refine sj_gR hJ fl_X11_10 rfl dX11_both_15 (fun v7 => ?_)
  refine sj (j_iconst hJ (v := 3) dX11_both_18 ic_3) ?_
  refine sj (j_iconst hJ (v := 0) dX11_both_19 ic_0) ?_
  refine sj (j_iconst hJ (v := 0) dX11_both_20 ic_0) ?_
  refine sj (j_iconst hJ (v := 0) dX11_both_21 ic_0) ?_
  refine sj (j_iload_n hJ dX11_both_22 rfl 1 rfl) ?_
  refine sj (j_iload_n hJ dX11_both_23 rfl 2 rfl) ?_
  refine sj_callVi hJ [.int (3 : Int32), .int (0 : Int32), .int (0 : Int32), .int (0 : Int32), .int p1, .int p2] (st := []) (fr' := 0) (lo' := 0) ml_X11_82 hc_5 (by decide) (by decide) (Nat.le_of_ble_eq_true rfl) dX11_both_24 rfl (fun _ h9 => ct_X5_add h9) (fun v8 => ?_)
  exact sx_iret hI dX11_both_27 (fun h => h)
theorem ct_X11_both {σ : St} {p0 : Nat} {p1 : Int32} {p2 : Int32} {δ : Dy} {r : ((Int32 ⊕ Nat) × Dy)} (h : m_X11_both σ p0 p1 p2 δ = some r) : CTX yX11_both cX11_both 3 (some .int) 10 250 [.ref p0, .int p1, .int p2] σ δ (ox_i r.1, σ, r.2) := CTX_of (by decide +kernel) (Nat.le_of_ble_eq_true rfl) (fun J hI => w_X11_both hI σ p0 p1 p2 δ r h rfl)
def m_X11_needCondition_b12 (σ : St) (p0 : Int32) (δ : Dy) : Option (Unit ⊕ Nat) :=
  (m_X11_needWithin σ p0 (0 : Int32) (3 : Int32) δ).bind fun v1 => xel v1 (fun x2 =>
    some (Sum.inl ())) (fun e => (Sum.inr e))
def m_X11_needCondition (σ : St) (p0 : Int32) (δ : Dy) : Option (Unit ⊕ Nat) :=
  if p0 < (10 : Int32) then
    m_X11_needCondition_b12 σ p0 δ
  else
    if p0 < (16 : Int32) then
      some (Sum.inl ())
    else
      m_X11_needCondition_b12 σ p0 δ
set_option maxHeartbeats 4000000 in
set_option maxRecDepth 100000 in
theorem w_X11_needCondition_b12 {J : JT} {an : AX} (hI : IsX cX11_needCondition 1 RX11 "needCondition" 10 251 none an J) (σ : St) (p0 : Int32) (δ : Dy) : SJ (m_X11_needCondition_b12 σ p0 δ) (PXVp σ δ an) (J 12 [(0, .int p0)] [] (bX an) σ δ) := by
  have hJ := hI.cor
  unfold m_X11_needCondition_b12
  refine sj (j_iload_n hJ dX11_needCondition_12 rfl 0 rfl) ?_
  refine sj (j_iconst hJ (v := 0) dX11_needCondition_13 ic_0) ?_
  refine sj (j_iconst hJ (v := 3) dX11_needCondition_14 ic_3) ?_
  refine sx_callSvp hI [.int p0, .int (0 : Int32), .int (3 : Int32)] (st := []) (fr' := 9) (lo' := 229) ml_X11_108 (by decide) (by decide) (Nat.le_of_ble_eq_true rfl) rfl dX11_needCondition_15 rfl (fun _ h9 => ct_X11_needWithin h9) (fun x2 => ?_) (fun e h => h)
  exact sx_vret hI dX11_needCondition_18 (fun h => h)
set_option maxHeartbeats 4000000 in
set_option maxRecDepth 100000 in
theorem w_X11_needCondition {J : JT} {an : AX} (hI : IsX cX11_needCondition 1 RX11 "needCondition" 10 251 none an J) (σ : St) (p0 : Int32) (δ : Dy) : SJ (m_X11_needCondition σ p0 δ) (PXVp σ δ an) (J 0 [(0, .int p0)] [] (bX an) σ δ) := by
  have hJ := hI.cor
  unfold m_X11_needCondition
  refine sj (j_iload_n hJ dX11_needCondition_0 rfl 0 rfl) ?_
  refine sj (j_bipush hJ (v := 10) dX11_needCondition_1 ib_10) ?_
  refine sj_if (j_icmp_lt hJ (tgt := 12) dX11_needCondition_3 (by decide)) (fun _ => ?_) (fun _ => ?_)
  · exact w_X11_needCondition_b12 hI σ p0 δ
  · refine sj (j_iload_n hJ dX11_needCondition_6 rfl 0 rfl) ?_
    refine sj (j_bipush hJ (v := 16) dX11_needCondition_7 ib_16) ?_
    refine sj_if (j_icmp_lt hJ (tgt := 18) dX11_needCondition_9 (by decide)) (fun _ => ?_) (fun _ => ?_)
    · exact sx_vret hI dX11_needCondition_18 (fun h => h)
    · exact w_X11_needCondition_b12 hI σ p0 δ
theorem ct_X11_needCondition {σ : St} {p0 : Int32} {δ : Dy} {r : (Unit ⊕ Nat)} (h : m_X11_needCondition σ p0 δ = some r) : CTX yX11_needCondition cX11_needCondition 1 none 10 251 [.int p0] σ δ (ox_v r, σ, δ) := CTX_of (by decide +kernel) (Nat.le_of_ble_eq_true rfl) (fun J hI => w_X11_needCondition hI σ p0 δ r h rfl)
def m_X11_when (σ : St) (p0 : Nat) (p1 : Int32) (p2 : Int32) (p3 : Int32) (p4 : Int32) (δ : Dy) : Option ((Int32 ⊕ Nat) × Dy) :=
  (chk σ 11 p0).bind fun _ => (m_X11_needNode σ p0 p4 δ).bind fun v1 => xel v1 (fun x2 =>
    (m_X11_needCondition σ p1 δ).bind fun v3 => xel v3 (fun x4 =>
      (m_X11_asked σ p1 p3 δ).bind fun v5 =>
      (m_X11_needTerms σ p2 v5 δ).bind fun v6 => xel v6 (fun x7 =>
        (chk σ 11 p0).bind fun _ => (m_X11_needRoom σ p0 δ).bind fun v8 => xel v8 (fun x9 =>
          (gR σ 11 p0 0).bind fun v10 =>
          (chk σ 5 v10).bind fun _ => (m_X5_add σ v10 (4 : Int32) p1 p2 v5 p4 (-1 : Int32) δ).bind fun v11 =>
          some (Sum.inl v11.1, v11.2)) (fun e => (Sum.inr e, δ))) (fun e => (Sum.inr e, δ))) (fun e => (Sum.inr e, δ))) (fun e => (Sum.inr e, δ))
set_option maxHeartbeats 4000000 in
set_option maxRecDepth 100000 in
theorem w_X11_when {J : JT} {an : AX} (hI : IsX cX11_when 6 RX11 "when" 11 271 (some .int) an J) (σ : St) (p0 : Nat) (p1 : Int32) (p2 : Int32) (p3 : Int32) (p4 : Int32) (δ : Dy) : SJ (m_X11_when σ p0 p1 p2 p3 p4 δ) (PXI σ an) (J 0 [(0, .ref p0), (1, .int p1), (2, .int p2), (3, .int p3), (4, .int p4)] [] (bX an) σ δ) := by
  have hJ := hI.cor
  unfold m_X11_when
  refine sj (j_aload_n hJ dX11_when_0 rfl 0 rfl) ?_
  refine sj (j_iload hJ dX11_when_1 4 rfl) ?_
  refine sx_callVvp hI [.int p4] (st := []) (fr' := 9) (lo' := 229) ml_X11_90 hc_11 (by decide) (by decide) (Nat.le_of_ble_eq_true rfl) rfl dX11_when_3 rfl (fun _ h9 => ct_X11_needNode h9) (fun x2 => ?_) (fun e h => h)
  refine sj (j_iload_n hJ dX11_when_6 rfl 1 rfl) ?_
  refine sx_callSvp hI [.int p1] (st := []) (fr' := 10) (lo' := 251) ml_X11_93 (by decide) (by decide) (Nat.le_of_ble_eq_true rfl) rfl dX11_when_7 rfl (fun _ h9 => ct_X11_needCondition h9) (fun x4 => ?_) (fun e h => h)
  refine sj (j_iload_n hJ dX11_when_10 rfl 1 rfl) ?_
  refine sj (j_iload_n hJ dX11_when_11 rfl 3 rfl) ?_
  refine sj_callSip hJ [.int p1, .int p3] (st := []) (fr' := 0) (lo' := 0) ml_X11_96 (by decide) (by decide) (Nat.le_of_ble_eq_true rfl) dX11_when_12 rfl (fun _ h9 => ct_X11_asked h9) (fun v5 => ?_)
  refine sj (j_istore hJ (L' := [(5, .int v5), (0, .ref p0), (1, .int p1), (2, .int p2), (3, .int p3), (4, .int p4)]) dX11_when_15 (by decide) rfl) ?_
  refine sj (j_iload_n hJ dX11_when_17 rfl 3 rfl) ?_
  refine sj (j_iload hJ dX11_when_18 0 rfl) ?_
  refine sx_callSvp hI [.int p2, .int v5] (st := []) (fr' := 9) (lo' := 229) ml_X11_75 (by decide) (by decide) (Nat.le_of_ble_eq_true rfl) rfl dX11_when_20 rfl (fun _ h9 => ct_X11_needTerms h9) (fun x7 => ?_) (fun e h => h)
  refine sj (j_aload_n hJ dX11_when_23 rfl 1 rfl) ?_
  refine sx_callVvp hI [] (st := []) (fr' := 9) (lo' := 229) ml_X11_79 hc_11 (by decide) (by decide) (Nat.le_of_ble_eq_true rfl) rfl dX11_when_24 rfl (fun _ h9 => ct_X11_needRoom h9) (fun x9 => ?_) (fun e h => h)
  refine sj (j_aload_n hJ dX11_when_27 rfl 1 rfl) ?_
  refine sj_gR hJ fl_X11_10 rfl dX11_when_28 (fun v10 => ?_)
  refine sj (j_iconst hJ (v := 4) dX11_when_31 ic_4) ?_
  refine sj (j_iload_n hJ dX11_when_32 rfl 2 rfl) ?_
  refine sj (j_iload_n hJ dX11_when_33 rfl 3 rfl) ?_
  refine sj (j_iload hJ dX11_when_34 0 rfl) ?_
  refine sj (j_iload hJ dX11_when_36 5 rfl) ?_
  refine sj (j_iconst hJ (v := -1) dX11_when_38 ic_m1) ?_
  refine sj_callVi hJ [.int (4 : Int32), .int p1, .int p2, .int v5, .int p4, .int (-1 : Int32)] (st := []) (fr' := 0) (lo' := 0) ml_X11_82 hc_5 (by decide) (by decide) (Nat.le_of_ble_eq_true rfl) dX11_when_39 rfl (fun _ h9 => ct_X5_add h9) (fun v11 => ?_)
  exact sx_iret hI dX11_when_42 (fun h => h)
theorem ct_X11_when {σ : St} {p0 : Nat} {p1 : Int32} {p2 : Int32} {p3 : Int32} {p4 : Int32} {δ : Dy} {r : ((Int32 ⊕ Nat) × Dy)} (h : m_X11_when σ p0 p1 p2 p3 p4 δ = some r) : CTX yX11_when cX11_when 6 (some .int) 11 271 [.ref p0, .int p1, .int p2, .int p3, .int p4] σ δ (ox_i r.1, σ, r.2) := CTX_of (by decide +kernel) (Nat.le_of_ble_eq_true rfl) (fun J hI => w_X11_when hI σ p0 p1 p2 p3 p4 δ r h rfl)
def m_X11_either_b36 (σ : St) (δ : Dy) : Option ((Int32 ⊕ Nat) × Dy) :=
  some (Sum.inr 1, δ)
def m_X11_either (σ : St) (p0 : Nat) (p1 : Int32) (p2 : Int32) (p3 : Int32) (p4 : Int32) (δ : Dy) : Option ((Int32 ⊕ Nat) × Dy) :=
  (chk σ 11 p0).bind fun _ => (m_X11_needNode σ p0 p1 δ).bind fun v1 => xel v1 (fun x2 =>
    (chk σ 11 p0).bind fun _ => (m_X11_needNode σ p0 p3 δ).bind fun v3 => xel v3 (fun x4 =>
      (gR σ 11 p0 0).bind fun v5 =>
      (gR σ 5 v5 0).bind fun v6 =>
      (rI σ δ v6 p1).bind fun v7 =>
      if v7 = (4 : Int32) then
        (gR σ 11 p0 0).bind fun v8 =>
        (gR σ 5 v8 0).bind fun v9 =>
        (rI σ δ v9 p3).bind fun v10 =>
        if v10 = (4 : Int32) then
          (m_X11_needWithin σ p2 (0 : Int32) (9 : Int32) δ).bind fun v11 => xel v11 (fun x12 =>
            (m_X11_needWithin σ p4 (0 : Int32) (9 : Int32) δ).bind fun v13 => xel v13 (fun x14 =>
              (chk σ 11 p0).bind fun _ => (m_X11_needRoom σ p0 δ).bind fun v15 => xel v15 (fun x16 =>
                (gR σ 11 p0 0).bind fun v17 =>
                (chk σ 5 v17).bind fun _ => (m_X5_add σ v17 (5 : Int32) (0 : Int32) p2 p4 p1 p3 δ).bind fun v18 =>
                some (Sum.inl v18.1, v18.2)) (fun e => (Sum.inr e, δ))) (fun e => (Sum.inr e, δ))) (fun e => (Sum.inr e, δ))
        else
          m_X11_either_b36 σ δ
      else
        m_X11_either_b36 σ δ) (fun e => (Sum.inr e, δ))) (fun e => (Sum.inr e, δ))
set_option maxHeartbeats 4000000 in
set_option maxRecDepth 100000 in
theorem w_X11_either_b36 {J : JT} {an : AX} (hI : IsX cX11_either 5 RX11 "either" 10 251 (some .int) an J) (σ : St) (δ : Dy) : SJ (m_X11_either_b36 σ δ) (PXI σ an) (J 36 [] [] (bX an) σ δ) := by
  have hJ := hI.cor
  unfold m_X11_either_b36
  exact sx_throw hI (text := "a node is no WHEN") tx_103_107 (by decide) rfl (by decide) (by decide) (Nat.le_of_ble_eq_true rfl) dX11_either_36 dX11_either_39 dX11_either_40 dX11_either_42 dX11_either_45 (fun h => h)
set_option maxHeartbeats 4000000 in
set_option maxRecDepth 100000 in
theorem w_X11_either {J : JT} {an : AX} (hI : IsX cX11_either 5 RX11 "either" 10 251 (some .int) an J) (σ : St) (p0 : Nat) (p1 : Int32) (p2 : Int32) (p3 : Int32) (p4 : Int32) (δ : Dy) : SJ (m_X11_either σ p0 p1 p2 p3 p4 δ) (PXI σ an) (J 0 [(0, .ref p0), (1, .int p1), (2, .int p2), (3, .int p3), (4, .int p4)] [] (bX an) σ δ) := by
  have hJ := hI.cor
  unfold m_X11_either
  refine sj (j_aload_n hJ dX11_either_0 rfl 0 rfl) ?_
  refine sj (j_iload_n hJ dX11_either_1 rfl 1 rfl) ?_
  refine sx_callVvp hI [.int p1] (st := []) (fr' := 9) (lo' := 229) ml_X11_90 hc_11 (by decide) (by decide) (Nat.le_of_ble_eq_true rfl) rfl dX11_either_2 rfl (fun _ h9 => ct_X11_needNode h9) (fun x2 => ?_) (fun e h => h)
  refine sj (j_aload_n hJ dX11_either_5 rfl 0 rfl) ?_
  refine sj (j_iload_n hJ dX11_either_6 rfl 3 rfl) ?_
  refine sx_callVvp hI [.int p3] (st := []) (fr' := 9) (lo' := 229) ml_X11_90 hc_11 (by decide) (by decide) (Nat.le_of_ble_eq_true rfl) rfl dX11_either_7 rfl (fun _ h9 => ct_X11_needNode h9) (fun x4 => ?_) (fun e h => h)
  refine sj (j_aload_n hJ dX11_either_10 rfl 0 rfl) ?_
  refine sj_gR hJ fl_X11_10 rfl dX11_either_11 (fun v5 => ?_)
  refine sj_gR hJ fl_X11_100 rfl dX11_either_14 (fun v6 => ?_)
  refine sj (j_iload_n hJ dX11_either_17 rfl 1 rfl) ?_
  refine sj_rI hJ dX11_either_18 (fun v7 => ?_)
  refine sj (j_iconst hJ (v := 4) dX11_either_19 ic_4) ?_
  refine sj_if (j_icmp_ne hJ (tgt := 36) dX11_either_20 (by decide)) (fun _ => ?_) (fun _ => ?_)
  · refine sj (j_aload_n hJ dX11_either_23 rfl 0 rfl) ?_
    refine sj_gR hJ fl_X11_10 rfl dX11_either_24 (fun v8 => ?_)
    refine sj_gR hJ fl_X11_100 rfl dX11_either_27 (fun v9 => ?_)
    refine sj (j_iload_n hJ dX11_either_30 rfl 3 rfl) ?_
    refine sj_rI hJ dX11_either_31 (fun v10 => ?_)
    refine sj (j_iconst hJ (v := 4) dX11_either_32 ic_4) ?_
    refine sj_if (j_icmp_eq hJ (tgt := 46) dX11_either_33 (by decide)) (fun _ => ?_) (fun _ => ?_)
    · refine sj (j_iload_n hJ dX11_either_46 rfl 2 rfl) ?_
      refine sj (j_iconst hJ (v := 0) dX11_either_47 ic_0) ?_
      refine sj (j_bipush hJ (v := 9) dX11_either_48 ib_9) ?_
      refine sx_callSvp hI [.int p2, .int (0 : Int32), .int (9 : Int32)] (st := []) (fr' := 9) (lo' := 229) ml_X11_108 (by decide) (by decide) (Nat.le_of_ble_eq_true rfl) rfl dX11_either_50 rfl (fun _ h9 => ct_X11_needWithin h9) (fun x12 => ?_) (fun e h => h)
      refine sj (j_iload hJ dX11_either_53 4 rfl) ?_
      refine sj (j_iconst hJ (v := 0) dX11_either_55 ic_0) ?_
      refine sj (j_bipush hJ (v := 9) dX11_either_56 ib_9) ?_
      refine sx_callSvp hI [.int p4, .int (0 : Int32), .int (9 : Int32)] (st := []) (fr' := 9) (lo' := 229) ml_X11_108 (by decide) (by decide) (Nat.le_of_ble_eq_true rfl) rfl dX11_either_58 rfl (fun _ h9 => ct_X11_needWithin h9) (fun x14 => ?_) (fun e h => h)
      refine sj (j_aload_n hJ dX11_either_61 rfl 0 rfl) ?_
      refine sx_callVvp hI [] (st := []) (fr' := 9) (lo' := 229) ml_X11_79 hc_11 (by decide) (by decide) (Nat.le_of_ble_eq_true rfl) rfl dX11_either_62 rfl (fun _ h9 => ct_X11_needRoom h9) (fun x16 => ?_) (fun e h => h)
      refine sj (j_aload_n hJ dX11_either_65 rfl 0 rfl) ?_
      refine sj_gR hJ fl_X11_10 rfl dX11_either_66 (fun v17 => ?_)
      refine sj (j_iconst hJ (v := 5) dX11_either_69 ic_5) ?_
      refine sj (j_iconst hJ (v := 0) dX11_either_70 ic_0) ?_
      refine sj (j_iload_n hJ dX11_either_71 rfl 2 rfl) ?_
      refine sj (j_iload hJ dX11_either_72 4 rfl) ?_
      refine sj (j_iload_n hJ dX11_either_74 rfl 1 rfl) ?_
      refine sj (j_iload_n hJ dX11_either_75 rfl 3 rfl) ?_
      refine sj_callVi hJ [.int (5 : Int32), .int (0 : Int32), .int p2, .int p4, .int p1, .int p3] (st := []) (fr' := 0) (lo' := 0) ml_X11_82 hc_5 (by decide) (by decide) (Nat.le_of_ble_eq_true rfl) dX11_either_76 rfl (fun _ h9 => ct_X5_add h9) (fun v18 => ?_)
      exact sx_iret hI dX11_either_79 (fun h => h)
    · refine sj (j_sub hJ (L' := []) [] rfl) ?_
      exact w_X11_either_b36 hI σ δ
  · refine sj (j_sub hJ (L' := []) [] rfl) ?_
    exact w_X11_either_b36 hI σ δ
theorem ct_X11_either {σ : St} {p0 : Nat} {p1 : Int32} {p2 : Int32} {p3 : Int32} {p4 : Int32} {δ : Dy} {r : ((Int32 ⊕ Nat) × Dy)} (h : m_X11_either σ p0 p1 p2 p3 p4 δ = some r) : CTX yX11_either cX11_either 5 (some .int) 10 251 [.ref p0, .int p1, .int p2, .int p3, .int p4] σ δ (ox_i r.1, σ, r.2) := CTX_of (by decide +kernel) (Nat.le_of_ble_eq_true rfl) (fun J hI => w_X11_either hI σ p0 p1 p2 p3 p4 δ r h rfl)
def m_X11_hide (σ : St) (p0 : Nat) (p1 : Int32) (p2 : Int32) (δ : Dy) : Option ((Int32 ⊕ Nat) × Dy) :=
  (chk σ 11 p0).bind fun _ => (m_X11_needNode σ p0 p2 δ).bind fun v1 => xel v1 (fun x2 =>
    (m_X11_needWithin σ p1 (0 : Int32) (3 : Int32) δ).bind fun v3 => xel v3 (fun x4 =>
      (chk σ 11 p0).bind fun _ => (m_X11_needRoom σ p0 δ).bind fun v5 => xel v5 (fun x6 =>
        (gR σ 11 p0 0).bind fun v7 =>
        (chk σ 5 v7).bind fun _ => (m_X5_add σ v7 (6 : Int32) p1 (0 : Int32) (0 : Int32) p2 (-1 : Int32) δ).bind fun v8 =>
        some (Sum.inl v8.1, v8.2)) (fun e => (Sum.inr e, δ))) (fun e => (Sum.inr e, δ))) (fun e => (Sum.inr e, δ))
set_option maxHeartbeats 4000000 in
set_option maxRecDepth 100000 in
theorem w_X11_hide {J : JT} {an : AX} (hI : IsX cX11_hide 3 RX11 "hide" 10 251 (some .int) an J) (σ : St) (p0 : Nat) (p1 : Int32) (p2 : Int32) (δ : Dy) : SJ (m_X11_hide σ p0 p1 p2 δ) (PXI σ an) (J 0 [(0, .ref p0), (1, .int p1), (2, .int p2)] [] (bX an) σ δ) := by
  have hJ := hI.cor
  unfold m_X11_hide
  refine sj (j_aload_n hJ dX11_hide_0 rfl 0 rfl) ?_
  refine sj (j_iload_n hJ dX11_hide_1 rfl 2 rfl) ?_
  refine sx_callVvp hI [.int p2] (st := []) (fr' := 9) (lo' := 229) ml_X11_90 hc_11 (by decide) (by decide) (Nat.le_of_ble_eq_true rfl) rfl dX11_hide_2 rfl (fun _ h9 => ct_X11_needNode h9) (fun x2 => ?_) (fun e h => h)
  refine sj (j_iload_n hJ dX11_hide_5 rfl 1 rfl) ?_
  refine sj (j_iconst hJ (v := 0) dX11_hide_6 ic_0) ?_
  refine sj (j_iconst hJ (v := 3) dX11_hide_7 ic_3) ?_
  refine sx_callSvp hI [.int p1, .int (0 : Int32), .int (3 : Int32)] (st := []) (fr' := 9) (lo' := 229) ml_X11_108 (by decide) (by decide) (Nat.le_of_ble_eq_true rfl) rfl dX11_hide_8 rfl (fun _ h9 => ct_X11_needWithin h9) (fun x4 => ?_) (fun e h => h)
  refine sj (j_aload_n hJ dX11_hide_11 rfl 0 rfl) ?_
  refine sx_callVvp hI [] (st := []) (fr' := 9) (lo' := 229) ml_X11_79 hc_11 (by decide) (by decide) (Nat.le_of_ble_eq_true rfl) rfl dX11_hide_12 rfl (fun _ h9 => ct_X11_needRoom h9) (fun x6 => ?_) (fun e h => h)
  refine sj (j_aload_n hJ dX11_hide_15 rfl 0 rfl) ?_
  refine sj_gR hJ fl_X11_10 rfl dX11_hide_16 (fun v7 => ?_)
  refine sj (j_bipush hJ (v := 6) dX11_hide_19 ib_6) ?_
  refine sj (j_iload_n hJ dX11_hide_21 rfl 1 rfl) ?_
  refine sj (j_iconst hJ (v := 0) dX11_hide_22 ic_0) ?_
  refine sj (j_iconst hJ (v := 0) dX11_hide_23 ic_0) ?_
  refine sj (j_iload_n hJ dX11_hide_24 rfl 2 rfl) ?_
  refine sj (j_iconst hJ (v := -1) dX11_hide_25 ic_m1) ?_
  refine sj_callVi hJ [.int (6 : Int32), .int p1, .int (0 : Int32), .int (0 : Int32), .int p2, .int (-1 : Int32)] (st := []) (fr' := 0) (lo' := 0) ml_X11_82 hc_5 (by decide) (by decide) (Nat.le_of_ble_eq_true rfl) dX11_hide_26 rfl (fun _ h9 => ct_X5_add h9) (fun v8 => ?_)
  exact sx_iret hI dX11_hide_29 (fun h => h)
theorem ct_X11_hide {σ : St} {p0 : Nat} {p1 : Int32} {p2 : Int32} {δ : Dy} {r : ((Int32 ⊕ Nat) × Dy)} (h : m_X11_hide σ p0 p1 p2 δ = some r) : CTX yX11_hide cX11_hide 3 (some .int) 10 251 [.ref p0, .int p1, .int p2] σ δ (ox_i r.1, σ, r.2) := CTX_of (by decide +kernel) (Nat.le_of_ble_eq_true rfl) (fun J hI => w_X11_hide hI σ p0 p1 p2 δ r h rfl)
def m_X11_needDefinition_b10 (σ : St) (δ : Dy) : Option (Unit ⊕ Nat) :=
  some (Sum.inr 2)
def m_X11_needDefinition (σ : St) (p0 : Nat) (p1 : Int32) (δ : Dy) : Option (Unit ⊕ Nat) :=
  if p1 < 0 then
    m_X11_needDefinition_b10 σ δ
  else
    if p1 < (6 : Int32) then
      some (Sum.inl ())
    else
      m_X11_needDefinition_b10 σ δ
set_option maxHeartbeats 4000000 in
set_option maxRecDepth 100000 in
theorem w_X11_needDefinition_b10 {J : JT} {an : AX} (hI : IsX cX11_needDefinition 2 RX11 "needDefinition" 9 229 none an J) (σ : St) (δ : Dy) : SJ (m_X11_needDefinition_b10 σ δ) (PXVp σ δ an) (J 10 [] [] (bX an) σ δ) := by
  have hJ := hI.cor
  unfold m_X11_needDefinition_b10
  exact sx_throwW hI (text := "there is no such definition") tx_175_179 (by decide) rfl (by decide) (by decide) (Nat.le_of_ble_eq_true rfl) dX11_needDefinition_10 dX11_needDefinition_13 dX11_needDefinition_14 dX11_needDefinition_17 dX11_needDefinition_20 (fun h => h)
set_option maxHeartbeats 4000000 in
set_option maxRecDepth 100000 in
theorem w_X11_needDefinition {J : JT} {an : AX} (hI : IsX cX11_needDefinition 2 RX11 "needDefinition" 9 229 none an J) (σ : St) (p0 : Nat) (p1 : Int32) (δ : Dy) : SJ (m_X11_needDefinition σ p0 p1 δ) (PXVp σ δ an) (J 0 [(0, .ref p0), (1, .int p1)] [] (bX an) σ δ) := by
  have hJ := hI.cor
  unfold m_X11_needDefinition
  refine sj (j_iload_n hJ dX11_needDefinition_0 rfl 1 rfl) ?_
  refine sj_if (j_if_lt hJ (tgt := 10) dX11_needDefinition_1 (by decide)) (fun _ => ?_) (fun _ => ?_)
  · refine sj (j_sub hJ (L' := []) [] rfl) ?_
    exact w_X11_needDefinition_b10 hI σ δ
  · refine sj (j_iload_n hJ dX11_needDefinition_4 rfl 1 rfl) ?_
    refine sj (j_bipush hJ (v := 6) dX11_needDefinition_5 ib_6) ?_
    refine sj_if (j_icmp_lt hJ (tgt := 21) dX11_needDefinition_7 (by decide)) (fun _ => ?_) (fun _ => ?_)
    · exact sx_vret hI dX11_needDefinition_21 (fun h => h)
    · refine sj (j_sub hJ (L' := []) [] rfl) ?_
      exact w_X11_needDefinition_b10 hI σ δ
theorem ct_X11_needDefinition {σ : St} {p0 : Nat} {p1 : Int32} {δ : Dy} {r : (Unit ⊕ Nat)} (h : m_X11_needDefinition σ p0 p1 δ = some r) : CTX yX11_needDefinition cX11_needDefinition 2 none 9 229 [.ref p0, .int p1] σ δ (ox_v r, σ, δ) := CTX_of (by decide +kernel) (Nat.le_of_ble_eq_true rfl) (fun J hI => w_X11_needDefinition hI σ p0 p1 δ r h rfl)
def m_X11_call (σ : St) (p0 : Nat) (p1 : Int32) (p2 : Int32) (p3 : Int32) (δ : Dy) : Option ((Int32 ⊕ Nat) × Dy) :=
  (chk σ 11 p0).bind fun _ => (m_X11_needDefinition σ p0 p1 δ).bind fun v1 => xel v1 (fun x2 =>
    (m_X11_needTerms σ p2 p3 δ).bind fun v3 => xel v3 (fun x4 =>
      (chk σ 11 p0).bind fun _ => (m_X11_needRoom σ p0 δ).bind fun v5 => xel v5 (fun x6 =>
        (gR σ 11 p0 0).bind fun v7 =>
        (chk σ 5 v7).bind fun _ => (m_X5_add σ v7 (7 : Int32) p1 p2 p3 (-1 : Int32) (-1 : Int32) δ).bind fun v8 =>
        some (Sum.inl v8.1, v8.2)) (fun e => (Sum.inr e, δ))) (fun e => (Sum.inr e, δ))) (fun e => (Sum.inr e, δ))
set_option maxHeartbeats 4000000 in
set_option maxRecDepth 100000 in
theorem w_X11_call {J : JT} {an : AX} (hI : IsX cX11_call 4 RX11 "call" 10 250 (some .int) an J) (σ : St) (p0 : Nat) (p1 : Int32) (p2 : Int32) (p3 : Int32) (δ : Dy) : SJ (m_X11_call σ p0 p1 p2 p3 δ) (PXI σ an) (J 0 [(0, .ref p0), (1, .int p1), (2, .int p2), (3, .int p3)] [] (bX an) σ δ) := by
  have hJ := hI.cor
  unfold m_X11_call
  refine sj (j_aload_n hJ dX11_call_0 rfl 0 rfl) ?_
  refine sj (j_iload_n hJ dX11_call_1 rfl 1 rfl) ?_
  refine sx_callVvp hI [.int p1] (st := []) (fr' := 9) (lo' := 229) ml_X11_112 hc_11 (by decide) (by decide) (Nat.le_of_ble_eq_true rfl) rfl dX11_call_2 rfl (fun _ h9 => ct_X11_needDefinition h9) (fun x2 => ?_) (fun e h => h)
  refine sj (j_iload_n hJ dX11_call_5 rfl 2 rfl) ?_
  refine sj (j_iload_n hJ dX11_call_6 rfl 3 rfl) ?_
  refine sx_callSvp hI [.int p2, .int p3] (st := []) (fr' := 9) (lo' := 229) ml_X11_75 (by decide) (by decide) (Nat.le_of_ble_eq_true rfl) rfl dX11_call_7 rfl (fun _ h9 => ct_X11_needTerms h9) (fun x4 => ?_) (fun e h => h)
  refine sj (j_aload_n hJ dX11_call_10 rfl 0 rfl) ?_
  refine sx_callVvp hI [] (st := []) (fr' := 9) (lo' := 229) ml_X11_79 hc_11 (by decide) (by decide) (Nat.le_of_ble_eq_true rfl) rfl dX11_call_11 rfl (fun _ h9 => ct_X11_needRoom h9) (fun x6 => ?_) (fun e h => h)
  refine sj (j_aload_n hJ dX11_call_14 rfl 0 rfl) ?_
  refine sj_gR hJ fl_X11_10 rfl dX11_call_15 (fun v7 => ?_)
  refine sj (j_bipush hJ (v := 7) dX11_call_18 ib_7) ?_
  refine sj (j_iload_n hJ dX11_call_20 rfl 1 rfl) ?_
  refine sj (j_iload_n hJ dX11_call_21 rfl 2 rfl) ?_
  refine sj (j_iload_n hJ dX11_call_22 rfl 3 rfl) ?_
  refine sj (j_iconst hJ (v := -1) dX11_call_23 ic_m1) ?_
  refine sj (j_iconst hJ (v := -1) dX11_call_24 ic_m1) ?_
  refine sj_callVi hJ [.int (7 : Int32), .int p1, .int p2, .int p3, .int (-1 : Int32), .int (-1 : Int32)] (st := []) (fr' := 0) (lo' := 0) ml_X11_82 hc_5 (by decide) (by decide) (Nat.le_of_ble_eq_true rfl) dX11_call_25 rfl (fun _ h9 => ct_X5_add h9) (fun v8 => ?_)
  exact sx_iret hI dX11_call_28 (fun h => h)
theorem ct_X11_call {σ : St} {p0 : Nat} {p1 : Int32} {p2 : Int32} {p3 : Int32} {δ : Dy} {r : ((Int32 ⊕ Nat) × Dy)} (h : m_X11_call σ p0 p1 p2 p3 δ = some r) : CTX yX11_call cX11_call 4 (some .int) 10 250 [.ref p0, .int p1, .int p2, .int p3] σ δ (ox_i r.1, σ, r.2) := CTX_of (by decide +kernel) (Nat.le_of_ble_eq_true rfl) (fun J hI => w_X11_call hI σ p0 p1 p2 p3 δ r h rfl)
def m_X11_next (σ : St) (p0 : Nat) (p1 : Int32) (δ : Dy) : Option ((Int32 ⊕ Nat) × Dy) :=
  (chk σ 11 p0).bind fun _ => (m_X11_needNode σ p0 p1 δ).bind fun v1 => xel v1 (fun x2 =>
    (chk σ 11 p0).bind fun _ => (m_X11_needRoom σ p0 δ).bind fun v3 => xel v3 (fun x4 =>
      (gR σ 11 p0 0).bind fun v5 =>
      (chk σ 5 v5).bind fun _ => (m_X5_add σ v5 (8 : Int32) (0 : Int32) (0 : Int32) (0 : Int32) p1 (-1 : Int32) δ).bind fun v6 =>
      some (Sum.inl v6.1, v6.2)) (fun e => (Sum.inr e, δ))) (fun e => (Sum.inr e, δ))
set_option maxHeartbeats 4000000 in
set_option maxRecDepth 100000 in
theorem w_X11_next {J : JT} {an : AX} (hI : IsX cX11_next 2 RX11 "next" 10 250 (some .int) an J) (σ : St) (p0 : Nat) (p1 : Int32) (δ : Dy) : SJ (m_X11_next σ p0 p1 δ) (PXI σ an) (J 0 [(0, .ref p0), (1, .int p1)] [] (bX an) σ δ) := by
  have hJ := hI.cor
  unfold m_X11_next
  refine sj (j_aload_n hJ dX11_next_0 rfl 0 rfl) ?_
  refine sj (j_iload_n hJ dX11_next_1 rfl 1 rfl) ?_
  refine sx_callVvp hI [.int p1] (st := []) (fr' := 9) (lo' := 229) ml_X11_90 hc_11 (by decide) (by decide) (Nat.le_of_ble_eq_true rfl) rfl dX11_next_2 rfl (fun _ h9 => ct_X11_needNode h9) (fun x2 => ?_) (fun e h => h)
  refine sj (j_aload_n hJ dX11_next_5 rfl 0 rfl) ?_
  refine sx_callVvp hI [] (st := []) (fr' := 9) (lo' := 229) ml_X11_79 hc_11 (by decide) (by decide) (Nat.le_of_ble_eq_true rfl) rfl dX11_next_6 rfl (fun _ h9 => ct_X11_needRoom h9) (fun x4 => ?_) (fun e h => h)
  refine sj (j_aload_n hJ dX11_next_9 rfl 0 rfl) ?_
  refine sj_gR hJ fl_X11_10 rfl dX11_next_10 (fun v5 => ?_)
  refine sj (j_bipush hJ (v := 8) dX11_next_13 ib_8) ?_
  refine sj (j_iconst hJ (v := 0) dX11_next_15 ic_0) ?_
  refine sj (j_iconst hJ (v := 0) dX11_next_16 ic_0) ?_
  refine sj (j_iconst hJ (v := 0) dX11_next_17 ic_0) ?_
  refine sj (j_iload_n hJ dX11_next_18 rfl 1 rfl) ?_
  refine sj (j_iconst hJ (v := -1) dX11_next_19 ic_m1) ?_
  refine sj_callVi hJ [.int (8 : Int32), .int (0 : Int32), .int (0 : Int32), .int (0 : Int32), .int p1, .int (-1 : Int32)] (st := []) (fr' := 0) (lo' := 0) ml_X11_82 hc_5 (by decide) (by decide) (Nat.le_of_ble_eq_true rfl) dX11_next_20 rfl (fun _ h9 => ct_X5_add h9) (fun v6 => ?_)
  exact sx_iret hI dX11_next_23 (fun h => h)
theorem ct_X11_next {σ : St} {p0 : Nat} {p1 : Int32} {δ : Dy} {r : ((Int32 ⊕ Nat) × Dy)} (h : m_X11_next σ p0 p1 δ = some r) : CTX yX11_next cX11_next 2 (some .int) 10 250 [.ref p0, .int p1] σ δ (ox_i r.1, σ, r.2) := CTX_of (by decide +kernel) (Nat.le_of_ble_eq_true rfl) (fun J hI => w_X11_next hI σ p0 p1 δ r h rfl)
def m_X11_each (σ : St) (p0 : Nat) (p1 : Int32) (δ : Dy) : Option ((Int32 ⊕ Nat) × Dy) :=
  (chk σ 11 p0).bind fun _ => (m_X11_needNode σ p0 p1 δ).bind fun v1 => xel v1 (fun x2 =>
    (chk σ 11 p0).bind fun _ => (m_X11_needRoom σ p0 δ).bind fun v3 => xel v3 (fun x4 =>
      (gR σ 11 p0 0).bind fun v5 =>
      (chk σ 5 v5).bind fun _ => (m_X5_add σ v5 (9 : Int32) (0 : Int32) (0 : Int32) (0 : Int32) p1 (-1 : Int32) δ).bind fun v6 =>
      some (Sum.inl v6.1, v6.2)) (fun e => (Sum.inr e, δ))) (fun e => (Sum.inr e, δ))
set_option maxHeartbeats 4000000 in
set_option maxRecDepth 100000 in
theorem w_X11_each {J : JT} {an : AX} (hI : IsX cX11_each 2 RX11 "each" 10 250 (some .int) an J) (σ : St) (p0 : Nat) (p1 : Int32) (δ : Dy) : SJ (m_X11_each σ p0 p1 δ) (PXI σ an) (J 0 [(0, .ref p0), (1, .int p1)] [] (bX an) σ δ) := by
  have hJ := hI.cor
  unfold m_X11_each
  refine sj (j_aload_n hJ dX11_each_0 rfl 0 rfl) ?_
  refine sj (j_iload_n hJ dX11_each_1 rfl 1 rfl) ?_
  refine sx_callVvp hI [.int p1] (st := []) (fr' := 9) (lo' := 229) ml_X11_90 hc_11 (by decide) (by decide) (Nat.le_of_ble_eq_true rfl) rfl dX11_each_2 rfl (fun _ h9 => ct_X11_needNode h9) (fun x2 => ?_) (fun e h => h)
  refine sj (j_aload_n hJ dX11_each_5 rfl 0 rfl) ?_
  refine sx_callVvp hI [] (st := []) (fr' := 9) (lo' := 229) ml_X11_79 hc_11 (by decide) (by decide) (Nat.le_of_ble_eq_true rfl) rfl dX11_each_6 rfl (fun _ h9 => ct_X11_needRoom h9) (fun x4 => ?_) (fun e h => h)
  refine sj (j_aload_n hJ dX11_each_9 rfl 0 rfl) ?_
  refine sj_gR hJ fl_X11_10 rfl dX11_each_10 (fun v5 => ?_)
  refine sj (j_bipush hJ (v := 9) dX11_each_13 ib_9) ?_
  refine sj (j_iconst hJ (v := 0) dX11_each_15 ic_0) ?_
  refine sj (j_iconst hJ (v := 0) dX11_each_16 ic_0) ?_
  refine sj (j_iconst hJ (v := 0) dX11_each_17 ic_0) ?_
  refine sj (j_iload_n hJ dX11_each_18 rfl 1 rfl) ?_
  refine sj (j_iconst hJ (v := -1) dX11_each_19 ic_m1) ?_
  refine sj_callVi hJ [.int (9 : Int32), .int (0 : Int32), .int (0 : Int32), .int (0 : Int32), .int p1, .int (-1 : Int32)] (st := []) (fr' := 0) (lo' := 0) ml_X11_82 hc_5 (by decide) (by decide) (Nat.le_of_ble_eq_true rfl) dX11_each_20 rfl (fun _ h9 => ct_X5_add h9) (fun v6 => ?_)
  exact sx_iret hI dX11_each_23 (fun h => h)
theorem ct_X11_each {σ : St} {p0 : Nat} {p1 : Int32} {δ : Dy} {r : ((Int32 ⊕ Nat) × Dy)} (h : m_X11_each σ p0 p1 δ = some r) : CTX yX11_each cX11_each 2 (some .int) 10 250 [.ref p0, .int p1] σ δ (ox_i r.1, σ, r.2) := CTX_of (by decide +kernel) (Nat.le_of_ble_eq_true rfl) (fun J hI => w_X11_each hI σ p0 p1 δ r h rfl)
def m_X11_unless_b43 (σ : St) (p2 : Int32) (p3 : Int32) (p5 : Int32) (p6 : Int32) (q0 : Nat) (q1 : Int32) (δ : Dy) : Option ((Int32 ⊕ Nat) × Dy) :=
  (chk σ 5 q0).bind fun _ => (m_X5_add σ q0 q1 p2 p3 p6 p5 (-1 : Int32) δ).bind fun v11 =>
  some (Sum.inl v11.1, v11.2)
def m_X11_unless (σ : St) (p0 : Nat) (p1 : Int32) (p2 : Int32) (p3 : Int32) (p4 : Int32) (p5 : Int32) (δ : Dy) : Option ((Int32 ⊕ Nat) × Dy) :=
  (chk σ 11 p0).bind fun _ => (m_X11_needNode σ p0 p5 δ).bind fun v1 => xel v1 (fun x2 =>
    (m_X11_needCondition σ p2 δ).bind fun v3 => xel v3 (fun x4 =>
      (m_X11_asked σ p2 p4 δ).bind fun v5 =>
      (m_X11_needTerms σ p3 v5 δ).bind fun v6 => xel v6 (fun x7 =>
        (chk σ 11 p0).bind fun _ => (m_X11_needRoom σ p0 δ).bind fun v8 => xel v8 (fun x9 =>
          (gR σ 11 p0 0).bind fun v10 =>
          if p1 = 0 then
            m_X11_unless_b43 σ p2 p3 p5 v5 v10 (10 : Int32) δ
          else
            m_X11_unless_b43 σ p2 p3 p5 v5 v10 (11 : Int32) δ) (fun e => (Sum.inr e, δ))) (fun e => (Sum.inr e, δ))) (fun e => (Sum.inr e, δ))) (fun e => (Sum.inr e, δ))
set_option maxHeartbeats 4000000 in
set_option maxRecDepth 100000 in
theorem w_X11_unless_b43 {J : JT} {an : AX} (hI : IsX cX11_unless 7 RX11 "unless" 11 271 (some .int) an J) (σ : St) (p2 : Int32) (p3 : Int32) (p5 : Int32) (p6 : Int32) (q0 : Nat) (q1 : Int32) (δ : Dy) : SJ (m_X11_unless_b43 σ p2 p3 p5 p6 q0 q1 δ) (PXI σ an) (J 43 [(2, .int p2), (3, .int p3), (5, .int p5), (6, .int p6)] [.int q1, .ref q0] (bX an) σ δ) := by
  have hJ := hI.cor
  unfold m_X11_unless_b43
  refine sj (j_iload_n hJ dX11_unless_43 rfl 0 rfl) ?_
  refine sj (j_iload_n hJ dX11_unless_44 rfl 1 rfl) ?_
  refine sj (j_iload hJ dX11_unless_45 3 rfl) ?_
  refine sj (j_iload hJ dX11_unless_47 2 rfl) ?_
  refine sj (j_iconst hJ (v := -1) dX11_unless_49 ic_m1) ?_
  refine sj_callVi hJ [.int q1, .int p2, .int p3, .int p6, .int p5, .int (-1 : Int32)] (st := []) (fr' := 0) (lo' := 0) ml_X11_82 hc_5 (by decide) (by decide) (Nat.le_of_ble_eq_true rfl) dX11_unless_50 rfl (fun _ h9 => ct_X5_add h9) (fun v11 => ?_)
  exact sx_iret hI dX11_unless_53 (fun h => h)
set_option maxHeartbeats 4000000 in
set_option maxRecDepth 100000 in
theorem w_X11_unless {J : JT} {an : AX} (hI : IsX cX11_unless 7 RX11 "unless" 11 271 (some .int) an J) (σ : St) (p0 : Nat) (p1 : Int32) (p2 : Int32) (p3 : Int32) (p4 : Int32) (p5 : Int32) (δ : Dy) : SJ (m_X11_unless σ p0 p1 p2 p3 p4 p5 δ) (PXI σ an) (J 0 [(0, .ref p0), (1, .int p1), (2, .int p2), (3, .int p3), (4, .int p4), (5, .int p5)] [] (bX an) σ δ) := by
  have hJ := hI.cor
  unfold m_X11_unless
  refine sj (j_aload_n hJ dX11_unless_0 rfl 0 rfl) ?_
  refine sj (j_iload hJ dX11_unless_1 5 rfl) ?_
  refine sx_callVvp hI [.int p5] (st := []) (fr' := 9) (lo' := 229) ml_X11_90 hc_11 (by decide) (by decide) (Nat.le_of_ble_eq_true rfl) rfl dX11_unless_3 rfl (fun _ h9 => ct_X11_needNode h9) (fun x2 => ?_) (fun e h => h)
  refine sj (j_iload_n hJ dX11_unless_6 rfl 2 rfl) ?_
  refine sx_callSvp hI [.int p2] (st := []) (fr' := 10) (lo' := 251) ml_X11_93 (by decide) (by decide) (Nat.le_of_ble_eq_true rfl) rfl dX11_unless_7 rfl (fun _ h9 => ct_X11_needCondition h9) (fun x4 => ?_) (fun e h => h)
  refine sj (j_iload_n hJ dX11_unless_10 rfl 2 rfl) ?_
  refine sj (j_iload hJ dX11_unless_11 4 rfl) ?_
  refine sj_callSip hJ [.int p2, .int p4] (st := []) (fr' := 0) (lo' := 0) ml_X11_96 (by decide) (by decide) (Nat.le_of_ble_eq_true rfl) dX11_unless_13 rfl (fun _ h9 => ct_X11_asked h9) (fun v5 => ?_)
  refine sj (j_istore hJ (L' := [(6, .int v5), (0, .ref p0), (1, .int p1), (2, .int p2), (3, .int p3), (4, .int p4), (5, .int p5)]) dX11_unless_16 (by decide) rfl) ?_
  refine sj (j_iload_n hJ dX11_unless_18 rfl 4 rfl) ?_
  refine sj (j_iload hJ dX11_unless_19 0 rfl) ?_
  refine sx_callSvp hI [.int p3, .int v5] (st := []) (fr' := 9) (lo' := 229) ml_X11_75 (by decide) (by decide) (Nat.le_of_ble_eq_true rfl) rfl dX11_unless_21 rfl (fun _ h9 => ct_X11_needTerms h9) (fun x7 => ?_) (fun e h => h)
  refine sj (j_aload_n hJ dX11_unless_24 rfl 1 rfl) ?_
  refine sx_callVvp hI [] (st := []) (fr' := 9) (lo' := 229) ml_X11_79 hc_11 (by decide) (by decide) (Nat.le_of_ble_eq_true rfl) rfl dX11_unless_25 rfl (fun _ h9 => ct_X11_needRoom h9) (fun x9 => ?_) (fun e h => h)
  refine sj (j_aload_n hJ dX11_unless_28 rfl 1 rfl) ?_
  refine sj_gR hJ fl_X11_10 rfl dX11_unless_29 (fun v10 => ?_)
  refine sj (j_iload_n hJ dX11_unless_32 rfl 2 rfl) ?_
  refine sj_if (j_if_eq hJ (tgt := 41) dX11_unless_33 (by decide)) (fun _ => ?_) (fun _ => ?_)
  · refine sj (j_bipush hJ (v := 10) dX11_unless_41 ib_10) ?_
    refine sj (j_sub hJ (L' := [(2, .int p2), (3, .int p3), (5, .int p5), (6, .int v5)]) [3, 4, 6, 0] rfl) ?_
    exact w_X11_unless_b43 hI σ p2 p3 p5 v5 v10 (10 : Int32) δ
  · refine sj (j_bipush hJ (v := 11) dX11_unless_36 ib_11) ?_
    refine sj (j_goto hJ (tgt := 43) dX11_unless_38 (by decide)) ?_
    refine sj (j_sub hJ (L' := [(2, .int p2), (3, .int p3), (5, .int p5), (6, .int v5)]) [3, 4, 6, 0] rfl) ?_
    exact w_X11_unless_b43 hI σ p2 p3 p5 v5 v10 (11 : Int32) δ
theorem ct_X11_unless {σ : St} {p0 : Nat} {p1 : Int32} {p2 : Int32} {p3 : Int32} {p4 : Int32} {p5 : Int32} {δ : Dy} {r : ((Int32 ⊕ Nat) × Dy)} (h : m_X11_unless σ p0 p1 p2 p3 p4 p5 δ = some r) : CTX yX11_unless cX11_unless 7 (some .int) 11 271 [.ref p0, .int p1, .int p2, .int p3, .int p4, .int p5] σ δ (ox_i r.1, σ, r.2) := CTX_of (by decide +kernel) (Nat.le_of_ble_eq_true rfl) (fun J hI => w_X11_unless hI σ p0 p1 p2 p3 p4 p5 δ r h rfl)
def m_X11_lot (σ : St) (p0 : Nat) (p1 : Int32) (p2 : Int32) (p3 : Int32) (p4 : Int32) (δ : Dy) : Option ((Int32 ⊕ Nat) × Dy) :=
  (chk σ 11 p0).bind fun _ => (m_X11_needNode σ p0 p2 δ).bind fun v1 => xel v1 (fun x2 =>
    (chk σ 11 p0).bind fun _ => (m_X11_needNode σ p0 p4 δ).bind fun v3 => xel v3 (fun x4 =>
      (m_X11_needWithin σ p1 (1 : Int32) (9 : Int32) δ).bind fun v5 => xel v5 (fun x6 =>
        (m_X11_needWithin σ p3 (1 : Int32) (9 : Int32) δ).bind fun v7 => xel v7 (fun x8 =>
          (chk σ 11 p0).bind fun _ => (m_X11_needRoom σ p0 δ).bind fun v9 => xel v9 (fun x10 =>
            (gR σ 11 p0 0).bind fun v11 =>
            (chk σ 5 v11).bind fun _ => (m_X5_add σ v11 (12 : Int32) (0 : Int32) p1 p3 p2 p4 δ).bind fun v12 =>
            some (Sum.inl v12.1, v12.2)) (fun e => (Sum.inr e, δ))) (fun e => (Sum.inr e, δ))) (fun e => (Sum.inr e, δ))) (fun e => (Sum.inr e, δ))) (fun e => (Sum.inr e, δ))
set_option maxHeartbeats 4000000 in
set_option maxRecDepth 100000 in
theorem w_X11_lot {J : JT} {an : AX} (hI : IsX cX11_lot 5 RX11 "lot" 10 251 (some .int) an J) (σ : St) (p0 : Nat) (p1 : Int32) (p2 : Int32) (p3 : Int32) (p4 : Int32) (δ : Dy) : SJ (m_X11_lot σ p0 p1 p2 p3 p4 δ) (PXI σ an) (J 0 [(0, .ref p0), (1, .int p1), (2, .int p2), (3, .int p3), (4, .int p4)] [] (bX an) σ δ) := by
  have hJ := hI.cor
  unfold m_X11_lot
  refine sj (j_aload_n hJ dX11_lot_0 rfl 0 rfl) ?_
  refine sj (j_iload_n hJ dX11_lot_1 rfl 2 rfl) ?_
  refine sx_callVvp hI [.int p2] (st := []) (fr' := 9) (lo' := 229) ml_X11_90 hc_11 (by decide) (by decide) (Nat.le_of_ble_eq_true rfl) rfl dX11_lot_2 rfl (fun _ h9 => ct_X11_needNode h9) (fun x2 => ?_) (fun e h => h)
  refine sj (j_aload_n hJ dX11_lot_5 rfl 0 rfl) ?_
  refine sj (j_iload hJ dX11_lot_6 4 rfl) ?_
  refine sx_callVvp hI [.int p4] (st := []) (fr' := 9) (lo' := 229) ml_X11_90 hc_11 (by decide) (by decide) (Nat.le_of_ble_eq_true rfl) rfl dX11_lot_8 rfl (fun _ h9 => ct_X11_needNode h9) (fun x4 => ?_) (fun e h => h)
  refine sj (j_iload_n hJ dX11_lot_11 rfl 1 rfl) ?_
  refine sj (j_iconst hJ (v := 1) dX11_lot_12 ic_1) ?_
  refine sj (j_bipush hJ (v := 9) dX11_lot_13 ib_9) ?_
  refine sx_callSvp hI [.int p1, .int (1 : Int32), .int (9 : Int32)] (st := []) (fr' := 9) (lo' := 229) ml_X11_108 (by decide) (by decide) (Nat.le_of_ble_eq_true rfl) rfl dX11_lot_15 rfl (fun _ h9 => ct_X11_needWithin h9) (fun x6 => ?_) (fun e h => h)
  refine sj (j_iload_n hJ dX11_lot_18 rfl 3 rfl) ?_
  refine sj (j_iconst hJ (v := 1) dX11_lot_19 ic_1) ?_
  refine sj (j_bipush hJ (v := 9) dX11_lot_20 ib_9) ?_
  refine sx_callSvp hI [.int p3, .int (1 : Int32), .int (9 : Int32)] (st := []) (fr' := 9) (lo' := 229) ml_X11_108 (by decide) (by decide) (Nat.le_of_ble_eq_true rfl) rfl dX11_lot_22 rfl (fun _ h9 => ct_X11_needWithin h9) (fun x8 => ?_) (fun e h => h)
  refine sj (j_aload_n hJ dX11_lot_25 rfl 0 rfl) ?_
  refine sx_callVvp hI [] (st := []) (fr' := 9) (lo' := 229) ml_X11_79 hc_11 (by decide) (by decide) (Nat.le_of_ble_eq_true rfl) rfl dX11_lot_26 rfl (fun _ h9 => ct_X11_needRoom h9) (fun x10 => ?_) (fun e h => h)
  refine sj (j_aload_n hJ dX11_lot_29 rfl 0 rfl) ?_
  refine sj_gR hJ fl_X11_10 rfl dX11_lot_30 (fun v11 => ?_)
  refine sj (j_bipush hJ (v := 12) dX11_lot_33 ib_12) ?_
  refine sj (j_iconst hJ (v := 0) dX11_lot_35 ic_0) ?_
  refine sj (j_iload_n hJ dX11_lot_36 rfl 1 rfl) ?_
  refine sj (j_iload_n hJ dX11_lot_37 rfl 3 rfl) ?_
  refine sj (j_iload_n hJ dX11_lot_38 rfl 2 rfl) ?_
  refine sj (j_iload hJ dX11_lot_39 4 rfl) ?_
  refine sj_callVi hJ [.int (12 : Int32), .int (0 : Int32), .int p1, .int p3, .int p2, .int p4] (st := []) (fr' := 0) (lo' := 0) ml_X11_82 hc_5 (by decide) (by decide) (Nat.le_of_ble_eq_true rfl) dX11_lot_41 rfl (fun _ h9 => ct_X5_add h9) (fun v12 => ?_)
  exact sx_iret hI dX11_lot_44 (fun h => h)
theorem ct_X11_lot {σ : St} {p0 : Nat} {p1 : Int32} {p2 : Int32} {p3 : Int32} {p4 : Int32} {δ : Dy} {r : ((Int32 ⊕ Nat) × Dy)} (h : m_X11_lot σ p0 p1 p2 p3 p4 δ = some r) : CTX yX11_lot cX11_lot 5 (some .int) 10 251 [.ref p0, .int p1, .int p2, .int p3, .int p4] σ δ (ox_i r.1, σ, r.2) := CTX_of (by decide +kernel) (Nat.le_of_ble_eq_true rfl) (fun J hI => w_X11_lot hI σ p0 p1 p2 p3 p4 δ r h rfl)
def m_X11_attempt (σ : St) (p0 : Nat) (p1 : Int32) (p2 : Int32) (δ : Dy) : Option ((Int32 ⊕ Nat) × Dy) :=
  (chk σ 11 p0).bind fun _ => (m_X11_needNode σ p0 p1 δ).bind fun v1 => xel v1 (fun x2 =>
    (chk σ 11 p0).bind fun _ => (m_X11_needNode σ p0 p2 δ).bind fun v3 => xel v3 (fun x4 =>
      (chk σ 11 p0).bind fun _ => (m_X11_needRoom σ p0 δ).bind fun v5 => xel v5 (fun x6 =>
        (gR σ 11 p0 0).bind fun v7 =>
        (chk σ 5 v7).bind fun _ => (m_X5_add σ v7 (13 : Int32) (0 : Int32) (0 : Int32) (0 : Int32) p1 p2 δ).bind fun v8 =>
        some (Sum.inl v8.1, v8.2)) (fun e => (Sum.inr e, δ))) (fun e => (Sum.inr e, δ))) (fun e => (Sum.inr e, δ))
set_option maxHeartbeats 4000000 in
set_option maxRecDepth 100000 in
theorem w_X11_attempt {J : JT} {an : AX} (hI : IsX cX11_attempt 3 RX11 "attempt" 10 250 (some .int) an J) (σ : St) (p0 : Nat) (p1 : Int32) (p2 : Int32) (δ : Dy) : SJ (m_X11_attempt σ p0 p1 p2 δ) (PXI σ an) (J 0 [(0, .ref p0), (1, .int p1), (2, .int p2)] [] (bX an) σ δ) := by
  have hJ := hI.cor
  unfold m_X11_attempt
  refine sj (j_aload_n hJ dX11_attempt_0 rfl 0 rfl) ?_
  refine sj (j_iload_n hJ dX11_attempt_1 rfl 1 rfl) ?_
  refine sx_callVvp hI [.int p1] (st := []) (fr' := 9) (lo' := 229) ml_X11_90 hc_11 (by decide) (by decide) (Nat.le_of_ble_eq_true rfl) rfl dX11_attempt_2 rfl (fun _ h9 => ct_X11_needNode h9) (fun x2 => ?_) (fun e h => h)
  refine sj (j_aload_n hJ dX11_attempt_5 rfl 0 rfl) ?_
  refine sj (j_iload_n hJ dX11_attempt_6 rfl 2 rfl) ?_
  refine sx_callVvp hI [.int p2] (st := []) (fr' := 9) (lo' := 229) ml_X11_90 hc_11 (by decide) (by decide) (Nat.le_of_ble_eq_true rfl) rfl dX11_attempt_7 rfl (fun _ h9 => ct_X11_needNode h9) (fun x4 => ?_) (fun e h => h)
  refine sj (j_aload_n hJ dX11_attempt_10 rfl 0 rfl) ?_
  refine sx_callVvp hI [] (st := []) (fr' := 9) (lo' := 229) ml_X11_79 hc_11 (by decide) (by decide) (Nat.le_of_ble_eq_true rfl) rfl dX11_attempt_11 rfl (fun _ h9 => ct_X11_needRoom h9) (fun x6 => ?_) (fun e h => h)
  refine sj (j_aload_n hJ dX11_attempt_14 rfl 0 rfl) ?_
  refine sj_gR hJ fl_X11_10 rfl dX11_attempt_15 (fun v7 => ?_)
  refine sj (j_bipush hJ (v := 13) dX11_attempt_18 ib_13) ?_
  refine sj (j_iconst hJ (v := 0) dX11_attempt_20 ic_0) ?_
  refine sj (j_iconst hJ (v := 0) dX11_attempt_21 ic_0) ?_
  refine sj (j_iconst hJ (v := 0) dX11_attempt_22 ic_0) ?_
  refine sj (j_iload_n hJ dX11_attempt_23 rfl 1 rfl) ?_
  refine sj (j_iload_n hJ dX11_attempt_24 rfl 2 rfl) ?_
  refine sj_callVi hJ [.int (13 : Int32), .int (0 : Int32), .int (0 : Int32), .int (0 : Int32), .int p1, .int p2] (st := []) (fr' := 0) (lo' := 0) ml_X11_82 hc_5 (by decide) (by decide) (Nat.le_of_ble_eq_true rfl) dX11_attempt_25 rfl (fun _ h9 => ct_X5_add h9) (fun v8 => ?_)
  exact sx_iret hI dX11_attempt_28 (fun h => h)
theorem ct_X11_attempt {σ : St} {p0 : Nat} {p1 : Int32} {p2 : Int32} {δ : Dy} {r : ((Int32 ⊕ Nat) × Dy)} (h : m_X11_attempt σ p0 p1 p2 δ = some r) : CTX yX11_attempt cX11_attempt 3 (some .int) 10 250 [.ref p0, .int p1, .int p2] σ δ (ox_i r.1, σ, r.2) := CTX_of (by decide +kernel) (Nat.le_of_ble_eq_true rfl) (fun J hI => w_X11_attempt hI σ p0 p1 p2 δ r h rfl)
def m_X11_define (σ : St) (p0 : Nat) (p1 : Int32) (p2 : Int32) (δ : Dy) : Option ((Int32 ⊕ Nat) × Dy) :=
  (chk σ 11 p0).bind fun _ => (m_X11_needDefinition σ p0 p1 δ).bind fun v1 => xel v1 (fun x2 =>
    (chk σ 11 p0).bind fun _ => (m_X11_needNode σ p0 p2 δ).bind fun v3 => xel v3 (fun x4 =>
      (chk σ 11 p0).bind fun _ => (m_X11_note σ p0 (1 : Int32) p1 p2 (0 : Int32) δ).bind fun v5 =>
      (gR σ 11 p0 2).bind fun v6 =>
      (gR σ 10 v6 4).bind fun v7 =>
      (rI σ v5 v7 p1).bind fun v8 =>
      (gR σ 11 p0 2).bind fun v9 =>
      (gR σ 10 v9 4).bind fun v10 =>
      (wI σ v5 v10 p1 p2).bind fun d11 =>
      some (Sum.inl v8, d11)) (fun e => (Sum.inr e, δ))) (fun e => (Sum.inr e, δ))
set_option maxHeartbeats 4000000 in
set_option maxRecDepth 100000 in
theorem w_X11_define {J : JT} {an : AX} (hI : IsX cX11_define 4 RX11 "define" 10 250 (some .int) an J) (σ : St) (p0 : Nat) (p1 : Int32) (p2 : Int32) (δ : Dy) : SJ (m_X11_define σ p0 p1 p2 δ) (PXI σ an) (J 0 [(0, .ref p0), (1, .int p1), (2, .int p2)] [] (bX an) σ δ) := by
  have hJ := hI.cor
  unfold m_X11_define
  refine sj (j_aload_n hJ dX11_define_0 rfl 0 rfl) ?_
  refine sj (j_iload_n hJ dX11_define_1 rfl 1 rfl) ?_
  refine sx_callVvp hI [.int p1] (st := []) (fr' := 9) (lo' := 229) ml_X11_112 hc_11 (by decide) (by decide) (Nat.le_of_ble_eq_true rfl) rfl dX11_define_2 rfl (fun _ h9 => ct_X11_needDefinition h9) (fun x2 => ?_) (fun e h => h)
  refine sj (j_aload_n hJ dX11_define_5 rfl 0 rfl) ?_
  refine sj (j_iload_n hJ dX11_define_6 rfl 2 rfl) ?_
  refine sx_callVvp hI [.int p2] (st := []) (fr' := 9) (lo' := 229) ml_X11_90 hc_11 (by decide) (by decide) (Nat.le_of_ble_eq_true rfl) rfl dX11_define_7 rfl (fun _ h9 => ct_X11_needNode h9) (fun x4 => ?_) (fun e h => h)
  refine sj (j_aload_n hJ dX11_define_10 rfl 0 rfl) ?_
  refine sj (j_iconst hJ (v := 1) dX11_define_11 ic_1) ?_
  refine sj (j_iload_n hJ dX11_define_12 rfl 1 rfl) ?_
  refine sj (j_iload_n hJ dX11_define_13 rfl 2 rfl) ?_
  refine sj (j_iconst hJ (v := 0) dX11_define_14 ic_0) ?_
  refine sj_callVv hJ [.int (1 : Int32), .int p1, .int p2, .int (0 : Int32)] (st := []) (fr' := 0) (lo' := 0) ml_X11_67 hc_11 (by decide) (by decide) (Nat.le_of_ble_eq_true rfl) dX11_define_15 rfl (fun _ h9 => ct_X11_note h9) (fun v5 => ?_)
  refine sj (j_aload_n hJ dX11_define_18 rfl 0 rfl) ?_
  refine sj_gR hJ fl_X11_39 rfl dX11_define_19 (fun v6 => ?_)
  refine sj_gR hJ fl_X11_115 rfl dX11_define_22 (fun v7 => ?_)
  refine sj (j_iload_n hJ dX11_define_25 rfl 1 rfl) ?_
  refine sj_rI hJ dX11_define_26 (fun v8 => ?_)
  refine sj (j_istore_n hJ (L' := [(3, .int v8), (0, .ref p0), (1, .int p1), (2, .int p2)]) dX11_define_27 rfl (by decide) rfl) ?_
  refine sj (j_aload_n hJ dX11_define_28 rfl 1 rfl) ?_
  refine sj_gR hJ fl_X11_39 rfl dX11_define_29 (fun v9 => ?_)
  refine sj_gR hJ fl_X11_115 rfl dX11_define_32 (fun v10 => ?_)
  refine sj (j_iload_n hJ dX11_define_35 rfl 2 rfl) ?_
  refine sj (j_iload_n hJ dX11_define_36 rfl 3 rfl) ?_
  refine sj_wI hJ dX11_define_37 (fun d11 => ?_)
  refine sj (j_iload_n hJ dX11_define_38 rfl 0 rfl) ?_
  exact sx_iret hI dX11_define_39 (fun h => h)
theorem ct_X11_define {σ : St} {p0 : Nat} {p1 : Int32} {p2 : Int32} {δ : Dy} {r : ((Int32 ⊕ Nat) × Dy)} (h : m_X11_define σ p0 p1 p2 δ = some r) : CTX yX11_define cX11_define 4 (some .int) 10 250 [.ref p0, .int p1, .int p2] σ δ (ox_i r.1, σ, r.2) := CTX_of (by decide +kernel) (Nat.le_of_ble_eq_true rfl) (fun J hI => w_X11_define hI σ p0 p1 p2 δ r h rfl)
def m_X11_needPatterns_b28 (σ : St) (δ : Dy) : Option (Unit ⊕ Nat) :=
  some (Sum.inr 1)
def m_X11_needPatterns_b14 (σ : St) (p1 : Int32) (δ : Dy) : Option (Unit ⊕ Nat) :=
  if p1 = (300 : Int32) then
    some (Sum.inl ())
  else
    (m_X11_isTerm σ p1 δ).bind fun v1 =>
    if v1 = 0 then
      m_X11_needPatterns_b28 σ δ
    else
      some (Sum.inl ())
def m_X11_needPatterns (σ : St) (p0 : Int32) (p1 : Int32) (δ : Dy) : Option (Unit ⊕ Nat) :=
  if p0 = (300 : Int32) then
    m_X11_needPatterns_b14 σ p1 δ
  else
    (m_X11_isTerm σ p0 δ).bind fun v2 =>
    if v2 = 0 then
      m_X11_needPatterns_b28 σ δ
    else
      m_X11_needPatterns_b14 σ p1 δ
set_option maxHeartbeats 4000000 in
set_option maxRecDepth 100000 in
theorem w_X11_needPatterns_b28 {J : JT} {an : AX} (hI : IsX cX11_needPatterns 2 RX11 "needPatterns" 9 229 none an J) (σ : St) (δ : Dy) : SJ (m_X11_needPatterns_b28 σ δ) (PXVp σ δ an) (J 28 [] [] (bX an) σ δ) := by
  have hJ := hI.cor
  unfold m_X11_needPatterns_b28
  exact sx_throwW hI (text := "no value, rule variable or ANY") tx_103_107 (by decide) rfl (by decide) (by decide) (Nat.le_of_ble_eq_true rfl) dX11_needPatterns_28 dX11_needPatterns_31 dX11_needPatterns_32 dX11_needPatterns_35 dX11_needPatterns_38 (fun h => h)
set_option maxHeartbeats 4000000 in
set_option maxRecDepth 100000 in
theorem w_X11_needPatterns_b14 {J : JT} {an : AX} (hI : IsX cX11_needPatterns 2 RX11 "needPatterns" 9 229 none an J) (σ : St) (p1 : Int32) (δ : Dy) : SJ (m_X11_needPatterns_b14 σ p1 δ) (PXVp σ δ an) (J 14 [(1, .int p1)] [] (bX an) σ δ) := by
  have hJ := hI.cor
  unfold m_X11_needPatterns_b14
  refine sj (j_iload_n hJ dX11_needPatterns_14 rfl 0 rfl) ?_
  refine sj (j_sipush hJ (v := 300) dX11_needPatterns_15 is_300) ?_
  refine sj_if (j_icmp_eq hJ (tgt := 39) dX11_needPatterns_18 (by decide)) (fun _ => ?_) (fun _ => ?_)
  · exact sx_vret hI dX11_needPatterns_39 (fun h => h)
  · refine sj (j_iload_n hJ dX11_needPatterns_21 rfl 0 rfl) ?_
    refine sj_callSip hJ [.int p1] (st := []) (fr' := 1) (lo' := 20) ml_X11_312 (by decide) (by decide) (Nat.le_of_ble_eq_true rfl) dX11_needPatterns_22 rfl (fun _ h9 => ct_X11_isTerm h9) (fun v1 => ?_)
    refine sj_if (j_if_ne hJ (tgt := 39) dX11_needPatterns_25 (by decide)) (fun _ => ?_) (fun _ => ?_)
    · refine sj (j_sub hJ (L' := []) [] rfl) ?_
      exact w_X11_needPatterns_b28 hI σ δ
    · exact sx_vret hI dX11_needPatterns_39 (fun h => h)
set_option maxHeartbeats 4000000 in
set_option maxRecDepth 100000 in
theorem w_X11_needPatterns {J : JT} {an : AX} (hI : IsX cX11_needPatterns 2 RX11 "needPatterns" 9 229 none an J) (σ : St) (p0 : Int32) (p1 : Int32) (δ : Dy) : SJ (m_X11_needPatterns σ p0 p1 δ) (PXVp σ δ an) (J 0 [(0, .int p0), (1, .int p1)] [] (bX an) σ δ) := by
  have hJ := hI.cor
  unfold m_X11_needPatterns
  refine sj (j_iload_n hJ dX11_needPatterns_0 rfl 0 rfl) ?_
  refine sj (j_sipush hJ (v := 300) dX11_needPatterns_1 is_300) ?_
  refine sj_if (j_icmp_eq hJ (tgt := 14) dX11_needPatterns_4 (by decide)) (fun _ => ?_) (fun _ => ?_)
  · refine sj (j_sub hJ (L' := [(1, .int p1)]) [1] rfl) ?_
    exact w_X11_needPatterns_b14 hI σ p1 δ
  · refine sj (j_iload_n hJ dX11_needPatterns_7 rfl 0 rfl) ?_
    refine sj_callSip hJ [.int p0] (st := []) (fr' := 1) (lo' := 20) ml_X11_312 (by decide) (by decide) (Nat.le_of_ble_eq_true rfl) dX11_needPatterns_8 rfl (fun _ h9 => ct_X11_isTerm h9) (fun v2 => ?_)
    refine sj_if (j_if_eq hJ (tgt := 28) dX11_needPatterns_11 (by decide)) (fun _ => ?_) (fun _ => ?_)
    · refine sj (j_sub hJ (L' := []) [] rfl) ?_
      exact w_X11_needPatterns_b28 hI σ δ
    · refine sj (j_sub hJ (L' := [(1, .int p1)]) [1] rfl) ?_
      exact w_X11_needPatterns_b14 hI σ p1 δ
theorem ct_X11_needPatterns {σ : St} {p0 : Int32} {p1 : Int32} {δ : Dy} {r : (Unit ⊕ Nat)} (h : m_X11_needPatterns σ p0 p1 δ = some r) : CTX yX11_needPatterns cX11_needPatterns 2 none 9 229 [.int p0, .int p1] σ δ (ox_v r, σ, δ) := CTX_of (by decide +kernel) (Nat.le_of_ble_eq_true rfl) (fun J hI => w_X11_needPatterns hI σ p0 p1 δ r h rfl)
def m_X11_head (σ : St) (p0 : Nat) (p1 : Int32) (p2 : Int32) (p3 : Int32) (p4 : Int32) (δ : Dy) : Option ((Int32 ⊕ Nat) × Dy) :=
  (m_X11_needSort σ p1 δ).bind fun v1 => xel v1 (fun x2 =>
    (m_X11_needPatterns σ p2 p3 δ).bind fun v3 => xel v3 (fun x4 =>
      (gI σ δ 11 p0 7).bind fun v5 =>
      (chk σ 11 p0).bind fun _ => (m_X11_begunRule σ p0 δ).bind fun v6 =>
      (chk σ 7 v6).bind fun _ => (m_X7_clear σ v6 δ).bind fun v7 =>
      (chk σ 7 v6).bind fun _ => (m_X7_addHead σ v6 p1 p2 p3 p4 v7).bind fun v8 =>
      (pZ σ v8.2 11 p0 7 (1 : Int32)).bind fun d9 =>
      (zo v5).bind fun _ => some (Sum.inl v5, d9)) (fun e => (Sum.inr e, δ))) (fun e => (Sum.inr e, δ))
set_option maxHeartbeats 4000000 in
set_option maxRecDepth 100000 in
theorem w_X11_head {J : JT} {an : AX} (hI : IsX cX11_head 7 RX11 "head" 11 271 (some .boolean) an J) (σ : St) (p0 : Nat) (p1 : Int32) (p2 : Int32) (p3 : Int32) (p4 : Int32) (δ : Dy) : SJ (m_X11_head σ p0 p1 p2 p3 p4 δ) (PXI σ an) (J 0 [(0, .ref p0), (1, .int p1), (2, .int p2), (3, .int p3), (4, .int p4)] [] (bX an) σ δ) := by
  have hJ := hI.cor
  unfold m_X11_head
  refine sj (j_iload_n hJ dX11_head_0 rfl 1 rfl) ?_
  refine sx_callSvp hI [.int p1] (st := []) (fr' := 10) (lo' := 251) ml_X11_86 (by decide) (by decide) (Nat.le_of_ble_eq_true rfl) rfl dX11_head_1 rfl (fun _ h9 => ct_X11_needSort h9) (fun x2 => ?_) (fun e h => h)
  refine sj (j_iload_n hJ dX11_head_4 rfl 2 rfl) ?_
  refine sj (j_iload_n hJ dX11_head_5 rfl 3 rfl) ?_
  refine sx_callSvp hI [.int p2, .int p3] (st := []) (fr' := 9) (lo' := 229) ml_X11_118 (by decide) (by decide) (Nat.le_of_ble_eq_true rfl) rfl dX11_head_6 rfl (fun _ h9 => ct_X11_needPatterns h9) (fun x4 => ?_) (fun e h => h)
  refine sj (j_aload_n hJ dX11_head_9 rfl 0 rfl) ?_
  refine sj_gI hJ fl_X11_121 (Or.inr rfl) dX11_head_10 (fun v5 => ?_)
  refine sj (j_istore hJ (L' := [(5, .int v5), (0, .ref p0), (1, .int p1), (2, .int p2), (3, .int p3), (4, .int p4)]) dX11_head_13 (by decide) rfl) ?_
  refine sj (j_aload_n hJ dX11_head_15 rfl 1 rfl) ?_
  refine sj_callVap hJ [] (st := []) (fr' := 1) (lo' := 21) ml_X11_124 hc_11 (by decide) (by decide) (Nat.le_of_ble_eq_true rfl) dX11_head_16 rfl (fun _ h9 => ct_X11_begunRule h9) (fun v6 => ?_)
  refine sj (j_astore hJ (L' := [(6, .ref v6), (5, .int v5), (0, .ref p0), (1, .int p1), (2, .int p2), (3, .int p3), (4, .int p4)]) dX11_head_19 (by decide) rfl) ?_
  refine sj (j_aload hJ dX11_head_21 0 rfl) ?_
  refine sj_callVv hJ [] (st := []) (fr' := 0) (lo' := 0) ml_X11_128 hc_7 (by decide) (by decide) (Nat.le_of_ble_eq_true rfl) dX11_head_23 rfl (fun _ h9 => ct_X7_clear h9) (fun v7 => ?_)
  refine sj (j_aload hJ dX11_head_26 0 rfl) ?_
  refine sj (j_iload_n hJ dX11_head_28 rfl 3 rfl) ?_
  refine sj (j_iload_n hJ dX11_head_29 rfl 4 rfl) ?_
  refine sj (j_iload_n hJ dX11_head_30 rfl 5 rfl) ?_
  refine sj (j_iload hJ dX11_head_31 6 rfl) ?_
  refine sj_callVi hJ [.int p1, .int p2, .int p3, .int p4] (st := []) (fr' := 2) (lo' := 41) ml_X11_131 hc_7 (by decide) (by decide) (Nat.le_of_ble_eq_true rfl) dX11_head_33 rfl (fun _ h9 => ct_X7_addHead h9) (fun v8 => ?_)
  refine sj (j_pop hJ dX11_head_36 rfl) ?_
  refine sj (j_aload_n hJ dX11_head_37 rfl 2 rfl) ?_
  refine sj (j_iconst hJ (v := 1) dX11_head_38 ic_1) ?_
  refine sj_pZ hJ fl_X11_121 rfl dX11_head_39 (fun d9 => ?_)
  refine sj (j_iload hJ dX11_head_42 1 rfl) ?_
  exact sx_zretG hI dX11_head_44 (fun h => h)
theorem ct_X11_head {σ : St} {p0 : Nat} {p1 : Int32} {p2 : Int32} {p3 : Int32} {p4 : Int32} {δ : Dy} {r : ((Int32 ⊕ Nat) × Dy)} (h : m_X11_head σ p0 p1 p2 p3 p4 δ = some r) : CTX yX11_head cX11_head 7 (some .boolean) 11 271 [.ref p0, .int p1, .int p2, .int p3, .int p4] σ δ (ox_i r.1, σ, r.2) := CTX_of (by decide +kernel) (Nat.le_of_ble_eq_true rfl) (fun J hI => w_X11_head hI σ p0 p1 p2 p3 p4 δ r h rfl)
def m_X11_other_b47 (σ : St) (δ : Dy) : Option ((Int32 ⊕ Nat) × Dy) :=
  some (Sum.inr 0, δ)
def m_X11_other (σ : St) (p0 : Nat) (p1 : Int32) (p2 : Int32) (p3 : Int32) (p4 : Int32) (δ : Dy) : Option ((Int32 ⊕ Nat) × Dy) :=
  (m_X11_needSort σ p1 δ).bind fun v1 => xel v1 (fun x2 =>
    (m_X11_needPatterns σ p2 p3 δ).bind fun v3 => xel v3 (fun x4 =>
      (chk σ 11 p0).bind fun _ => (m_X11_begunRule σ p0 δ).bind fun v5 =>
      (gI σ δ 11 p0 7).bind fun v6 =>
      if v6 = 0 then
        m_X11_other_b47 σ δ
      else
        (gI σ δ 7 v5 5).bind fun v7 =>
        if (2 : Int32) ≤ v7 then
          m_X11_other_b47 σ δ
        else
          (gI σ δ 7 v5 8).bind fun v8 =>
          if v8 = 0 then
            (gI σ δ 7 v5 6).bind fun v9 =>
            if v9 ≤ 0 then
              (chk σ 7 v5).bind fun _ => (m_X7_addHead σ v5 p1 p2 p3 p4 δ).bind fun v10 =>
              some (Sum.inl v10.1, v10.2)
            else
              m_X11_other_b47 σ δ
          else
            m_X11_other_b47 σ δ) (fun e => (Sum.inr e, δ))) (fun e => (Sum.inr e, δ))
set_option maxHeartbeats 4000000 in
set_option maxRecDepth 100000 in
theorem w_X11_other_b47 {J : JT} {an : AX} (hI : IsX cX11_other 6 RX11 "other" 11 271 (some .int) an J) (σ : St) (δ : Dy) : SJ (m_X11_other_b47 σ δ) (PXI σ an) (J 47 [] [] (bX an) σ δ) := by
  have hJ := hI.cor
  unfold m_X11_other_b47
  exact sx_throw hI (text := "no second head can be given") tx_60_64 (by decide) rfl (by decide) (by decide) (Nat.le_of_ble_eq_true rfl) dX11_other_47 dX11_other_50 dX11_other_51 dX11_other_53 dX11_other_56 (fun h => h)
set_option maxHeartbeats 4000000 in
set_option maxRecDepth 100000 in
theorem w_X11_other {J : JT} {an : AX} (hI : IsX cX11_other 6 RX11 "other" 11 271 (some .int) an J) (σ : St) (p0 : Nat) (p1 : Int32) (p2 : Int32) (p3 : Int32) (p4 : Int32) (δ : Dy) : SJ (m_X11_other σ p0 p1 p2 p3 p4 δ) (PXI σ an) (J 0 [(0, .ref p0), (1, .int p1), (2, .int p2), (3, .int p3), (4, .int p4)] [] (bX an) σ δ) := by
  have hJ := hI.cor
  unfold m_X11_other
  refine sj (j_iload_n hJ dX11_other_0 rfl 1 rfl) ?_
  refine sx_callSvp hI [.int p1] (st := []) (fr' := 10) (lo' := 251) ml_X11_86 (by decide) (by decide) (Nat.le_of_ble_eq_true rfl) rfl dX11_other_1 rfl (fun _ h9 => ct_X11_needSort h9) (fun x2 => ?_) (fun e h => h)
  refine sj (j_iload_n hJ dX11_other_4 rfl 2 rfl) ?_
  refine sj (j_iload_n hJ dX11_other_5 rfl 3 rfl) ?_
  refine sx_callSvp hI [.int p2, .int p3] (st := []) (fr' := 9) (lo' := 229) ml_X11_118 (by decide) (by decide) (Nat.le_of_ble_eq_true rfl) rfl dX11_other_6 rfl (fun _ h9 => ct_X11_needPatterns h9) (fun x4 => ?_) (fun e h => h)
  refine sj (j_aload_n hJ dX11_other_9 rfl 0 rfl) ?_
  refine sj_callVap hJ [] (st := []) (fr' := 1) (lo' := 21) ml_X11_124 hc_11 (by decide) (by decide) (Nat.le_of_ble_eq_true rfl) dX11_other_10 rfl (fun _ h9 => ct_X11_begunRule h9) (fun v5 => ?_)
  refine sj (j_astore hJ (L' := [(5, .ref v5), (0, .ref p0), (1, .int p1), (2, .int p2), (3, .int p3), (4, .int p4)]) dX11_other_13 (by decide) rfl) ?_
  refine sj (j_aload_n hJ dX11_other_15 rfl 1 rfl) ?_
  refine sj_gI hJ fl_X11_121 (Or.inr rfl) dX11_other_16 (fun v6 => ?_)
  refine sj_if (j_if_eq hJ (tgt := 47) dX11_other_19 (by decide)) (fun _ => ?_) (fun _ => ?_)
  · refine sj (j_sub hJ (L' := []) [] rfl) ?_
    exact w_X11_other_b47 hI σ δ
  · refine sj (j_aload hJ dX11_other_22 0 rfl) ?_
    refine sj_gI hJ fl_X11_135 (Or.inl rfl) dX11_other_24 (fun v7 => ?_)
    refine sj (j_iconst hJ (v := 2) dX11_other_27 ic_2) ?_
    refine sj_if (j_icmp_ge hJ (tgt := 47) dX11_other_28 (by decide)) (fun _ => ?_) (fun _ => ?_)
    · refine sj (j_sub hJ (L' := []) [] rfl) ?_
      exact w_X11_other_b47 hI σ δ
    · refine sj (j_aload hJ dX11_other_31 0 rfl) ?_
      refine sj_gI hJ fl_X11_138 (Or.inr rfl) dX11_other_33 (fun v8 => ?_)
      refine sj_if (j_if_ne hJ (tgt := 47) dX11_other_36 (by decide)) (fun _ => ?_) (fun _ => ?_)
      · refine sj (j_aload hJ dX11_other_39 0 rfl) ?_
        refine sj_gI hJ fl_X11_141 (Or.inl rfl) dX11_other_41 (fun v9 => ?_)
        refine sj_if (j_if_le hJ (tgt := 57) dX11_other_44 (by decide)) (fun _ => ?_) (fun _ => ?_)
        · refine sj (j_aload hJ dX11_other_57 0 rfl) ?_
          refine sj (j_iload_n hJ dX11_other_59 rfl 2 rfl) ?_
          refine sj (j_iload_n hJ dX11_other_60 rfl 3 rfl) ?_
          refine sj (j_iload_n hJ dX11_other_61 rfl 4 rfl) ?_
          refine sj (j_iload hJ dX11_other_62 5 rfl) ?_
          refine sj_callVi hJ [.int p1, .int p2, .int p3, .int p4] (st := []) (fr' := 2) (lo' := 41) ml_X11_131 hc_7 (by decide) (by decide) (Nat.le_of_ble_eq_true rfl) dX11_other_64 rfl (fun _ h9 => ct_X7_addHead h9) (fun v10 => ?_)
          exact sx_iret hI dX11_other_67 (fun h => h)
        · refine sj (j_sub hJ (L' := []) [] rfl) ?_
          exact w_X11_other_b47 hI σ δ
      · refine sj (j_sub hJ (L' := []) [] rfl) ?_
        exact w_X11_other_b47 hI σ δ
theorem ct_X11_other {σ : St} {p0 : Nat} {p1 : Int32} {p2 : Int32} {p3 : Int32} {p4 : Int32} {δ : Dy} {r : ((Int32 ⊕ Nat) × Dy)} (h : m_X11_other σ p0 p1 p2 p3 p4 δ = some r) : CTX yX11_other cX11_other 6 (some .int) 11 271 [.ref p0, .int p1, .int p2, .int p3, .int p4] σ δ (ox_i r.1, σ, r.2) := CTX_of (by decide +kernel) (Nat.le_of_ble_eq_true rfl) (fun J hI => w_X11_other hI σ p0 p1 p2 p3 p4 δ r h rfl)
def m_X11_needRuleTerms_b16 (σ : St) (δ : Dy) : Option (Unit ⊕ Nat) :=
  some (Sum.inr 1)
def m_X11_needRuleTerms (σ : St) (p0 : Nat) (p1 : Int32) (p2 : Int32) (δ : Dy) : Option (Unit ⊕ Nat) :=
  (chk σ 11 p0).bind fun _ => (m_X11_isRuleTerm σ p0 p1 δ).bind fun v1 =>
  if v1 = 0 then
    m_X11_needRuleTerms_b16 σ δ
  else
    (chk σ 11 p0).bind fun _ => (m_X11_isRuleTerm σ p0 p2 δ).bind fun v2 =>
    if v2 = 0 then
      m_X11_needRuleTerms_b16 σ δ
    else
      some (Sum.inl ())
set_option maxHeartbeats 4000000 in
set_option maxRecDepth 100000 in
theorem w_X11_needRuleTerms_b16 {J : JT} {an : AX} (hI : IsX cX11_needRuleTerms 3 RX11 "needRuleTerms" 9 229 none an J) (σ : St) (δ : Dy) : SJ (m_X11_needRuleTerms_b16 σ δ) (PXVp σ δ an) (J 16 [] [] (bX an) σ δ) := by
  have hJ := hI.cor
  unfold m_X11_needRuleTerms_b16
  exact sx_throwW hI (text := "neither a value nor a rule variable of a head") tx_103_107 (by decide) rfl (by decide) (by decide) (Nat.le_of_ble_eq_true rfl) dX11_needRuleTerms_16 dX11_needRuleTerms_19 dX11_needRuleTerms_20 dX11_needRuleTerms_23 dX11_needRuleTerms_26 (fun h => h)
set_option maxHeartbeats 4000000 in
set_option maxRecDepth 100000 in
theorem w_X11_needRuleTerms {J : JT} {an : AX} (hI : IsX cX11_needRuleTerms 3 RX11 "needRuleTerms" 9 229 none an J) (σ : St) (p0 : Nat) (p1 : Int32) (p2 : Int32) (δ : Dy) : SJ (m_X11_needRuleTerms σ p0 p1 p2 δ) (PXVp σ δ an) (J 0 [(0, .ref p0), (1, .int p1), (2, .int p2)] [] (bX an) σ δ) := by
  have hJ := hI.cor
  unfold m_X11_needRuleTerms
  refine sj (j_aload_n hJ dX11_needRuleTerms_0 rfl 0 rfl) ?_
  refine sj (j_iload_n hJ dX11_needRuleTerms_1 rfl 1 rfl) ?_
  refine sj_callVip hJ [.int p1] (st := []) (fr' := 2) (lo' := 41) ml_X11_319 hc_11 (by decide) (by decide) (Nat.le_of_ble_eq_true rfl) dX11_needRuleTerms_2 rfl (fun _ h9 => ct_X11_isRuleTerm h9) (fun v1 => ?_)
  refine sj_if (j_if_eq hJ (tgt := 16) dX11_needRuleTerms_5 (by decide)) (fun _ => ?_) (fun _ => ?_)
  · refine sj (j_sub hJ (L' := []) [] rfl) ?_
    exact w_X11_needRuleTerms_b16 hI σ δ
  · refine sj (j_aload_n hJ dX11_needRuleTerms_8 rfl 0 rfl) ?_
    refine sj (j_iload_n hJ dX11_needRuleTerms_9 rfl 2 rfl) ?_
    refine sj_callVip hJ [.int p2] (st := []) (fr' := 2) (lo' := 41) ml_X11_319 hc_11 (by decide) (by decide) (Nat.le_of_ble_eq_true rfl) dX11_needRuleTerms_10 rfl (fun _ h9 => ct_X11_isRuleTerm h9) (fun v2 => ?_)
    refine sj_if (j_if_ne hJ (tgt := 27) dX11_needRuleTerms_13 (by decide)) (fun _ => ?_) (fun _ => ?_)
    · refine sj (j_sub hJ (L' := []) [] rfl) ?_
      exact w_X11_needRuleTerms_b16 hI σ δ
    · exact sx_vret hI dX11_needRuleTerms_27 (fun h => h)
theorem ct_X11_needRuleTerms {σ : St} {p0 : Nat} {p1 : Int32} {p2 : Int32} {δ : Dy} {r : (Unit ⊕ Nat)} (h : m_X11_needRuleTerms σ p0 p1 p2 δ = some r) : CTX yX11_needRuleTerms cX11_needRuleTerms 3 none 9 229 [.ref p0, .int p1, .int p2] σ δ (ox_v r, σ, δ) := CTX_of (by decide +kernel) (Nat.le_of_ble_eq_true rfl) (fun J hI => w_X11_needRuleTerms hI σ p0 p1 p2 δ r h rfl)
def m_X11_guard_b47 (σ : St) (δ : Dy) : Option ((Int32 ⊕ Nat) × Dy) :=
  some (Sum.inr 0, δ)
def m_X11_guard (σ : St) (p0 : Nat) (p1 : Int32) (p2 : Int32) (p3 : Int32) (δ : Dy) : Option ((Int32 ⊕ Nat) × Dy) :=
  (m_X11_needCondition σ p1 δ).bind fun v1 => xel v1 (fun x2 =>
    (m_X11_asked σ p1 p3 δ).bind fun v3 =>
    (chk σ 11 p0).bind fun _ => (m_X11_needRuleTerms σ p0 p2 v3 δ).bind fun v4 => xel v4 (fun x5 =>
      (chk σ 11 p0).bind fun _ => (m_X11_begunRule σ p0 δ).bind fun v6 =>
      (gI σ δ 11 p0 7).bind fun v7 =>
      if v7 = 0 then
        m_X11_guard_b47 σ δ
      else
        (gI σ δ 7 v6 8).bind fun v8 =>
        if v8 = 0 then
          (gI σ δ 7 v6 6).bind fun v9 =>
          if v9 ≤ 0 then
            (chk σ 7 v6).bind fun _ => (m_X7_addGuard σ v6 p1 p2 v3 δ).bind fun v10 =>
            some (Sum.inl (1 : Int32), v10)
          else
            m_X11_guard_b47 σ δ
        else
          m_X11_guard_b47 σ δ) (fun e => (Sum.inr e, δ))) (fun e => (Sum.inr e, δ))
set_option maxHeartbeats 4000000 in
set_option maxRecDepth 100000 in
theorem w_X11_guard_b47 {J : JT} {an : AX} (hI : IsX cX11_guard 6 RX11 "guard" 11 271 (some .boolean) an J) (σ : St) (δ : Dy) : SJ (m_X11_guard_b47 σ δ) (PXI σ an) (J 47 [] [] (bX an) σ δ) := by
  have hJ := hI.cor
  unfold m_X11_guard_b47
  exact sx_throw hI (text := "no guard can be given") tx_60_64 (by decide) rfl (by decide) (by decide) (Nat.le_of_ble_eq_true rfl) dX11_guard_47 dX11_guard_50 dX11_guard_51 dX11_guard_53 dX11_guard_56 (fun h => h)
set_option maxHeartbeats 4000000 in
set_option maxRecDepth 100000 in
theorem w_X11_guard {J : JT} {an : AX} (hI : IsX cX11_guard 6 RX11 "guard" 11 271 (some .boolean) an J) (σ : St) (p0 : Nat) (p1 : Int32) (p2 : Int32) (p3 : Int32) (δ : Dy) : SJ (m_X11_guard σ p0 p1 p2 p3 δ) (PXI σ an) (J 0 [(0, .ref p0), (1, .int p1), (2, .int p2), (3, .int p3)] [] (bX an) σ δ) := by
  have hJ := hI.cor
  unfold m_X11_guard
  refine sj (j_iload_n hJ dX11_guard_0 rfl 1 rfl) ?_
  refine sx_callSvp hI [.int p1] (st := []) (fr' := 10) (lo' := 251) ml_X11_93 (by decide) (by decide) (Nat.le_of_ble_eq_true rfl) rfl dX11_guard_1 rfl (fun _ h9 => ct_X11_needCondition h9) (fun x2 => ?_) (fun e h => h)
  refine sj (j_iload_n hJ dX11_guard_4 rfl 1 rfl) ?_
  refine sj (j_iload_n hJ dX11_guard_5 rfl 3 rfl) ?_
  refine sj_callSip hJ [.int p1, .int p3] (st := []) (fr' := 0) (lo' := 0) ml_X11_96 (by decide) (by decide) (Nat.le_of_ble_eq_true rfl) dX11_guard_6 rfl (fun _ h9 => ct_X11_asked h9) (fun v3 => ?_)
  refine sj (j_istore hJ (L' := [(4, .int v3), (0, .ref p0), (1, .int p1), (2, .int p2), (3, .int p3)]) dX11_guard_9 (by decide) rfl) ?_
  refine sj (j_aload_n hJ dX11_guard_11 rfl 1 rfl) ?_
  refine sj (j_iload_n hJ dX11_guard_12 rfl 3 rfl) ?_
  refine sj (j_iload hJ dX11_guard_13 0 rfl) ?_
  refine sx_callVvp hI [.int p2, .int v3] (st := []) (fr' := 9) (lo' := 229) ml_X11_146 hc_11 (by decide) (by decide) (Nat.le_of_ble_eq_true rfl) rfl dX11_guard_15 rfl (fun _ h9 => ct_X11_needRuleTerms h9) (fun x5 => ?_) (fun e h => h)
  refine sj (j_aload_n hJ dX11_guard_18 rfl 1 rfl) ?_
  refine sj_callVap hJ [] (st := []) (fr' := 1) (lo' := 21) ml_X11_124 hc_11 (by decide) (by decide) (Nat.le_of_ble_eq_true rfl) dX11_guard_19 rfl (fun _ h9 => ct_X11_begunRule h9) (fun v6 => ?_)
  refine sj (j_astore hJ (L' := [(5, .ref v6), (4, .int v3), (0, .ref p0), (1, .int p1), (2, .int p2), (3, .int p3)]) dX11_guard_22 (by decide) rfl) ?_
  refine sj (j_aload_n hJ dX11_guard_24 rfl 2 rfl) ?_
  refine sj_gI hJ fl_X11_121 (Or.inr rfl) dX11_guard_25 (fun v7 => ?_)
  refine sj_if (j_if_eq hJ (tgt := 47) dX11_guard_28 (by decide)) (fun _ => ?_) (fun _ => ?_)
  · refine sj (j_sub hJ (L' := []) [] rfl) ?_
    exact w_X11_guard_b47 hI σ δ
  · refine sj (j_aload hJ dX11_guard_31 0 rfl) ?_
    refine sj_gI hJ fl_X11_138 (Or.inr rfl) dX11_guard_33 (fun v8 => ?_)
    refine sj_if (j_if_ne hJ (tgt := 47) dX11_guard_36 (by decide)) (fun _ => ?_) (fun _ => ?_)
    · refine sj (j_aload hJ dX11_guard_39 0 rfl) ?_
      refine sj_gI hJ fl_X11_141 (Or.inl rfl) dX11_guard_41 (fun v9 => ?_)
      refine sj_if (j_if_le hJ (tgt := 57) dX11_guard_44 (by decide)) (fun _ => ?_) (fun _ => ?_)
      · refine sj (j_aload hJ dX11_guard_57 0 rfl) ?_
        refine sj (j_iload_n hJ dX11_guard_59 rfl 3 rfl) ?_
        refine sj (j_iload_n hJ dX11_guard_60 rfl 4 rfl) ?_
        refine sj (j_iload hJ dX11_guard_61 1 rfl) ?_
        refine sj_callVv hJ [.int p1, .int p2, .int v3] (st := []) (fr' := 0) (lo' := 0) ml_X11_151 hc_7 (by decide) (by decide) (Nat.le_of_ble_eq_true rfl) dX11_guard_63 rfl (fun _ h9 => ct_X7_addGuard h9) (fun v10 => ?_)
        refine sj (j_iconst hJ (v := 1) dX11_guard_66 ic_1) ?_
        exact sx_zret hI (by decide) dX11_guard_67 (fun h => h)
      · refine sj (j_sub hJ (L' := []) [] rfl) ?_
        exact w_X11_guard_b47 hI σ δ
    · refine sj (j_sub hJ (L' := []) [] rfl) ?_
      exact w_X11_guard_b47 hI σ δ
theorem ct_X11_guard {σ : St} {p0 : Nat} {p1 : Int32} {p2 : Int32} {p3 : Int32} {δ : Dy} {r : ((Int32 ⊕ Nat) × Dy)} (h : m_X11_guard σ p0 p1 p2 p3 δ = some r) : CTX yX11_guard cX11_guard 6 (some .boolean) 11 271 [.ref p0, .int p1, .int p2, .int p3] σ δ (ox_i r.1, σ, r.2) := CTX_of (by decide +kernel) (Nat.le_of_ble_eq_true rfl) (fun J hI => w_X11_guard hI σ p0 p1 p2 p3 δ r h rfl)
def m_X11_body_b37 (σ : St) (δ : Dy) : Option ((Int32 ⊕ Nat) × Dy) :=
  some (Sum.inr 0, δ)
def m_X11_body_b9 (σ : St) (p0 : Nat) (p1 : Int32) (p2 : Int32) (p3 : Int32) (δ : Dy) : Option ((Int32 ⊕ Nat) × Dy) :=
  (chk σ 11 p0).bind fun _ => (m_X11_needRuleTerms σ p0 p2 p3 δ).bind fun v1 => xel v1 (fun x2 =>
    (chk σ 11 p0).bind fun _ => (m_X11_begunRule σ p0 δ).bind fun v3 =>
    (gI σ δ 11 p0 7).bind fun v4 =>
    if v4 = 0 then
      m_X11_body_b37 σ δ
    else
      (gI σ δ 7 v3 6).bind fun v5 =>
      if v5 < (2 : Int32) then
        (chk σ 7 v3).bind fun _ => (m_X7_addBody σ v3 p1 p2 p3 δ).bind fun v6 =>
        some (Sum.inl v6.1, v6.2)
      else
        m_X11_body_b37 σ δ) (fun e => (Sum.inr e, δ))
def m_X11_body (σ : St) (p0 : Nat) (p1 : Int32) (p2 : Int32) (p3 : Int32) (δ : Dy) : Option ((Int32 ⊕ Nat) × Dy) :=
  if p1 = (-1 : Int32) then
    m_X11_body_b9 σ p0 p1 p2 p3 δ
  else
    (m_X11_needSort σ p1 δ).bind fun v7 => xel v7 (fun x8 =>
      m_X11_body_b9 σ p0 p1 p2 p3 δ) (fun e => (Sum.inr e, δ))
set_option maxHeartbeats 4000000 in
set_option maxRecDepth 100000 in
theorem w_X11_body_b37 {J : JT} {an : AX} (hI : IsX cX11_body 5 RX11 "body" 11 271 (some .int) an J) (σ : St) (δ : Dy) : SJ (m_X11_body_b37 σ δ) (PXI σ an) (J 37 [] [] (bX an) σ δ) := by
  have hJ := hI.cor
  unfold m_X11_body_b37
  exact sx_throw hI (text := "no body can be given") tx_60_64 (by decide) rfl (by decide) (by decide) (Nat.le_of_ble_eq_true rfl) dX11_body_37 dX11_body_40 dX11_body_41 dX11_body_43 dX11_body_46 (fun h => h)
set_option maxHeartbeats 4000000 in
set_option maxRecDepth 100000 in
theorem w_X11_body_b9 {J : JT} {an : AX} (hI : IsX cX11_body 5 RX11 "body" 11 271 (some .int) an J) (σ : St) (p0 : Nat) (p1 : Int32) (p2 : Int32) (p3 : Int32) (δ : Dy) : SJ (m_X11_body_b9 σ p0 p1 p2 p3 δ) (PXI σ an) (J 9 [(0, .ref p0), (1, .int p1), (2, .int p2), (3, .int p3)] [] (bX an) σ δ) := by
  have hJ := hI.cor
  unfold m_X11_body_b9
  refine sj (j_aload_n hJ dX11_body_9 rfl 0 rfl) ?_
  refine sj (j_iload_n hJ dX11_body_10 rfl 2 rfl) ?_
  refine sj (j_iload_n hJ dX11_body_11 rfl 3 rfl) ?_
  refine sx_callVvp hI [.int p2, .int p3] (st := []) (fr' := 9) (lo' := 229) ml_X11_146 hc_11 (by decide) (by decide) (Nat.le_of_ble_eq_true rfl) rfl dX11_body_12 rfl (fun _ h9 => ct_X11_needRuleTerms h9) (fun x2 => ?_) (fun e h => h)
  refine sj (j_aload_n hJ dX11_body_15 rfl 0 rfl) ?_
  refine sj_callVap hJ [] (st := []) (fr' := 1) (lo' := 21) ml_X11_124 hc_11 (by decide) (by decide) (Nat.le_of_ble_eq_true rfl) dX11_body_16 rfl (fun _ h9 => ct_X11_begunRule h9) (fun v3 => ?_)
  refine sj (j_astore hJ (L' := [(4, .ref v3), (0, .ref p0), (1, .int p1), (2, .int p2), (3, .int p3)]) dX11_body_19 (by decide) rfl) ?_
  refine sj (j_aload_n hJ dX11_body_21 rfl 1 rfl) ?_
  refine sj_gI hJ fl_X11_121 (Or.inr rfl) dX11_body_22 (fun v4 => ?_)
  refine sj_if (j_if_eq hJ (tgt := 37) dX11_body_25 (by decide)) (fun _ => ?_) (fun _ => ?_)
  · refine sj (j_sub hJ (L' := []) [] rfl) ?_
    exact w_X11_body_b37 hI σ δ
  · refine sj (j_aload hJ dX11_body_28 0 rfl) ?_
    refine sj_gI hJ fl_X11_141 (Or.inl rfl) dX11_body_30 (fun v5 => ?_)
    refine sj (j_iconst hJ (v := 2) dX11_body_33 ic_2) ?_
    refine sj_if (j_icmp_lt hJ (tgt := 47) dX11_body_34 (by decide)) (fun _ => ?_) (fun _ => ?_)
    · refine sj (j_aload hJ dX11_body_47 0 rfl) ?_
      refine sj (j_iload_n hJ dX11_body_49 rfl 2 rfl) ?_
      refine sj (j_iload_n hJ dX11_body_50 rfl 3 rfl) ?_
      refine sj (j_iload_n hJ dX11_body_51 rfl 4 rfl) ?_
      refine sj_callVi hJ [.int p1, .int p2, .int p3] (st := []) (fr' := 0) (lo' := 0) ml_X11_156 hc_7 (by decide) (by decide) (Nat.le_of_ble_eq_true rfl) dX11_body_52 rfl (fun _ h9 => ct_X7_addBody h9) (fun v6 => ?_)
      exact sx_iret hI dX11_body_55 (fun h => h)
    · refine sj (j_sub hJ (L' := []) [] rfl) ?_
      exact w_X11_body_b37 hI σ δ
set_option maxHeartbeats 4000000 in
set_option maxRecDepth 100000 in
theorem w_X11_body {J : JT} {an : AX} (hI : IsX cX11_body 5 RX11 "body" 11 271 (some .int) an J) (σ : St) (p0 : Nat) (p1 : Int32) (p2 : Int32) (p3 : Int32) (δ : Dy) : SJ (m_X11_body σ p0 p1 p2 p3 δ) (PXI σ an) (J 0 [(0, .ref p0), (1, .int p1), (2, .int p2), (3, .int p3)] [] (bX an) σ δ) := by
  have hJ := hI.cor
  unfold m_X11_body
  refine sj (j_iload_n hJ dX11_body_0 rfl 1 rfl) ?_
  refine sj (j_iconst hJ (v := -1) dX11_body_1 ic_m1) ?_
  refine sj_if (j_icmp_eq hJ (tgt := 9) dX11_body_2 (by decide)) (fun _ => ?_) (fun _ => ?_)
  · exact w_X11_body_b9 hI σ p0 p1 p2 p3 δ
  · refine sj (j_iload_n hJ dX11_body_5 rfl 1 rfl) ?_
    refine sx_callSvp hI [.int p1] (st := []) (fr' := 10) (lo' := 251) ml_X11_86 (by decide) (by decide) (Nat.le_of_ble_eq_true rfl) rfl dX11_body_6 rfl (fun _ h9 => ct_X11_needSort h9) (fun x8 => ?_) (fun e h => h)
    exact w_X11_body_b9 hI σ p0 p1 p2 p3 δ
theorem ct_X11_body {σ : St} {p0 : Nat} {p1 : Int32} {p2 : Int32} {p3 : Int32} {δ : Dy} {r : ((Int32 ⊕ Nat) × Dy)} (h : m_X11_body σ p0 p1 p2 p3 δ = some r) : CTX yX11_body cX11_body 5 (some .int) 11 271 [.ref p0, .int p1, .int p2, .int p3] σ δ (ox_i r.1, σ, r.2) := CTX_of (by decide +kernel) (Nat.le_of_ble_eq_true rfl) (fun J hI => w_X11_body hI σ p0 p1 p2 p3 δ r h rfl)
def m_X11_rule_b34 (σ : St) (δ : Dy) : Option ((Int32 ⊕ Nat) × Dy) :=
  some (Sum.inr 0, δ)
def m_X11_rule (σ : St) (p0 : Nat) (δ : Dy) : Option ((Int32 ⊕ Nat) × Dy) :=
  (gR σ 11 p0 2).bind fun v1 =>
  (gR σ 10 v1 2).bind fun v2 =>
  (gI σ δ 11 p0 7).bind fun v3 =>
  if v3 = 0 then
    m_X11_rule_b34 σ δ
  else
    (chk σ 11 p0).bind fun _ => (m_X11_begunRule σ p0 δ).bind fun v4 =>
    (gI σ δ 7 v4 6).bind fun v5 =>
    if v5 = 0 then
      m_X11_rule_b34 σ δ
    else
      (gI σ δ 6 v2 9).bind fun v6 =>
      if v6 < (8 : Int32) then
        (chk σ 11 p0).bind fun _ => (m_X11_note σ p0 (2 : Int32) (0 : Int32) (0 : Int32) (0 : Int32) δ).bind fun v7 =>
        (pZ σ v7 11 p0 7 (0 : Int32)).bind fun d8 =>
        (gI σ d8 6 v2 9).bind fun v9 =>
        (pI σ d8 6 v2 9 (v9 + (1 : Int32))).bind fun d10 =>
        (gI σ d10 6 v2 9).bind fun v11 =>
        some (Sum.inl (v11 - (1 : Int32)), d10)
      else
        m_X11_rule_b34 σ δ
set_option maxHeartbeats 4000000 in
set_option maxRecDepth 100000 in
theorem w_X11_rule_b34 {J : JT} {an : AX} (hI : IsX cX11_rule 2 RX11 "rule" 9 229 (some .int) an J) (σ : St) (δ : Dy) : SJ (m_X11_rule_b34 σ δ) (PXI σ an) (J 34 [] [] (bX an) σ δ) := by
  have hJ := hI.cor
  unfold m_X11_rule_b34
  exact sx_throw hI (text := "no rule can be made") tx_60_64 (by decide) rfl (by decide) (by decide) (Nat.le_of_ble_eq_true rfl) dX11_rule_34 dX11_rule_37 dX11_rule_38 dX11_rule_40 dX11_rule_43 (fun h => h)
set_option maxHeartbeats 4000000 in
set_option maxRecDepth 100000 in
theorem w_X11_rule {J : JT} {an : AX} (hI : IsX cX11_rule 2 RX11 "rule" 9 229 (some .int) an J) (σ : St) (p0 : Nat) (δ : Dy) : SJ (m_X11_rule σ p0 δ) (PXI σ an) (J 0 [(0, .ref p0)] [] (bX an) σ δ) := by
  have hJ := hI.cor
  unfold m_X11_rule
  refine sj (j_aload_n hJ dX11_rule_0 rfl 0 rfl) ?_
  refine sj_gR hJ fl_X11_39 rfl dX11_rule_1 (fun v1 => ?_)
  refine sj_gR hJ fl_X11_160 rfl dX11_rule_4 (fun v2 => ?_)
  refine sj (j_astore_n hJ (L' := [(1, .ref v2), (0, .ref p0)]) dX11_rule_7 rfl (by decide) rfl) ?_
  refine sj (j_aload_n hJ dX11_rule_8 rfl 1 rfl) ?_
  refine sj_gI hJ fl_X11_121 (Or.inr rfl) dX11_rule_9 (fun v3 => ?_)
  refine sj_if (j_if_eq hJ (tgt := 34) dX11_rule_12 (by decide)) (fun _ => ?_) (fun _ => ?_)
  · refine sj (j_sub hJ (L' := []) [] rfl) ?_
    exact w_X11_rule_b34 hI σ δ
  · refine sj (j_aload_n hJ dX11_rule_15 rfl 1 rfl) ?_
    refine sj_callVap hJ [] (st := []) (fr' := 1) (lo' := 21) ml_X11_124 hc_11 (by decide) (by decide) (Nat.le_of_ble_eq_true rfl) dX11_rule_16 rfl (fun _ h9 => ct_X11_begunRule h9) (fun v4 => ?_)
    refine sj_gI hJ fl_X11_141 (Or.inl rfl) dX11_rule_19 (fun v5 => ?_)
    refine sj_if (j_if_eq hJ (tgt := 34) dX11_rule_22 (by decide)) (fun _ => ?_) (fun _ => ?_)
    · refine sj (j_sub hJ (L' := []) [] rfl) ?_
      exact w_X11_rule_b34 hI σ δ
    · refine sj (j_aload_n hJ dX11_rule_25 rfl 0 rfl) ?_
      refine sj_gI hJ fl_X11_164 (Or.inl rfl) dX11_rule_26 (fun v6 => ?_)
      refine sj (j_bipush hJ (v := 8) dX11_rule_29 ib_8) ?_
      refine sj_if (j_icmp_lt hJ (tgt := 44) dX11_rule_31 (by decide)) (fun _ => ?_) (fun _ => ?_)
      · refine sj (j_aload_n hJ dX11_rule_44 rfl 1 rfl) ?_
        refine sj (j_iconst hJ (v := 2) dX11_rule_45 ic_2) ?_
        refine sj (j_iconst hJ (v := 0) dX11_rule_46 ic_0) ?_
        refine sj (j_iconst hJ (v := 0) dX11_rule_47 ic_0) ?_
        refine sj (j_iconst hJ (v := 0) dX11_rule_48 ic_0) ?_
        refine sj_callVv hJ [.int (2 : Int32), .int (0 : Int32), .int (0 : Int32), .int (0 : Int32)] (st := []) (fr' := 0) (lo' := 0) ml_X11_67 hc_11 (by decide) (by decide) (Nat.le_of_ble_eq_true rfl) dX11_rule_49 rfl (fun _ h9 => ct_X11_note h9) (fun v7 => ?_)
        refine sj (j_aload_n hJ dX11_rule_52 rfl 1 rfl) ?_
        refine sj (j_iconst hJ (v := 0) dX11_rule_53 ic_0) ?_
        refine sj_pZ hJ fl_X11_121 rfl dX11_rule_54 (fun d8 => ?_)
        refine sj (j_aload_n hJ dX11_rule_57 rfl 0 rfl) ?_
        refine sj (j_dup hJ dX11_rule_58 rfl) ?_
        refine sj_gI hJ fl_X11_164 (Or.inl rfl) dX11_rule_59 (fun v9 => ?_)
        refine sj (j_iconst hJ (v := 1) dX11_rule_62 ic_1) ?_
        refine sj (j_iadd hJ dX11_rule_63) ?_
        refine sj_pI hJ fl_X11_164 rfl dX11_rule_64 (fun d10 => ?_)
        refine sj (j_aload_n hJ dX11_rule_67 rfl 0 rfl) ?_
        refine sj_gI hJ fl_X11_164 (Or.inl rfl) dX11_rule_68 (fun v11 => ?_)
        refine sj (j_iconst hJ (v := 1) dX11_rule_71 ic_1) ?_
        refine sj (j_isub hJ dX11_rule_72) ?_
        exact sx_iret hI dX11_rule_73 (fun h => h)
      · refine sj (j_sub hJ (L' := []) [] rfl) ?_
        exact w_X11_rule_b34 hI σ δ
theorem ct_X11_rule {σ : St} {p0 : Nat} {δ : Dy} {r : ((Int32 ⊕ Nat) × Dy)} (h : m_X11_rule σ p0 δ = some r) : CTX yX11_rule cX11_rule 2 (some .int) 9 229 [.ref p0] σ δ (ox_i r.1, σ, r.2) := CTX_of (by decide +kernel) (Nat.le_of_ble_eq_true rfl) (fun J hI => w_X11_rule hI σ p0 δ r h rfl)
def m_X11_begin_b59 (σ : St) (δ : Dy) : Option ((Int32 ⊕ Nat) × Dy) :=
  some (Sum.inr 1, δ)
def m_X11_begin_b94 (σ : St) (δ : Dy) : Option ((Int32 ⊕ Nat) × Dy) :=
  some (Sum.inr 0, δ)
def m_X11_begin_b69 (σ : St) (p0 : Nat) (p1 : Int32) (p2 : Int32) (p3 : Int32) (δ : Dy) : Option ((Int32 ⊕ Nat) × Dy) :=
  (gR σ 11 p0 2).bind fun v7 =>
  (gR σ 10 v7 1).bind fun v8 =>
  (gI σ δ 8 v8 12).bind fun v9 =>
  if v9 = 0 then
    (gR σ 11 p0 2).bind fun v10 =>
    (chk σ 10 v10).bind fun _ => (m_X10_forNext σ v10 δ).bind fun v11 =>
    if v11 < (30 : Int32) then
      (chk σ 11 p0).bind fun _ => (m_X11_note σ p0 (3 : Int32) p1 p2 p3 δ).bind fun v12 =>
      (gR σ 11 p0 2).bind fun v13 =>
      (chk σ 10 v13).bind fun _ => (m_X10_admit σ v13 p1 p2 p3 v12).bind fun v14 =>
      (gR σ 11 p0 2).bind fun v15 =>
      (chk σ 10 v15).bind fun _ => (m_X10_forNext σ v15 v14).bind fun v16 =>
      some (Sum.inl v16, v14)
    else
      m_X11_begin_b94 σ δ
  else
    m_X11_begin_b94 σ δ
def m_X11_begin_b45 (σ : St) (p0 : Nat) (p1 : Int32) (p2 : Int32) (p3 : Int32) (δ : Dy) : Option ((Int32 ⊕ Nat) × Dy) :=
  (m_X11_isValue σ p3 δ).bind fun v6 =>
  if v6 = 0 then
    if (400 : Int32) ≤ p3 then
      m_X11_begin_b69 σ p0 p1 p2 p3 δ
    else
      m_X11_begin_b59 σ δ
  else
    m_X11_begin_b69 σ p0 p1 p2 p3 δ
def m_X11_begin_b21 (σ : St) (δ : Dy) : Option ((Int32 ⊕ Nat) × Dy) :=
  some (Sum.inr 2, δ)
def m_X11_begin (σ : St) (p0 : Nat) (p1 : Int32) (p2 : Int32) (p3 : Int32) (δ : Dy) : Option ((Int32 ⊕ Nat) × Dy) :=
  (chk σ 11 p0).bind fun _ => (m_X11_needNode σ p0 p1 δ).bind fun v1 => xel v1 (fun x2 =>
    (chk σ 11 p0).bind fun _ => (m_X11_isNoVariable σ p0 p2 δ).bind fun v3 =>
    if v3 = 0 then
      (chk σ 11 p0).bind fun _ => (m_X11_isNoVariable σ p0 p3 δ).bind fun v4 =>
      if v4 = 0 then
        (m_X11_isValue σ p2 δ).bind fun v5 =>
        if v5 = 0 then
          if p2 < (400 : Int32) then
            m_X11_begin_b59 σ δ
          else
            m_X11_begin_b45 σ p0 p1 p2 p3 δ
        else
          m_X11_begin_b45 σ p0 p1 p2 p3 δ
      else
        m_X11_begin_b21 σ δ
    else
      m_X11_begin_b21 σ δ) (fun e => (Sum.inr e, δ))
set_option maxHeartbeats 4000000 in
set_option maxRecDepth 100000 in
theorem w_X11_begin_b59 {J : JT} {an : AX} (hI : IsX cX11_begin 4 RX11 "begin" 10 250 (some .int) an J) (σ : St) (δ : Dy) : SJ (m_X11_begin_b59 σ δ) (PXI σ an) (J 59 [] [] (bX an) σ δ) := by
  have hJ := hI.cor
  unfold m_X11_begin_b59
  exact sx_throw hI (text := "neither a value nor a variable") tx_103_107 (by decide) rfl (by decide) (by decide) (Nat.le_of_ble_eq_true rfl) dX11_begin_59 dX11_begin_62 dX11_begin_63 dX11_begin_65 dX11_begin_68 (fun h => h)
set_option maxHeartbeats 4000000 in
set_option maxRecDepth 100000 in
theorem w_X11_begin_b94 {J : JT} {an : AX} (hI : IsX cX11_begin 4 RX11 "begin" 10 250 (some .int) an J) (σ : St) (δ : Dy) : SJ (m_X11_begin_b94 σ δ) (PXI σ an) (J 94 [] [] (bX an) σ δ) := by
  have hJ := hI.cor
  unfold m_X11_begin_b94
  exact sx_throw hI (text := "no agent can be begun") tx_60_64 (by decide) rfl (by decide) (by decide) (Nat.le_of_ble_eq_true rfl) dX11_begin_94 dX11_begin_97 dX11_begin_98 dX11_begin_100 dX11_begin_103 (fun h => h)
set_option maxHeartbeats 4000000 in
set_option maxRecDepth 100000 in
theorem w_X11_begin_b69 {J : JT} {an : AX} (hI : IsX cX11_begin 4 RX11 "begin" 10 250 (some .int) an J) (σ : St) (p0 : Nat) (p1 : Int32) (p2 : Int32) (p3 : Int32) (δ : Dy) : SJ (m_X11_begin_b69 σ p0 p1 p2 p3 δ) (PXI σ an) (J 69 [(0, .ref p0), (1, .int p1), (2, .int p2), (3, .int p3)] [] (bX an) σ δ) := by
  have hJ := hI.cor
  unfold m_X11_begin_b69
  refine sj (j_aload_n hJ dX11_begin_69 rfl 0 rfl) ?_
  refine sj_gR hJ fl_X11_39 rfl dX11_begin_70 (fun v7 => ?_)
  refine sj_gR hJ fl_X11_46 rfl dX11_begin_73 (fun v8 => ?_)
  refine sj_gI hJ fl_X11_56 (Or.inr rfl) dX11_begin_76 (fun v9 => ?_)
  refine sj_if (j_if_ne hJ (tgt := 94) dX11_begin_79 (by decide)) (fun _ => ?_) (fun _ => ?_)
  · refine sj (j_aload_n hJ dX11_begin_82 rfl 0 rfl) ?_
    refine sj_gR hJ fl_X11_39 rfl dX11_begin_83 (fun v10 => ?_)
    refine sj_callVip hJ [] (st := []) (fr' := 0) (lo' := 0) ml_X11_185 hc_10 (by decide) (by decide) (Nat.le_of_ble_eq_true rfl) dX11_begin_86 rfl (fun _ h9 => ct_X10_forNext h9) (fun v11 => ?_)
    refine sj (j_bipush hJ (v := 30) dX11_begin_89 ib_30) ?_
    refine sj_if (j_icmp_lt hJ (tgt := 104) dX11_begin_91 (by decide)) (fun _ => ?_) (fun _ => ?_)
    · refine sj (j_aload_n hJ dX11_begin_104 rfl 0 rfl) ?_
      refine sj (j_iconst hJ (v := 3) dX11_begin_105 ic_3) ?_
      refine sj (j_iload_n hJ dX11_begin_106 rfl 1 rfl) ?_
      refine sj (j_iload_n hJ dX11_begin_107 rfl 2 rfl) ?_
      refine sj (j_iload_n hJ dX11_begin_108 rfl 3 rfl) ?_
      refine sj_callVv hJ [.int (3 : Int32), .int p1, .int p2, .int p3] (st := []) (fr' := 0) (lo' := 0) ml_X11_67 hc_11 (by decide) (by decide) (Nat.le_of_ble_eq_true rfl) dX11_begin_109 rfl (fun _ h9 => ct_X11_note h9) (fun v12 => ?_)
      refine sj (j_aload_n hJ dX11_begin_112 rfl 0 rfl) ?_
      refine sj_gR hJ fl_X11_39 rfl dX11_begin_113 (fun v13 => ?_)
      refine sj (j_iload_n hJ dX11_begin_116 rfl 1 rfl) ?_
      refine sj (j_iload_n hJ dX11_begin_117 rfl 2 rfl) ?_
      refine sj (j_iload_n hJ dX11_begin_118 rfl 3 rfl) ?_
      refine sj_callVv hJ [.int p1, .int p2, .int p3] (st := []) (fr' := 2) (lo' := 81) ml_X11_190 hc_10 (by decide) (by decide) (Nat.le_of_ble_eq_true rfl) dX11_begin_119 rfl (fun _ h9 => ct_X10_admit h9) (fun v14 => ?_)
      refine sj (j_aload_n hJ dX11_begin_122 rfl 0 rfl) ?_
      refine sj_gR hJ fl_X11_39 rfl dX11_begin_123 (fun v15 => ?_)
      refine sj_callVip hJ [] (st := []) (fr' := 0) (lo' := 0) ml_X11_185 hc_10 (by decide) (by decide) (Nat.le_of_ble_eq_true rfl) dX11_begin_126 rfl (fun _ h9 => ct_X10_forNext h9) (fun v16 => ?_)
      exact sx_iret hI dX11_begin_129 (fun h => h)
    · refine sj (j_sub hJ (L' := []) [] rfl) ?_
      exact w_X11_begin_b94 hI σ δ
  · refine sj (j_sub hJ (L' := []) [] rfl) ?_
    exact w_X11_begin_b94 hI σ δ
set_option maxHeartbeats 4000000 in
set_option maxRecDepth 100000 in
theorem w_X11_begin_b45 {J : JT} {an : AX} (hI : IsX cX11_begin 4 RX11 "begin" 10 250 (some .int) an J) (σ : St) (p0 : Nat) (p1 : Int32) (p2 : Int32) (p3 : Int32) (δ : Dy) : SJ (m_X11_begin_b45 σ p0 p1 p2 p3 δ) (PXI σ an) (J 45 [(0, .ref p0), (1, .int p1), (2, .int p2), (3, .int p3)] [] (bX an) σ δ) := by
  have hJ := hI.cor
  unfold m_X11_begin_b45
  refine sj (j_iload_n hJ dX11_begin_45 rfl 3 rfl) ?_
  refine sj_callSip hJ [.int p3] (st := []) (fr' := 0) (lo' := 0) ml_X11_180 (by decide) (by decide) (Nat.le_of_ble_eq_true rfl) dX11_begin_46 rfl (fun _ h9 => ct_X11_isValue h9) (fun v6 => ?_)
  refine sj_if (j_if_ne hJ (tgt := 69) dX11_begin_49 (by decide)) (fun _ => ?_) (fun _ => ?_)
  · refine sj (j_iload_n hJ dX11_begin_52 rfl 3 rfl) ?_
    refine sj (j_sipush hJ (v := 400) dX11_begin_53 is_400) ?_
    refine sj_if (j_icmp_ge hJ (tgt := 69) dX11_begin_56 (by decide)) (fun _ => ?_) (fun _ => ?_)
    · exact w_X11_begin_b69 hI σ p0 p1 p2 p3 δ
    · refine sj (j_sub hJ (L' := []) [] rfl) ?_
      exact w_X11_begin_b59 hI σ δ
  · exact w_X11_begin_b69 hI σ p0 p1 p2 p3 δ
set_option maxHeartbeats 4000000 in
set_option maxRecDepth 100000 in
theorem w_X11_begin_b21 {J : JT} {an : AX} (hI : IsX cX11_begin 4 RX11 "begin" 10 250 (some .int) an J) (σ : St) (δ : Dy) : SJ (m_X11_begin_b21 σ δ) (PXI σ an) (J 21 [] [] (bX an) σ δ) := by
  have hJ := hI.cor
  unfold m_X11_begin_b21
  exact sx_throw hI (text := "there is no such variable") tx_175_179 (by decide) rfl (by decide) (by decide) (Nat.le_of_ble_eq_true rfl) dX11_begin_21 dX11_begin_24 dX11_begin_25 dX11_begin_27 dX11_begin_30 (fun h => h)
set_option maxHeartbeats 4000000 in
set_option maxRecDepth 100000 in
theorem w_X11_begin {J : JT} {an : AX} (hI : IsX cX11_begin 4 RX11 "begin" 10 250 (some .int) an J) (σ : St) (p0 : Nat) (p1 : Int32) (p2 : Int32) (p3 : Int32) (δ : Dy) : SJ (m_X11_begin σ p0 p1 p2 p3 δ) (PXI σ an) (J 0 [(0, .ref p0), (1, .int p1), (2, .int p2), (3, .int p3)] [] (bX an) σ δ) := by
  have hJ := hI.cor
  unfold m_X11_begin
  refine sj (j_aload_n hJ dX11_begin_0 rfl 0 rfl) ?_
  refine sj (j_iload_n hJ dX11_begin_1 rfl 1 rfl) ?_
  refine sx_callVvp hI [.int p1] (st := []) (fr' := 9) (lo' := 229) ml_X11_90 hc_11 (by decide) (by decide) (Nat.le_of_ble_eq_true rfl) rfl dX11_begin_2 rfl (fun _ h9 => ct_X11_needNode h9) (fun x2 => ?_) (fun e h => h)
  refine sj (j_aload_n hJ dX11_begin_5 rfl 0 rfl) ?_
  refine sj (j_iload_n hJ dX11_begin_6 rfl 2 rfl) ?_
  refine sj_callVip hJ [.int p2] (st := []) (fr' := 0) (lo' := 0) ml_X11_171 hc_11 (by decide) (by decide) (Nat.le_of_ble_eq_true rfl) dX11_begin_7 rfl (fun _ h9 => ct_X11_isNoVariable h9) (fun v3 => ?_)
  refine sj_if (j_if_ne hJ (tgt := 21) dX11_begin_10 (by decide)) (fun _ => ?_) (fun _ => ?_)
  · refine sj (j_aload_n hJ dX11_begin_13 rfl 0 rfl) ?_
    refine sj (j_iload_n hJ dX11_begin_14 rfl 3 rfl) ?_
    refine sj_callVip hJ [.int p3] (st := []) (fr' := 0) (lo' := 0) ml_X11_171 hc_11 (by decide) (by decide) (Nat.le_of_ble_eq_true rfl) dX11_begin_15 rfl (fun _ h9 => ct_X11_isNoVariable h9) (fun v4 => ?_)
    refine sj_if (j_if_eq hJ (tgt := 31) dX11_begin_18 (by decide)) (fun _ => ?_) (fun _ => ?_)
    · refine sj (j_iload_n hJ dX11_begin_31 rfl 2 rfl) ?_
      refine sj_callSip hJ [.int p2] (st := []) (fr' := 0) (lo' := 0) ml_X11_180 (by decide) (by decide) (Nat.le_of_ble_eq_true rfl) dX11_begin_32 rfl (fun _ h9 => ct_X11_isValue h9) (fun v5 => ?_)
      refine sj_if (j_if_ne hJ (tgt := 45) dX11_begin_35 (by decide)) (fun _ => ?_) (fun _ => ?_)
      · refine sj (j_iload_n hJ dX11_begin_38 rfl 2 rfl) ?_
        refine sj (j_sipush hJ (v := 400) dX11_begin_39 is_400) ?_
        refine sj_if (j_icmp_lt hJ (tgt := 59) dX11_begin_42 (by decide)) (fun _ => ?_) (fun _ => ?_)
        · refine sj (j_sub hJ (L' := []) [] rfl) ?_
          exact w_X11_begin_b59 hI σ δ
        · exact w_X11_begin_b45 hI σ p0 p1 p2 p3 δ
      · exact w_X11_begin_b45 hI σ p0 p1 p2 p3 δ
    · refine sj (j_sub hJ (L' := []) [] rfl) ?_
      exact w_X11_begin_b21 hI σ δ
  · refine sj (j_sub hJ (L' := []) [] rfl) ?_
    exact w_X11_begin_b21 hI σ δ
theorem ct_X11_begin {σ : St} {p0 : Nat} {p1 : Int32} {p2 : Int32} {p3 : Int32} {δ : Dy} {r : ((Int32 ⊕ Nat) × Dy)} (h : m_X11_begin σ p0 p1 p2 p3 δ = some r) : CTX yX11_begin cX11_begin 4 (some .int) 10 250 [.ref p0, .int p1, .int p2, .int p3] σ δ (ox_i r.1, σ, r.2) := CTX_of (by decide +kernel) (Nat.le_of_ble_eq_true rfl) (fun J hI => w_X11_begin hI σ p0 p1 p2 p3 δ r h rfl)
def m_X11_step_b25 (σ : St) (δ : Dy) : Option ((Int32 ⊕ Nat) × Dy) :=
  some (Sum.inr 0, δ)
def m_X11_step (σ : St) (p0 : Nat) (δ : Dy) : Option ((Int32 ⊕ Nat) × Dy) :=
  (gR σ 11 p0 2).bind fun v1 =>
  (gR σ 10 v1 1).bind fun v2 =>
  (gI σ δ 8 v2 12).bind fun v3 =>
  if v3 = 0 then
    (gR σ 11 p0 2).bind fun v4 =>
    (gI σ δ 10 v4 10).bind fun v5 =>
    if v5 < (30 : Int32) then
      (chk σ 11 p0).bind fun _ => (m_X11_note σ p0 (4 : Int32) (0 : Int32) (0 : Int32) (0 : Int32) δ).bind fun v6 =>
      (gR σ 11 p0 4).bind fun v7 =>
      (chk σ 9 v7).bind fun _ => (m_X9_restart σ v7 v6).bind fun v8 =>
      (gR σ 11 p0 2).bind fun v9 =>
      (gR σ 11 p0 4).bind fun v10 =>
      (chk σ 10 v9).bind fun _ => (m_X10_doStep σ v9 v10 v8).bind fun v11 =>
      (gR σ 11 p0 2).bind fun v12 =>
      (gR σ 10 v12 1).bind fun v13 =>
      (gI σ v11 8 v13 11).bind fun v14 =>
      some (Sum.inl v14, v11)
    else
      m_X11_step_b25 σ δ
  else
    m_X11_step_b25 σ δ
set_option maxHeartbeats 4000000 in
set_option maxRecDepth 100000 in
theorem w_X11_step_b25 {J : JT} {an : AX} (hI : IsX cX11_step 1 RX11 "step" 9 229 (some .int) an J) (σ : St) (δ : Dy) : SJ (m_X11_step_b25 σ δ) (PXI σ an) (J 25 [] [] (bX an) σ δ) := by
  have hJ := hI.cor
  unfold m_X11_step_b25
  exact sx_throw hI (text := "no step can be done") tx_60_64 (by decide) rfl (by decide) (by decide) (Nat.le_of_ble_eq_true rfl) dX11_step_25 dX11_step_28 dX11_step_29 dX11_step_31 dX11_step_34 (fun h => h)
set_option maxHeartbeats 4000000 in
set_option maxRecDepth 100000 in
theorem w_X11_step {J : JT} {an : AX} (hI : IsX cX11_step 1 RX11 "step" 9 229 (some .int) an J) (σ : St) (p0 : Nat) (δ : Dy) : SJ (m_X11_step σ p0 δ) (PXI σ an) (J 0 [(0, .ref p0)] [] (bX an) σ δ) := by
  have hJ := hI.cor
  unfold m_X11_step
  refine sj (j_aload_n hJ dX11_step_0 rfl 0 rfl) ?_
  refine sj_gR hJ fl_X11_39 rfl dX11_step_1 (fun v1 => ?_)
  refine sj_gR hJ fl_X11_46 rfl dX11_step_4 (fun v2 => ?_)
  refine sj_gI hJ fl_X11_56 (Or.inr rfl) dX11_step_7 (fun v3 => ?_)
  refine sj_if (j_if_ne hJ (tgt := 25) dX11_step_10 (by decide)) (fun _ => ?_) (fun _ => ?_)
  · refine sj (j_aload_n hJ dX11_step_13 rfl 0 rfl) ?_
    refine sj_gR hJ fl_X11_39 rfl dX11_step_14 (fun v4 => ?_)
    refine sj_gI hJ fl_X11_193 (Or.inl rfl) dX11_step_17 (fun v5 => ?_)
    refine sj (j_bipush hJ (v := 30) dX11_step_20 ib_30) ?_
    refine sj_if (j_icmp_lt hJ (tgt := 35) dX11_step_22 (by decide)) (fun _ => ?_) (fun _ => ?_)
    · refine sj (j_aload_n hJ dX11_step_35 rfl 0 rfl) ?_
      refine sj (j_iconst hJ (v := 4) dX11_step_36 ic_4) ?_
      refine sj (j_iconst hJ (v := 0) dX11_step_37 ic_0) ?_
      refine sj (j_iconst hJ (v := 0) dX11_step_38 ic_0) ?_
      refine sj (j_iconst hJ (v := 0) dX11_step_39 ic_0) ?_
      refine sj_callVv hJ [.int (4 : Int32), .int (0 : Int32), .int (0 : Int32), .int (0 : Int32)] (st := []) (fr' := 0) (lo' := 0) ml_X11_67 hc_11 (by decide) (by decide) (Nat.le_of_ble_eq_true rfl) dX11_step_40 rfl (fun _ h9 => ct_X11_note h9) (fun v6 => ?_)
      refine sj (j_aload_n hJ dX11_step_43 rfl 0 rfl) ?_
      refine sj_gR hJ fl_X11_25 rfl dX11_step_44 (fun v7 => ?_)
      refine sj_callVv hJ [] (st := []) (fr' := 0) (lo' := 0) ml_X11_198 hc_9 (by decide) (by decide) (Nat.le_of_ble_eq_true rfl) dX11_step_47 rfl (fun _ h9 => ct_X9_restart h9) (fun v8 => ?_)
      refine sj (j_aload_n hJ dX11_step_50 rfl 0 rfl) ?_
      refine sj_gR hJ fl_X11_39 rfl dX11_step_51 (fun v9 => ?_)
      refine sj (j_aload_n hJ dX11_step_54 rfl 0 rfl) ?_
      refine sj_gR hJ fl_X11_25 rfl dX11_step_55 (fun v10 => ?_)
      refine sj_callVv hJ [.ref v10] (st := []) (fr' := 6) (lo' := 155) ml_X11_201 hc_10 (by decide) (by decide) (Nat.le_of_ble_eq_true rfl) dX11_step_58 rfl (fun _ h9 => ct_X10_doStep h9) (fun v11 => ?_)
      refine sj (j_aload_n hJ dX11_step_61 rfl 0 rfl) ?_
      refine sj_gR hJ fl_X11_39 rfl dX11_step_62 (fun v12 => ?_)
      refine sj_gR hJ fl_X11_46 rfl dX11_step_65 (fun v13 => ?_)
      refine sj_gI hJ fl_X11_205 (Or.inl rfl) dX11_step_68 (fun v14 => ?_)
      exact sx_iret hI dX11_step_71 (fun h => h)
    · refine sj (j_sub hJ (L' := []) [] rfl) ?_
      exact w_X11_step_b25 hI σ δ
  · refine sj (j_sub hJ (L' := []) [] rfl) ?_
    exact w_X11_step_b25 hI σ δ
theorem ct_X11_step {σ : St} {p0 : Nat} {δ : Dy} {r : ((Int32 ⊕ Nat) × Dy)} (h : m_X11_step σ p0 δ = some r) : CTX yX11_step cX11_step 1 (some .int) 9 229 [.ref p0] σ δ (ox_i r.1, σ, r.2) := CTX_of (by decide +kernel) (Nat.le_of_ble_eq_true rfl) (fun J hI => w_X11_step hI σ p0 δ r h rfl)
def m_X11_seed (σ : St) (p0 : Nat) (p1 : Int32) (δ : Dy) : Option ((Int32 ⊕ Nat) × Dy) :=
  (m_X11_needWithin σ p1 (0 : Int32) (65536 : Int32) δ).bind fun v1 => xel v1 (fun x2 =>
    (chk σ 11 p0).bind fun _ => (m_X11_note σ p0 (5 : Int32) p1 (0 : Int32) (0 : Int32) δ).bind fun v3 =>
    (gR σ 11 p0 2).bind fun v4 =>
    (gR σ 10 v4 3).bind fun v5 =>
    (gI σ v3 2 v5 1).bind fun v6 =>
    (gR σ 11 p0 2).bind fun v7 =>
    (gR σ 10 v7 3).bind fun v8 =>
    (pI σ v3 2 v8 1 p1).bind fun d9 =>
    some (Sum.inl v6, d9)) (fun e => (Sum.inr e, δ))
set_option maxHeartbeats 4000000 in
set_option maxRecDepth 100000 in
theorem w_X11_seed {J : JT} {an : AX} (hI : IsX cX11_seed 3 RX11 "seed" 10 251 (some .int) an J) (σ : St) (p0 : Nat) (p1 : Int32) (δ : Dy) : SJ (m_X11_seed σ p0 p1 δ) (PXI σ an) (J 0 [(0, .ref p0), (1, .int p1)] [] (bX an) σ δ) := by
  have hJ := hI.cor
  unfold m_X11_seed
  refine sj (j_iload_n hJ dX11_seed_0 rfl 1 rfl) ?_
  refine sj (j_iconst hJ (v := 0) dX11_seed_1 ic_0) ?_
  refine sj (j_ldc hJ (v := 65536) dX11_seed_2 wd_1300) ?_
  refine sx_callSvp hI [.int p1, .int (0 : Int32), .int (65536 : Int32)] (st := []) (fr' := 9) (lo' := 229) ml_X11_108 (by decide) (by decide) (Nat.le_of_ble_eq_true rfl) rfl dX11_seed_4 rfl (fun _ h9 => ct_X11_needWithin h9) (fun x2 => ?_) (fun e h => h)
  refine sj (j_aload_n hJ dX11_seed_7 rfl 0 rfl) ?_
  refine sj (j_iconst hJ (v := 5) dX11_seed_8 ic_5) ?_
  refine sj (j_iload_n hJ dX11_seed_9 rfl 1 rfl) ?_
  refine sj (j_iconst hJ (v := 0) dX11_seed_10 ic_0) ?_
  refine sj (j_iconst hJ (v := 0) dX11_seed_11 ic_0) ?_
  refine sj_callVv hJ [.int (5 : Int32), .int p1, .int (0 : Int32), .int (0 : Int32)] (st := []) (fr' := 0) (lo' := 0) ml_X11_67 hc_11 (by decide) (by decide) (Nat.le_of_ble_eq_true rfl) dX11_seed_12 rfl (fun _ h9 => ct_X11_note h9) (fun v3 => ?_)
  refine sj (j_aload_n hJ dX11_seed_15 rfl 0 rfl) ?_
  refine sj_gR hJ fl_X11_39 rfl dX11_seed_16 (fun v4 => ?_)
  refine sj_gR hJ fl_X11_209 rfl dX11_seed_19 (fun v5 => ?_)
  refine sj_gI hJ fl_X11_213 (Or.inl rfl) dX11_seed_22 (fun v6 => ?_)
  refine sj (j_istore_n hJ (L' := [(2, .int v6), (0, .ref p0), (1, .int p1)]) dX11_seed_25 rfl (by decide) rfl) ?_
  refine sj (j_aload_n hJ dX11_seed_26 rfl 1 rfl) ?_
  refine sj_gR hJ fl_X11_39 rfl dX11_seed_27 (fun v7 => ?_)
  refine sj_gR hJ fl_X11_209 rfl dX11_seed_30 (fun v8 => ?_)
  refine sj (j_iload_n hJ dX11_seed_33 rfl 2 rfl) ?_
  refine sj_pI hJ fl_X11_213 rfl dX11_seed_34 (fun d9 => ?_)
  refine sj (j_iload_n hJ dX11_seed_37 rfl 0 rfl) ?_
  exact sx_iret hI dX11_seed_38 (fun h => h)
theorem ct_X11_seed {σ : St} {p0 : Nat} {p1 : Int32} {δ : Dy} {r : ((Int32 ⊕ Nat) × Dy)} (h : m_X11_seed σ p0 p1 δ = some r) : CTX yX11_seed cX11_seed 3 (some .int) 10 251 [.ref p0, .int p1] σ δ (ox_i r.1, σ, r.2) := CTX_of (by decide +kernel) (Nat.le_of_ble_eq_true rfl) (fun J hI => w_X11_seed hI σ p0 p1 δ r h rfl)
def m_X11_ends_b104 (σ : St) (p0 : Nat) (p1 : Int32) (δ : Dy) : Option ((Int32 ⊕ Nat) × Dy) :=
  if p1 = 0 then
    (gR σ 11 p0 4).bind fun v6 =>
    (gI σ δ 9 v6 5).bind fun v7 =>
    some (Sum.inl v7, δ)
  else
    some (Sum.inl (-1 : Int32), δ)
def m_X11_ends_b34 (σ : St) (p0 : Nat) (p1 : Int32) (p2 : Int32) (δ : Dy) : Option ((Int32 ⊕ Nat) × Dy) := lp (fun (s : (Int32 × Int32 × Dy)) =>
  if (8 : Int32) ≤ s.2.1 then
    (m_X11_ends_b104 σ p0 s.1 s.2.2).bind fun r => some (Sum.inr r)
  else
    if s.1 = 0 then
      (m_X11_ends_b104 σ p0 s.1 s.2.2).bind fun r => some (Sum.inr r)
    else
      (gR σ 11 p0 3).bind fun v8 =>
      (gR σ 11 p0 2).bind fun v9 =>
      (chk σ 10 v8).bind fun _ => (m_X10_copyFrom σ v8 v9 s.2.2).bind fun v10 =>
      (gR σ 11 p0 3).bind fun v11 =>
      (gR σ 11 p0 4).bind fun v12 =>
      (chk σ 10 v11).bind fun _ => (m_X10_doStep σ v11 v12 v10).bind fun v13 =>
      (gR σ 11 p0 4).bind fun v14 =>
      (gR σ 11 p0 3).bind fun v15 =>
      (gR σ 10 v15 1).bind fun v16 =>
      (gR σ 11 p0 2).bind fun v17 =>
      (gR σ 10 v17 1).bind fun v18 =>
      (gI σ v13 8 v18 2).bind fun v19 =>
      (chk σ 9 v14).bind fun _ => (m_X9_record σ v14 v16 v19 v13).bind fun v20 =>
      (gR σ 11 p0 4).bind fun v21 =>
      (chk σ 9 v21).bind fun _ => (m_X9_turn σ v21 v20).bind fun v22 =>
      some (Sum.inl (v22.1, (s.2.1 + (1 : Int32)), v22.2))) (p1, p2, δ)
def m_X11_ends (σ : St) (p0 : Nat) (δ : Dy) : Option ((Int32 ⊕ Nat) × Dy) :=
  (gR σ 11 p0 2).bind fun v1 =>
  (gR σ 10 v1 1).bind fun v2 =>
  (gI σ δ 8 v2 12).bind fun v3 =>
  if v3 = 0 then
    (gR σ 11 p0 4).bind fun v4 =>
    (chk σ 9 v4).bind fun _ => (m_X9_restart σ v4 δ).bind fun v5 =>
    m_X11_ends_b34 σ p0 (1 : Int32) (0 : Int32) v5
  else
    some (Sum.inr 0, δ)
set_option maxHeartbeats 4000000 in
set_option maxRecDepth 100000 in
theorem w_X11_ends_b104 {J : JT} {an : AX} (hI : IsX cX11_ends 3 RX11 "ends" 9 229 (some .int) an J) (σ : St) (p0 : Nat) (p1 : Int32) (δ : Dy) : SJ (m_X11_ends_b104 σ p0 p1 δ) (PXI σ an) (J 104 [(0, .ref p0), (1, .int p1)] [] (bX an) σ δ) := by
  have hJ := hI.cor
  unfold m_X11_ends_b104
  refine sj (j_iload_n hJ dX11_ends_104 rfl 1 rfl) ?_
  refine sj_if (j_if_eq hJ (tgt := 112) dX11_ends_105 (by decide)) (fun _ => ?_) (fun _ => ?_)
  · refine sj (j_aload_n hJ dX11_ends_112 rfl 0 rfl) ?_
    refine sj_gR hJ fl_X11_25 rfl dX11_ends_113 (fun v6 => ?_)
    refine sj_gI hJ fl_X11_232 (Or.inl rfl) dX11_ends_116 (fun v7 => ?_)
    exact sx_iret hI dX11_ends_119 (fun h => h)
  · refine sj (j_iconst hJ (v := -1) dX11_ends_108 ic_m1) ?_
    refine sj (j_goto hJ (tgt := 119) dX11_ends_109 (by decide)) ?_
    exact sx_iret hI dX11_ends_119 (fun h => h)
set_option maxHeartbeats 4000000 in
set_option maxRecDepth 100000 in
theorem w_X11_ends_b34 {J : JT} {an : AX} (hI : IsX cX11_ends 3 RX11 "ends" 9 229 (some .int) an J) (σ : St) (p0 : Nat) (p1 : Int32) (p2 : Int32) (δ : Dy) : SJ (m_X11_ends_b34 σ p0 p1 p2 δ) (PXI σ an) (J 34 [(0, .ref p0), (1, .int p1), (2, .int p2)] [] (bX an) σ δ) := by
  have hJ := hI.cor
  unfold m_X11_ends_b34
  refine sj_lp (G := fun s : (Int32 × Int32 × Dy) => J 34 [(0, .ref p0), (1, .int s.1), (2, .int s.2.1)] [] (bX an) σ s.2.2) (fun s => ?_) (p1, p2, δ)
  refine sj (j_iload_n hJ dX11_ends_34 rfl 2 rfl) ?_
  refine sj (j_bipush hJ (v := 8) dX11_ends_35 ib_8) ?_
  refine sj_if (j_icmp_ge hJ (tgt := 104) dX11_ends_37 (by decide)) (fun _ => ?_) (fun _ => ?_)
  · refine sj (j_sub hJ (L' := [(0, .ref p0), (1, .int s.1)]) [0, 1] rfl) ?_
    refine sj_map ?_
    exact w_X11_ends_b104 hI σ p0 s.1 s.2.2
  · refine sj (j_iload_n hJ dX11_ends_40 rfl 1 rfl) ?_
    refine sj_if (j_if_eq hJ (tgt := 104) dX11_ends_41 (by decide)) (fun _ => ?_) (fun _ => ?_)
    · refine sj (j_sub hJ (L' := [(0, .ref p0), (1, .int s.1)]) [0, 1] rfl) ?_
      refine sj_map ?_
      exact w_X11_ends_b104 hI σ p0 s.1 s.2.2
    · refine sj (j_aload_n hJ dX11_ends_44 rfl 0 rfl) ?_
      refine sj_gR hJ fl_X11_43 rfl dX11_ends_45 (fun v8 => ?_)
      refine sj (j_aload_n hJ dX11_ends_48 rfl 0 rfl) ?_
      refine sj_gR hJ fl_X11_39 rfl dX11_ends_49 (fun v9 => ?_)
      refine sj_callVv hJ [.ref v9] (st := []) (fr' := 2) (lo' := 81) ml_X11_220 hc_10 (by decide) (by decide) (Nat.le_of_ble_eq_true rfl) dX11_ends_52 rfl (fun _ h9 => ct_X10_copyFrom h9) (fun v10 => ?_)
      refine sj (j_aload_n hJ dX11_ends_55 rfl 0 rfl) ?_
      refine sj_gR hJ fl_X11_43 rfl dX11_ends_56 (fun v11 => ?_)
      refine sj (j_aload_n hJ dX11_ends_59 rfl 0 rfl) ?_
      refine sj_gR hJ fl_X11_25 rfl dX11_ends_60 (fun v12 => ?_)
      refine sj_callVv hJ [.ref v12] (st := []) (fr' := 6) (lo' := 155) ml_X11_201 hc_10 (by decide) (by decide) (Nat.le_of_ble_eq_true rfl) dX11_ends_63 rfl (fun _ h9 => ct_X10_doStep h9) (fun v13 => ?_)
      refine sj (j_aload_n hJ dX11_ends_66 rfl 0 rfl) ?_
      refine sj_gR hJ fl_X11_25 rfl dX11_ends_67 (fun v14 => ?_)
      refine sj (j_aload_n hJ dX11_ends_70 rfl 0 rfl) ?_
      refine sj_gR hJ fl_X11_43 rfl dX11_ends_71 (fun v15 => ?_)
      refine sj_gR hJ fl_X11_46 rfl dX11_ends_74 (fun v16 => ?_)
      refine sj (j_aload_n hJ dX11_ends_77 rfl 0 rfl) ?_
      refine sj_gR hJ fl_X11_39 rfl dX11_ends_78 (fun v17 => ?_)
      refine sj_gR hJ fl_X11_46 rfl dX11_ends_81 (fun v18 => ?_)
      refine sj_gI hJ fl_X11_50 (Or.inl rfl) dX11_ends_84 (fun v19 => ?_)
      refine sj_callVv hJ [.ref v16, .int v19] (st := []) (fr' := 2) (lo' := 49) ml_X11_224 hc_9 (by decide) (by decide) (Nat.le_of_ble_eq_true rfl) dX11_ends_87 rfl (fun _ h9 => ct_X9_record h9) (fun v20 => ?_)
      refine sj (j_aload_n hJ dX11_ends_90 rfl 0 rfl) ?_
      refine sj_gR hJ fl_X11_25 rfl dX11_ends_91 (fun v21 => ?_)
      refine sj_callVi hJ [] (st := []) (fr' := 0) (lo' := 0) ml_X11_228 hc_9 (by decide) (by decide) (Nat.le_of_ble_eq_true rfl) dX11_ends_94 rfl (fun _ h9 => ct_X9_turn h9) (fun v22 => ?_)
      refine sj (j_istore_n hJ (L' := [(1, .int v22.1), (0, .ref p0), (2, .int s.2.1)]) dX11_ends_97 rfl (by decide) rfl) ?_
      refine sj (j_iinc hJ (L' := [(2, .int (s.2.1 + (1 : Int32))), (1, .int v22.1), (0, .ref p0)]) dX11_ends_98 2 rfl (congrArg (fun z => s.2.1 + z) ic_1) (by decide) rfl) ?_
      refine sj (j_goto hJ (tgt := 34) dX11_ends_101 (by decide)) ?_
      refine sj (j_sub hJ (L' := [(0, .ref p0), (1, .int v22.1), (2, .int (s.2.1 + (1 : Int32)))]) [2, 1, 0] rfl) ?_
      exact sj_end (fun h => h)
set_option maxHeartbeats 4000000 in
set_option maxRecDepth 100000 in
theorem w_X11_ends {J : JT} {an : AX} (hI : IsX cX11_ends 3 RX11 "ends" 9 229 (some .int) an J) (σ : St) (p0 : Nat) (δ : Dy) : SJ (m_X11_ends σ p0 δ) (PXI σ an) (J 0 [(0, .ref p0)] [] (bX an) σ δ) := by
  have hJ := hI.cor
  unfold m_X11_ends
  refine sj (j_aload_n hJ dX11_ends_0 rfl 0 rfl) ?_
  refine sj_gR hJ fl_X11_39 rfl dX11_ends_1 (fun v1 => ?_)
  refine sj_gR hJ fl_X11_46 rfl dX11_ends_4 (fun v2 => ?_)
  refine sj_gI hJ fl_X11_56 (Or.inr rfl) dX11_ends_7 (fun v3 => ?_)
  refine sj_if (j_if_eq hJ (tgt := 23) dX11_ends_10 (by decide)) (fun _ => ?_) (fun _ => ?_)
  · refine sj (j_aload_n hJ dX11_ends_23 rfl 0 rfl) ?_
    refine sj_gR hJ fl_X11_25 rfl dX11_ends_24 (fun v4 => ?_)
    refine sj_callVv hJ [] (st := []) (fr' := 0) (lo' := 0) ml_X11_198 hc_9 (by decide) (by decide) (Nat.le_of_ble_eq_true rfl) dX11_ends_27 rfl (fun _ h9 => ct_X9_restart h9) (fun v5 => ?_)
    refine sj (j_iconst hJ (v := 1) dX11_ends_30 ic_1) ?_
    refine sj (j_istore_n hJ (L' := [(1, .int (1 : Int32)), (0, .ref p0)]) dX11_ends_31 rfl (by decide) rfl) ?_
    refine sj (j_iconst hJ (v := 0) dX11_ends_32 ic_0) ?_
    refine sj (j_istore_n hJ (L' := [(2, .int (0 : Int32)), (1, .int (1 : Int32)), (0, .ref p0)]) dX11_ends_33 rfl (by decide) rfl) ?_
    refine sj (j_sub hJ (L' := [(0, .ref p0), (1, .int (1 : Int32)), (2, .int (0 : Int32))]) [2, 1, 0] rfl) ?_
    exact w_X11_ends_b34 hI σ p0 (1 : Int32) (0 : Int32) v5
  · exact sx_throw hI (text := "the store has failed") tx_60_64 (by decide) rfl (by decide) (by decide) (Nat.le_of_ble_eq_true rfl) dX11_ends_13 dX11_ends_16 dX11_ends_17 dX11_ends_19 dX11_ends_22 (fun h => h)
theorem ct_X11_ends {σ : St} {p0 : Nat} {δ : Dy} {r : ((Int32 ⊕ Nat) × Dy)} (h : m_X11_ends σ p0 δ = some r) : CTX yX11_ends cX11_ends 3 (some .int) 9 229 [.ref p0] σ δ (ox_i r.1, σ, r.2) := CTX_of (by decide +kernel) (Nat.le_of_ble_eq_true rfl) (fun J hI => w_X11_ends hI σ p0 δ r h rfl)
def m_X11_needVariable_b18 (σ : St) (δ : Dy) : Option (Unit ⊕ Nat) :=
  some (Sum.inr 2)
def m_X11_needVariable (σ : St) (p0 : Nat) (p1 : Int32) (δ : Dy) : Option (Unit ⊕ Nat) :=
  if p1 < 0 then
    m_X11_needVariable_b18 σ δ
  else
    (gR σ 11 p0 2).bind fun v1 =>
    (gR σ 10 v1 1).bind fun v2 =>
    (gI σ δ 8 v2 2).bind fun v3 =>
    if p1 < v3 then
      some (Sum.inl ())
    else
      m_X11_needVariable_b18 σ δ
set_option maxHeartbeats 4000000 in
set_option maxRecDepth 100000 in
theorem w_X11_needVariable_b18 {J : JT} {an : AX} (hI : IsX cX11_needVariable 2 RX11 "needVariable" 9 229 none an J) (σ : St) (δ : Dy) : SJ (m_X11_needVariable_b18 σ δ) (PXVp σ δ an) (J 18 [] [] (bX an) σ δ) := by
  have hJ := hI.cor
  unfold m_X11_needVariable_b18
  exact sx_throw hI (text := "there is no such variable") tx_175_179 (by decide) rfl (by decide) (by decide) (Nat.le_of_ble_eq_true rfl) dX11_needVariable_18 dX11_needVariable_21 dX11_needVariable_22 dX11_needVariable_24 dX11_needVariable_27 (fun h => h)
set_option maxHeartbeats 4000000 in
set_option maxRecDepth 100000 in
theorem w_X11_needVariable {J : JT} {an : AX} (hI : IsX cX11_needVariable 2 RX11 "needVariable" 9 229 none an J) (σ : St) (p0 : Nat) (p1 : Int32) (δ : Dy) : SJ (m_X11_needVariable σ p0 p1 δ) (PXVp σ δ an) (J 0 [(0, .ref p0), (1, .int p1)] [] (bX an) σ δ) := by
  have hJ := hI.cor
  unfold m_X11_needVariable
  refine sj (j_iload_n hJ dX11_needVariable_0 rfl 1 rfl) ?_
  refine sj_if (j_if_lt hJ (tgt := 18) dX11_needVariable_1 (by decide)) (fun _ => ?_) (fun _ => ?_)
  · refine sj (j_sub hJ (L' := []) [] rfl) ?_
    exact w_X11_needVariable_b18 hI σ δ
  · refine sj (j_iload_n hJ dX11_needVariable_4 rfl 1 rfl) ?_
    refine sj (j_aload_n hJ dX11_needVariable_5 rfl 0 rfl) ?_
    refine sj_gR hJ fl_X11_39 rfl dX11_needVariable_6 (fun v1 => ?_)
    refine sj_gR hJ fl_X11_46 rfl dX11_needVariable_9 (fun v2 => ?_)
    refine sj_gI hJ fl_X11_50 (Or.inl rfl) dX11_needVariable_12 (fun v3 => ?_)
    refine sj_if (j_icmp_lt hJ (tgt := 28) dX11_needVariable_15 (by decide)) (fun _ => ?_) (fun _ => ?_)
    · exact sx_vret hI dX11_needVariable_28 (fun h => h)
    · refine sj (j_sub hJ (L' := []) [] rfl) ?_
      exact w_X11_needVariable_b18 hI σ δ
theorem ct_X11_needVariable {σ : St} {p0 : Nat} {p1 : Int32} {δ : Dy} {r : (Unit ⊕ Nat)} (h : m_X11_needVariable σ p0 p1 δ = some r) : CTX yX11_needVariable cX11_needVariable 2 none 9 229 [.ref p0, .int p1] σ δ (ox_v r, σ, δ) := CTX_of (by decide +kernel) (Nat.le_of_ble_eq_true rfl) (fun J hI => w_X11_needVariable hI σ p0 p1 δ r h rfl)
def m_X11_value (σ : St) (p0 : Nat) (p1 : Int32) (δ : Dy) : Option (Int32 ⊕ Nat) :=
  (chk σ 11 p0).bind fun _ => (m_X11_needVariable σ p0 p1 δ).bind fun v1 => xel v1 (fun x2 =>
    (gR σ 11 p0 2).bind fun v3 =>
    (gR σ 10 v3 1).bind fun v4 =>
    (chk σ 8 v4).bind fun _ => (m_X8_form σ v4 ((400 : Int32) + p1) δ).bind fun v5 =>
    if (400 : Int32) ≤ v5 then
      some (Sum.inl (100 : Int32))
    else
      some (Sum.inl v5)) (fun e => (Sum.inr e))
set_option maxHeartbeats 4000000 in
set_option maxRecDepth 100000 in
theorem w_X11_value {J : JT} {an : AX} (hI : IsX cX11_value 3 RX11 "value" 10 250 (some .int) an J) (σ : St) (p0 : Nat) (p1 : Int32) (δ : Dy) : SJ (m_X11_value σ p0 p1 δ) (PXIp σ δ an) (J 0 [(0, .ref p0), (1, .int p1)] [] (bX an) σ δ) := by
  have hJ := hI.cor
  unfold m_X11_value
  refine sj (j_aload_n hJ dX11_value_0 rfl 0 rfl) ?_
  refine sj (j_iload_n hJ dX11_value_1 rfl 1 rfl) ?_
  refine sx_callVvp hI [.int p1] (st := []) (fr' := 9) (lo' := 229) ml_X11_238 hc_11 (by decide) (by decide) (Nat.le_of_ble_eq_true rfl) rfl dX11_value_2 rfl (fun _ h9 => ct_X11_needVariable h9) (fun x2 => ?_) (fun e h => h)
  refine sj (j_aload_n hJ dX11_value_5 rfl 0 rfl) ?_
  refine sj_gR hJ fl_X11_39 rfl dX11_value_6 (fun v3 => ?_)
  refine sj_gR hJ fl_X11_46 rfl dX11_value_9 (fun v4 => ?_)
  refine sj (j_sipush hJ (v := 400) dX11_value_12 is_400) ?_
  refine sj (j_iload_n hJ dX11_value_15 rfl 1 rfl) ?_
  refine sj (j_iadd hJ dX11_value_16) ?_
  refine sj_callVip hJ [.int ((400 : Int32) + p1)] (st := []) (fr' := 0) (lo' := 0) ml_X11_241 hc_8 (by decide) (by decide) (Nat.le_of_ble_eq_true rfl) dX11_value_17 rfl (fun _ h9 => ct_X8_form h9) (fun v5 => ?_)
  refine sj (j_istore_n hJ (L' := [(2, .int v5), (0, .ref p0), (1, .int p1)]) dX11_value_20 rfl (by decide) rfl) ?_
  refine sj (j_iload_n hJ dX11_value_21 rfl 0 rfl) ?_
  refine sj (j_sipush hJ (v := 400) dX11_value_22 is_400) ?_
  refine sj_if (j_icmp_ge hJ (tgt := 32) dX11_value_25 (by decide)) (fun _ => ?_) (fun _ => ?_)
  · refine sj (j_bipush hJ (v := 100) dX11_value_32 ib_100) ?_
    exact sx_iret hI dX11_value_34 (fun h => h)
  · refine sj (j_iload_n hJ dX11_value_28 rfl 0 rfl) ?_
    refine sj (j_goto hJ (tgt := 34) dX11_value_29 (by decide)) ?_
    exact sx_iret hI dX11_value_34 (fun h => h)
theorem ct_X11_value {σ : St} {p0 : Nat} {p1 : Int32} {δ : Dy} {r : (Int32 ⊕ Nat)} (h : m_X11_value σ p0 p1 δ = some r) : CTX yX11_value cX11_value 3 (some .int) 10 250 [.ref p0, .int p1] σ δ (ox_i r, σ, δ) := CTX_of (by decide +kernel) (Nat.le_of_ble_eq_true rfl) (fun J hI => w_X11_value hI σ p0 p1 δ r h rfl)
def m_X11_areOne (σ : St) (p0 : Nat) (p1 : Int32) (p2 : Int32) (δ : Dy) : Option (Int32 ⊕ Nat) :=
  (chk σ 11 p0).bind fun _ => (m_X11_needVariable σ p0 p1 δ).bind fun v1 => xel v1 (fun x2 =>
    (chk σ 11 p0).bind fun _ => (m_X11_needVariable σ p0 p2 δ).bind fun v3 => xel v3 (fun x4 =>
      (gR σ 11 p0 2).bind fun v5 =>
      (gR σ 10 v5 1).bind fun v6 =>
      (gR σ 8 v6 0).bind fun v7 =>
      (rI σ δ v7 p1).bind fun v8 =>
      (gR σ 11 p0 2).bind fun v9 =>
      (gR σ 10 v9 1).bind fun v10 =>
      (gR σ 8 v10 0).bind fun v11 =>
      (rI σ δ v11 p2).bind fun v12 =>
      if v8 = v12 then
        some (Sum.inl (1 : Int32))
      else
        some (Sum.inl (0 : Int32))) (fun e => (Sum.inr e))) (fun e => (Sum.inr e))
set_option maxHeartbeats 4000000 in
set_option maxRecDepth 100000 in
theorem w_X11_areOne {J : JT} {an : AX} (hI : IsX cX11_areOne 3 RX11 "areOne" 10 250 (some .boolean) an J) (σ : St) (p0 : Nat) (p1 : Int32) (p2 : Int32) (δ : Dy) : SJ (m_X11_areOne σ p0 p1 p2 δ) (PXIp σ δ an) (J 0 [(0, .ref p0), (1, .int p1), (2, .int p2)] [] (bX an) σ δ) := by
  have hJ := hI.cor
  unfold m_X11_areOne
  refine sj (j_aload_n hJ dX11_areOne_0 rfl 0 rfl) ?_
  refine sj (j_iload_n hJ dX11_areOne_1 rfl 1 rfl) ?_
  refine sx_callVvp hI [.int p1] (st := []) (fr' := 9) (lo' := 229) ml_X11_238 hc_11 (by decide) (by decide) (Nat.le_of_ble_eq_true rfl) rfl dX11_areOne_2 rfl (fun _ h9 => ct_X11_needVariable h9) (fun x2 => ?_) (fun e h => h)
  refine sj (j_aload_n hJ dX11_areOne_5 rfl 0 rfl) ?_
  refine sj (j_iload_n hJ dX11_areOne_6 rfl 2 rfl) ?_
  refine sx_callVvp hI [.int p2] (st := []) (fr' := 9) (lo' := 229) ml_X11_238 hc_11 (by decide) (by decide) (Nat.le_of_ble_eq_true rfl) rfl dX11_areOne_7 rfl (fun _ h9 => ct_X11_needVariable h9) (fun x4 => ?_) (fun e h => h)
  refine sj (j_aload_n hJ dX11_areOne_10 rfl 0 rfl) ?_
  refine sj_gR hJ fl_X11_39 rfl dX11_areOne_11 (fun v5 => ?_)
  refine sj_gR hJ fl_X11_46 rfl dX11_areOne_14 (fun v6 => ?_)
  refine sj_gR hJ fl_X11_245 rfl dX11_areOne_17 (fun v7 => ?_)
  refine sj (j_iload_n hJ dX11_areOne_20 rfl 1 rfl) ?_
  refine sj_rI hJ dX11_areOne_21 (fun v8 => ?_)
  refine sj (j_aload_n hJ dX11_areOne_22 rfl 0 rfl) ?_
  refine sj_gR hJ fl_X11_39 rfl dX11_areOne_23 (fun v9 => ?_)
  refine sj_gR hJ fl_X11_46 rfl dX11_areOne_26 (fun v10 => ?_)
  refine sj_gR hJ fl_X11_245 rfl dX11_areOne_29 (fun v11 => ?_)
  refine sj (j_iload_n hJ dX11_areOne_32 rfl 2 rfl) ?_
  refine sj_rI hJ dX11_areOne_33 (fun v12 => ?_)
  refine sj_if (j_icmp_ne hJ (tgt := 41) dX11_areOne_34 (by decide)) (fun _ => ?_) (fun _ => ?_)
  · refine sj (j_iconst hJ (v := 1) dX11_areOne_37 ic_1) ?_
    refine sj (j_goto hJ (tgt := 42) dX11_areOne_38 (by decide)) ?_
    exact sx_zret hI (by decide) dX11_areOne_42 (fun h => h)
  · refine sj (j_iconst hJ (v := 0) dX11_areOne_41 ic_0) ?_
    exact sx_zret hI (by decide) dX11_areOne_42 (fun h => h)
theorem ct_X11_areOne {σ : St} {p0 : Nat} {p1 : Int32} {p2 : Int32} {δ : Dy} {r : (Int32 ⊕ Nat)} (h : m_X11_areOne σ p0 p1 p2 δ = some r) : CTX yX11_areOne cX11_areOne 3 (some .boolean) 10 250 [.ref p0, .int p1, .int p2] σ δ (ox_i r, σ, δ) := CTX_of (by decide +kernel) (Nat.le_of_ble_eq_true rfl) (fun J hI => w_X11_areOne hI σ p0 p1 p2 δ r h rfl)
def m_X11_needToken_b18 (σ : St) (δ : Dy) : Option (Unit ⊕ Nat) :=
  some (Sum.inr 2)
def m_X11_needToken (σ : St) (p0 : Nat) (p1 : Int32) (δ : Dy) : Option (Unit ⊕ Nat) :=
  if p1 < 0 then
    m_X11_needToken_b18 σ δ
  else
    (gR σ 11 p0 2).bind fun v1 =>
    (gR σ 10 v1 1).bind fun v2 =>
    (gI σ δ 8 v2 10).bind fun v3 =>
    if p1 < v3 then
      some (Sum.inl ())
    else
      m_X11_needToken_b18 σ δ
set_option maxHeartbeats 4000000 in
set_option maxRecDepth 100000 in
theorem w_X11_needToken_b18 {J : JT} {an : AX} (hI : IsX cX11_needToken 2 RX11 "needToken" 9 229 none an J) (σ : St) (δ : Dy) : SJ (m_X11_needToken_b18 σ δ) (PXVp σ δ an) (J 18 [] [] (bX an) σ δ) := by
  have hJ := hI.cor
  unfold m_X11_needToken_b18
  exact sx_throwW hI (text := "there is no such token") tx_175_179 (by decide) rfl (by decide) (by decide) (Nat.le_of_ble_eq_true rfl) dX11_needToken_18 dX11_needToken_21 dX11_needToken_22 dX11_needToken_25 dX11_needToken_28 (fun h => h)
set_option maxHeartbeats 4000000 in
set_option maxRecDepth 100000 in
theorem w_X11_needToken {J : JT} {an : AX} (hI : IsX cX11_needToken 2 RX11 "needToken" 9 229 none an J) (σ : St) (p0 : Nat) (p1 : Int32) (δ : Dy) : SJ (m_X11_needToken σ p0 p1 δ) (PXVp σ δ an) (J 0 [(0, .ref p0), (1, .int p1)] [] (bX an) σ δ) := by
  have hJ := hI.cor
  unfold m_X11_needToken
  refine sj (j_iload_n hJ dX11_needToken_0 rfl 1 rfl) ?_
  refine sj_if (j_if_lt hJ (tgt := 18) dX11_needToken_1 (by decide)) (fun _ => ?_) (fun _ => ?_)
  · refine sj (j_sub hJ (L' := []) [] rfl) ?_
    exact w_X11_needToken_b18 hI σ δ
  · refine sj (j_iload_n hJ dX11_needToken_4 rfl 1 rfl) ?_
    refine sj (j_aload_n hJ dX11_needToken_5 rfl 0 rfl) ?_
    refine sj_gR hJ fl_X11_39 rfl dX11_needToken_6 (fun v1 => ?_)
    refine sj_gR hJ fl_X11_46 rfl dX11_needToken_9 (fun v2 => ?_)
    refine sj_gI hJ fl_X11_248 (Or.inl rfl) dX11_needToken_12 (fun v3 => ?_)
    refine sj_if (j_icmp_lt hJ (tgt := 29) dX11_needToken_15 (by decide)) (fun _ => ?_) (fun _ => ?_)
    · exact sx_vret hI dX11_needToken_29 (fun h => h)
    · refine sj (j_sub hJ (L' := []) [] rfl) ?_
      exact w_X11_needToken_b18 hI σ δ
theorem ct_X11_needToken {σ : St} {p0 : Nat} {p1 : Int32} {δ : Dy} {r : (Unit ⊕ Nat)} (h : m_X11_needToken σ p0 p1 δ = some r) : CTX yX11_needToken cX11_needToken 2 none 9 229 [.ref p0, .int p1] σ δ (ox_v r, σ, δ) := CTX_of (by decide +kernel) (Nat.le_of_ble_eq_true rfl) (fun J hI => w_X11_needToken hI σ p0 p1 δ r h rfl)
def m_X11_part (σ : St) (p0 : Nat) (p1 : Int32) (p2 : Int32) (δ : Dy) : Option (Int32 ⊕ Nat) :=
  (chk σ 11 p0).bind fun _ => (m_X11_needToken σ p0 p1 δ).bind fun v1 => xel v1 (fun x2 =>
    (gR σ 11 p0 2).bind fun v3 =>
    (gR σ 10 v3 1).bind fun v4 =>
    if p2 = (0 : Int32) then
      (gR σ 8 v4 3).bind fun v6 =>
      (rI σ δ v6 p1).bind fun v7 =>
      some (Sum.inl v7)
    else
    if p2 = (1 : Int32) then
      (gR σ 8 v4 4).bind fun v8 =>
      (rI σ δ v8 p1).bind fun v9 =>
      (chk σ 8 v4).bind fun _ => (m_X8_form σ v4 v9 δ).bind fun v10 =>
      some (Sum.inl v10)
    else
    if p2 = (2 : Int32) then
      (gR σ 8 v4 5).bind fun v11 =>
      (rI σ δ v11 p1).bind fun v12 =>
      (chk σ 8 v4).bind fun _ => (m_X8_form σ v4 v12 δ).bind fun v13 =>
      some (Sum.inl v13)
    else
    if p2 = (3 : Int32) then
      (gR σ 8 v4 7).bind fun v14 =>
      (rZ σ δ v14 p1).bind fun v15 =>
      if v15 = 0 then
        some (Sum.inl (0 : Int32))
      else
        some (Sum.inl (1 : Int32))
    else
    if p2 = (4 : Int32) then
      (gR σ 8 v4 6).bind fun v16 =>
      (rZ σ δ v16 p1).bind fun v17 =>
      if v17 = 0 then
        some (Sum.inl (0 : Int32))
      else
        some (Sum.inl (1 : Int32))
    else
    some (Sum.inr 1)) (fun e => (Sum.inr e))
set_option maxHeartbeats 4000000 in
set_option maxRecDepth 100000 in
theorem w_X11_part {J : JT} {an : AX} (hI : IsX cX11_part 4 RX11 "part" 10 250 (some .int) an J) (σ : St) (p0 : Nat) (p1 : Int32) (p2 : Int32) (δ : Dy) : SJ (m_X11_part σ p0 p1 p2 δ) (PXIp σ δ an) (J 0 [(0, .ref p0), (1, .int p1), (2, .int p2)] [] (bX an) σ δ) := by
  have hJ := hI.cor
  unfold m_X11_part
  refine sj (j_aload_n hJ dX11_part_0 rfl 0 rfl) ?_
  refine sj (j_iload_n hJ dX11_part_1 rfl 1 rfl) ?_
  refine sx_callVvp hI [.int p1] (st := []) (fr' := 9) (lo' := 229) ml_X11_251 hc_11 (by decide) (by decide) (Nat.le_of_ble_eq_true rfl) rfl dX11_part_2 rfl (fun _ h9 => ct_X11_needToken h9) (fun x2 => ?_) (fun e h => h)
  refine sj (j_aload_n hJ dX11_part_5 rfl 0 rfl) ?_
  refine sj_gR hJ fl_X11_39 rfl dX11_part_6 (fun v3 => ?_)
  refine sj_gR hJ fl_X11_46 rfl dX11_part_9 (fun v4 => ?_)
  refine sj (j_astore_n hJ (L' := [(3, .ref v4), (0, .ref p0), (1, .int p1), (2, .int p2)]) dX11_part_12 rfl (by decide) rfl) ?_
  refine sj (j_iload_n hJ dX11_part_13 rfl 3 rfl) ?_
  refine sj_ifc (fun h5 => ?_) (fun h5_0 => ?_)
  · refine sj (fun k9 => j_tableIn hJ dX11_part_14 (off := 34) (by rw [h5]; decide) (by rw [h5]; decide) (by rw [h5]; decide) (tgt := 48) (by decide) k9) ?_
    refine sj (j_aload_n hJ dX11_part_48 rfl 0 rfl) ?_
    refine sj_gR hJ fl_X11_254 rfl dX11_part_49 (fun v6 => ?_)
    refine sj (j_iload_n hJ dX11_part_52 rfl 2 rfl) ?_
    refine sj_rI hJ dX11_part_53 (fun v7 => ?_)
    exact sx_iret hI dX11_part_54 (fun h => h)
  refine sj_ifc (fun h5 => ?_) (fun h5_1 => ?_)
  · refine sj (fun k9 => j_tableIn hJ dX11_part_14 (off := 41) (by rw [h5]; decide) (by rw [h5]; decide) (by rw [h5]; decide) (tgt := 55) (by decide) k9) ?_
    refine sj (j_aload_n hJ dX11_part_55 rfl 0 rfl) ?_
    refine sj (j_aload_n hJ dX11_part_56 rfl 0 rfl) ?_
    refine sj_gR hJ fl_X11_257 rfl dX11_part_57 (fun v8 => ?_)
    refine sj (j_iload_n hJ dX11_part_60 rfl 2 rfl) ?_
    refine sj_rI hJ dX11_part_61 (fun v9 => ?_)
    refine sj_callVip hJ [.int v9] (st := []) (fr' := 0) (lo' := 0) ml_X11_241 hc_8 (by decide) (by decide) (Nat.le_of_ble_eq_true rfl) dX11_part_62 rfl (fun _ h9 => ct_X8_form h9) (fun v10 => ?_)
    exact sx_iret hI dX11_part_65 (fun h => h)
  refine sj_ifc (fun h5 => ?_) (fun h5_2 => ?_)
  · refine sj (fun k9 => j_tableIn hJ dX11_part_14 (off := 52) (by rw [h5]; decide) (by rw [h5]; decide) (by rw [h5]; decide) (tgt := 66) (by decide) k9) ?_
    refine sj (j_aload_n hJ dX11_part_66 rfl 0 rfl) ?_
    refine sj (j_aload_n hJ dX11_part_67 rfl 0 rfl) ?_
    refine sj_gR hJ fl_X11_260 rfl dX11_part_68 (fun v11 => ?_)
    refine sj (j_iload_n hJ dX11_part_71 rfl 2 rfl) ?_
    refine sj_rI hJ dX11_part_72 (fun v12 => ?_)
    refine sj_callVip hJ [.int v12] (st := []) (fr' := 0) (lo' := 0) ml_X11_241 hc_8 (by decide) (by decide) (Nat.le_of_ble_eq_true rfl) dX11_part_73 rfl (fun _ h9 => ct_X8_form h9) (fun v13 => ?_)
    exact sx_iret hI dX11_part_76 (fun h => h)
  refine sj_ifc (fun h5 => ?_) (fun h5_3 => ?_)
  · refine sj (fun k9 => j_tableIn hJ dX11_part_14 (off := 63) (by rw [h5]; decide) (by rw [h5]; decide) (by rw [h5]; decide) (tgt := 77) (by decide) k9) ?_
    refine sj (j_aload_n hJ dX11_part_77 rfl 0 rfl) ?_
    refine sj_gR hJ fl_X11_263 rfl dX11_part_78 (fun v14 => ?_)
    refine sj (j_iload_n hJ dX11_part_81 rfl 2 rfl) ?_
    refine sj_rZ hJ dX11_part_82 (fun v15 => ?_)
    refine sj_if (j_if_eq hJ (tgt := 90) dX11_part_83 (by decide)) (fun _ => ?_) (fun _ => ?_)
    · refine sj (j_iconst hJ (v := 0) dX11_part_90 ic_0) ?_
      exact sx_iret hI dX11_part_91 (fun h => h)
    · refine sj (j_iconst hJ (v := 1) dX11_part_86 ic_1) ?_
      refine sj (j_goto hJ (tgt := 91) dX11_part_87 (by decide)) ?_
      exact sx_iret hI dX11_part_91 (fun h => h)
  refine sj_ifc (fun h5 => ?_) (fun h5_4 => ?_)
  · refine sj (fun k9 => j_tableIn hJ dX11_part_14 (off := 78) (by rw [h5]; decide) (by rw [h5]; decide) (by rw [h5]; decide) (tgt := 92) (by decide) k9) ?_
    refine sj (j_aload_n hJ dX11_part_92 rfl 0 rfl) ?_
    refine sj_gR hJ fl_X11_267 rfl dX11_part_93 (fun v16 => ?_)
    refine sj (j_iload_n hJ dX11_part_96 rfl 2 rfl) ?_
    refine sj_rZ hJ dX11_part_97 (fun v17 => ?_)
    refine sj_if (j_if_eq hJ (tgt := 105) dX11_part_98 (by decide)) (fun _ => ?_) (fun _ => ?_)
    · refine sj (j_iconst hJ (v := 0) dX11_part_105 ic_0) ?_
      exact sx_iret hI dX11_part_106 (fun h => h)
    · refine sj (j_iconst hJ (v := 1) dX11_part_101 ic_1) ?_
      refine sj (j_goto hJ (tgt := 106) dX11_part_102 (by decide)) ?_
      exact sx_iret hI dX11_part_106 (fun h => h)
  have g0 : (p2).toInt ≠ 0 := fun q => h5_0 (Int32.toInt_inj.mp (q.trans (by decide)))
  have g1 : (p2).toInt ≠ 1 := fun q => h5_1 (Int32.toInt_inj.mp (q.trans (by decide)))
  have g2 : (p2).toInt ≠ 2 := fun q => h5_2 (Int32.toInt_inj.mp (q.trans (by decide)))
  have g3 : (p2).toInt ≠ 3 := fun q => h5_3 (Int32.toInt_inj.mp (q.trans (by decide)))
  have g4 : (p2).toInt ≠ 4 := fun q => h5_4 (Int32.toInt_inj.mp (q.trans (by decide)))
  refine sj (fun k9 => j_tableOut hJ dX11_part_14 (by omega) (tgt := 107) (by decide) k9) ?_
  exact sx_throwW hI (text := "there is no such part") tx_103_107 (by decide) rfl (by decide) (by decide) (Nat.le_of_ble_eq_true rfl) dX11_part_107 dX11_part_110 dX11_part_111 dX11_part_114 dX11_part_117 (fun h => h)
theorem ct_X11_part {σ : St} {p0 : Nat} {p1 : Int32} {p2 : Int32} {δ : Dy} {r : (Int32 ⊕ Nat)} (h : m_X11_part σ p0 p1 p2 δ = some r) : CTX yX11_part cX11_part 4 (some .int) 10 250 [.ref p0, .int p1, .int p2] σ δ (ox_i r, σ, δ) := CTX_of (by decide +kernel) (Nat.le_of_ble_eq_true rfl) (fun J hI => w_X11_part hI σ p0 p1 p2 δ r h rfl)
def m_X11_isMadeBy (σ : St) (p0 : Nat) (p1 : Int32) (p2 : Int32) (δ : Dy) : Option (Int32 ⊕ Nat) :=
  (chk σ 11 p0).bind fun _ => (m_X11_needToken σ p0 p1 δ).bind fun v1 => xel v1 (fun x2 =>
    (chk σ 11 p0).bind fun _ => (m_X11_needToken σ p0 p2 δ).bind fun v3 => xel v3 (fun x4 =>
      (gR σ 11 p0 2).bind fun v5 =>
      (gR σ 10 v5 1).bind fun v6 =>
      (gR σ 8 v6 8).bind fun v7 =>
      (rL σ δ v7 p1).bind fun v8 =>
      (gR σ 11 p0 2).bind fun v9 =>
      (gR σ 10 v9 1).bind fun v10 =>
      (gR σ 8 v10 9).bind fun v11 =>
      (rL σ δ v11 p1).bind fun v12 =>
      (m_X8_isIn σ p2 v8 v12 δ).bind fun v13 =>
      (zo v13).bind fun _ => some (Sum.inl v13)) (fun e => (Sum.inr e))) (fun e => (Sum.inr e))
set_option maxHeartbeats 4000000 in
set_option maxRecDepth 100000 in
theorem w_X11_isMadeBy {J : JT} {an : AX} (hI : IsX cX11_isMadeBy 3 RX11 "isMadeBy" 10 250 (some .boolean) an J) (σ : St) (p0 : Nat) (p1 : Int32) (p2 : Int32) (δ : Dy) : SJ (m_X11_isMadeBy σ p0 p1 p2 δ) (PXIp σ δ an) (J 0 [(0, .ref p0), (1, .int p1), (2, .int p2)] [] (bX an) σ δ) := by
  have hJ := hI.cor
  unfold m_X11_isMadeBy
  refine sj (j_aload_n hJ dX11_isMadeBy_0 rfl 0 rfl) ?_
  refine sj (j_iload_n hJ dX11_isMadeBy_1 rfl 1 rfl) ?_
  refine sx_callVvp hI [.int p1] (st := []) (fr' := 9) (lo' := 229) ml_X11_251 hc_11 (by decide) (by decide) (Nat.le_of_ble_eq_true rfl) rfl dX11_isMadeBy_2 rfl (fun _ h9 => ct_X11_needToken h9) (fun x2 => ?_) (fun e h => h)
  refine sj (j_aload_n hJ dX11_isMadeBy_5 rfl 0 rfl) ?_
  refine sj (j_iload_n hJ dX11_isMadeBy_6 rfl 2 rfl) ?_
  refine sx_callVvp hI [.int p2] (st := []) (fr' := 9) (lo' := 229) ml_X11_251 hc_11 (by decide) (by decide) (Nat.le_of_ble_eq_true rfl) rfl dX11_isMadeBy_7 rfl (fun _ h9 => ct_X11_needToken h9) (fun x4 => ?_) (fun e h => h)
  refine sj (j_iload_n hJ dX11_isMadeBy_10 rfl 2 rfl) ?_
  refine sj (j_aload_n hJ dX11_isMadeBy_11 rfl 0 rfl) ?_
  refine sj_gR hJ fl_X11_39 rfl dX11_isMadeBy_12 (fun v5 => ?_)
  refine sj_gR hJ fl_X11_46 rfl dX11_isMadeBy_15 (fun v6 => ?_)
  refine sj_gR hJ fl_X11_272 rfl dX11_isMadeBy_18 (fun v7 => ?_)
  refine sj (j_iload_n hJ dX11_isMadeBy_21 rfl 1 rfl) ?_
  refine sj_rL hJ dX11_isMadeBy_22 (fun v8 => ?_)
  refine sj (j_aload_n hJ dX11_isMadeBy_23 rfl 0 rfl) ?_
  refine sj_gR hJ fl_X11_39 rfl dX11_isMadeBy_24 (fun v9 => ?_)
  refine sj_gR hJ fl_X11_46 rfl dX11_isMadeBy_27 (fun v10 => ?_)
  refine sj_gR hJ fl_X11_276 rfl dX11_isMadeBy_30 (fun v11 => ?_)
  refine sj (j_iload_n hJ dX11_isMadeBy_33 rfl 1 rfl) ?_
  refine sj_rL hJ dX11_isMadeBy_34 (fun v12 => ?_)
  refine sj_callSip hJ [.int p2, .long v8, .long v12] (st := []) (fr' := 1) (lo' := 20) ml_X11_279 (by decide) (by decide) (Nat.le_of_ble_eq_true rfl) dX11_isMadeBy_35 rfl (fun _ h9 => ct_X8_isIn h9) (fun v13 => ?_)
  exact sx_zretG hI dX11_isMadeBy_38 (fun h => h)
theorem ct_X11_isMadeBy {σ : St} {p0 : Nat} {p1 : Int32} {p2 : Int32} {δ : Dy} {r : (Int32 ⊕ Nat)} (h : m_X11_isMadeBy σ p0 p1 p2 δ = some r) : CTX yX11_isMadeBy cX11_isMadeBy 3 (some .boolean) 10 250 [.ref p0, .int p1, .int p2] σ δ (ox_i r, σ, δ) := CTX_of (by decide +kernel) (Nat.le_of_ble_eq_true rfl) (fun J hI => w_X11_isMadeBy hI σ p0 p1 p2 δ r h rfl)
def m_X11_fired_b18 (σ : St) (δ : Dy) : Option (Int32 ⊕ Nat) :=
  some (Sum.inr 2)
def m_X11_fired (σ : St) (p0 : Nat) (p1 : Int32) (δ : Dy) : Option (Int32 ⊕ Nat) :=
  if p1 < 0 then
    m_X11_fired_b18 σ δ
  else
    (gR σ 11 p0 2).bind fun v1 =>
    (gR σ 10 v1 2).bind fun v2 =>
    (gI σ δ 6 v2 9).bind fun v3 =>
    if p1 < v3 then
      (gR σ 11 p0 2).bind fun v4 =>
      (gR σ 10 v4 2).bind fun v5 =>
      (gR σ 6 v5 8).bind fun v6 =>
      (rI σ δ v6 p1).bind fun v7 =>
      some (Sum.inl v7)
    else
      m_X11_fired_b18 σ δ
set_option maxHeartbeats 4000000 in
set_option maxRecDepth 100000 in
theorem w_X11_fired_b18 {J : JT} {an : AX} (hI : IsX cX11_fired 2 RX11 "fired" 9 229 (some .int) an J) (σ : St) (δ : Dy) : SJ (m_X11_fired_b18 σ δ) (PXIp σ δ an) (J 18 [] [] (bX an) σ δ) := by
  have hJ := hI.cor
  unfold m_X11_fired_b18
  exact sx_throwW hI (text := "there is no such rule") tx_175_179 (by decide) rfl (by decide) (by decide) (Nat.le_of_ble_eq_true rfl) dX11_fired_18 dX11_fired_21 dX11_fired_22 dX11_fired_25 dX11_fired_28 (fun h => h)
set_option maxHeartbeats 4000000 in
set_option maxRecDepth 100000 in
theorem w_X11_fired {J : JT} {an : AX} (hI : IsX cX11_fired 2 RX11 "fired" 9 229 (some .int) an J) (σ : St) (p0 : Nat) (p1 : Int32) (δ : Dy) : SJ (m_X11_fired σ p0 p1 δ) (PXIp σ δ an) (J 0 [(0, .ref p0), (1, .int p1)] [] (bX an) σ δ) := by
  have hJ := hI.cor
  unfold m_X11_fired
  refine sj (j_iload_n hJ dX11_fired_0 rfl 1 rfl) ?_
  refine sj_if (j_if_lt hJ (tgt := 18) dX11_fired_1 (by decide)) (fun _ => ?_) (fun _ => ?_)
  · refine sj (j_sub hJ (L' := []) [] rfl) ?_
    exact w_X11_fired_b18 hI σ δ
  · refine sj (j_iload_n hJ dX11_fired_4 rfl 1 rfl) ?_
    refine sj (j_aload_n hJ dX11_fired_5 rfl 0 rfl) ?_
    refine sj_gR hJ fl_X11_39 rfl dX11_fired_6 (fun v1 => ?_)
    refine sj_gR hJ fl_X11_160 rfl dX11_fired_9 (fun v2 => ?_)
    refine sj_gI hJ fl_X11_164 (Or.inl rfl) dX11_fired_12 (fun v3 => ?_)
    refine sj_if (j_icmp_lt hJ (tgt := 29) dX11_fired_15 (by decide)) (fun _ => ?_) (fun _ => ?_)
    · refine sj (j_aload_n hJ dX11_fired_29 rfl 0 rfl) ?_
      refine sj_gR hJ fl_X11_39 rfl dX11_fired_30 (fun v4 => ?_)
      refine sj_gR hJ fl_X11_160 rfl dX11_fired_33 (fun v5 => ?_)
      refine sj_gR hJ fl_X11_292 rfl dX11_fired_36 (fun v6 => ?_)
      refine sj (j_iload_n hJ dX11_fired_39 rfl 1 rfl) ?_
      refine sj_rI hJ dX11_fired_40 (fun v7 => ?_)
      exact sx_iret hI dX11_fired_41 (fun h => h)
    · refine sj (j_sub hJ (L' := []) [] rfl) ?_
      exact w_X11_fired_b18 hI σ δ
theorem ct_X11_fired {σ : St} {p0 : Nat} {p1 : Int32} {δ : Dy} {r : (Int32 ⊕ Nat)} (h : m_X11_fired σ p0 p1 δ = some r) : CTX yX11_fired cX11_fired 2 (some .int) 9 229 [.ref p0, .int p1] σ δ (ox_i r, σ, δ) := CTX_of (by decide +kernel) (Nat.le_of_ble_eq_true rfl) (fun J hI => w_X11_fired hI σ p0 p1 δ r h rfl)
