def m_X11_variable_b24 (σ : St) (δ : Dy) : Option ((Int32 ⊕ Nat) × Dy) :=
  some (Sum.inr 0, δ)
def m_X11_variable (σ : St) (p0 : Nat) (δ : Dy) : Option ((Int32 ⊕ Nat) × Dy) :=
  (gR σ 11 p0 2).bind fun v1 =>
  (gR σ 10 v1 1).bind fun v2 =>
  (gI σ δ 8 v2 2).bind fun v3 =>
  if (60 : Int32) ≤ v3 then
    m_X11_variable_b24 σ δ
  else
    (gI σ δ 8 v2 12).bind fun v4 =>
    if v4 = 0 then
      (chk σ 11 p0).bind fun _ => (m_X11_note σ p0 (0 : Int32) (0 : Int32) (0 : Int32) (0 : Int32) δ).bind fun v5 =>
      (chk σ 8 v2).bind fun _ => (m_X8_makeVariable σ v2 v5).bind fun v6 =>
      some (Sum.inl v6.1, v6.2)
    else
      m_X11_variable_b24 σ δ
set_option maxHeartbeats 4000000 in
set_option maxRecDepth 100000 in
theorem w_X11_variable_b24 {J : JT} {an : AX} (hI : IsX cX11_variable 2 RX11 "variable" 6 90 (some .int) an J) (σ : St) (δ : Dy) : SJ (m_X11_variable_b24 σ δ) (PXI σ an) (J 24 [] [] (bX an) σ δ) := by
  have hJ := hI.cor
  unfold m_X11_variable_b24
  exact sx_throw hI (text := "no variable can be made") tx_60_64 (by decide) rfl (by decide) (by decide) (Nat.le_of_ble_eq_true rfl) dX11_variable_24 dX11_variable_27 dX11_variable_28 dX11_variable_30 dX11_variable_33 (fun h => h)
set_option maxHeartbeats 4000000 in
set_option maxRecDepth 100000 in
theorem w_X11_variable {J : JT} {an : AX} (hI : IsX cX11_variable 2 RX11 "variable" 6 90 (some .int) an J) (σ : St) (p0 : Nat) (δ : Dy) : SJ (m_X11_variable σ p0 δ) (PXI σ an) (J 0 [(0, .ref p0)] [] (bX an) σ δ) := by
  have hJ := hI.cor
  unfold m_X11_variable
  refine sj (j_aload_n hJ dX11_variable_0 rfl 0 rfl) ?_
  refine sj_gR hJ fl_X11_39 rfl dX11_variable_1 (fun v1 => ?_)
  refine sj_gR hJ fl_X11_46 rfl dX11_variable_4 (fun v2 => ?_)
  refine sj (j_astore_n hJ (L' := [(1, .ref v2), (0, .ref p0)]) dX11_variable_7 rfl (by decide) rfl) ?_
  refine sj (j_aload_n hJ dX11_variable_8 rfl 0 rfl) ?_
  refine sj_gI hJ fl_X11_50 (Or.inl rfl) dX11_variable_9 (fun v3 => ?_)
  refine sj (j_bipush hJ (v := 60) dX11_variable_12 ib_60) ?_
  refine sj_if (j_icmp_ge hJ (tgt := 24) dX11_variable_14 (by decide)) (fun _ => ?_) (fun _ => ?_)
  · refine sj (j_sub hJ (L' := []) [] rfl) ?_
    exact w_X11_variable_b24 hI σ δ
  · refine sj (j_aload_n hJ dX11_variable_17 rfl 0 rfl) ?_
    refine sj_gI hJ fl_X11_56 (Or.inr rfl) dX11_variable_18 (fun v4 => ?_)
    refine sj_if (j_if_eq hJ (tgt := 34) dX11_variable_21 (by decide)) (fun _ => ?_) (fun _ => ?_)
    · refine sj (j_aload_n hJ dX11_variable_34 rfl 1 rfl) ?_
      refine sj (j_iconst hJ (v := 0) dX11_variable_35 ic_0) ?_
      refine sj (j_iconst hJ (v := 0) dX11_variable_36 ic_0) ?_
      refine sj (j_iconst hJ (v := 0) dX11_variable_37 ic_0) ?_
      refine sj (j_iconst hJ (v := 0) dX11_variable_38 ic_0) ?_
      refine sj_callVv hJ [.int (0 : Int32), .int (0 : Int32), .int (0 : Int32), .int (0 : Int32)] (st := []) (fr' := 0) (lo' := 0) ml_X11_67 hc_11 (by decide) (by decide) (Nat.le_of_ble_eq_true rfl) dX11_variable_39 rfl (fun _ h9 => ct_X11_note h9) (fun v5 => ?_)
      refine sj (j_aload_n hJ dX11_variable_42 rfl 0 rfl) ?_
      refine sj_callVi hJ [] (st := []) (fr' := 0) (lo' := 0) ml_X11_71 hc_8 (by decide) (by decide) (Nat.le_of_ble_eq_true rfl) dX11_variable_43 rfl (fun _ h9 => ct_X8_makeVariable h9) (fun v6 => ?_)
      exact sx_iret hI dX11_variable_46 (fun h => h)
    · refine sj (j_sub hJ (L' := []) [] rfl) ?_
      exact w_X11_variable_b24 hI σ δ
theorem ct_X11_variable {σ : St} {p0 : Nat} {δ : Dy} {r : ((Int32 ⊕ Nat) × Dy)} (h : m_X11_variable σ p0 δ = some r) : CTX yX11_variable cX11_variable 2 (some .int) 6 90 [.ref p0] σ δ (ox_i r.1, σ, r.2) := CTX_of (by decide +kernel) (Nat.le_of_ble_eq_true rfl) (fun J hI => w_X11_variable hI σ p0 δ r h rfl)
def m_X11_needTerms_b14 (σ : St) (δ : Dy) : Option (Unit ⊕ Nat) :=
  some (Sum.inr 1)
def m_X11_needTerms (σ : St) (p0 : Int32) (p1 : Int32) (δ : Dy) : Option (Unit ⊕ Nat) :=
  (m_X11_isTerm σ p0 δ).bind fun v1 =>
  if v1 = 0 then
    m_X11_needTerms_b14 σ δ
  else
    (m_X11_isTerm σ p1 δ).bind fun v2 =>
    if v2 = 0 then
      m_X11_needTerms_b14 σ δ
    else
      some (Sum.inl ())
set_option maxHeartbeats 4000000 in
set_option maxRecDepth 100000 in
theorem w_X11_needTerms_b14 {J : JT} {an : AX} (hI : IsX cX11_needTerms 2 RX11 "needTerms" 6 90 none an J) (σ : St) (δ : Dy) : SJ (m_X11_needTerms_b14 σ δ) (PXVp σ δ an) (J 14 [] [] (bX an) σ δ) := by
  have hJ := hI.cor
  unfold m_X11_needTerms_b14
  exact sx_throwW hI (text := "neither a value nor a slot") tx_103_107 (by decide) rfl (by decide) (by decide) (Nat.le_of_ble_eq_true rfl) dX11_needTerms_14 dX11_needTerms_17 dX11_needTerms_18 dX11_needTerms_21 dX11_needTerms_24 (fun h => h)
set_option maxHeartbeats 4000000 in
set_option maxRecDepth 100000 in
theorem w_X11_needTerms {J : JT} {an : AX} (hI : IsX cX11_needTerms 2 RX11 "needTerms" 6 90 none an J) (σ : St) (p0 : Int32) (p1 : Int32) (δ : Dy) : SJ (m_X11_needTerms σ p0 p1 δ) (PXVp σ δ an) (J 0 [(0, .int p0), (1, .int p1)] [] (bX an) σ δ) := by
  have hJ := hI.cor
  unfold m_X11_needTerms
  refine sj (j_iload_n hJ dX11_needTerms_0 rfl 0 rfl) ?_
  refine sj_callSip hJ [.int p0] (st := []) (fr' := 1) (lo' := 20) ml_X11_312 (by decide) (by decide) (Nat.le_of_ble_eq_true rfl) dX11_needTerms_1 rfl (fun _ h9 => ct_X11_isTerm h9) (fun v1 => ?_)
  refine sj_if (j_if_eq hJ (tgt := 14) dX11_needTerms_4 (by decide)) (fun _ => ?_) (fun _ => ?_)
  · refine sj (j_sub hJ (L' := []) [] rfl) ?_
    exact w_X11_needTerms_b14 hI σ δ
  · refine sj (j_iload_n hJ dX11_needTerms_7 rfl 1 rfl) ?_
    refine sj_callSip hJ [.int p1] (st := []) (fr' := 1) (lo' := 20) ml_X11_312 (by decide) (by decide) (Nat.le_of_ble_eq_true rfl) dX11_needTerms_8 rfl (fun _ h9 => ct_X11_isTerm h9) (fun v2 => ?_)
    refine sj_if (j_if_ne hJ (tgt := 25) dX11_needTerms_11 (by decide)) (fun _ => ?_) (fun _ => ?_)
    · refine sj (j_sub hJ (L' := []) [] rfl) ?_
      exact w_X11_needTerms_b14 hI σ δ
    · exact sx_vret hI dX11_needTerms_25 (fun h => h)
theorem ct_X11_needTerms {σ : St} {p0 : Int32} {p1 : Int32} {δ : Dy} {r : (Unit ⊕ Nat)} (h : m_X11_needTerms σ p0 p1 δ = some r) : CTX yX11_needTerms cX11_needTerms 2 none 6 90 [.int p0, .int p1] σ δ (ox_v r, σ, δ) := CTX_of (by decide +kernel) (Nat.le_of_ble_eq_true rfl) (fun J hI => w_X11_needTerms hI σ p0 p1 δ r h rfl)
def m_X11_needRoom (σ : St) (p0 : Nat) (δ : Dy) : Option (Unit ⊕ Nat) :=
  (gR σ 11 p0 0).bind fun v1 =>
  (gI σ δ 5 v1 6).bind fun v2 =>
  if v2 < (60 : Int32) then
    some (Sum.inl ())
  else
    some (Sum.inr 0)
set_option maxHeartbeats 4000000 in
set_option maxRecDepth 100000 in
theorem w_X11_needRoom {J : JT} {an : AX} (hI : IsX cX11_needRoom 1 RX11 "needRoom" 6 90 none an J) (σ : St) (p0 : Nat) (δ : Dy) : SJ (m_X11_needRoom σ p0 δ) (PXVp σ δ an) (J 0 [(0, .ref p0)] [] (bX an) σ δ) := by
  have hJ := hI.cor
  unfold m_X11_needRoom
  refine sj (j_aload_n hJ dX11_needRoom_0 rfl 0 rfl) ?_
  refine sj_gR hJ fl_X11_10 rfl dX11_needRoom_1 (fun v1 => ?_)
  refine sj_gI hJ fl_X11_299 (Or.inl rfl) dX11_needRoom_4 (fun v2 => ?_)
  refine sj (j_bipush hJ (v := 60) dX11_needRoom_7 ib_60) ?_
  refine sj_if (j_icmp_lt hJ (tgt := 23) dX11_needRoom_9 (by decide)) (fun _ => ?_) (fun _ => ?_)
  · exact sx_vret hI dX11_needRoom_23 (fun h => h)
  · exact sx_throwW hI (text := "there are as many nodes as there may be") tx_60_64 (by decide) rfl (by decide) (by decide) (Nat.le_of_ble_eq_true rfl) dX11_needRoom_12 dX11_needRoom_15 dX11_needRoom_16 dX11_needRoom_19 dX11_needRoom_22 (fun h => h)
theorem ct_X11_needRoom {σ : St} {p0 : Nat} {δ : Dy} {r : (Unit ⊕ Nat)} (h : m_X11_needRoom σ p0 δ = some r) : CTX yX11_needRoom cX11_needRoom 1 none 6 90 [.ref p0] σ δ (ox_v r, σ, δ) := CTX_of (by decide +kernel) (Nat.le_of_ble_eq_true rfl) (fun J hI => w_X11_needRoom hI σ p0 δ r h rfl)
def m_X11_equate (σ : St) (p0 : Nat) (p1 : Int32) (p2 : Int32) (δ : Dy) : Option ((Int32 ⊕ Nat) × Dy) :=
  (m_X11_needTerms σ p1 p2 δ).bind fun v1 => xel v1 (fun x2 =>
    (chk σ 11 p0).bind fun _ => (m_X11_needRoom σ p0 δ).bind fun v3 => xel v3 (fun x4 =>
      (gR σ 11 p0 0).bind fun v5 =>
      (chk σ 5 v5).bind fun _ => (m_X5_add σ v5 (0 : Int32) (0 : Int32) p1 p2 (-1 : Int32) (-1 : Int32) δ).bind fun v6 =>
      some (Sum.inl v6.1, v6.2)) (fun e => (Sum.inr e, δ))) (fun e => (Sum.inr e, δ))
set_option maxHeartbeats 4000000 in
set_option maxRecDepth 100000 in
theorem w_X11_equate {J : JT} {an : AX} (hI : IsX cX11_equate 3 RX11 "equate" 7 111 (some .int) an J) (σ : St) (p0 : Nat) (p1 : Int32) (p2 : Int32) (δ : Dy) : SJ (m_X11_equate σ p0 p1 p2 δ) (PXI σ an) (J 0 [(0, .ref p0), (1, .int p1), (2, .int p2)] [] (bX an) σ δ) := by
  have hJ := hI.cor
  unfold m_X11_equate
  refine sj (j_iload_n hJ dX11_equate_0 rfl 1 rfl) ?_
  refine sj (j_iload_n hJ dX11_equate_1 rfl 2 rfl) ?_
  refine sx_callSvp hI [.int p1, .int p2] (st := []) (fr' := 6) (lo' := 90) ml_X11_75 (by decide) (by decide) (Nat.le_of_ble_eq_true rfl) rfl dX11_equate_2 rfl (fun _ h9 => ct_X11_needTerms h9) (fun x2 => ?_) (fun e h => h)
  refine sj (j_aload_n hJ dX11_equate_5 rfl 0 rfl) ?_
  refine sx_callVvp hI [] (st := []) (fr' := 6) (lo' := 90) ml_X11_79 hc_11 (by decide) (by decide) (Nat.le_of_ble_eq_true rfl) rfl dX11_equate_6 rfl (fun _ h9 => ct_X11_needRoom h9) (fun x4 => ?_) (fun e h => h)
  refine sj (j_aload_n hJ dX11_equate_9 rfl 0 rfl) ?_
  refine sj_gR hJ fl_X11_10 rfl dX11_equate_10 (fun v5 => ?_)
  refine sj (j_iconst hJ (v := 0) dX11_equate_13 ic_0) ?_
  refine sj (j_iconst hJ (v := 0) dX11_equate_14 ic_0) ?_
  refine sj (j_iload_n hJ dX11_equate_15 rfl 1 rfl) ?_
  refine sj (j_iload_n hJ dX11_equate_16 rfl 2 rfl) ?_
  refine sj (j_iconst hJ (v := -1) dX11_equate_17 ic_m1) ?_
  refine sj (j_iconst hJ (v := -1) dX11_equate_18 ic_m1) ?_
  refine sj_callVi hJ [.int (0 : Int32), .int (0 : Int32), .int p1, .int p2, .int (-1 : Int32), .int (-1 : Int32)] (st := []) (fr' := 0) (lo' := 0) ml_X11_82 hc_5 (by decide) (by decide) (Nat.le_of_ble_eq_true rfl) dX11_equate_19 rfl (fun _ h9 => ct_X5_add h9) (fun v6 => ?_)
  exact sx_iret hI dX11_equate_22 (fun h => h)
theorem ct_X11_equate {σ : St} {p0 : Nat} {p1 : Int32} {p2 : Int32} {δ : Dy} {r : ((Int32 ⊕ Nat) × Dy)} (h : m_X11_equate σ p0 p1 p2 δ = some r) : CTX yX11_equate cX11_equate 3 (some .int) 7 111 [.ref p0, .int p1, .int p2] σ δ (ox_i r.1, σ, r.2) := CTX_of (by decide +kernel) (Nat.le_of_ble_eq_true rfl) (fun J hI => w_X11_equate hI σ p0 p1 p2 δ r h rfl)
def m_X11_needWithin_b10 (σ : St) (δ : Dy) : Option (Unit ⊕ Nat) :=
  some (Sum.inr 1)
def m_X11_needWithin (σ : St) (p0 : Int32) (p1 : Int32) (p2 : Int32) (δ : Dy) : Option (Unit ⊕ Nat) :=
  if p0 < p1 then
    m_X11_needWithin_b10 σ δ
  else
    if p0 ≤ p2 then
      some (Sum.inl ())
    else
      m_X11_needWithin_b10 σ δ
set_option maxHeartbeats 4000000 in
set_option maxRecDepth 100000 in
theorem w_X11_needWithin_b10 {J : JT} {an : AX} (hI : IsX cX11_needWithin 3 RX11 "needWithin" 6 90 none an J) (σ : St) (δ : Dy) : SJ (m_X11_needWithin_b10 σ δ) (PXVp σ δ an) (J 10 [] [] (bX an) σ δ) := by
  have hJ := hI.cor
  unfold m_X11_needWithin_b10
  exact sx_throwW hI (text := "an argument is out of its range") tx_103_107 (by decide) rfl (by decide) (by decide) (Nat.le_of_ble_eq_true rfl) dX11_needWithin_10 dX11_needWithin_13 dX11_needWithin_14 dX11_needWithin_17 dX11_needWithin_20 (fun h => h)
set_option maxHeartbeats 4000000 in
set_option maxRecDepth 100000 in
theorem w_X11_needWithin {J : JT} {an : AX} (hI : IsX cX11_needWithin 3 RX11 "needWithin" 6 90 none an J) (σ : St) (p0 : Int32) (p1 : Int32) (p2 : Int32) (δ : Dy) : SJ (m_X11_needWithin σ p0 p1 p2 δ) (PXVp σ δ an) (J 0 [(0, .int p0), (1, .int p1), (2, .int p2)] [] (bX an) σ δ) := by
  have hJ := hI.cor
  unfold m_X11_needWithin
  refine sj (j_iload_n hJ dX11_needWithin_0 rfl 0 rfl) ?_
  refine sj (j_iload_n hJ dX11_needWithin_1 rfl 1 rfl) ?_
  refine sj_if (j_icmp_lt hJ (tgt := 10) dX11_needWithin_2 (by decide)) (fun _ => ?_) (fun _ => ?_)
  · refine sj (j_sub hJ (L' := []) [] rfl) ?_
    exact w_X11_needWithin_b10 hI σ δ
  · refine sj (j_iload_n hJ dX11_needWithin_5 rfl 0 rfl) ?_
    refine sj (j_iload_n hJ dX11_needWithin_6 rfl 2 rfl) ?_
    refine sj_if (j_icmp_le hJ (tgt := 21) dX11_needWithin_7 (by decide)) (fun _ => ?_) (fun _ => ?_)
    · exact sx_vret hI dX11_needWithin_21 (fun h => h)
    · refine sj (j_sub hJ (L' := []) [] rfl) ?_
      exact w_X11_needWithin_b10 hI σ δ
theorem ct_X11_needWithin {σ : St} {p0 : Int32} {p1 : Int32} {p2 : Int32} {δ : Dy} {r : (Unit ⊕ Nat)} (h : m_X11_needWithin σ p0 p1 p2 δ = some r) : CTX yX11_needWithin cX11_needWithin 3 none 6 90 [.int p0, .int p1, .int p2] σ δ (ox_v r, σ, δ) := CTX_of (by decide +kernel) (Nat.le_of_ble_eq_true rfl) (fun J hI => w_X11_needWithin hI σ p0 p1 p2 δ r h rfl)
def m_X11_needSort (σ : St) (p0 : Int32) (δ : Dy) : Option (Unit ⊕ Nat) :=
  (m_X11_needWithin σ p0 (0 : Int32) (5 : Int32) δ).bind fun v1 => xel v1 (fun x2 =>
    some (Sum.inl ())) (fun e => (Sum.inr e))
set_option maxHeartbeats 4000000 in
set_option maxRecDepth 100000 in
theorem w_X11_needSort {J : JT} {an : AX} (hI : IsX cX11_needSort 1 RX11 "needSort" 7 112 none an J) (σ : St) (p0 : Int32) (δ : Dy) : SJ (m_X11_needSort σ p0 δ) (PXVp σ δ an) (J 0 [(0, .int p0)] [] (bX an) σ δ) := by
  have hJ := hI.cor
  unfold m_X11_needSort
  refine sj (j_iload_n hJ dX11_needSort_0 rfl 0 rfl) ?_
  refine sj (j_iconst hJ (v := 0) dX11_needSort_1 ic_0) ?_
  refine sj (j_iconst hJ (v := 5) dX11_needSort_2 ic_5) ?_
  refine sx_callSvp hI [.int p0, .int (0 : Int32), .int (5 : Int32)] (st := []) (fr' := 6) (lo' := 90) ml_X11_108 (by decide) (by decide) (Nat.le_of_ble_eq_true rfl) rfl dX11_needSort_3 rfl (fun _ h9 => ct_X11_needWithin h9) (fun x2 => ?_) (fun e h => h)
  exact sx_vret hI dX11_needSort_6 (fun h => h)
theorem ct_X11_needSort {σ : St} {p0 : Int32} {δ : Dy} {r : (Unit ⊕ Nat)} (h : m_X11_needSort σ p0 δ = some r) : CTX yX11_needSort cX11_needSort 1 none 7 112 [.int p0] σ δ (ox_v r, σ, δ) := CTX_of (by decide +kernel) (Nat.le_of_ble_eq_true rfl) (fun J hI => w_X11_needSort hI σ p0 δ r h rfl)
def m_X11_token_b27 (σ : St) (p1 : Int32) (p2 : Int32) (p3 : Int32) (q0 : Nat) (q1 : Int32) (δ : Dy) : Option ((Int32 ⊕ Nat) × Dy) :=
  (chk σ 5 q0).bind fun _ => (m_X5_add σ q0 q1 p1 p2 p3 (-1 : Int32) (-1 : Int32) δ).bind fun v8 =>
  some (Sum.inl v8.1, v8.2)
def m_X11_token (σ : St) (p0 : Nat) (p1 : Int32) (p2 : Int32) (p3 : Int32) (p4 : Int32) (δ : Dy) : Option ((Int32 ⊕ Nat) × Dy) :=
  (m_X11_needSort σ p1 δ).bind fun v1 => xel v1 (fun x2 =>
    (m_X11_needTerms σ p2 p3 δ).bind fun v3 => xel v3 (fun x4 =>
      (chk σ 11 p0).bind fun _ => (m_X11_needRoom σ p0 δ).bind fun v5 => xel v5 (fun x6 =>
        (gR σ 11 p0 0).bind fun v7 =>
        if p4 = 0 then
          m_X11_token_b27 σ p1 p2 p3 v7 (1 : Int32) δ
        else
          m_X11_token_b27 σ p1 p2 p3 v7 (2 : Int32) δ) (fun e => (Sum.inr e, δ))) (fun e => (Sum.inr e, δ))) (fun e => (Sum.inr e, δ))
set_option maxHeartbeats 4000000 in
set_option maxRecDepth 100000 in
theorem w_X11_token_b27 {J : JT} {an : AX} (hI : IsX cX11_token 5 RX11 "token" 8 132 (some .int) an J) (σ : St) (p1 : Int32) (p2 : Int32) (p3 : Int32) (q0 : Nat) (q1 : Int32) (δ : Dy) : SJ (m_X11_token_b27 σ p1 p2 p3 q0 q1 δ) (PXI σ an) (J 27 [(1, .int p1), (2, .int p2), (3, .int p3)] [.int q1, .ref q0] (bX an) σ δ) := by
  have hJ := hI.cor
  unfold m_X11_token_b27
  refine sj (j_iload_n hJ dX11_token_27 rfl 0 rfl) ?_
  refine sj (j_iload_n hJ dX11_token_28 rfl 1 rfl) ?_
  refine sj (j_iload_n hJ dX11_token_29 rfl 2 rfl) ?_
  refine sj (j_iconst hJ (v := -1) dX11_token_30 ic_m1) ?_
  refine sj (j_iconst hJ (v := -1) dX11_token_31 ic_m1) ?_
  refine sj_callVi hJ [.int q1, .int p1, .int p2, .int p3, .int (-1 : Int32), .int (-1 : Int32)] (st := []) (fr' := 0) (lo' := 0) ml_X11_82 hc_5 (by decide) (by decide) (Nat.le_of_ble_eq_true rfl) dX11_token_32 rfl (fun _ h9 => ct_X5_add h9) (fun v8 => ?_)
  exact sx_iret hI dX11_token_35 (fun h => h)
set_option maxHeartbeats 4000000 in
set_option maxRecDepth 100000 in
theorem w_X11_token {J : JT} {an : AX} (hI : IsX cX11_token 5 RX11 "token" 8 132 (some .int) an J) (σ : St) (p0 : Nat) (p1 : Int32) (p2 : Int32) (p3 : Int32) (p4 : Int32) (δ : Dy) : SJ (m_X11_token σ p0 p1 p2 p3 p4 δ) (PXI σ an) (J 0 [(0, .ref p0), (1, .int p1), (2, .int p2), (3, .int p3), (4, .int p4)] [] (bX an) σ δ) := by
  have hJ := hI.cor
  unfold m_X11_token
  refine sj (j_iload_n hJ dX11_token_0 rfl 1 rfl) ?_
  refine sx_callSvp hI [.int p1] (st := []) (fr' := 7) (lo' := 112) ml_X11_86 (by decide) (by decide) (Nat.le_of_ble_eq_true rfl) rfl dX11_token_1 rfl (fun _ h9 => ct_X11_needSort h9) (fun x2 => ?_) (fun e h => h)
  refine sj (j_iload_n hJ dX11_token_4 rfl 2 rfl) ?_
  refine sj (j_iload_n hJ dX11_token_5 rfl 3 rfl) ?_
  refine sx_callSvp hI [.int p2, .int p3] (st := []) (fr' := 6) (lo' := 90) ml_X11_75 (by decide) (by decide) (Nat.le_of_ble_eq_true rfl) rfl dX11_token_6 rfl (fun _ h9 => ct_X11_needTerms h9) (fun x4 => ?_) (fun e h => h)
  refine sj (j_aload_n hJ dX11_token_9 rfl 0 rfl) ?_
  refine sx_callVvp hI [] (st := []) (fr' := 6) (lo' := 90) ml_X11_79 hc_11 (by decide) (by decide) (Nat.le_of_ble_eq_true rfl) rfl dX11_token_10 rfl (fun _ h9 => ct_X11_needRoom h9) (fun x6 => ?_) (fun e h => h)
  refine sj (j_aload_n hJ dX11_token_13 rfl 0 rfl) ?_
  refine sj_gR hJ fl_X11_10 rfl dX11_token_14 (fun v7 => ?_)
  refine sj (j_iload hJ dX11_token_17 4 rfl) ?_
  refine sj_if (j_if_eq hJ (tgt := 26) dX11_token_19 (by decide)) (fun _ => ?_) (fun _ => ?_)
  · refine sj (j_iconst hJ (v := 1) dX11_token_26 ic_1) ?_
    refine sj (j_sub hJ (L' := [(1, .int p1), (2, .int p2), (3, .int p3)]) [1, 2, 3] rfl) ?_
    exact w_X11_token_b27 hI σ p1 p2 p3 v7 (1 : Int32) δ
  · refine sj (j_iconst hJ (v := 2) dX11_token_22 ic_2) ?_
    refine sj (j_goto hJ (tgt := 27) dX11_token_23 (by decide)) ?_
    refine sj (j_sub hJ (L' := [(1, .int p1), (2, .int p2), (3, .int p3)]) [1, 2, 3] rfl) ?_
    exact w_X11_token_b27 hI σ p1 p2 p3 v7 (2 : Int32) δ
theorem ct_X11_token {σ : St} {p0 : Nat} {p1 : Int32} {p2 : Int32} {p3 : Int32} {p4 : Int32} {δ : Dy} {r : ((Int32 ⊕ Nat) × Dy)} (h : m_X11_token σ p0 p1 p2 p3 p4 δ = some r) : CTX yX11_token cX11_token 5 (some .int) 8 132 [.ref p0, .int p1, .int p2, .int p3, .int p4] σ δ (ox_i r.1, σ, r.2) := CTX_of (by decide +kernel) (Nat.le_of_ble_eq_true rfl) (fun J hI => w_X11_token hI σ p0 p1 p2 p3 p4 δ r h rfl)
def m_X11_needNode_b15 (σ : St) (δ : Dy) : Option (Unit ⊕ Nat) :=
  some (Sum.inr 2)
def m_X11_needNode (σ : St) (p0 : Nat) (p1 : Int32) (δ : Dy) : Option (Unit ⊕ Nat) :=
  if p1 < 0 then
    m_X11_needNode_b15 σ δ
  else
    (gR σ 11 p0 0).bind fun v1 =>
    (gI σ δ 5 v1 6).bind fun v2 =>
    if p1 < v2 then
      some (Sum.inl ())
    else
      m_X11_needNode_b15 σ δ
set_option maxHeartbeats 4000000 in
set_option maxRecDepth 100000 in
theorem w_X11_needNode_b15 {J : JT} {an : AX} (hI : IsX cX11_needNode 2 RX11 "needNode" 6 90 none an J) (σ : St) (δ : Dy) : SJ (m_X11_needNode_b15 σ δ) (PXVp σ δ an) (J 15 [] [] (bX an) σ δ) := by
  have hJ := hI.cor
  unfold m_X11_needNode_b15
  exact sx_throwW hI (text := "there is no such node") tx_175_179 (by decide) rfl (by decide) (by decide) (Nat.le_of_ble_eq_true rfl) dX11_needNode_15 dX11_needNode_18 dX11_needNode_19 dX11_needNode_22 dX11_needNode_25 (fun h => h)
set_option maxHeartbeats 4000000 in
set_option maxRecDepth 100000 in
theorem w_X11_needNode {J : JT} {an : AX} (hI : IsX cX11_needNode 2 RX11 "needNode" 6 90 none an J) (σ : St) (p0 : Nat) (p1 : Int32) (δ : Dy) : SJ (m_X11_needNode σ p0 p1 δ) (PXVp σ δ an) (J 0 [(0, .ref p0), (1, .int p1)] [] (bX an) σ δ) := by
  have hJ := hI.cor
  unfold m_X11_needNode
  refine sj (j_iload_n hJ dX11_needNode_0 rfl 1 rfl) ?_
  refine sj_if (j_if_lt hJ (tgt := 15) dX11_needNode_1 (by decide)) (fun _ => ?_) (fun _ => ?_)
  · refine sj (j_sub hJ (L' := []) [] rfl) ?_
    exact w_X11_needNode_b15 hI σ δ
  · refine sj (j_iload_n hJ dX11_needNode_4 rfl 1 rfl) ?_
    refine sj (j_aload_n hJ dX11_needNode_5 rfl 0 rfl) ?_
    refine sj_gR hJ fl_X11_10 rfl dX11_needNode_6 (fun v1 => ?_)
    refine sj_gI hJ fl_X11_299 (Or.inl rfl) dX11_needNode_9 (fun v2 => ?_)
    refine sj_if (j_icmp_lt hJ (tgt := 26) dX11_needNode_12 (by decide)) (fun _ => ?_) (fun _ => ?_)
    · exact sx_vret hI dX11_needNode_26 (fun h => h)
    · refine sj (j_sub hJ (L' := []) [] rfl) ?_
      exact w_X11_needNode_b15 hI σ δ
theorem ct_X11_needNode {σ : St} {p0 : Nat} {p1 : Int32} {δ : Dy} {r : (Unit ⊕ Nat)} (h : m_X11_needNode σ p0 p1 δ = some r) : CTX yX11_needNode cX11_needNode 2 none 6 90 [.ref p0, .int p1] σ δ (ox_v r, σ, δ) := CTX_of (by decide +kernel) (Nat.le_of_ble_eq_true rfl) (fun J hI => w_X11_needNode hI σ p0 p1 δ r h rfl)
def m_X11_both (σ : St) (p0 : Nat) (p1 : Int32) (p2 : Int32) (δ : Dy) : Option ((Int32 ⊕ Nat) × Dy) :=
  (chk σ 11 p0).bind fun _ => (m_X11_needNode σ p0 p1 δ).bind fun v1 => xel v1 (fun x2 =>
    (chk σ 11 p0).bind fun _ => (m_X11_needNode σ p0 p2 δ).bind fun v3 => xel v3 (fun x4 =>
      (chk σ 11 p0).bind fun _ => (m_X11_needRoom σ p0 δ).bind fun v5 => xel v5 (fun x6 =>
        (gR σ 11 p0 0).bind fun v7 =>
        (chk σ 5 v7).bind fun _ => (m_X5_add σ v7 (3 : Int32) (0 : Int32) (0 : Int32) (0 : Int32) p1 p2 δ).bind fun v8 =>
        some (Sum.inl v8.1, v8.2)) (fun e => (Sum.inr e, δ))) (fun e => (Sum.inr e, δ))) (fun e => (Sum.inr e, δ))
set_option maxHeartbeats 4000000 in
set_option maxRecDepth 100000 in
theorem w_X11_both {J : JT} {an : AX} (hI : IsX cX11_both 3 RX11 "both" 7 111 (some .int) an J) (σ : St) (p0 : Nat) (p1 : Int32) (p2 : Int32) (δ : Dy) : SJ (m_X11_both σ p0 p1 p2 δ) (PXI σ an) (J 0 [(0, .ref p0), (1, .int p1), (2, .int p2)] [] (bX an) σ δ) := by
  have hJ := hI.cor
  unfold m_X11_both
  refine sj (j_aload_n hJ dX11_both_0 rfl 0 rfl) ?_
  refine sj (j_iload_n hJ dX11_both_1 rfl 1 rfl) ?_
  refine sx_callVvp hI [.int p1] (st := []) (fr' := 6) (lo' := 90) ml_X11_90 hc_11 (by decide) (by decide) (Nat.le_of_ble_eq_true rfl) rfl dX11_both_2 rfl (fun _ h9 => ct_X11_needNode h9) (fun x2 => ?_) (fun e h => h)
  refine sj (j_aload_n hJ dX11_both_5 rfl 0 rfl) ?_
  refine sj (j_iload_n hJ dX11_both_6 rfl 2 rfl) ?_
  refine sx_callVvp hI [.int p2] (st := []) (fr' := 6) (lo' := 90) ml_X11_90 hc_11 (by decide) (by decide) (Nat.le_of_ble_eq_true rfl) rfl dX11_both_7 rfl (fun _ h9 => ct_X11_needNode h9) (fun x4 => ?_) (fun e h => h)
  refine sj (j_aload_n hJ dX11_both_10 rfl 0 rfl) ?_
  refine sx_callVvp hI [] (st := []) (fr' := 6) (lo' := 90) ml_X11_79 hc_11 (by decide) (by decide) (Nat.le_of_ble_eq_true rfl) rfl dX11_both_11 rfl (fun _ h9 => ct_X11_needRoom h9) (fun x6 => ?_) (fun e h => h)
  refine sj (j_aload_n hJ dX11_both_14 rfl 0 rfl) ?_
  refine sj_gR hJ fl_X11_10 rfl dX11_both_15 (fun v7 => ?_)
  refine sj (j_iconst hJ (v := 3) dX11_both_18 ic_3) ?_
  refine sj (j_iconst hJ (v := 0) dX11_both_19 ic_0) ?_
  refine sj (j_iconst hJ (v := 0) dX11_both_20 ic_0) ?_
  refine sj (j_iconst hJ (v := 0) dX11_both_21 ic_0) ?_
  refine sj (j_iload_n hJ dX11_both_22 rfl 1 rfl) ?_
  refine sj (j_iload_n hJ dX11_both_23 rfl 2 rfl) ?_
  refine sj_callVi hJ [.int (3 : Int32), .int (0 : Int32), .int (0 : Int32), .int (0 : Int32), .int p1, .int p2] (st := []) (fr' := 0) (lo' := 0) ml_X11_82 hc_5 (by decide) (by decide) (Nat.le_of_ble_eq_true rfl) dX11_both_24 rfl (fun _ h9 => ct_X5_add h9) (fun v8 => ?_)
  exact sx_iret hI dX11_both_27 (fun h => h)
theorem ct_X11_both {σ : St} {p0 : Nat} {p1 : Int32} {p2 : Int32} {δ : Dy} {r : ((Int32 ⊕ Nat) × Dy)} (h : m_X11_both σ p0 p1 p2 δ = some r) : CTX yX11_both cX11_both 3 (some .int) 7 111 [.ref p0, .int p1, .int p2] σ δ (ox_i r.1, σ, r.2) := CTX_of (by decide +kernel) (Nat.le_of_ble_eq_true rfl) (fun J hI => w_X11_both hI σ p0 p1 p2 δ r h rfl)
def m_X11_needCondition_b12 (σ : St) (p0 : Int32) (δ : Dy) : Option (Unit ⊕ Nat) :=
  (m_X11_needWithin σ p0 (0 : Int32) (3 : Int32) δ).bind fun v1 => xel v1 (fun x2 =>
    some (Sum.inl ())) (fun e => (Sum.inr e))
def m_X11_needCondition (σ : St) (p0 : Int32) (δ : Dy) : Option (Unit ⊕ Nat) :=
  if p0 < (10 : Int32) then
    m_X11_needCondition_b12 σ p0 δ
  else
    if p0 < (16 : Int32) then
      some (Sum.inl ())
    else
      m_X11_needCondition_b12 σ p0 δ
set_option maxHeartbeats 4000000 in
set_option maxRecDepth 100000 in
theorem w_X11_needCondition_b12 {J : JT} {an : AX} (hI : IsX cX11_needCondition 1 RX11 "needCondition" 7 112 none an J) (σ : St) (p0 : Int32) (δ : Dy) : SJ (m_X11_needCondition_b12 σ p0 δ) (PXVp σ δ an) (J 12 [(0, .int p0)] [] (bX an) σ δ) := by
  have hJ := hI.cor
  unfold m_X11_needCondition_b12
  refine sj (j_iload_n hJ dX11_needCondition_12 rfl 0 rfl) ?_
  refine sj (j_iconst hJ (v := 0) dX11_needCondition_13 ic_0) ?_
  refine sj (j_iconst hJ (v := 3) dX11_needCondition_14 ic_3) ?_
  refine sx_callSvp hI [.int p0, .int (0 : Int32), .int (3 : Int32)] (st := []) (fr' := 6) (lo' := 90) ml_X11_108 (by decide) (by decide) (Nat.le_of_ble_eq_true rfl) rfl dX11_needCondition_15 rfl (fun _ h9 => ct_X11_needWithin h9) (fun x2 => ?_) (fun e h => h)
  exact sx_vret hI dX11_needCondition_18 (fun h => h)
set_option maxHeartbeats 4000000 in
set_option maxRecDepth 100000 in
theorem w_X11_needCondition {J : JT} {an : AX} (hI : IsX cX11_needCondition 1 RX11 "needCondition" 7 112 none an J) (σ : St) (p0 : Int32) (δ : Dy) : SJ (m_X11_needCondition σ p0 δ) (PXVp σ δ an) (J 0 [(0, .int p0)] [] (bX an) σ δ) := by
  have hJ := hI.cor
  unfold m_X11_needCondition
  refine sj (j_iload_n hJ dX11_needCondition_0 rfl 0 rfl) ?_
  refine sj (j_bipush hJ (v := 10) dX11_needCondition_1 ib_10) ?_
  refine sj_if (j_icmp_lt hJ (tgt := 12) dX11_needCondition_3 (by decide)) (fun _ => ?_) (fun _ => ?_)
  · exact w_X11_needCondition_b12 hI σ p0 δ
  · refine sj (j_iload_n hJ dX11_needCondition_6 rfl 0 rfl) ?_
    refine sj (j_bipush hJ (v := 16) dX11_needCondition_7 ib_16) ?_
    refine sj_if (j_icmp_lt hJ (tgt := 18) dX11_needCondition_9 (by decide)) (fun _ => ?_) (fun _ => ?_)
    · exact sx_vret hI dX11_needCondition_18 (fun h => h)
    · exact w_X11_needCondition_b12 hI σ p0 δ
theorem ct_X11_needCondition {σ : St} {p0 : Int32} {δ : Dy} {r : (Unit ⊕ Nat)} (h : m_X11_needCondition σ p0 δ = some r) : CTX yX11_needCondition cX11_needCondition 1 none 7 112 [.int p0] σ δ (ox_v r, σ, δ) := CTX_of (by decide +kernel) (Nat.le_of_ble_eq_true rfl) (fun J hI => w_X11_needCondition hI σ p0 δ r h rfl)
def m_X11_when (σ : St) (p0 : Nat) (p1 : Int32) (p2 : Int32) (p3 : Int32) (p4 : Int32) (δ : Dy) : Option ((Int32 ⊕ Nat) × Dy) :=
  (chk σ 11 p0).bind fun _ => (m_X11_needNode σ p0 p4 δ).bind fun v1 => xel v1 (fun x2 =>
    (m_X11_needCondition σ p1 δ).bind fun v3 => xel v3 (fun x4 =>
      (m_X11_asked σ p1 p3 δ).bind fun v5 =>
      (m_X11_needTerms σ p2 v5 δ).bind fun v6 => xel v6 (fun x7 =>
        (chk σ 11 p0).bind fun _ => (m_X11_needRoom σ p0 δ).bind fun v8 => xel v8 (fun x9 =>
          (gR σ 11 p0 0).bind fun v10 =>
          (chk σ 5 v10).bind fun _ => (m_X5_add σ v10 (4 : Int32) p1 p2 v5 p4 (-1 : Int32) δ).bind fun v11 =>
          some (Sum.inl v11.1, v11.2)) (fun e => (Sum.inr e, δ))) (fun e => (Sum.inr e, δ))) (fun e => (Sum.inr e, δ))) (fun e => (Sum.inr e, δ))
set_option maxHeartbeats 4000000 in
set_option maxRecDepth 100000 in
theorem w_X11_when {J : JT} {an : AX} (hI : IsX cX11_when 6 RX11 "when" 8 132 (some .int) an J) (σ : St) (p0 : Nat) (p1 : Int32) (p2 : Int32) (p3 : Int32) (p4 : Int32) (δ : Dy) : SJ (m_X11_when σ p0 p1 p2 p3 p4 δ) (PXI σ an) (J 0 [(0, .ref p0), (1, .int p1), (2, .int p2), (3, .int p3), (4, .int p4)] [] (bX an) σ δ) := by
  have hJ := hI.cor
  unfold m_X11_when
  refine sj (j_aload_n hJ dX11_when_0 rfl 0 rfl) ?_
  refine sj (j_iload hJ dX11_when_1 4 rfl) ?_
  refine sx_callVvp hI [.int p4] (st := []) (fr' := 6) (lo' := 90) ml_X11_90 hc_11 (by decide) (by decide) (Nat.le_of_ble_eq_true rfl) rfl dX11_when_3 rfl (fun _ h9 => ct_X11_needNode h9) (fun x2 => ?_) (fun e h => h)
  refine sj (j_iload_n hJ dX11_when_6 rfl 1 rfl) ?_
  refine sx_callSvp hI [.int p1] (st := []) (fr' := 7) (lo' := 112) ml_X11_93 (by decide) (by decide) (Nat.le_of_ble_eq_true rfl) rfl dX11_when_7 rfl (fun _ h9 => ct_X11_needCondition h9) (fun x4 => ?_) (fun e h => h)
  refine sj (j_iload_n hJ dX11_when_10 rfl 1 rfl) ?_
  refine sj (j_iload_n hJ dX11_when_11 rfl 3 rfl) ?_
  refine sj_callSip hJ [.int p1, .int p3] (st := []) (fr' := 0) (lo' := 0) ml_X11_96 (by decide) (by decide) (Nat.le_of_ble_eq_true rfl) dX11_when_12 rfl (fun _ h9 => ct_X11_asked h9) (fun v5 => ?_)
  refine sj (j_istore hJ (L' := [(5, .int v5), (0, .ref p0), (1, .int p1), (2, .int p2), (3, .int p3), (4, .int p4)]) dX11_when_15 (by decide) rfl) ?_
  refine sj (j_iload_n hJ dX11_when_17 rfl 3 rfl) ?_
  refine sj (j_iload hJ dX11_when_18 0 rfl) ?_
  refine sx_callSvp hI [.int p2, .int v5] (st := []) (fr' := 6) (lo' := 90) ml_X11_75 (by decide) (by decide) (Nat.le_of_ble_eq_true rfl) rfl dX11_when_20 rfl (fun _ h9 => ct_X11_needTerms h9) (fun x7 => ?_) (fun e h => h)
  refine sj (j_aload_n hJ dX11_when_23 rfl 1 rfl) ?_
  refine sx_callVvp hI [] (st := []) (fr' := 6) (lo' := 90) ml_X11_79 hc_11 (by decide) (by decide) (Nat.le_of_ble_eq_true rfl) rfl dX11_when_24 rfl (fun _ h9 => ct_X11_needRoom h9) (fun x9 => ?_) (fun e h => h)
  refine sj (j_aload_n hJ dX11_when_27 rfl 1 rfl) ?_
  refine sj_gR hJ fl_X11_10 rfl dX11_when_28 (fun v10 => ?_)
  refine sj (j_iconst hJ (v := 4) dX11_when_31 ic_4) ?_
  refine sj (j_iload_n hJ dX11_when_32 rfl 2 rfl) ?_
  refine sj (j_iload_n hJ dX11_when_33 rfl 3 rfl) ?_
  refine sj (j_iload hJ dX11_when_34 0 rfl) ?_
  refine sj (j_iload hJ dX11_when_36 5 rfl) ?_
  refine sj (j_iconst hJ (v := -1) dX11_when_38 ic_m1) ?_
  refine sj_callVi hJ [.int (4 : Int32), .int p1, .int p2, .int v5, .int p4, .int (-1 : Int32)] (st := []) (fr' := 0) (lo' := 0) ml_X11_82 hc_5 (by decide) (by decide) (Nat.le_of_ble_eq_true rfl) dX11_when_39 rfl (fun _ h9 => ct_X5_add h9) (fun v11 => ?_)
  exact sx_iret hI dX11_when_42 (fun h => h)
theorem ct_X11_when {σ : St} {p0 : Nat} {p1 : Int32} {p2 : Int32} {p3 : Int32} {p4 : Int32} {δ : Dy} {r : ((Int32 ⊕ Nat) × Dy)} (h : m_X11_when σ p0 p1 p2 p3 p4 δ = some r) : CTX yX11_when cX11_when 6 (some .int) 8 132 [.ref p0, .int p1, .int p2, .int p3, .int p4] σ δ (ox_i r.1, σ, r.2) := CTX_of (by decide +kernel) (Nat.le_of_ble_eq_true rfl) (fun J hI => w_X11_when hI σ p0 p1 p2 p3 p4 δ r h rfl)
def m_X11_lot (σ : St) (p0 : Nat) (p1 : Int32) (p2 : Int32) (p3 : Int32) (p4 : Int32) (δ : Dy) : Option ((Int32 ⊕ Nat) × Dy) :=
  (chk σ 11 p0).bind fun _ => (m_X11_needNode σ p0 p2 δ).bind fun v1 => xel v1 (fun x2 =>
    (chk σ 11 p0).bind fun _ => (m_X11_needNode σ p0 p4 δ).bind fun v3 => xel v3 (fun x4 =>
      (m_X11_needWithin σ p1 (1 : Int32) (9 : Int32) δ).bind fun v5 => xel v5 (fun x6 =>
        (m_X11_needWithin σ p3 (1 : Int32) (9 : Int32) δ).bind fun v7 => xel v7 (fun x8 =>
          (chk σ 11 p0).bind fun _ => (m_X11_needRoom σ p0 δ).bind fun v9 => xel v9 (fun x10 =>
            (gR σ 11 p0 0).bind fun v11 =>
            (chk σ 5 v11).bind fun _ => (m_X5_add σ v11 (12 : Int32) (0 : Int32) p1 p3 p2 p4 δ).bind fun v12 =>
            some (Sum.inl v12.1, v12.2)) (fun e => (Sum.inr e, δ))) (fun e => (Sum.inr e, δ))) (fun e => (Sum.inr e, δ))) (fun e => (Sum.inr e, δ))) (fun e => (Sum.inr e, δ))
set_option maxHeartbeats 4000000 in
set_option maxRecDepth 100000 in
theorem w_X11_lot {J : JT} {an : AX} (hI : IsX cX11_lot 5 RX11 "lot" 7 112 (some .int) an J) (σ : St) (p0 : Nat) (p1 : Int32) (p2 : Int32) (p3 : Int32) (p4 : Int32) (δ : Dy) : SJ (m_X11_lot σ p0 p1 p2 p3 p4 δ) (PXI σ an) (J 0 [(0, .ref p0), (1, .int p1), (2, .int p2), (3, .int p3), (4, .int p4)] [] (bX an) σ δ) := by
  have hJ := hI.cor
  unfold m_X11_lot
  refine sj (j_aload_n hJ dX11_lot_0 rfl 0 rfl) ?_
  refine sj (j_iload_n hJ dX11_lot_1 rfl 2 rfl) ?_
  refine sx_callVvp hI [.int p2] (st := []) (fr' := 6) (lo' := 90) ml_X11_90 hc_11 (by decide) (by decide) (Nat.le_of_ble_eq_true rfl) rfl dX11_lot_2 rfl (fun _ h9 => ct_X11_needNode h9) (fun x2 => ?_) (fun e h => h)
  refine sj (j_aload_n hJ dX11_lot_5 rfl 0 rfl) ?_
  refine sj (j_iload hJ dX11_lot_6 4 rfl) ?_
  refine sx_callVvp hI [.int p4] (st := []) (fr' := 6) (lo' := 90) ml_X11_90 hc_11 (by decide) (by decide) (Nat.le_of_ble_eq_true rfl) rfl dX11_lot_8 rfl (fun _ h9 => ct_X11_needNode h9) (fun x4 => ?_) (fun e h => h)
  refine sj (j_iload_n hJ dX11_lot_11 rfl 1 rfl) ?_
  refine sj (j_iconst hJ (v := 1) dX11_lot_12 ic_1) ?_
  refine sj (j_bipush hJ (v := 9) dX11_lot_13 ib_9) ?_
  refine sx_callSvp hI [.int p1, .int (1 : Int32), .int (9 : Int32)] (st := []) (fr' := 6) (lo' := 90) ml_X11_108 (by decide) (by decide) (Nat.le_of_ble_eq_true rfl) rfl dX11_lot_15 rfl (fun _ h9 => ct_X11_needWithin h9) (fun x6 => ?_) (fun e h => h)
  refine sj (j_iload_n hJ dX11_lot_18 rfl 3 rfl) ?_
  refine sj (j_iconst hJ (v := 1) dX11_lot_19 ic_1) ?_
  refine sj (j_bipush hJ (v := 9) dX11_lot_20 ib_9) ?_
  refine sx_callSvp hI [.int p3, .int (1 : Int32), .int (9 : Int32)] (st := []) (fr' := 6) (lo' := 90) ml_X11_108 (by decide) (by decide) (Nat.le_of_ble_eq_true rfl) rfl dX11_lot_22 rfl (fun _ h9 => ct_X11_needWithin h9) (fun x8 => ?_) (fun e h => h)
  refine sj (j_aload_n hJ dX11_lot_25 rfl 0 rfl) ?_
  refine sx_callVvp hI [] (st := []) (fr' := 6) (lo' := 90) ml_X11_79 hc_11 (by decide) (by decide) (Nat.le_of_ble_eq_true rfl) rfl dX11_lot_26 rfl (fun _ h9 => ct_X11_needRoom h9) (fun x10 => ?_) (fun e h => h)
  refine sj (j_aload_n hJ dX11_lot_29 rfl 0 rfl) ?_
  refine sj_gR hJ fl_X11_10 rfl dX11_lot_30 (fun v11 => ?_)
  refine sj (j_bipush hJ (v := 12) dX11_lot_33 ib_12) ?_
  refine sj (j_iconst hJ (v := 0) dX11_lot_35 ic_0) ?_
  refine sj (j_iload_n hJ dX11_lot_36 rfl 1 rfl) ?_
  refine sj (j_iload_n hJ dX11_lot_37 rfl 3 rfl) ?_
  refine sj (j_iload_n hJ dX11_lot_38 rfl 2 rfl) ?_
  refine sj (j_iload hJ dX11_lot_39 4 rfl) ?_
  refine sj_callVi hJ [.int (12 : Int32), .int (0 : Int32), .int p1, .int p3, .int p2, .int p4] (st := []) (fr' := 0) (lo' := 0) ml_X11_82 hc_5 (by decide) (by decide) (Nat.le_of_ble_eq_true rfl) dX11_lot_41 rfl (fun _ h9 => ct_X5_add h9) (fun v12 => ?_)
  exact sx_iret hI dX11_lot_44 (fun h => h)
theorem ct_X11_lot {σ : St} {p0 : Nat} {p1 : Int32} {p2 : Int32} {p3 : Int32} {p4 : Int32} {δ : Dy} {r : ((Int32 ⊕ Nat) × Dy)} (h : m_X11_lot σ p0 p1 p2 p3 p4 δ = some r) : CTX yX11_lot cX11_lot 5 (some .int) 7 112 [.ref p0, .int p1, .int p2, .int p3, .int p4] σ δ (ox_i r.1, σ, r.2) := CTX_of (by decide +kernel) (Nat.le_of_ble_eq_true rfl) (fun J hI => w_X11_lot hI σ p0 p1 p2 p3 p4 δ r h rfl)
def m_X11_attempt (σ : St) (p0 : Nat) (p1 : Int32) (p2 : Int32) (δ : Dy) : Option ((Int32 ⊕ Nat) × Dy) :=
  (chk σ 11 p0).bind fun _ => (m_X11_needNode σ p0 p1 δ).bind fun v1 => xel v1 (fun x2 =>
    (chk σ 11 p0).bind fun _ => (m_X11_needNode σ p0 p2 δ).bind fun v3 => xel v3 (fun x4 =>
      (chk σ 11 p0).bind fun _ => (m_X11_needRoom σ p0 δ).bind fun v5 => xel v5 (fun x6 =>
        (gR σ 11 p0 0).bind fun v7 =>
        (chk σ 5 v7).bind fun _ => (m_X5_add σ v7 (13 : Int32) (0 : Int32) (0 : Int32) (0 : Int32) p1 p2 δ).bind fun v8 =>
        some (Sum.inl v8.1, v8.2)) (fun e => (Sum.inr e, δ))) (fun e => (Sum.inr e, δ))) (fun e => (Sum.inr e, δ))
set_option maxHeartbeats 4000000 in
set_option maxRecDepth 100000 in
theorem w_X11_attempt {J : JT} {an : AX} (hI : IsX cX11_attempt 3 RX11 "attempt" 7 111 (some .int) an J) (σ : St) (p0 : Nat) (p1 : Int32) (p2 : Int32) (δ : Dy) : SJ (m_X11_attempt σ p0 p1 p2 δ) (PXI σ an) (J 0 [(0, .ref p0), (1, .int p1), (2, .int p2)] [] (bX an) σ δ) := by
  have hJ := hI.cor
  unfold m_X11_attempt
  refine sj (j_aload_n hJ dX11_attempt_0 rfl 0 rfl) ?_
  refine sj (j_iload_n hJ dX11_attempt_1 rfl 1 rfl) ?_
  refine sx_callVvp hI [.int p1] (st := []) (fr' := 6) (lo' := 90) ml_X11_90 hc_11 (by decide) (by decide) (Nat.le_of_ble_eq_true rfl) rfl dX11_attempt_2 rfl (fun _ h9 => ct_X11_needNode h9) (fun x2 => ?_) (fun e h => h)
  refine sj (j_aload_n hJ dX11_attempt_5 rfl 0 rfl) ?_
  refine sj (j_iload_n hJ dX11_attempt_6 rfl 2 rfl) ?_
  refine sx_callVvp hI [.int p2] (st := []) (fr' := 6) (lo' := 90) ml_X11_90 hc_11 (by decide) (by decide) (Nat.le_of_ble_eq_true rfl) rfl dX11_attempt_7 rfl (fun _ h9 => ct_X11_needNode h9) (fun x4 => ?_) (fun e h => h)
  refine sj (j_aload_n hJ dX11_attempt_10 rfl 0 rfl) ?_
  refine sx_callVvp hI [] (st := []) (fr' := 6) (lo' := 90) ml_X11_79 hc_11 (by decide) (by decide) (Nat.le_of_ble_eq_true rfl) rfl dX11_attempt_11 rfl (fun _ h9 => ct_X11_needRoom h9) (fun x6 => ?_) (fun e h => h)
  refine sj (j_aload_n hJ dX11_attempt_14 rfl 0 rfl) ?_
  refine sj_gR hJ fl_X11_10 rfl dX11_attempt_15 (fun v7 => ?_)
  refine sj (j_bipush hJ (v := 13) dX11_attempt_18 ib_13) ?_
  refine sj (j_iconst hJ (v := 0) dX11_attempt_20 ic_0) ?_
  refine sj (j_iconst hJ (v := 0) dX11_attempt_21 ic_0) ?_
  refine sj (j_iconst hJ (v := 0) dX11_attempt_22 ic_0) ?_
  refine sj (j_iload_n hJ dX11_attempt_23 rfl 1 rfl) ?_
  refine sj (j_iload_n hJ dX11_attempt_24 rfl 2 rfl) ?_
  refine sj_callVi hJ [.int (13 : Int32), .int (0 : Int32), .int (0 : Int32), .int (0 : Int32), .int p1, .int p2] (st := []) (fr' := 0) (lo' := 0) ml_X11_82 hc_5 (by decide) (by decide) (Nat.le_of_ble_eq_true rfl) dX11_attempt_25 rfl (fun _ h9 => ct_X5_add h9) (fun v8 => ?_)
  exact sx_iret hI dX11_attempt_28 (fun h => h)
theorem ct_X11_attempt {σ : St} {p0 : Nat} {p1 : Int32} {p2 : Int32} {δ : Dy} {r : ((Int32 ⊕ Nat) × Dy)} (h : m_X11_attempt σ p0 p1 p2 δ = some r) : CTX yX11_attempt cX11_attempt 3 (some .int) 7 111 [.ref p0, .int p1, .int p2] σ δ (ox_i r.1, σ, r.2) := CTX_of (by decide +kernel) (Nat.le_of_ble_eq_true rfl) (fun J hI => w_X11_attempt hI σ p0 p1 p2 δ r h rfl)
def m_X11_begin_b59 (σ : St) (δ : Dy) : Option ((Int32 ⊕ Nat) × Dy) :=
  some (Sum.inr 1, δ)
def m_X11_begin_b94 (σ : St) (δ : Dy) : Option ((Int32 ⊕ Nat) × Dy) :=
  some (Sum.inr 0, δ)
def m_X11_begin_b69 (σ : St) (p0 : Nat) (p1 : Int32) (p2 : Int32) (p3 : Int32) (δ : Dy) : Option ((Int32 ⊕ Nat) × Dy) :=
  (gR σ 11 p0 2).bind fun v7 =>
  (gR σ 10 v7 1).bind fun v8 =>
  (gI σ δ 8 v8 12).bind fun v9 =>
  if v9 = 0 then
    (gR σ 11 p0 2).bind fun v10 =>
    (chk σ 10 v10).bind fun _ => (m_X10_forNext σ v10 δ).bind fun v11 =>
    if v11 < (30 : Int32) then
      (chk σ 11 p0).bind fun _ => (m_X11_note σ p0 (3 : Int32) p1 p2 p3 δ).bind fun v12 =>
      (gR σ 11 p0 2).bind fun v13 =>
      (chk σ 10 v13).bind fun _ => (m_X10_admit σ v13 p1 p2 p3 v12).bind fun v14 =>
      (gR σ 11 p0 2).bind fun v15 =>
      (chk σ 10 v15).bind fun _ => (m_X10_forNext σ v15 v14).bind fun v16 =>
      some (Sum.inl v16, v14)
    else
      m_X11_begin_b94 σ δ
  else
    m_X11_begin_b94 σ δ
def m_X11_begin_b45 (σ : St) (p0 : Nat) (p1 : Int32) (p2 : Int32) (p3 : Int32) (δ : Dy) : Option ((Int32 ⊕ Nat) × Dy) :=
  (m_X11_isValue σ p3 δ).bind fun v6 =>
  if v6 = 0 then
    if (400 : Int32) ≤ p3 then
      m_X11_begin_b69 σ p0 p1 p2 p3 δ
    else
      m_X11_begin_b59 σ δ
  else
    m_X11_begin_b69 σ p0 p1 p2 p3 δ
def m_X11_begin_b21 (σ : St) (δ : Dy) : Option ((Int32 ⊕ Nat) × Dy) :=
  some (Sum.inr 2, δ)
def m_X11_begin (σ : St) (p0 : Nat) (p1 : Int32) (p2 : Int32) (p3 : Int32) (δ : Dy) : Option ((Int32 ⊕ Nat) × Dy) :=
  (chk σ 11 p0).bind fun _ => (m_X11_needNode σ p0 p1 δ).bind fun v1 => xel v1 (fun x2 =>
    (chk σ 11 p0).bind fun _ => (m_X11_isNoVariable σ p0 p2 δ).bind fun v3 =>
    if v3 = 0 then
      (chk σ 11 p0).bind fun _ => (m_X11_isNoVariable σ p0 p3 δ).bind fun v4 =>
      if v4 = 0 then
        (m_X11_isValue σ p2 δ).bind fun v5 =>
        if v5 = 0 then
          if p2 < (400 : Int32) then
            m_X11_begin_b59 σ δ
          else
            m_X11_begin_b45 σ p0 p1 p2 p3 δ
        else
          m_X11_begin_b45 σ p0 p1 p2 p3 δ
      else
        m_X11_begin_b21 σ δ
    else
      m_X11_begin_b21 σ δ) (fun e => (Sum.inr e, δ))
set_option maxHeartbeats 4000000 in
set_option maxRecDepth 100000 in
theorem w_X11_begin_b59 {J : JT} {an : AX} (hI : IsX cX11_begin 4 RX11 "begin" 7 111 (some .int) an J) (σ : St) (δ : Dy) : SJ (m_X11_begin_b59 σ δ) (PXI σ an) (J 59 [] [] (bX an) σ δ) := by
  have hJ := hI.cor
  unfold m_X11_begin_b59
  exact sx_throw hI (text := "neither a value nor a variable") tx_103_107 (by decide) rfl (by decide) (by decide) (Nat.le_of_ble_eq_true rfl) dX11_begin_59 dX11_begin_62 dX11_begin_63 dX11_begin_65 dX11_begin_68 (fun h => h)
set_option maxHeartbeats 4000000 in
set_option maxRecDepth 100000 in
theorem w_X11_begin_b94 {J : JT} {an : AX} (hI : IsX cX11_begin 4 RX11 "begin" 7 111 (some .int) an J) (σ : St) (δ : Dy) : SJ (m_X11_begin_b94 σ δ) (PXI σ an) (J 94 [] [] (bX an) σ δ) := by
  have hJ := hI.cor
  unfold m_X11_begin_b94
  exact sx_throw hI (text := "no agent can be begun") tx_60_64 (by decide) rfl (by decide) (by decide) (Nat.le_of_ble_eq_true rfl) dX11_begin_94 dX11_begin_97 dX11_begin_98 dX11_begin_100 dX11_begin_103 (fun h => h)
set_option maxHeartbeats 4000000 in
set_option maxRecDepth 100000 in
theorem w_X11_begin_b69 {J : JT} {an : AX} (hI : IsX cX11_begin 4 RX11 "begin" 7 111 (some .int) an J) (σ : St) (p0 : Nat) (p1 : Int32) (p2 : Int32) (p3 : Int32) (δ : Dy) : SJ (m_X11_begin_b69 σ p0 p1 p2 p3 δ) (PXI σ an) (J 69 [(0, .ref p0), (1, .int p1), (2, .int p2), (3, .int p3)] [] (bX an) σ δ) := by
  have hJ := hI.cor
  unfold m_X11_begin_b69
  refine sj (j_aload_n hJ dX11_begin_69 rfl 0 rfl) ?_
  refine sj_gR hJ fl_X11_39 rfl dX11_begin_70 (fun v7 => ?_)
  refine sj_gR hJ fl_X11_46 rfl dX11_begin_73 (fun v8 => ?_)
  refine sj_gI hJ fl_X11_56 (Or.inr rfl) dX11_begin_76 (fun v9 => ?_)
  refine sj_if (j_if_ne hJ (tgt := 94) dX11_begin_79 (by decide)) (fun _ => ?_) (fun _ => ?_)
  · refine sj (j_aload_n hJ dX11_begin_82 rfl 0 rfl) ?_
    refine sj_gR hJ fl_X11_39 rfl dX11_begin_83 (fun v10 => ?_)
    refine sj_callVip hJ [] (st := []) (fr' := 0) (lo' := 0) ml_X11_185 hc_10 (by decide) (by decide) (Nat.le_of_ble_eq_true rfl) dX11_begin_86 rfl (fun _ h9 => ct_X10_forNext h9) (fun v11 => ?_)
    refine sj (j_bipush hJ (v := 30) dX11_begin_89 ib_30) ?_
    refine sj_if (j_icmp_lt hJ (tgt := 104) dX11_begin_91 (by decide)) (fun _ => ?_) (fun _ => ?_)
    · refine sj (j_aload_n hJ dX11_begin_104 rfl 0 rfl) ?_
      refine sj (j_iconst hJ (v := 3) dX11_begin_105 ic_3) ?_
      refine sj (j_iload_n hJ dX11_begin_106 rfl 1 rfl) ?_
      refine sj (j_iload_n hJ dX11_begin_107 rfl 2 rfl) ?_
      refine sj (j_iload_n hJ dX11_begin_108 rfl 3 rfl) ?_
      refine sj_callVv hJ [.int (3 : Int32), .int p1, .int p2, .int p3] (st := []) (fr' := 0) (lo' := 0) ml_X11_67 hc_11 (by decide) (by decide) (Nat.le_of_ble_eq_true rfl) dX11_begin_109 rfl (fun _ h9 => ct_X11_note h9) (fun v12 => ?_)
      refine sj (j_aload_n hJ dX11_begin_112 rfl 0 rfl) ?_
      refine sj_gR hJ fl_X11_39 rfl dX11_begin_113 (fun v13 => ?_)
      refine sj (j_iload_n hJ dX11_begin_116 rfl 1 rfl) ?_
      refine sj (j_iload_n hJ dX11_begin_117 rfl 2 rfl) ?_
      refine sj (j_iload_n hJ dX11_begin_118 rfl 3 rfl) ?_
      refine sj_callVv hJ [.int p1, .int p2, .int p3] (st := []) (fr' := 2) (lo' := 81) ml_X11_190 hc_10 (by decide) (by decide) (Nat.le_of_ble_eq_true rfl) dX11_begin_119 rfl (fun _ h9 => ct_X10_admit h9) (fun v14 => ?_)
      refine sj (j_aload_n hJ dX11_begin_122 rfl 0 rfl) ?_
      refine sj_gR hJ fl_X11_39 rfl dX11_begin_123 (fun v15 => ?_)
      refine sj_callVip hJ [] (st := []) (fr' := 0) (lo' := 0) ml_X11_185 hc_10 (by decide) (by decide) (Nat.le_of_ble_eq_true rfl) dX11_begin_126 rfl (fun _ h9 => ct_X10_forNext h9) (fun v16 => ?_)
      exact sx_iret hI dX11_begin_129 (fun h => h)
    · refine sj (j_sub hJ (L' := []) [] rfl) ?_
      exact w_X11_begin_b94 hI σ δ
  · refine sj (j_sub hJ (L' := []) [] rfl) ?_
    exact w_X11_begin_b94 hI σ δ
set_option maxHeartbeats 4000000 in
set_option maxRecDepth 100000 in
theorem w_X11_begin_b45 {J : JT} {an : AX} (hI : IsX cX11_begin 4 RX11 "begin" 7 111 (some .int) an J) (σ : St) (p0 : Nat) (p1 : Int32) (p2 : Int32) (p3 : Int32) (δ : Dy) : SJ (m_X11_begin_b45 σ p0 p1 p2 p3 δ) (PXI σ an) (J 45 [(0, .ref p0), (1, .int p1), (2, .int p2), (3, .int p3)] [] (bX an) σ δ) := by
  have hJ := hI.cor
  unfold m_X11_begin_b45
  refine sj (j_iload_n hJ dX11_begin_45 rfl 3 rfl) ?_
  refine sj_callSip hJ [.int p3] (st := []) (fr' := 0) (lo' := 0) ml_X11_180 (by decide) (by decide) (Nat.le_of_ble_eq_true rfl) dX11_begin_46 rfl (fun _ h9 => ct_X11_isValue h9) (fun v6 => ?_)
  refine sj_if (j_if_ne hJ (tgt := 69) dX11_begin_49 (by decide)) (fun _ => ?_) (fun _ => ?_)
  · refine sj (j_iload_n hJ dX11_begin_52 rfl 3 rfl) ?_
    refine sj (j_sipush hJ (v := 400) dX11_begin_53 is_400) ?_
    refine sj_if (j_icmp_ge hJ (tgt := 69) dX11_begin_56 (by decide)) (fun _ => ?_) (fun _ => ?_)
    · exact w_X11_begin_b69 hI σ p0 p1 p2 p3 δ
    · refine sj (j_sub hJ (L' := []) [] rfl) ?_
      exact w_X11_begin_b59 hI σ δ
  · exact w_X11_begin_b69 hI σ p0 p1 p2 p3 δ
set_option maxHeartbeats 4000000 in
set_option maxRecDepth 100000 in
theorem w_X11_begin_b21 {J : JT} {an : AX} (hI : IsX cX11_begin 4 RX11 "begin" 7 111 (some .int) an J) (σ : St) (δ : Dy) : SJ (m_X11_begin_b21 σ δ) (PXI σ an) (J 21 [] [] (bX an) σ δ) := by
  have hJ := hI.cor
  unfold m_X11_begin_b21
  exact sx_throw hI (text := "there is no such variable") tx_175_179 (by decide) rfl (by decide) (by decide) (Nat.le_of_ble_eq_true rfl) dX11_begin_21 dX11_begin_24 dX11_begin_25 dX11_begin_27 dX11_begin_30 (fun h => h)
set_option maxHeartbeats 4000000 in
set_option maxRecDepth 100000 in
theorem w_X11_begin {J : JT} {an : AX} (hI : IsX cX11_begin 4 RX11 "begin" 7 111 (some .int) an J) (σ : St) (p0 : Nat) (p1 : Int32) (p2 : Int32) (p3 : Int32) (δ : Dy) : SJ (m_X11_begin σ p0 p1 p2 p3 δ) (PXI σ an) (J 0 [(0, .ref p0), (1, .int p1), (2, .int p2), (3, .int p3)] [] (bX an) σ δ) := by
  have hJ := hI.cor
  unfold m_X11_begin
  refine sj (j_aload_n hJ dX11_begin_0 rfl 0 rfl) ?_
  refine sj (j_iload_n hJ dX11_begin_1 rfl 1 rfl) ?_
  refine sx_callVvp hI [.int p1] (st := []) (fr' := 6) (lo' := 90) ml_X11_90 hc_11 (by decide) (by decide) (Nat.le_of_ble_eq_true rfl) rfl dX11_begin_2 rfl (fun _ h9 => ct_X11_needNode h9) (fun x2 => ?_) (fun e h => h)
  refine sj (j_aload_n hJ dX11_begin_5 rfl 0 rfl) ?_
  refine sj (j_iload_n hJ dX11_begin_6 rfl 2 rfl) ?_
  refine sj_callVip hJ [.int p2] (st := []) (fr' := 0) (lo' := 0) ml_X11_171 hc_11 (by decide) (by decide) (Nat.le_of_ble_eq_true rfl) dX11_begin_7 rfl (fun _ h9 => ct_X11_isNoVariable h9) (fun v3 => ?_)
  refine sj_if (j_if_ne hJ (tgt := 21) dX11_begin_10 (by decide)) (fun _ => ?_) (fun _ => ?_)
  · refine sj (j_aload_n hJ dX11_begin_13 rfl 0 rfl) ?_
    refine sj (j_iload_n hJ dX11_begin_14 rfl 3 rfl) ?_
    refine sj_callVip hJ [.int p3] (st := []) (fr' := 0) (lo' := 0) ml_X11_171 hc_11 (by decide) (by decide) (Nat.le_of_ble_eq_true rfl) dX11_begin_15 rfl (fun _ h9 => ct_X11_isNoVariable h9) (fun v4 => ?_)
    refine sj_if (j_if_eq hJ (tgt := 31) dX11_begin_18 (by decide)) (fun _ => ?_) (fun _ => ?_)
    · refine sj (j_iload_n hJ dX11_begin_31 rfl 2 rfl) ?_
      refine sj_callSip hJ [.int p2] (st := []) (fr' := 0) (lo' := 0) ml_X11_180 (by decide) (by decide) (Nat.le_of_ble_eq_true rfl) dX11_begin_32 rfl (fun _ h9 => ct_X11_isValue h9) (fun v5 => ?_)
      refine sj_if (j_if_ne hJ (tgt := 45) dX11_begin_35 (by decide)) (fun _ => ?_) (fun _ => ?_)
      · refine sj (j_iload_n hJ dX11_begin_38 rfl 2 rfl) ?_
        refine sj (j_sipush hJ (v := 400) dX11_begin_39 is_400) ?_
        refine sj_if (j_icmp_lt hJ (tgt := 59) dX11_begin_42 (by decide)) (fun _ => ?_) (fun _ => ?_)
        · refine sj (j_sub hJ (L' := []) [] rfl) ?_
          exact w_X11_begin_b59 hI σ δ
        · exact w_X11_begin_b45 hI σ p0 p1 p2 p3 δ
      · exact w_X11_begin_b45 hI σ p0 p1 p2 p3 δ
    · refine sj (j_sub hJ (L' := []) [] rfl) ?_
      exact w_X11_begin_b21 hI σ δ
  · refine sj (j_sub hJ (L' := []) [] rfl) ?_
    exact w_X11_begin_b21 hI σ δ
theorem ct_X11_begin {σ : St} {p0 : Nat} {p1 : Int32} {p2 : Int32} {p3 : Int32} {δ : Dy} {r : ((Int32 ⊕ Nat) × Dy)} (h : m_X11_begin σ p0 p1 p2 p3 δ = some r) : CTX yX11_begin cX11_begin 4 (some .int) 7 111 [.ref p0, .int p1, .int p2, .int p3] σ δ (ox_i r.1, σ, r.2) := CTX_of (by decide +kernel) (Nat.le_of_ble_eq_true rfl) (fun J hI => w_X11_begin hI σ p0 p1 p2 p3 δ r h rfl)
def m_X11_step_b25 (σ : St) (δ : Dy) : Option ((Int32 ⊕ Nat) × Dy) :=
  some (Sum.inr 0, δ)
def m_X11_step (σ : St) (p0 : Nat) (δ : Dy) : Option ((Int32 ⊕ Nat) × Dy) :=
  (gR σ 11 p0 2).bind fun v1 =>
  (gR σ 10 v1 1).bind fun v2 =>
  (gI σ δ 8 v2 12).bind fun v3 =>
  if v3 = 0 then
    (gR σ 11 p0 2).bind fun v4 =>
    (gI σ δ 10 v4 10).bind fun v5 =>
    if v5 < (30 : Int32) then
      (chk σ 11 p0).bind fun _ => (m_X11_note σ p0 (4 : Int32) (0 : Int32) (0 : Int32) (0 : Int32) δ).bind fun v6 =>
      (gR σ 11 p0 4).bind fun v7 =>
      (chk σ 9 v7).bind fun _ => (m_X9_restart σ v7 v6).bind fun v8 =>
      (gR σ 11 p0 2).bind fun v9 =>
      (gR σ 11 p0 4).bind fun v10 =>
      (chk σ 10 v9).bind fun _ => (m_X10_doStep σ v9 v10 v8).bind fun v11 =>
      (gR σ 11 p0 2).bind fun v12 =>
      (gR σ 10 v12 1).bind fun v13 =>
      (gI σ v11 8 v13 11).bind fun v14 =>
      some (Sum.inl v14, v11)
    else
      m_X11_step_b25 σ δ
  else
    m_X11_step_b25 σ δ
set_option maxHeartbeats 4000000 in
set_option maxRecDepth 100000 in
theorem w_X11_step_b25 {J : JT} {an : AX} (hI : IsX cX11_step 1 RX11 "step" 7 181 (some .int) an J) (σ : St) (δ : Dy) : SJ (m_X11_step_b25 σ δ) (PXI σ an) (J 25 [] [] (bX an) σ δ) := by
  have hJ := hI.cor
  unfold m_X11_step_b25
  exact sx_throw hI (text := "no step can be done") tx_60_64 (by decide) rfl (by decide) (by decide) (Nat.le_of_ble_eq_true rfl) dX11_step_25 dX11_step_28 dX11_step_29 dX11_step_31 dX11_step_34 (fun h => h)
set_option maxHeartbeats 4000000 in
set_option maxRecDepth 100000 in
theorem w_X11_step {J : JT} {an : AX} (hI : IsX cX11_step 1 RX11 "step" 7 181 (some .int) an J) (σ : St) (p0 : Nat) (δ : Dy) : SJ (m_X11_step σ p0 δ) (PXI σ an) (J 0 [(0, .ref p0)] [] (bX an) σ δ) := by
  have hJ := hI.cor
  unfold m_X11_step
  refine sj (j_aload_n hJ dX11_step_0 rfl 0 rfl) ?_
  refine sj_gR hJ fl_X11_39 rfl dX11_step_1 (fun v1 => ?_)
  refine sj_gR hJ fl_X11_46 rfl dX11_step_4 (fun v2 => ?_)
  refine sj_gI hJ fl_X11_56 (Or.inr rfl) dX11_step_7 (fun v3 => ?_)
  refine sj_if (j_if_ne hJ (tgt := 25) dX11_step_10 (by decide)) (fun _ => ?_) (fun _ => ?_)
  · refine sj (j_aload_n hJ dX11_step_13 rfl 0 rfl) ?_
    refine sj_gR hJ fl_X11_39 rfl dX11_step_14 (fun v4 => ?_)
    refine sj_gI hJ fl_X11_193 (Or.inl rfl) dX11_step_17 (fun v5 => ?_)
    refine sj (j_bipush hJ (v := 30) dX11_step_20 ib_30) ?_
    refine sj_if (j_icmp_lt hJ (tgt := 35) dX11_step_22 (by decide)) (fun _ => ?_) (fun _ => ?_)
    · refine sj (j_aload_n hJ dX11_step_35 rfl 0 rfl) ?_
      refine sj (j_iconst hJ (v := 4) dX11_step_36 ic_4) ?_
      refine sj (j_iconst hJ (v := 0) dX11_step_37 ic_0) ?_
      refine sj (j_iconst hJ (v := 0) dX11_step_38 ic_0) ?_
      refine sj (j_iconst hJ (v := 0) dX11_step_39 ic_0) ?_
      refine sj_callVv hJ [.int (4 : Int32), .int (0 : Int32), .int (0 : Int32), .int (0 : Int32)] (st := []) (fr' := 0) (lo' := 0) ml_X11_67 hc_11 (by decide) (by decide) (Nat.le_of_ble_eq_true rfl) dX11_step_40 rfl (fun _ h9 => ct_X11_note h9) (fun v6 => ?_)
      refine sj (j_aload_n hJ dX11_step_43 rfl 0 rfl) ?_
      refine sj_gR hJ fl_X11_25 rfl dX11_step_44 (fun v7 => ?_)
      refine sj_callVv hJ [] (st := []) (fr' := 0) (lo' := 0) ml_X11_198 hc_9 (by decide) (by decide) (Nat.le_of_ble_eq_true rfl) dX11_step_47 rfl (fun _ h9 => ct_X9_restart h9) (fun v8 => ?_)
      refine sj (j_aload_n hJ dX11_step_50 rfl 0 rfl) ?_
      refine sj_gR hJ fl_X11_39 rfl dX11_step_51 (fun v9 => ?_)
      refine sj (j_aload_n hJ dX11_step_54 rfl 0 rfl) ?_
      refine sj_gR hJ fl_X11_25 rfl dX11_step_55 (fun v10 => ?_)
      refine sj_callVv hJ [.ref v10] (st := []) (fr' := 6) (lo' := 155) ml_X11_201 hc_10 (by decide) (by decide) (Nat.le_of_ble_eq_true rfl) dX11_step_58 rfl (fun _ h9 => ct_X10_doStep h9) (fun v11 => ?_)
      refine sj (j_aload_n hJ dX11_step_61 rfl 0 rfl) ?_
      refine sj_gR hJ fl_X11_39 rfl dX11_step_62 (fun v12 => ?_)
      refine sj_gR hJ fl_X11_46 rfl dX11_step_65 (fun v13 => ?_)
      refine sj_gI hJ fl_X11_205 (Or.inl rfl) dX11_step_68 (fun v14 => ?_)
      exact sx_iret hI dX11_step_71 (fun h => h)
    · refine sj (j_sub hJ (L' := []) [] rfl) ?_
      exact w_X11_step_b25 hI σ δ
  · refine sj (j_sub hJ (L' := []) [] rfl) ?_
    exact w_X11_step_b25 hI σ δ
theorem ct_X11_step {σ : St} {p0 : Nat} {δ : Dy} {r : ((Int32 ⊕ Nat) × Dy)} (h : m_X11_step σ p0 δ = some r) : CTX yX11_step cX11_step 1 (some .int) 7 181 [.ref p0] σ δ (ox_i r.1, σ, r.2) := CTX_of (by decide +kernel) (Nat.le_of_ble_eq_true rfl) (fun J hI => w_X11_step hI σ p0 δ r h rfl)
def m_X11_seed (σ : St) (p0 : Nat) (p1 : Int32) (δ : Dy) : Option ((Int32 ⊕ Nat) × Dy) :=
  (m_X11_needWithin σ p1 (0 : Int32) (65536 : Int32) δ).bind fun v1 => xel v1 (fun x2 =>
    (chk σ 11 p0).bind fun _ => (m_X11_note σ p0 (5 : Int32) p1 (0 : Int32) (0 : Int32) δ).bind fun v3 =>
    (gR σ 11 p0 2).bind fun v4 =>
    (gR σ 10 v4 3).bind fun v5 =>
    (gI σ v3 2 v5 1).bind fun v6 =>
    (gR σ 11 p0 2).bind fun v7 =>
    (gR σ 10 v7 3).bind fun v8 =>
    (pI σ v3 2 v8 1 p1).bind fun d9 =>
    some (Sum.inl v6, d9)) (fun e => (Sum.inr e, δ))
set_option maxHeartbeats 4000000 in
set_option maxRecDepth 100000 in
theorem w_X11_seed {J : JT} {an : AX} (hI : IsX cX11_seed 3 RX11 "seed" 7 112 (some .int) an J) (σ : St) (p0 : Nat) (p1 : Int32) (δ : Dy) : SJ (m_X11_seed σ p0 p1 δ) (PXI σ an) (J 0 [(0, .ref p0), (1, .int p1)] [] (bX an) σ δ) := by
  have hJ := hI.cor
  unfold m_X11_seed
  refine sj (j_iload_n hJ dX11_seed_0 rfl 1 rfl) ?_
  refine sj (j_iconst hJ (v := 0) dX11_seed_1 ic_0) ?_
  refine sj (j_ldc hJ (v := 65536) dX11_seed_2 wd_982) ?_
  refine sx_callSvp hI [.int p1, .int (0 : Int32), .int (65536 : Int32)] (st := []) (fr' := 6) (lo' := 90) ml_X11_108 (by decide) (by decide) (Nat.le_of_ble_eq_true rfl) rfl dX11_seed_4 rfl (fun _ h9 => ct_X11_needWithin h9) (fun x2 => ?_) (fun e h => h)
  refine sj (j_aload_n hJ dX11_seed_7 rfl 0 rfl) ?_
  refine sj (j_iconst hJ (v := 5) dX11_seed_8 ic_5) ?_
  refine sj (j_iload_n hJ dX11_seed_9 rfl 1 rfl) ?_
  refine sj (j_iconst hJ (v := 0) dX11_seed_10 ic_0) ?_
  refine sj (j_iconst hJ (v := 0) dX11_seed_11 ic_0) ?_
  refine sj_callVv hJ [.int (5 : Int32), .int p1, .int (0 : Int32), .int (0 : Int32)] (st := []) (fr' := 0) (lo' := 0) ml_X11_67 hc_11 (by decide) (by decide) (Nat.le_of_ble_eq_true rfl) dX11_seed_12 rfl (fun _ h9 => ct_X11_note h9) (fun v3 => ?_)
  refine sj (j_aload_n hJ dX11_seed_15 rfl 0 rfl) ?_
  refine sj_gR hJ fl_X11_39 rfl dX11_seed_16 (fun v4 => ?_)
  refine sj_gR hJ fl_X11_209 rfl dX11_seed_19 (fun v5 => ?_)
  refine sj_gI hJ fl_X11_213 (Or.inl rfl) dX11_seed_22 (fun v6 => ?_)
  refine sj (j_istore_n hJ (L' := [(2, .int v6), (0, .ref p0), (1, .int p1)]) dX11_seed_25 rfl (by decide) rfl) ?_
  refine sj (j_aload_n hJ dX11_seed_26 rfl 1 rfl) ?_
  refine sj_gR hJ fl_X11_39 rfl dX11_seed_27 (fun v7 => ?_)
  refine sj_gR hJ fl_X11_209 rfl dX11_seed_30 (fun v8 => ?_)
  refine sj (j_iload_n hJ dX11_seed_33 rfl 2 rfl) ?_
  refine sj_pI hJ fl_X11_213 rfl dX11_seed_34 (fun d9 => ?_)
  refine sj (j_iload_n hJ dX11_seed_37 rfl 0 rfl) ?_
  exact sx_iret hI dX11_seed_38 (fun h => h)
theorem ct_X11_seed {σ : St} {p0 : Nat} {p1 : Int32} {δ : Dy} {r : ((Int32 ⊕ Nat) × Dy)} (h : m_X11_seed σ p0 p1 δ = some r) : CTX yX11_seed cX11_seed 3 (some .int) 7 112 [.ref p0, .int p1] σ δ (ox_i r.1, σ, r.2) := CTX_of (by decide +kernel) (Nat.le_of_ble_eq_true rfl) (fun J hI => w_X11_seed hI σ p0 p1 δ r h rfl)
def m_X11_ends_b104 (σ : St) (p0 : Nat) (p1 : Int32) (δ : Dy) : Option ((Int32 ⊕ Nat) × Dy) :=
  if p1 = 0 then
    (gR σ 11 p0 4).bind fun v6 =>
    (gI σ δ 9 v6 5).bind fun v7 =>
    some (Sum.inl v7, δ)
  else
    some (Sum.inl (-1 : Int32), δ)
def m_X11_ends_b34 (σ : St) (p0 : Nat) (p1 : Int32) (p2 : Int32) (δ : Dy) : Option ((Int32 ⊕ Nat) × Dy) := lp (fun (s : (Int32 × Int32 × Dy)) =>
  if (8 : Int32) ≤ s.2.1 then
    (m_X11_ends_b104 σ p0 s.1 s.2.2).bind fun r => some (Sum.inr r)
  else
    if s.1 = 0 then
      (m_X11_ends_b104 σ p0 s.1 s.2.2).bind fun r => some (Sum.inr r)
    else
      (gR σ 11 p0 3).bind fun v8 =>
      (gR σ 11 p0 2).bind fun v9 =>
      (chk σ 10 v8).bind fun _ => (m_X10_copyFrom σ v8 v9 s.2.2).bind fun v10 =>
      (gR σ 11 p0 3).bind fun v11 =>
      (gR σ 11 p0 4).bind fun v12 =>
      (chk σ 10 v11).bind fun _ => (m_X10_doStep σ v11 v12 v10).bind fun v13 =>
      (gR σ 11 p0 4).bind fun v14 =>
      (gR σ 11 p0 3).bind fun v15 =>
      (gR σ 10 v15 1).bind fun v16 =>
      (gR σ 11 p0 2).bind fun v17 =>
      (gR σ 10 v17 1).bind fun v18 =>
      (gI σ v13 8 v18 2).bind fun v19 =>
      (chk σ 9 v14).bind fun _ => (m_X9_record σ v14 v16 v19 v13).bind fun v20 =>
      (gR σ 11 p0 4).bind fun v21 =>
      (chk σ 9 v21).bind fun _ => (m_X9_turn σ v21 v20).bind fun v22 =>
      some (Sum.inl (v22.1, (s.2.1 + (1 : Int32)), v22.2))) (p1, p2, δ)
def m_X11_ends (σ : St) (p0 : Nat) (δ : Dy) : Option ((Int32 ⊕ Nat) × Dy) :=
  (gR σ 11 p0 2).bind fun v1 =>
  (gR σ 10 v1 1).bind fun v2 =>
  (gI σ δ 8 v2 12).bind fun v3 =>
  if v3 = 0 then
    (gR σ 11 p0 4).bind fun v4 =>
    (chk σ 9 v4).bind fun _ => (m_X9_restart σ v4 δ).bind fun v5 =>
    m_X11_ends_b34 σ p0 (1 : Int32) (0 : Int32) v5
  else
    some (Sum.inr 0, δ)
set_option maxHeartbeats 4000000 in
set_option maxRecDepth 100000 in
theorem w_X11_ends_b104 {J : JT} {an : AX} (hI : IsX cX11_ends 3 RX11 "ends" 7 181 (some .int) an J) (σ : St) (p0 : Nat) (p1 : Int32) (δ : Dy) : SJ (m_X11_ends_b104 σ p0 p1 δ) (PXI σ an) (J 104 [(0, .ref p0), (1, .int p1)] [] (bX an) σ δ) := by
  have hJ := hI.cor
  unfold m_X11_ends_b104
  refine sj (j_iload_n hJ dX11_ends_104 rfl 1 rfl) ?_
  refine sj_if (j_if_eq hJ (tgt := 112) dX11_ends_105 (by decide)) (fun _ => ?_) (fun _ => ?_)
  · refine sj (j_aload_n hJ dX11_ends_112 rfl 0 rfl) ?_
    refine sj_gR hJ fl_X11_25 rfl dX11_ends_113 (fun v6 => ?_)
    refine sj_gI hJ fl_X11_232 (Or.inl rfl) dX11_ends_116 (fun v7 => ?_)
    exact sx_iret hI dX11_ends_119 (fun h => h)
  · refine sj (j_iconst hJ (v := -1) dX11_ends_108 ic_m1) ?_
    refine sj (j_goto hJ (tgt := 119) dX11_ends_109 (by decide)) ?_
    exact sx_iret hI dX11_ends_119 (fun h => h)
set_option maxHeartbeats 4000000 in
set_option maxRecDepth 100000 in
theorem w_X11_ends_b34 {J : JT} {an : AX} (hI : IsX cX11_ends 3 RX11 "ends" 7 181 (some .int) an J) (σ : St) (p0 : Nat) (p1 : Int32) (p2 : Int32) (δ : Dy) : SJ (m_X11_ends_b34 σ p0 p1 p2 δ) (PXI σ an) (J 34 [(0, .ref p0), (1, .int p1), (2, .int p2)] [] (bX an) σ δ) := by
  have hJ := hI.cor
  unfold m_X11_ends_b34
  refine sj_lp (G := fun s : (Int32 × Int32 × Dy) => J 34 [(0, .ref p0), (1, .int s.1), (2, .int s.2.1)] [] (bX an) σ s.2.2) (fun s => ?_) (p1, p2, δ)
  refine sj (j_iload_n hJ dX11_ends_34 rfl 2 rfl) ?_
  refine sj (j_bipush hJ (v := 8) dX11_ends_35 ib_8) ?_
  refine sj_if (j_icmp_ge hJ (tgt := 104) dX11_ends_37 (by decide)) (fun _ => ?_) (fun _ => ?_)
  · refine sj (j_sub hJ (L' := [(0, .ref p0), (1, .int s.1)]) [0, 1] rfl) ?_
    refine sj_map ?_
    exact w_X11_ends_b104 hI σ p0 s.1 s.2.2
  · refine sj (j_iload_n hJ dX11_ends_40 rfl 1 rfl) ?_
    refine sj_if (j_if_eq hJ (tgt := 104) dX11_ends_41 (by decide)) (fun _ => ?_) (fun _ => ?_)
    · refine sj (j_sub hJ (L' := [(0, .ref p0), (1, .int s.1)]) [0, 1] rfl) ?_
      refine sj_map ?_
      exact w_X11_ends_b104 hI σ p0 s.1 s.2.2
    · refine sj (j_aload_n hJ dX11_ends_44 rfl 0 rfl) ?_
      refine sj_gR hJ fl_X11_43 rfl dX11_ends_45 (fun v8 => ?_)
      refine sj (j_aload_n hJ dX11_ends_48 rfl 0 rfl) ?_
      refine sj_gR hJ fl_X11_39 rfl dX11_ends_49 (fun v9 => ?_)
      refine sj_callVv hJ [.ref v9] (st := []) (fr' := 2) (lo' := 81) ml_X11_220 hc_10 (by decide) (by decide) (Nat.le_of_ble_eq_true rfl) dX11_ends_52 rfl (fun _ h9 => ct_X10_copyFrom h9) (fun v10 => ?_)
      refine sj (j_aload_n hJ dX11_ends_55 rfl 0 rfl) ?_
      refine sj_gR hJ fl_X11_43 rfl dX11_ends_56 (fun v11 => ?_)
      refine sj (j_aload_n hJ dX11_ends_59 rfl 0 rfl) ?_
      refine sj_gR hJ fl_X11_25 rfl dX11_ends_60 (fun v12 => ?_)
      refine sj_callVv hJ [.ref v12] (st := []) (fr' := 6) (lo' := 155) ml_X11_201 hc_10 (by decide) (by decide) (Nat.le_of_ble_eq_true rfl) dX11_ends_63 rfl (fun _ h9 => ct_X10_doStep h9) (fun v13 => ?_)
      refine sj (j_aload_n hJ dX11_ends_66 rfl 0 rfl) ?_
      refine sj_gR hJ fl_X11_25 rfl dX11_ends_67 (fun v14 => ?_)
      refine sj (j_aload_n hJ dX11_ends_70 rfl 0 rfl) ?_
      refine sj_gR hJ fl_X11_43 rfl dX11_ends_71 (fun v15 => ?_)
      refine sj_gR hJ fl_X11_46 rfl dX11_ends_74 (fun v16 => ?_)
      refine sj (j_aload_n hJ dX11_ends_77 rfl 0 rfl) ?_
      refine sj_gR hJ fl_X11_39 rfl dX11_ends_78 (fun v17 => ?_)
      refine sj_gR hJ fl_X11_46 rfl dX11_ends_81 (fun v18 => ?_)
      refine sj_gI hJ fl_X11_50 (Or.inl rfl) dX11_ends_84 (fun v19 => ?_)
      refine sj_callVv hJ [.ref v16, .int v19] (st := []) (fr' := 2) (lo' := 49) ml_X11_224 hc_9 (by decide) (by decide) (Nat.le_of_ble_eq_true rfl) dX11_ends_87 rfl (fun _ h9 => ct_X9_record h9) (fun v20 => ?_)
      refine sj (j_aload_n hJ dX11_ends_90 rfl 0 rfl) ?_
      refine sj_gR hJ fl_X11_25 rfl dX11_ends_91 (fun v21 => ?_)
      refine sj_callVi hJ [] (st := []) (fr' := 0) (lo' := 0) ml_X11_228 hc_9 (by decide) (by decide) (Nat.le_of_ble_eq_true rfl) dX11_ends_94 rfl (fun _ h9 => ct_X9_turn h9) (fun v22 => ?_)
      refine sj (j_istore_n hJ (L' := [(1, .int v22.1), (0, .ref p0), (2, .int s.2.1)]) dX11_ends_97 rfl (by decide) rfl) ?_
      refine sj (j_iinc hJ (L' := [(2, .int (s.2.1 + (1 : Int32))), (1, .int v22.1), (0, .ref p0)]) dX11_ends_98 2 rfl (congrArg (fun z => s.2.1 + z) ic_1) (by decide) rfl) ?_
      refine sj (j_goto hJ (tgt := 34) dX11_ends_101 (by decide)) ?_
      refine sj (j_sub hJ (L' := [(0, .ref p0), (1, .int v22.1), (2, .int (s.2.1 + (1 : Int32)))]) [2, 1, 0] rfl) ?_
      exact sj_end (fun h => h)
set_option maxHeartbeats 4000000 in
set_option maxRecDepth 100000 in
theorem w_X11_ends {J : JT} {an : AX} (hI : IsX cX11_ends 3 RX11 "ends" 7 181 (some .int) an J) (σ : St) (p0 : Nat) (δ : Dy) : SJ (m_X11_ends σ p0 δ) (PXI σ an) (J 0 [(0, .ref p0)] [] (bX an) σ δ) := by
  have hJ := hI.cor
  unfold m_X11_ends
  refine sj (j_aload_n hJ dX11_ends_0 rfl 0 rfl) ?_
  refine sj_gR hJ fl_X11_39 rfl dX11_ends_1 (fun v1 => ?_)
  refine sj_gR hJ fl_X11_46 rfl dX11_ends_4 (fun v2 => ?_)
  refine sj_gI hJ fl_X11_56 (Or.inr rfl) dX11_ends_7 (fun v3 => ?_)
  refine sj_if (j_if_eq hJ (tgt := 23) dX11_ends_10 (by decide)) (fun _ => ?_) (fun _ => ?_)
  · refine sj (j_aload_n hJ dX11_ends_23 rfl 0 rfl) ?_
    refine sj_gR hJ fl_X11_25 rfl dX11_ends_24 (fun v4 => ?_)
    refine sj_callVv hJ [] (st := []) (fr' := 0) (lo' := 0) ml_X11_198 hc_9 (by decide) (by decide) (Nat.le_of_ble_eq_true rfl) dX11_ends_27 rfl (fun _ h9 => ct_X9_restart h9) (fun v5 => ?_)
    refine sj (j_iconst hJ (v := 1) dX11_ends_30 ic_1) ?_
    refine sj (j_istore_n hJ (L' := [(1, .int (1 : Int32)), (0, .ref p0)]) dX11_ends_31 rfl (by decide) rfl) ?_
    refine sj (j_iconst hJ (v := 0) dX11_ends_32 ic_0) ?_
    refine sj (j_istore_n hJ (L' := [(2, .int (0 : Int32)), (1, .int (1 : Int32)), (0, .ref p0)]) dX11_ends_33 rfl (by decide) rfl) ?_
    refine sj (j_sub hJ (L' := [(0, .ref p0), (1, .int (1 : Int32)), (2, .int (0 : Int32))]) [2, 1, 0] rfl) ?_
    exact w_X11_ends_b34 hI σ p0 (1 : Int32) (0 : Int32) v5
  · exact sx_throw hI (text := "the store has failed") tx_60_64 (by decide) rfl (by decide) (by decide) (Nat.le_of_ble_eq_true rfl) dX11_ends_13 dX11_ends_16 dX11_ends_17 dX11_ends_19 dX11_ends_22 (fun h => h)
theorem ct_X11_ends {σ : St} {p0 : Nat} {δ : Dy} {r : ((Int32 ⊕ Nat) × Dy)} (h : m_X11_ends σ p0 δ = some r) : CTX yX11_ends cX11_ends 3 (some .int) 7 181 [.ref p0] σ δ (ox_i r.1, σ, r.2) := CTX_of (by decide +kernel) (Nat.le_of_ble_eq_true rfl) (fun J hI => w_X11_ends hI σ p0 δ r h rfl)
def m_X11_needVariable_b18 (σ : St) (δ : Dy) : Option (Unit ⊕ Nat) :=
  some (Sum.inr 2)
def m_X11_needVariable (σ : St) (p0 : Nat) (p1 : Int32) (δ : Dy) : Option (Unit ⊕ Nat) :=
  if p1 < 0 then
    m_X11_needVariable_b18 σ δ
  else
    (gR σ 11 p0 2).bind fun v1 =>
    (gR σ 10 v1 1).bind fun v2 =>
    (gI σ δ 8 v2 2).bind fun v3 =>
    if p1 < v3 then
      some (Sum.inl ())
    else
      m_X11_needVariable_b18 σ δ
set_option maxHeartbeats 4000000 in
set_option maxRecDepth 100000 in
theorem w_X11_needVariable_b18 {J : JT} {an : AX} (hI : IsX cX11_needVariable 2 RX11 "needVariable" 6 90 none an J) (σ : St) (δ : Dy) : SJ (m_X11_needVariable_b18 σ δ) (PXVp σ δ an) (J 18 [] [] (bX an) σ δ) := by
  have hJ := hI.cor
  unfold m_X11_needVariable_b18
  exact sx_throw hI (text := "there is no such variable") tx_175_179 (by decide) rfl (by decide) (by decide) (Nat.le_of_ble_eq_true rfl) dX11_needVariable_18 dX11_needVariable_21 dX11_needVariable_22 dX11_needVariable_24 dX11_needVariable_27 (fun h => h)
set_option maxHeartbeats 4000000 in
set_option maxRecDepth 100000 in
theorem w_X11_needVariable {J : JT} {an : AX} (hI : IsX cX11_needVariable 2 RX11 "needVariable" 6 90 none an J) (σ : St) (p0 : Nat) (p1 : Int32) (δ : Dy) : SJ (m_X11_needVariable σ p0 p1 δ) (PXVp σ δ an) (J 0 [(0, .ref p0), (1, .int p1)] [] (bX an) σ δ) := by
  have hJ := hI.cor
  unfold m_X11_needVariable
  refine sj (j_iload_n hJ dX11_needVariable_0 rfl 1 rfl) ?_
  refine sj_if (j_if_lt hJ (tgt := 18) dX11_needVariable_1 (by decide)) (fun _ => ?_) (fun _ => ?_)
  · refine sj (j_sub hJ (L' := []) [] rfl) ?_
    exact w_X11_needVariable_b18 hI σ δ
  · refine sj (j_iload_n hJ dX11_needVariable_4 rfl 1 rfl) ?_
    refine sj (j_aload_n hJ dX11_needVariable_5 rfl 0 rfl) ?_
    refine sj_gR hJ fl_X11_39 rfl dX11_needVariable_6 (fun v1 => ?_)
    refine sj_gR hJ fl_X11_46 rfl dX11_needVariable_9 (fun v2 => ?_)
    refine sj_gI hJ fl_X11_50 (Or.inl rfl) dX11_needVariable_12 (fun v3 => ?_)
    refine sj_if (j_icmp_lt hJ (tgt := 28) dX11_needVariable_15 (by decide)) (fun _ => ?_) (fun _ => ?_)
    · exact sx_vret hI dX11_needVariable_28 (fun h => h)
    · refine sj (j_sub hJ (L' := []) [] rfl) ?_
      exact w_X11_needVariable_b18 hI σ δ
theorem ct_X11_needVariable {σ : St} {p0 : Nat} {p1 : Int32} {δ : Dy} {r : (Unit ⊕ Nat)} (h : m_X11_needVariable σ p0 p1 δ = some r) : CTX yX11_needVariable cX11_needVariable 2 none 6 90 [.ref p0, .int p1] σ δ (ox_v r, σ, δ) := CTX_of (by decide +kernel) (Nat.le_of_ble_eq_true rfl) (fun J hI => w_X11_needVariable hI σ p0 p1 δ r h rfl)
def m_X11_value (σ : St) (p0 : Nat) (p1 : Int32) (δ : Dy) : Option (Int32 ⊕ Nat) :=
  (chk σ 11 p0).bind fun _ => (m_X11_needVariable σ p0 p1 δ).bind fun v1 => xel v1 (fun x2 =>
    (gR σ 11 p0 2).bind fun v3 =>
    (gR σ 10 v3 1).bind fun v4 =>
    (chk σ 8 v4).bind fun _ => (m_X8_form σ v4 ((400 : Int32) + p1) δ).bind fun v5 =>
    if (400 : Int32) ≤ v5 then
      some (Sum.inl (100 : Int32))
    else
      some (Sum.inl v5)) (fun e => (Sum.inr e))
set_option maxHeartbeats 4000000 in
set_option maxRecDepth 100000 in
theorem w_X11_value {J : JT} {an : AX} (hI : IsX cX11_value 3 RX11 "value" 7 111 (some .int) an J) (σ : St) (p0 : Nat) (p1 : Int32) (δ : Dy) : SJ (m_X11_value σ p0 p1 δ) (PXIp σ δ an) (J 0 [(0, .ref p0), (1, .int p1)] [] (bX an) σ δ) := by
  have hJ := hI.cor
  unfold m_X11_value
  refine sj (j_aload_n hJ dX11_value_0 rfl 0 rfl) ?_
  refine sj (j_iload_n hJ dX11_value_1 rfl 1 rfl) ?_
  refine sx_callVvp hI [.int p1] (st := []) (fr' := 6) (lo' := 90) ml_X11_238 hc_11 (by decide) (by decide) (Nat.le_of_ble_eq_true rfl) rfl dX11_value_2 rfl (fun _ h9 => ct_X11_needVariable h9) (fun x2 => ?_) (fun e h => h)
  refine sj (j_aload_n hJ dX11_value_5 rfl 0 rfl) ?_
  refine sj_gR hJ fl_X11_39 rfl dX11_value_6 (fun v3 => ?_)
  refine sj_gR hJ fl_X11_46 rfl dX11_value_9 (fun v4 => ?_)
  refine sj (j_sipush hJ (v := 400) dX11_value_12 is_400) ?_
  refine sj (j_iload_n hJ dX11_value_15 rfl 1 rfl) ?_
  refine sj (j_iadd hJ dX11_value_16) ?_
  refine sj_callVip hJ [.int ((400 : Int32) + p1)] (st := []) (fr' := 0) (lo' := 0) ml_X11_241 hc_8 (by decide) (by decide) (Nat.le_of_ble_eq_true rfl) dX11_value_17 rfl (fun _ h9 => ct_X8_form h9) (fun v5 => ?_)
  refine sj (j_istore_n hJ (L' := [(2, .int v5), (0, .ref p0), (1, .int p1)]) dX11_value_20 rfl (by decide) rfl) ?_
  refine sj (j_iload_n hJ dX11_value_21 rfl 0 rfl) ?_
  refine sj (j_sipush hJ (v := 400) dX11_value_22 is_400) ?_
  refine sj_if (j_icmp_ge hJ (tgt := 32) dX11_value_25 (by decide)) (fun _ => ?_) (fun _ => ?_)
  · refine sj (j_bipush hJ (v := 100) dX11_value_32 ib_100) ?_
    exact sx_iret hI dX11_value_34 (fun h => h)
  · refine sj (j_iload_n hJ dX11_value_28 rfl 0 rfl) ?_
    refine sj (j_goto hJ (tgt := 34) dX11_value_29 (by decide)) ?_
    exact sx_iret hI dX11_value_34 (fun h => h)
theorem ct_X11_value {σ : St} {p0 : Nat} {p1 : Int32} {δ : Dy} {r : (Int32 ⊕ Nat)} (h : m_X11_value σ p0 p1 δ = some r) : CTX yX11_value cX11_value 3 (some .int) 7 111 [.ref p0, .int p1] σ δ (ox_i r, σ, δ) := CTX_of (by decide +kernel) (Nat.le_of_ble_eq_true rfl) (fun J hI => w_X11_value hI σ p0 p1 δ r h rfl)
def m_X11_needToken_b18 (σ : St) (δ : Dy) : Option (Unit ⊕ Nat) :=
  some (Sum.inr 2)
def m_X11_needToken (σ : St) (p0 : Nat) (p1 : Int32) (δ : Dy) : Option (Unit ⊕ Nat) :=
  if p1 < 0 then
    m_X11_needToken_b18 σ δ
  else
    (gR σ 11 p0 2).bind fun v1 =>
    (gR σ 10 v1 1).bind fun v2 =>
    (gI σ δ 8 v2 10).bind fun v3 =>
    if p1 < v3 then
      some (Sum.inl ())
    else
      m_X11_needToken_b18 σ δ
set_option maxHeartbeats 4000000 in
set_option maxRecDepth 100000 in
theorem w_X11_needToken_b18 {J : JT} {an : AX} (hI : IsX cX11_needToken 2 RX11 "needToken" 6 90 none an J) (σ : St) (δ : Dy) : SJ (m_X11_needToken_b18 σ δ) (PXVp σ δ an) (J 18 [] [] (bX an) σ δ) := by
  have hJ := hI.cor
  unfold m_X11_needToken_b18
  exact sx_throwW hI (text := "there is no such token") tx_175_179 (by decide) rfl (by decide) (by decide) (Nat.le_of_ble_eq_true rfl) dX11_needToken_18 dX11_needToken_21 dX11_needToken_22 dX11_needToken_25 dX11_needToken_28 (fun h => h)
set_option maxHeartbeats 4000000 in
set_option maxRecDepth 100000 in
theorem w_X11_needToken {J : JT} {an : AX} (hI : IsX cX11_needToken 2 RX11 "needToken" 6 90 none an J) (σ : St) (p0 : Nat) (p1 : Int32) (δ : Dy) : SJ (m_X11_needToken σ p0 p1 δ) (PXVp σ δ an) (J 0 [(0, .ref p0), (1, .int p1)] [] (bX an) σ δ) := by
  have hJ := hI.cor
  unfold m_X11_needToken
  refine sj (j_iload_n hJ dX11_needToken_0 rfl 1 rfl) ?_
  refine sj_if (j_if_lt hJ (tgt := 18) dX11_needToken_1 (by decide)) (fun _ => ?_) (fun _ => ?_)
  · refine sj (j_sub hJ (L' := []) [] rfl) ?_
    exact w_X11_needToken_b18 hI σ δ
  · refine sj (j_iload_n hJ dX11_needToken_4 rfl 1 rfl) ?_
    refine sj (j_aload_n hJ dX11_needToken_5 rfl 0 rfl) ?_
    refine sj_gR hJ fl_X11_39 rfl dX11_needToken_6 (fun v1 => ?_)
    refine sj_gR hJ fl_X11_46 rfl dX11_needToken_9 (fun v2 => ?_)
    refine sj_gI hJ fl_X11_248 (Or.inl rfl) dX11_needToken_12 (fun v3 => ?_)
    refine sj_if (j_icmp_lt hJ (tgt := 29) dX11_needToken_15 (by decide)) (fun _ => ?_) (fun _ => ?_)
    · exact sx_vret hI dX11_needToken_29 (fun h => h)
    · refine sj (j_sub hJ (L' := []) [] rfl) ?_
      exact w_X11_needToken_b18 hI σ δ
theorem ct_X11_needToken {σ : St} {p0 : Nat} {p1 : Int32} {δ : Dy} {r : (Unit ⊕ Nat)} (h : m_X11_needToken σ p0 p1 δ = some r) : CTX yX11_needToken cX11_needToken 2 none 6 90 [.ref p0, .int p1] σ δ (ox_v r, σ, δ) := CTX_of (by decide +kernel) (Nat.le_of_ble_eq_true rfl) (fun J hI => w_X11_needToken hI σ p0 p1 δ r h rfl)
def m_X11_part (σ : St) (p0 : Nat) (p1 : Int32) (p2 : Int32) (δ : Dy) : Option (Int32 ⊕ Nat) :=
  (chk σ 11 p0).bind fun _ => (m_X11_needToken σ p0 p1 δ).bind fun v1 => xel v1 (fun x2 =>
    (gR σ 11 p0 2).bind fun v3 =>
    (gR σ 10 v3 1).bind fun v4 =>
    if p2 = (0 : Int32) then
      (gR σ 8 v4 3).bind fun v6 =>
      (rI σ δ v6 p1).bind fun v7 =>
      some (Sum.inl v7)
    else
    if p2 = (1 : Int32) then
      (gR σ 8 v4 4).bind fun v8 =>
      (rI σ δ v8 p1).bind fun v9 =>
      (chk σ 8 v4).bind fun _ => (m_X8_form σ v4 v9 δ).bind fun v10 =>
      some (Sum.inl v10)
    else
    if p2 = (2 : Int32) then
      (gR σ 8 v4 5).bind fun v11 =>
      (rI σ δ v11 p1).bind fun v12 =>
      (chk σ 8 v4).bind fun _ => (m_X8_form σ v4 v12 δ).bind fun v13 =>
      some (Sum.inl v13)
    else
    if p2 = (3 : Int32) then
      (gR σ 8 v4 7).bind fun v14 =>
      (rZ σ δ v14 p1).bind fun v15 =>
      if v15 = 0 then
        some (Sum.inl (0 : Int32))
      else
        some (Sum.inl (1 : Int32))
    else
    if p2 = (4 : Int32) then
      (gR σ 8 v4 6).bind fun v16 =>
      (rZ σ δ v16 p1).bind fun v17 =>
      if v17 = 0 then
        some (Sum.inl (0 : Int32))
      else
        some (Sum.inl (1 : Int32))
    else
    some (Sum.inr 1)) (fun e => (Sum.inr e))
set_option maxHeartbeats 4000000 in
set_option maxRecDepth 100000 in
theorem w_X11_part {J : JT} {an : AX} (hI : IsX cX11_part 4 RX11 "part" 7 111 (some .int) an J) (σ : St) (p0 : Nat) (p1 : Int32) (p2 : Int32) (δ : Dy) : SJ (m_X11_part σ p0 p1 p2 δ) (PXIp σ δ an) (J 0 [(0, .ref p0), (1, .int p1), (2, .int p2)] [] (bX an) σ δ) := by
  have hJ := hI.cor
  unfold m_X11_part
  refine sj (j_aload_n hJ dX11_part_0 rfl 0 rfl) ?_
  refine sj (j_iload_n hJ dX11_part_1 rfl 1 rfl) ?_
  refine sx_callVvp hI [.int p1] (st := []) (fr' := 6) (lo' := 90) ml_X11_251 hc_11 (by decide) (by decide) (Nat.le_of_ble_eq_true rfl) rfl dX11_part_2 rfl (fun _ h9 => ct_X11_needToken h9) (fun x2 => ?_) (fun e h => h)
  refine sj (j_aload_n hJ dX11_part_5 rfl 0 rfl) ?_
  refine sj_gR hJ fl_X11_39 rfl dX11_part_6 (fun v3 => ?_)
  refine sj_gR hJ fl_X11_46 rfl dX11_part_9 (fun v4 => ?_)
  refine sj (j_astore_n hJ (L' := [(3, .ref v4), (0, .ref p0), (1, .int p1), (2, .int p2)]) dX11_part_12 rfl (by decide) rfl) ?_
  refine sj (j_iload_n hJ dX11_part_13 rfl 3 rfl) ?_
  refine sj_ifc (fun h5 => ?_) (fun h5_0 => ?_)
  · refine sj (fun k9 => j_tableIn hJ dX11_part_14 (off := 34) (by rw [h5]; decide) (by rw [h5]; decide) (by rw [h5]; decide) (tgt := 48) (by decide) k9) ?_
    refine sj (j_aload_n hJ dX11_part_48 rfl 0 rfl) ?_
    refine sj_gR hJ fl_X11_254 rfl dX11_part_49 (fun v6 => ?_)
    refine sj (j_iload_n hJ dX11_part_52 rfl 2 rfl) ?_
    refine sj_rI hJ dX11_part_53 (fun v7 => ?_)
    exact sx_iret hI dX11_part_54 (fun h => h)
  refine sj_ifc (fun h5 => ?_) (fun h5_1 => ?_)
  · refine sj (fun k9 => j_tableIn hJ dX11_part_14 (off := 41) (by rw [h5]; decide) (by rw [h5]; decide) (by rw [h5]; decide) (tgt := 55) (by decide) k9) ?_
    refine sj (j_aload_n hJ dX11_part_55 rfl 0 rfl) ?_
    refine sj (j_aload_n hJ dX11_part_56 rfl 0 rfl) ?_
    refine sj_gR hJ fl_X11_257 rfl dX11_part_57 (fun v8 => ?_)
    refine sj (j_iload_n hJ dX11_part_60 rfl 2 rfl) ?_
    refine sj_rI hJ dX11_part_61 (fun v9 => ?_)
    refine sj_callVip hJ [.int v9] (st := []) (fr' := 0) (lo' := 0) ml_X11_241 hc_8 (by decide) (by decide) (Nat.le_of_ble_eq_true rfl) dX11_part_62 rfl (fun _ h9 => ct_X8_form h9) (fun v10 => ?_)
    exact sx_iret hI dX11_part_65 (fun h => h)
  refine sj_ifc (fun h5 => ?_) (fun h5_2 => ?_)
  · refine sj (fun k9 => j_tableIn hJ dX11_part_14 (off := 52) (by rw [h5]; decide) (by rw [h5]; decide) (by rw [h5]; decide) (tgt := 66) (by decide) k9) ?_
    refine sj (j_aload_n hJ dX11_part_66 rfl 0 rfl) ?_
    refine sj (j_aload_n hJ dX11_part_67 rfl 0 rfl) ?_
    refine sj_gR hJ fl_X11_260 rfl dX11_part_68 (fun v11 => ?_)
    refine sj (j_iload_n hJ dX11_part_71 rfl 2 rfl) ?_
    refine sj_rI hJ dX11_part_72 (fun v12 => ?_)
    refine sj_callVip hJ [.int v12] (st := []) (fr' := 0) (lo' := 0) ml_X11_241 hc_8 (by decide) (by decide) (Nat.le_of_ble_eq_true rfl) dX11_part_73 rfl (fun _ h9 => ct_X8_form h9) (fun v13 => ?_)
    exact sx_iret hI dX11_part_76 (fun h => h)
  refine sj_ifc (fun h5 => ?_) (fun h5_3 => ?_)
  · refine sj (fun k9 => j_tableIn hJ dX11_part_14 (off := 63) (by rw [h5]; decide) (by rw [h5]; decide) (by rw [h5]; decide) (tgt := 77) (by decide) k9) ?_
    refine sj (j_aload_n hJ dX11_part_77 rfl 0 rfl) ?_
    refine sj_gR hJ fl_X11_263 rfl dX11_part_78 (fun v14 => ?_)
    refine sj (j_iload_n hJ dX11_part_81 rfl 2 rfl) ?_
    refine sj_rZ hJ dX11_part_82 (fun v15 => ?_)
    refine sj_if (j_if_eq hJ (tgt := 90) dX11_part_83 (by decide)) (fun _ => ?_) (fun _ => ?_)
    · refine sj (j_iconst hJ (v := 0) dX11_part_90 ic_0) ?_
      exact sx_iret hI dX11_part_91 (fun h => h)
    · refine sj (j_iconst hJ (v := 1) dX11_part_86 ic_1) ?_
      refine sj (j_goto hJ (tgt := 91) dX11_part_87 (by decide)) ?_
      exact sx_iret hI dX11_part_91 (fun h => h)
  refine sj_ifc (fun h5 => ?_) (fun h5_4 => ?_)
  · refine sj (fun k9 => j_tableIn hJ dX11_part_14 (off := 78) (by rw [h5]; decide) (by rw [h5]; decide) (by rw [h5]; decide) (tgt := 92) (by decide) k9) ?_
    refine sj (j_aload_n hJ dX11_part_92 rfl 0 rfl) ?_
    refine sj_gR hJ fl_X11_267 rfl dX11_part_93 (fun v16 => ?_)
    refine sj (j_iload_n hJ dX11_part_96 rfl 2 rfl) ?_
    refine sj_rZ hJ dX11_part_97 (fun v17 => ?_)
    refine sj_if (j_if_eq hJ (tgt := 105) dX11_part_98 (by decide)) (fun _ => ?_) (fun _ => ?_)
    · refine sj (j_iconst hJ (v := 0) dX11_part_105 ic_0) ?_
      exact sx_iret hI dX11_part_106 (fun h => h)
    · refine sj (j_iconst hJ (v := 1) dX11_part_101 ic_1) ?_
      refine sj (j_goto hJ (tgt := 106) dX11_part_102 (by decide)) ?_
      exact sx_iret hI dX11_part_106 (fun h => h)
  have g0 : (p2).toInt ≠ 0 := fun q => h5_0 (Int32.toInt_inj.mp (q.trans (by decide)))
  have g1 : (p2).toInt ≠ 1 := fun q => h5_1 (Int32.toInt_inj.mp (q.trans (by decide)))
  have g2 : (p2).toInt ≠ 2 := fun q => h5_2 (Int32.toInt_inj.mp (q.trans (by decide)))
  have g3 : (p2).toInt ≠ 3 := fun q => h5_3 (Int32.toInt_inj.mp (q.trans (by decide)))
  have g4 : (p2).toInt ≠ 4 := fun q => h5_4 (Int32.toInt_inj.mp (q.trans (by decide)))
  refine sj (fun k9 => j_tableOut hJ dX11_part_14 (by omega) (tgt := 107) (by decide) k9) ?_
  exact sx_throwW hI (text := "there is no such part") tx_103_107 (by decide) rfl (by decide) (by decide) (Nat.le_of_ble_eq_true rfl) dX11_part_107 dX11_part_110 dX11_part_111 dX11_part_114 dX11_part_117 (fun h => h)
theorem ct_X11_part {σ : St} {p0 : Nat} {p1 : Int32} {p2 : Int32} {δ : Dy} {r : (Int32 ⊕ Nat)} (h : m_X11_part σ p0 p1 p2 δ = some r) : CTX yX11_part cX11_part 4 (some .int) 7 111 [.ref p0, .int p1, .int p2] σ δ (ox_i r, σ, δ) := CTX_of (by decide +kernel) (Nat.le_of_ble_eq_true rfl) (fun J hI => w_X11_part hI σ p0 p1 p2 δ r h rfl)
def m_X11_isMadeBy (σ : St) (p0 : Nat) (p1 : Int32) (p2 : Int32) (δ : Dy) : Option (Int32 ⊕ Nat) :=
  (chk σ 11 p0).bind fun _ => (m_X11_needToken σ p0 p1 δ).bind fun v1 => xel v1 (fun x2 =>
    (chk σ 11 p0).bind fun _ => (m_X11_needToken σ p0 p2 δ).bind fun v3 => xel v3 (fun x4 =>
      (gR σ 11 p0 2).bind fun v5 =>
      (gR σ 10 v5 1).bind fun v6 =>
      (gR σ 8 v6 8).bind fun v7 =>
      (rL σ δ v7 p1).bind fun v8 =>
      (gR σ 11 p0 2).bind fun v9 =>
      (gR σ 10 v9 1).bind fun v10 =>
      (gR σ 8 v10 9).bind fun v11 =>
      (rL σ δ v11 p1).bind fun v12 =>
      (m_X8_isIn σ p2 v8 v12 δ).bind fun v13 =>
      (zo v13).bind fun _ => some (Sum.inl v13)) (fun e => (Sum.inr e))) (fun e => (Sum.inr e))
set_option maxHeartbeats 4000000 in
set_option maxRecDepth 100000 in
theorem w_X11_isMadeBy {J : JT} {an : AX} (hI : IsX cX11_isMadeBy 3 RX11 "isMadeBy" 7 111 (some .boolean) an J) (σ : St) (p0 : Nat) (p1 : Int32) (p2 : Int32) (δ : Dy) : SJ (m_X11_isMadeBy σ p0 p1 p2 δ) (PXIp σ δ an) (J 0 [(0, .ref p0), (1, .int p1), (2, .int p2)] [] (bX an) σ δ) := by
  have hJ := hI.cor
  unfold m_X11_isMadeBy
  refine sj (j_aload_n hJ dX11_isMadeBy_0 rfl 0 rfl) ?_
  refine sj (j_iload_n hJ dX11_isMadeBy_1 rfl 1 rfl) ?_
  refine sx_callVvp hI [.int p1] (st := []) (fr' := 6) (lo' := 90) ml_X11_251 hc_11 (by decide) (by decide) (Nat.le_of_ble_eq_true rfl) rfl dX11_isMadeBy_2 rfl (fun _ h9 => ct_X11_needToken h9) (fun x2 => ?_) (fun e h => h)
  refine sj (j_aload_n hJ dX11_isMadeBy_5 rfl 0 rfl) ?_
  refine sj (j_iload_n hJ dX11_isMadeBy_6 rfl 2 rfl) ?_
  refine sx_callVvp hI [.int p2] (st := []) (fr' := 6) (lo' := 90) ml_X11_251 hc_11 (by decide) (by decide) (Nat.le_of_ble_eq_true rfl) rfl dX11_isMadeBy_7 rfl (fun _ h9 => ct_X11_needToken h9) (fun x4 => ?_) (fun e h => h)
  refine sj (j_iload_n hJ dX11_isMadeBy_10 rfl 2 rfl) ?_
  refine sj (j_aload_n hJ dX11_isMadeBy_11 rfl 0 rfl) ?_
  refine sj_gR hJ fl_X11_39 rfl dX11_isMadeBy_12 (fun v5 => ?_)
  refine sj_gR hJ fl_X11_46 rfl dX11_isMadeBy_15 (fun v6 => ?_)
  refine sj_gR hJ fl_X11_272 rfl dX11_isMadeBy_18 (fun v7 => ?_)
  refine sj (j_iload_n hJ dX11_isMadeBy_21 rfl 1 rfl) ?_
  refine sj_rL hJ dX11_isMadeBy_22 (fun v8 => ?_)
  refine sj (j_aload_n hJ dX11_isMadeBy_23 rfl 0 rfl) ?_
  refine sj_gR hJ fl_X11_39 rfl dX11_isMadeBy_24 (fun v9 => ?_)
  refine sj_gR hJ fl_X11_46 rfl dX11_isMadeBy_27 (fun v10 => ?_)
  refine sj_gR hJ fl_X11_276 rfl dX11_isMadeBy_30 (fun v11 => ?_)
  refine sj (j_iload_n hJ dX11_isMadeBy_33 rfl 1 rfl) ?_
  refine sj_rL hJ dX11_isMadeBy_34 (fun v12 => ?_)
  refine sj_callSip hJ [.int p2, .long v8, .long v12] (st := []) (fr' := 1) (lo' := 20) ml_X11_279 (by decide) (by decide) (Nat.le_of_ble_eq_true rfl) dX11_isMadeBy_35 rfl (fun _ h9 => ct_X8_isIn h9) (fun v13 => ?_)
  exact sx_zretG hI dX11_isMadeBy_38 (fun h => h)
theorem ct_X11_isMadeBy {σ : St} {p0 : Nat} {p1 : Int32} {p2 : Int32} {δ : Dy} {r : (Int32 ⊕ Nat)} (h : m_X11_isMadeBy σ p0 p1 p2 δ = some r) : CTX yX11_isMadeBy cX11_isMadeBy 3 (some .boolean) 7 111 [.ref p0, .int p1, .int p2] σ δ (ox_i r, σ, δ) := CTX_of (by decide +kernel) (Nat.le_of_ble_eq_true rfl) (fun J hI => w_X11_isMadeBy hI σ p0 p1 p2 δ r h rfl)
