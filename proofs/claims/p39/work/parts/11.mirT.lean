def m_X0_take (σ : St) (p0 : Nat) (p1 : Int32) (p2 : Int32) (p3 : Int32) (δ : Dy) : Option Dy :=
  (pI σ δ 0 p0 1 p1).bind fun d1 =>
  (gR σ 0 p0 0).bind fun v2 =>
  (wI σ d1 v2 (0 : Int32) p2).bind fun d3 =>
  (gR σ 0 p0 0).bind fun v4 =>
  (wI σ d3 v4 (1 : Int32) p3).bind fun d5 =>
  (gR σ 0 p0 0).bind fun v6 =>
  (wI σ d5 v6 (2 : Int32) (0 : Int32)).bind fun d7 =>
  (gR σ 0 p0 0).bind fun v8 =>
  (wI σ d7 v8 (3 : Int32) (0 : Int32)).bind fun d9 =>
  some d9
set_option maxHeartbeats 4000000 in
set_option maxRecDepth 100000 in
theorem w_X0_take {J : JT} {an : Option Value × St × Dy} (hI : Isj cX0_take 4 RX0 "take" 0 0 none an J) {β : Bu} (σ : St) (p0 : Nat) (p1 : Int32) (p2 : Int32) (p3 : Int32) (δ : Dy) : SJ (m_X0_take σ p0 p1 p2 p3 δ) (PV σ an) (J 0 [(0, .ref p0), (1, .int p1), (2, .int p2), (3, .int p3)] [] β σ δ) := by
  have hJ := hI.cor
  unfold m_X0_take
  refine sj (j_aload_n hJ dX0_take_0 rfl 0 rfl) ?_
  refine sj (j_iload_n hJ dX0_take_1 rfl 1 rfl) ?_
  refine sj_pI hJ fl_X0_15 rfl dX0_take_2 (fun d1 => ?_)
  refine sj (j_aload_n hJ dX0_take_5 rfl 0 rfl) ?_
  refine sj_gR hJ fl_X0_9 rfl dX0_take_6 (fun v2 => ?_)
  refine sj (j_iconst hJ (v := 0) dX0_take_9 ic_0) ?_
  refine sj (j_iload_n hJ dX0_take_10 rfl 2 rfl) ?_
  refine sj_wI hJ dX0_take_11 (fun d3 => ?_)
  refine sj (j_aload_n hJ dX0_take_12 rfl 0 rfl) ?_
  refine sj_gR hJ fl_X0_9 rfl dX0_take_13 (fun v4 => ?_)
  refine sj (j_iconst hJ (v := 1) dX0_take_16 ic_1) ?_
  refine sj (j_iload_n hJ dX0_take_17 rfl 3 rfl) ?_
  refine sj_wI hJ dX0_take_18 (fun d5 => ?_)
  refine sj (j_aload_n hJ dX0_take_19 rfl 0 rfl) ?_
  refine sj_gR hJ fl_X0_9 rfl dX0_take_20 (fun v6 => ?_)
  refine sj (j_iconst hJ (v := 2) dX0_take_23 ic_2) ?_
  refine sj (j_iconst hJ (v := 0) dX0_take_24 ic_0) ?_
  refine sj_wI hJ dX0_take_25 (fun d7 => ?_)
  refine sj (j_aload_n hJ dX0_take_26 rfl 0 rfl) ?_
  refine sj_gR hJ fl_X0_9 rfl dX0_take_27 (fun v8 => ?_)
  refine sj (j_iconst hJ (v := 3) dX0_take_30 ic_3) ?_
  refine sj (j_iconst hJ (v := 0) dX0_take_31 ic_0) ?_
  refine sj_wI hJ dX0_take_32 (fun d9 => ?_)
  exact sj_vret hI dX0_take_33 (fun h => h)
theorem ct_X0_take {σ : St} {p0 : Nat} {p1 : Int32} {p2 : Int32} {p3 : Int32} {δ : Dy} {r : Dy} (h : m_X0_take σ p0 p1 p2 p3 δ = some r) : CT yX0_take cX0_take 4 none 0 0 0 0 [.ref p0, .int p1, .int p2, .int p3] σ δ (none, σ, r) := CT_of (by decide +kernel) (Nat.le_of_ble_eq_true rfl) (fun J hI => w_X0_take hI σ p0 p1 p2 p3 δ r h rfl)
def m_X11_isSlot (σ : St) (p0 : Int32) (δ : Dy) : Option Int32 :=
  if p0 < (200 : Int32) then
    some (0 : Int32)
  else
    if (204 : Int32) ≤ p0 then
      some (0 : Int32)
    else
      some (1 : Int32)
set_option maxHeartbeats 4000000 in
set_option maxRecDepth 100000 in
theorem w_X11_isSlot {J : JT} {an : Option Value × St × Dy} (hI : Isj cX11_isSlot 1 RX11 "isSlot" 0 0 (some .boolean) an J) {β : Bu} (σ : St) (p0 : Int32) (δ : Dy) : SJ (m_X11_isSlot σ p0 δ) (PIp σ δ an) (J 0 [(0, .int p0)] [] β σ δ) := by
  have hJ := hI.cor
  unfold m_X11_isSlot
  refine sj (j_iload_n hJ dX11_isSlot_0 rfl 0 rfl) ?_
  refine sj (j_sipush hJ (v := 200) dX11_isSlot_1 is_200) ?_
  refine sj_if (j_icmp_lt hJ (tgt := 18) dX11_isSlot_4 (by decide)) (fun _ => ?_) (fun _ => ?_)
  · refine sj (j_iconst hJ (v := 0) dX11_isSlot_18 ic_0) ?_
    exact sj_zret hI (by decide) dX11_isSlot_19 (fun h => h)
  · refine sj (j_iload_n hJ dX11_isSlot_7 rfl 0 rfl) ?_
    refine sj (j_sipush hJ (v := 204) dX11_isSlot_8 is_204) ?_
    refine sj_if (j_icmp_ge hJ (tgt := 18) dX11_isSlot_11 (by decide)) (fun _ => ?_) (fun _ => ?_)
    · refine sj (j_iconst hJ (v := 0) dX11_isSlot_18 ic_0) ?_
      exact sj_zret hI (by decide) dX11_isSlot_19 (fun h => h)
    · refine sj (j_iconst hJ (v := 1) dX11_isSlot_14 ic_1) ?_
      refine sj (j_goto hJ (tgt := 19) dX11_isSlot_15 (by decide)) ?_
      exact sj_zret hI (by decide) dX11_isSlot_19 (fun h => h)
theorem ct_X11_isSlot {σ : St} {p0 : Int32} {δ : Dy} {r : Int32} (h : m_X11_isSlot σ p0 δ = some r) : CT yX11_isSlot cX11_isSlot 1 (some .boolean) 0 0 0 0 [.int p0] σ δ ((some (.int r)), σ, δ) := CT_of (by decide +kernel) (Nat.le_of_ble_eq_true rfl) (fun J hI => w_X11_isSlot hI σ p0 δ r h rfl)
def m_X0_look (σ : St) (p0 : Nat) (p1 : Int32) (δ : Dy) : Option Int32 :=
  (m_X11_isSlot σ p1 δ).bind fun v1 =>
  if v1 = 0 then
    some p1
  else
    (gR σ 0 p0 0).bind fun v2 =>
    (rI σ δ v2 (p1 - (200 : Int32))).bind fun v3 =>
    some v3
set_option maxHeartbeats 4000000 in
set_option maxRecDepth 100000 in
theorem w_X0_look {J : JT} {an : Option Value × St × Dy} (hI : Isj cX0_look 2 RX0 "look" 1 20 (some .int) an J) {β : Bu} (σ : St) (p0 : Nat) (p1 : Int32) (δ : Dy) : SJ (m_X0_look σ p0 p1 δ) (PIp σ δ an) (J 0 [(0, .ref p0), (1, .int p1)] [] β σ δ) := by
  have hJ := hI.cor
  unfold m_X0_look
  refine sj (j_iload_n hJ dX0_look_0 rfl 1 rfl) ?_
  refine sj_callSNip hJ [.int p1] (st := []) (fr' := 0) (lo' := 0) ml_X0_19 (by decide) (by decide) (Nat.le_of_ble_eq_true rfl) dX0_look_1 rfl (fun _ h9 => ct_X11_isSlot h9) (fun v1 => ?_)
  refine sj_if (j_if_eq hJ (tgt := 20) dX0_look_4 (by decide)) (fun _ => ?_) (fun _ => ?_)
  · refine sj (j_iload_n hJ dX0_look_20 rfl 1 rfl) ?_
    exact sj_iret hI dX0_look_21 (fun h => h)
  · refine sj (j_aload_n hJ dX0_look_7 rfl 0 rfl) ?_
    refine sj_gR hJ fl_X0_9 rfl dX0_look_8 (fun v2 => ?_)
    refine sj (j_iload_n hJ dX0_look_11 rfl 1 rfl) ?_
    refine sj (j_sipush hJ (v := 200) dX0_look_12 is_200) ?_
    refine sj (j_isub hJ dX0_look_15) ?_
    refine sj_rI hJ dX0_look_16 (fun v3 => ?_)
    refine sj (j_goto hJ (tgt := 21) dX0_look_17 (by decide)) ?_
    exact sj_iret hI dX0_look_21 (fun h => h)
theorem ct_X0_look {σ : St} {p0 : Nat} {p1 : Int32} {δ : Dy} {r : Int32} (h : m_X0_look σ p0 p1 δ = some r) : CT yX0_look cX0_look 2 (some .int) 1 20 0 0 [.ref p0, .int p1] σ δ ((some (.int r)), σ, δ) := CT_of (by decide +kernel) (Nat.le_of_ble_eq_true rfl) (fun J hI => w_X0_look hI σ p0 p1 δ r h rfl)
def m_X8_lowBit (σ : St) (p0 : Int32) (δ : Dy) : Option Int64 :=
  if (64 : Int32) ≤ p0 then
    some (0 : Int64)
  else
    some ((1 : Int64) <<< ((p0).toInt64 &&& 63))
set_option maxHeartbeats 4000000 in
set_option maxRecDepth 100000 in
theorem w_X8_lowBit {J : JT} {an : Option Value × St × Dy} (hI : Isj cX8_lowBit 1 RX8 "lowBit" 0 0 (some .long) an J) {β : Bu} (σ : St) (p0 : Int32) (δ : Dy) : SJ (m_X8_lowBit σ p0 δ) (PJp σ δ an) (J 0 [(0, .int p0)] [] β σ δ) := by
  have hJ := hI.cor
  unfold m_X8_lowBit
  refine sj (j_iload_n hJ dX8_lowBit_0 rfl 0 rfl) ?_
  refine sj (j_bipush hJ (v := 64) dX8_lowBit_1 ib_64) ?_
  refine sj_if (j_icmp_ge hJ (tgt := 12) dX8_lowBit_3 (by decide)) (fun _ => ?_) (fun _ => ?_)
  · refine sj (j_lconst hJ (v := 0) dX8_lowBit_12 rfl) ?_
    exact sj_lret hI dX8_lowBit_13 (fun h => h)
  · refine sj (j_lconst hJ (v := 1) dX8_lowBit_6 rfl) ?_
    refine sj (j_iload_n hJ dX8_lowBit_7 rfl 0 rfl) ?_
    refine sj (j_lshl hJ dX8_lowBit_8) ?_
    refine sj (j_goto hJ (tgt := 13) dX8_lowBit_9 (by decide)) ?_
    exact sj_lret hI dX8_lowBit_13 (fun h => h)
theorem ct_X8_lowBit {σ : St} {p0 : Int32} {δ : Dy} {r : Int64} (h : m_X8_lowBit σ p0 δ = some r) : CT yX8_lowBit cX8_lowBit 1 (some .long) 0 0 0 0 [.int p0] σ δ ((some (.long r)), σ, δ) := CT_of (by decide +kernel) (Nat.le_of_ble_eq_true rfl) (fun J hI => w_X8_lowBit hI σ p0 δ r h rfl)
def m_X8_highBit (σ : St) (p0 : Int32) (δ : Dy) : Option Int64 :=
  if (64 : Int32) ≤ p0 then
    some ((1 : Int64) <<< (((p0 - (64 : Int32))).toInt64 &&& 63))
  else
    some (0 : Int64)
set_option maxHeartbeats 4000000 in
set_option maxRecDepth 100000 in
theorem w_X8_highBit {J : JT} {an : Option Value × St × Dy} (hI : Isj cX8_highBit 1 RX8 "highBit" 0 0 (some .long) an J) {β : Bu} (σ : St) (p0 : Int32) (δ : Dy) : SJ (m_X8_highBit σ p0 δ) (PJp σ δ an) (J 0 [(0, .int p0)] [] β σ δ) := by
  have hJ := hI.cor
  unfold m_X8_highBit
  refine sj (j_iload_n hJ dX8_highBit_0 rfl 0 rfl) ?_
  refine sj (j_bipush hJ (v := 64) dX8_highBit_1 ib_64) ?_
  refine sj_if (j_icmp_ge hJ (tgt := 10) dX8_highBit_3 (by decide)) (fun _ => ?_) (fun _ => ?_)
  · refine sj (j_lconst hJ (v := 1) dX8_highBit_10 rfl) ?_
    refine sj (j_iload_n hJ dX8_highBit_11 rfl 0 rfl) ?_
    refine sj (j_bipush hJ (v := 64) dX8_highBit_12 ib_64) ?_
    refine sj (j_isub hJ dX8_highBit_14) ?_
    refine sj (j_lshl hJ dX8_highBit_15) ?_
    exact sj_lret hI dX8_highBit_16 (fun h => h)
  · refine sj (j_lconst hJ (v := 0) dX8_highBit_6 rfl) ?_
    refine sj (j_goto hJ (tgt := 16) dX8_highBit_7 (by decide)) ?_
    exact sj_lret hI dX8_highBit_16 (fun h => h)
theorem ct_X8_highBit {σ : St} {p0 : Int32} {δ : Dy} {r : Int64} (h : m_X8_highBit σ p0 δ = some r) : CT yX8_highBit cX8_highBit 1 (some .long) 0 0 0 0 [.int p0] σ δ ((some (.long r)), σ, δ) := CT_of (by decide +kernel) (Nat.le_of_ble_eq_true rfl) (fun J hI => w_X8_highBit hI σ p0 δ r h rfl)
def m_X0_include (σ : St) (p0 : Nat) (p1 : Nat) (p2 : Int32) (δ : Dy) : Option Dy :=
  if p2 < 0 then
    some δ
  else
    (gI σ δ 8 p1 10).bind fun v1 =>
    if p2 < v1 then
      (gL σ δ 0 p0 2).bind fun v2 =>
      (m_X8_lowBit σ p2 δ).bind fun v3 =>
      (gR σ 8 p1 8).bind fun v4 =>
      (rL σ δ v4 p2).bind fun v5 =>
      (pL σ δ 0 p0 2 (v2 ||| (v3 ||| v5))).bind fun d6 =>
      (gL σ d6 0 p0 3).bind fun v7 =>
      (m_X8_highBit σ p2 d6).bind fun v8 =>
      (gR σ 8 p1 9).bind fun v9 =>
      (rL σ d6 v9 p2).bind fun v10 =>
      (pL σ d6 0 p0 3 (v7 ||| (v8 ||| v10))).bind fun d11 =>
      some d11
    else
      some δ
set_option maxHeartbeats 4000000 in
set_option maxRecDepth 100000 in
theorem w_X0_include {J : JT} {an : Option Value × St × Dy} (hI : Isj cX0_include 3 RX0 "include" 1 20 none an J) {β : Bu} (σ : St) (p0 : Nat) (p1 : Nat) (p2 : Int32) (δ : Dy) : SJ (m_X0_include σ p0 p1 p2 δ) (PV σ an) (J 0 [(0, .ref p0), (1, .ref p1), (2, .int p2)] [] β σ δ) := by
  have hJ := hI.cor
  unfold m_X0_include
  refine sj (j_iload_n hJ dX0_include_0 rfl 2 rfl) ?_
  refine sj_if (j_if_lt hJ (tgt := 12) dX0_include_1 (by decide)) (fun _ => ?_) (fun _ => ?_)
  · exact sj_vret hI dX0_include_12 (fun h => h)
  · refine sj (j_iload_n hJ dX0_include_4 rfl 2 rfl) ?_
    refine sj (j_aload_n hJ dX0_include_5 rfl 1 rfl) ?_
    refine sj_gI hJ fl_X0_23 (Or.inl rfl) dX0_include_6 (fun v1 => ?_)
    refine sj_if (j_icmp_lt hJ (tgt := 13) dX0_include_9 (by decide)) (fun _ => ?_) (fun _ => ?_)
    · refine sj (j_aload_n hJ dX0_include_13 rfl 0 rfl) ?_
      refine sj (j_dup hJ dX0_include_14 rfl) ?_
      refine sj_gL hJ fl_X0_28 rfl dX0_include_15 (fun v2 => ?_)
      refine sj (j_iload_n hJ dX0_include_18 rfl 2 rfl) ?_
      refine sj_callSlp hJ [.int p2] (st := [.long v2, .ref p0]) (fr' := 0) (lo' := 0) ml_X0_32 (by decide) (by decide) (Nat.le_of_ble_eq_true rfl) dX0_include_19 rfl (fun _ h9 => ct_X8_lowBit h9) (fun v3 => ?_)
      refine sj (j_aload_n hJ dX0_include_22 rfl 1 rfl) ?_
      refine sj_gR hJ fl_X0_36 rfl dX0_include_23 (fun v4 => ?_)
      refine sj (j_iload_n hJ dX0_include_26 rfl 2 rfl) ?_
      refine sj_rL hJ dX0_include_27 (fun v5 => ?_)
      refine sj (j_lor hJ dX0_include_28) ?_
      refine sj (j_lor hJ dX0_include_29) ?_
      refine sj_pL hJ fl_X0_28 rfl dX0_include_30 (fun d6 => ?_)
      refine sj (j_aload_n hJ dX0_include_33 rfl 0 rfl) ?_
      refine sj (j_dup hJ dX0_include_34 rfl) ?_
      refine sj_gL hJ fl_X0_39 rfl dX0_include_35 (fun v7 => ?_)
      refine sj (j_iload_n hJ dX0_include_38 rfl 2 rfl) ?_
      refine sj_callSlp hJ [.int p2] (st := [.long v7, .ref p0]) (fr' := 0) (lo' := 0) ml_X0_42 (by decide) (by decide) (Nat.le_of_ble_eq_true rfl) dX0_include_39 rfl (fun _ h9 => ct_X8_highBit h9) (fun v8 => ?_)
      refine sj (j_aload_n hJ dX0_include_42 rfl 1 rfl) ?_
      refine sj_gR hJ fl_X0_45 rfl dX0_include_43 (fun v9 => ?_)
      refine sj (j_iload_n hJ dX0_include_46 rfl 2 rfl) ?_
      refine sj_rL hJ dX0_include_47 (fun v10 => ?_)
      refine sj (j_lor hJ dX0_include_48) ?_
      refine sj (j_lor hJ dX0_include_49) ?_
      refine sj_pL hJ fl_X0_39 rfl dX0_include_50 (fun d11 => ?_)
      exact sj_vret hI dX0_include_53 (fun h => h)
    · exact sj_vret hI dX0_include_12 (fun h => h)
theorem ct_X0_include {σ : St} {p0 : Nat} {p1 : Nat} {p2 : Int32} {δ : Dy} {r : Dy} (h : m_X0_include σ p0 p1 p2 δ = some r) : CT yX0_include cX0_include 3 none 1 20 0 0 [.ref p0, .ref p1, .int p2] σ δ (none, σ, r) := CT_of (by decide +kernel) (Nat.le_of_ble_eq_true rfl) (fun J hI => w_X0_include hI σ p0 p1 p2 δ r h rfl)
def m_X1_add (σ : St) (p0 : Nat) (p1 : Int32) (p2 : Nat) (δ : Dy) : Option Dy :=
  (gI σ δ 1 p0 4).bind fun v1 =>
  (gI σ δ 1 p0 0).bind fun v2 =>
  if v1 < v2 then
    (gR σ 1 p0 1).bind fun v3 =>
    (gI σ δ 1 p0 4).bind fun v4 =>
    (wI σ δ v3 v4 p1).bind fun d5 =>
    (gR σ 0 p2 0).bind fun v6 =>
    (gR σ 1 p0 2).bind fun v7 =>
    (gI σ d5 1 p0 4).bind fun v8 =>
    (cpI σ d5 v6 (0 : Int32) v7 ((4 : Int32) * v8) (4 : Int32)).bind fun d9 =>
    (gR σ 1 p0 3).bind fun v10 =>
    (gI σ d9 1 p0 4).bind fun v11 =>
    (gL σ d9 0 p2 2).bind fun v12 =>
    (wLo σ d9 v10 ((2 : Int32) * v11) v12).bind fun d13 =>
    (gR σ 1 p0 3).bind fun v14 =>
    (gI σ d13 1 p0 4).bind fun v15 =>
    (gL σ d13 0 p2 3).bind fun v16 =>
    (wLo σ d13 v14 (((2 : Int32) * v15) + (1 : Int32)) v16).bind fun d17 =>
    (gI σ d17 1 p0 4).bind fun v18 =>
    (pI σ d17 1 p0 4 (v18 + (1 : Int32))).bind fun d19 =>
    some d19
  else
    some δ
set_option maxHeartbeats 4000000 in
set_option maxRecDepth 100000 in
theorem w_X1_add {J : JT} {an : Option Value × St × Dy} (hI : Isj cX1_add 3 RX1 "add" 1 59 none an J) {β : Bu} (σ : St) (p0 : Nat) (p1 : Int32) (p2 : Nat) (δ : Dy) : SJ (m_X1_add σ p0 p1 p2 δ) (PV σ an) (J 0 [(0, .ref p0), (1, .int p1), (2, .ref p2)] [] β σ δ) := by
  have hJ := hI.cor
  unfold m_X1_add
  refine sj (j_aload_n hJ dX1_add_0 rfl 0 rfl) ?_
  refine sj_gI hJ fl_X1_26 (Or.inl rfl) dX1_add_1 (fun v1 => ?_)
  refine sj (j_aload_n hJ dX1_add_4 rfl 0 rfl) ?_
  refine sj_gI hJ fl_X1_9 (Or.inl rfl) dX1_add_5 (fun v2 => ?_)
  refine sj_if (j_icmp_lt hJ (tgt := 12) dX1_add_8 (by decide)) (fun _ => ?_) (fun _ => ?_)
  · refine sj (j_aload_n hJ dX1_add_12 rfl 0 rfl) ?_
    refine sj_gR hJ fl_X1_15 rfl dX1_add_13 (fun v3 => ?_)
    refine sj (j_aload_n hJ dX1_add_16 rfl 0 rfl) ?_
    refine sj_gI hJ fl_X1_26 (Or.inl rfl) dX1_add_17 (fun v4 => ?_)
    refine sj (j_iload_n hJ dX1_add_20 rfl 1 rfl) ?_
    refine sj_wI hJ dX1_add_21 (fun d5 => ?_)
    refine sj (j_aload_n hJ dX1_add_22 rfl 2 rfl) ?_
    refine sj_gR hJ fl_X1_29 rfl dX1_add_23 (fun v6 => ?_)
    refine sj (j_iconst hJ (v := 0) dX1_add_26 ic_0) ?_
    refine sj (j_aload_n hJ dX1_add_27 rfl 0 rfl) ?_
    refine sj_gR hJ fl_X1_19 rfl dX1_add_28 (fun v7 => ?_)
    refine sj (j_iconst hJ (v := 4) dX1_add_31 ic_4) ?_
    refine sj (j_aload_n hJ dX1_add_32 rfl 0 rfl) ?_
    refine sj_gI hJ fl_X1_26 (Or.inl rfl) dX1_add_33 (fun v8 => ?_)
    refine sj (j_imul hJ dX1_add_36) ?_
    refine sj (j_iconst hJ (v := 4) dX1_add_37 ic_4) ?_
    refine sj_cpI hJ mm_X1_34 (by decide) (by decide) (Nat.le_of_ble_eq_true rfl) dX1_add_38 (fun d9 => ?_)
    refine sj (j_aload_n hJ dX1_add_41 rfl 0 rfl) ?_
    refine sj_gR hJ fl_X1_22 rfl dX1_add_42 (fun v10 => ?_)
    refine sj (j_iconst hJ (v := 2) dX1_add_45 ic_2) ?_
    refine sj (j_aload_n hJ dX1_add_46 rfl 0 rfl) ?_
    refine sj_gI hJ fl_X1_26 (Or.inl rfl) dX1_add_47 (fun v11 => ?_)
    refine sj (j_imul hJ dX1_add_50) ?_
    refine sj (j_aload_n hJ dX1_add_51 rfl 2 rfl) ?_
    refine sj_gL hJ fl_X1_40 rfl dX1_add_52 (fun v12 => ?_)
    refine sj_wLo hJ dX1_add_55 (fun d13 => ?_)
    refine sj (j_aload_n hJ dX1_add_56 rfl 0 rfl) ?_
    refine sj_gR hJ fl_X1_22 rfl dX1_add_57 (fun v14 => ?_)
    refine sj (j_iconst hJ (v := 2) dX1_add_60 ic_2) ?_
    refine sj (j_aload_n hJ dX1_add_61 rfl 0 rfl) ?_
    refine sj_gI hJ fl_X1_26 (Or.inl rfl) dX1_add_62 (fun v15 => ?_)
    refine sj (j_imul hJ dX1_add_65) ?_
    refine sj (j_iconst hJ (v := 1) dX1_add_66 ic_1) ?_
    refine sj (j_iadd hJ dX1_add_67) ?_
    refine sj (j_aload_n hJ dX1_add_68 rfl 2 rfl) ?_
    refine sj_gL hJ fl_X1_44 rfl dX1_add_69 (fun v16 => ?_)
    refine sj_wLo hJ dX1_add_72 (fun d17 => ?_)
    refine sj (j_aload_n hJ dX1_add_73 rfl 0 rfl) ?_
    refine sj (j_dup hJ dX1_add_74 rfl) ?_
    refine sj_gI hJ fl_X1_26 (Or.inl rfl) dX1_add_75 (fun v18 => ?_)
    refine sj (j_iconst hJ (v := 1) dX1_add_78 ic_1) ?_
    refine sj (j_iadd hJ dX1_add_79) ?_
    refine sj_pI hJ fl_X1_26 rfl dX1_add_80 (fun d19 => ?_)
    exact sj_vret hI dX1_add_83 (fun h => h)
  · exact sj_vret hI dX1_add_11 (fun h => h)
theorem ct_X1_add {σ : St} {p0 : Nat} {p1 : Int32} {p2 : Nat} {δ : Dy} {r : Dy} (h : m_X1_add σ p0 p1 p2 δ = some r) : CT yX1_add cX1_add 3 none 1 59 0 0 [.ref p0, .int p1, .ref p2] σ δ (none, σ, r) := CT_of (by decide +kernel) (Nat.le_of_ble_eq_true rfl) (fun J hI => w_X1_add hI σ p0 p1 p2 δ r h rfl)
def m_X1_addAll (σ : St) (p0 : Nat) (p1 : Nat) (δ : Dy) : Option Dy :=
  (gI σ δ 1 p1 4).bind fun v1 =>
  (gI σ δ 1 p0 0).bind fun v2 =>
  (gI σ δ 1 p0 4).bind fun v3 =>
  if 0 < (if (v2 - v3) < v1 then (v2 - v3) else v1) then
    (gR σ 1 p1 1).bind fun v4 =>
    (gR σ 1 p0 1).bind fun v5 =>
    (gI σ δ 1 p0 4).bind fun v6 =>
    (cpI σ δ v4 (0 : Int32) v5 v6 (if (v2 - v3) < v1 then (v2 - v3) else v1)).bind fun d7 =>
    (gR σ 1 p1 2).bind fun v8 =>
    (gR σ 1 p0 2).bind fun v9 =>
    (gI σ d7 1 p0 4).bind fun v10 =>
    (cpI σ d7 v8 (0 : Int32) v9 ((4 : Int32) * v10) ((4 : Int32) * (if (v2 - v3) < v1 then (v2 - v3) else v1))).bind fun d11 =>
    (gR σ 1 p1 3).bind fun v12 =>
    (gR σ 1 p0 3).bind fun v13 =>
    (gI σ d11 1 p0 4).bind fun v14 =>
    (cpL σ d11 v12 (0 : Int32) v13 ((2 : Int32) * v14) ((2 : Int32) * (if (v2 - v3) < v1 then (v2 - v3) else v1))).bind fun d15 =>
    (gI σ d15 1 p0 4).bind fun v16 =>
    (pI σ d15 1 p0 4 (v16 + (if (v2 - v3) < v1 then (v2 - v3) else v1))).bind fun d17 =>
    some d17
  else
    some δ
set_option maxHeartbeats 4000000 in
set_option maxRecDepth 100000 in
theorem w_X1_addAll {J : JT} {an : Option Value × St × Dy} (hI : Isj cX1_addAll 3 RX1 "addAll" 1 59 none an J) {β : Bu} (σ : St) (p0 : Nat) (p1 : Nat) (δ : Dy) : SJ (m_X1_addAll σ p0 p1 δ) (PV σ an) (J 0 [(0, .ref p0), (1, .ref p1)] [] β σ δ) := by
  have hJ := hI.cor
  unfold m_X1_addAll
  refine sj (j_aload_n hJ dX1_addAll_0 rfl 1 rfl) ?_
  refine sj_gI hJ fl_X1_26 (Or.inl rfl) dX1_addAll_1 (fun v1 => ?_)
  refine sj (j_aload_n hJ dX1_addAll_4 rfl 0 rfl) ?_
  refine sj_gI hJ fl_X1_9 (Or.inl rfl) dX1_addAll_5 (fun v2 => ?_)
  refine sj (j_aload_n hJ dX1_addAll_8 rfl 0 rfl) ?_
  refine sj_gI hJ fl_X1_26 (Or.inl rfl) dX1_addAll_9 (fun v3 => ?_)
  refine sj (j_isub hJ dX1_addAll_12) ?_
  refine sj (j_mmin hJ mm_X1_47 (by decide) (by decide) (Nat.le_of_ble_eq_true rfl) dX1_addAll_13) ?_
  refine sj (j_istore_n hJ (L' := [(2, .int (if (v2 - v3) < v1 then (v2 - v3) else v1)), (0, .ref p0), (1, .ref p1)]) dX1_addAll_16 rfl (by decide) rfl) ?_
  refine sj (j_iload_n hJ dX1_addAll_17 rfl 0 rfl) ?_
  refine sj_if (j_if_gt hJ (tgt := 22) dX1_addAll_18 (by decide)) (fun _ => ?_) (fun _ => ?_)
  · refine sj (j_aload_n hJ dX1_addAll_22 rfl 2 rfl) ?_
    refine sj_gR hJ fl_X1_15 rfl dX1_addAll_23 (fun v4 => ?_)
    refine sj (j_iconst hJ (v := 0) dX1_addAll_26 ic_0) ?_
    refine sj (j_aload_n hJ dX1_addAll_27 rfl 1 rfl) ?_
    refine sj_gR hJ fl_X1_15 rfl dX1_addAll_28 (fun v5 => ?_)
    refine sj (j_aload_n hJ dX1_addAll_31 rfl 1 rfl) ?_
    refine sj_gI hJ fl_X1_26 (Or.inl rfl) dX1_addAll_32 (fun v6 => ?_)
    refine sj (j_iload_n hJ dX1_addAll_35 rfl 0 rfl) ?_
    refine sj_cpI hJ mm_X1_34 (by decide) (by decide) (Nat.le_of_ble_eq_true rfl) dX1_addAll_36 (fun d7 => ?_)
    refine sj (j_aload_n hJ dX1_addAll_39 rfl 2 rfl) ?_
    refine sj_gR hJ fl_X1_19 rfl dX1_addAll_40 (fun v8 => ?_)
    refine sj (j_iconst hJ (v := 0) dX1_addAll_43 ic_0) ?_
    refine sj (j_aload_n hJ dX1_addAll_44 rfl 1 rfl) ?_
    refine sj_gR hJ fl_X1_19 rfl dX1_addAll_45 (fun v9 => ?_)
    refine sj (j_iconst hJ (v := 4) dX1_addAll_48 ic_4) ?_
    refine sj (j_aload_n hJ dX1_addAll_49 rfl 1 rfl) ?_
    refine sj_gI hJ fl_X1_26 (Or.inl rfl) dX1_addAll_50 (fun v10 => ?_)
    refine sj (j_imul hJ dX1_addAll_53) ?_
    refine sj (j_iconst hJ (v := 4) dX1_addAll_54 ic_4) ?_
    refine sj (j_iload_n hJ dX1_addAll_55 rfl 0 rfl) ?_
    refine sj (j_imul hJ dX1_addAll_56) ?_
    refine sj_cpI hJ mm_X1_34 (by decide) (by decide) (Nat.le_of_ble_eq_true rfl) dX1_addAll_57 (fun d11 => ?_)
    refine sj (j_aload_n hJ dX1_addAll_60 rfl 2 rfl) ?_
    refine sj_gR hJ fl_X1_22 rfl dX1_addAll_61 (fun v12 => ?_)
    refine sj (j_iconst hJ (v := 0) dX1_addAll_64 ic_0) ?_
    refine sj (j_aload_n hJ dX1_addAll_65 rfl 1 rfl) ?_
    refine sj_gR hJ fl_X1_22 rfl dX1_addAll_66 (fun v13 => ?_)
    refine sj (j_iconst hJ (v := 2) dX1_addAll_69 ic_2) ?_
    refine sj (j_aload_n hJ dX1_addAll_70 rfl 1 rfl) ?_
    refine sj_gI hJ fl_X1_26 (Or.inl rfl) dX1_addAll_71 (fun v14 => ?_)
    refine sj (j_imul hJ dX1_addAll_74) ?_
    refine sj (j_iconst hJ (v := 2) dX1_addAll_75 ic_2) ?_
    refine sj (j_iload_n hJ dX1_addAll_76 rfl 0 rfl) ?_
    refine sj (j_imul hJ dX1_addAll_77) ?_
    refine sj_cpL hJ mm_X1_34 (by decide) (by decide) (Nat.le_of_ble_eq_true rfl) dX1_addAll_78 (fun d15 => ?_)
    refine sj (j_aload_n hJ dX1_addAll_81 rfl 1 rfl) ?_
    refine sj (j_dup hJ dX1_addAll_82 rfl) ?_
    refine sj_gI hJ fl_X1_26 (Or.inl rfl) dX1_addAll_83 (fun v16 => ?_)
    refine sj (j_iload_n hJ dX1_addAll_86 rfl 0 rfl) ?_
    refine sj (j_iadd hJ dX1_addAll_87) ?_
    refine sj_pI hJ fl_X1_26 rfl dX1_addAll_88 (fun d17 => ?_)
    exact sj_vret hI dX1_addAll_91 (fun h => h)
  · exact sj_vret hI dX1_addAll_21 (fun h => h)
theorem ct_X1_addAll {σ : St} {p0 : Nat} {p1 : Nat} {δ : Dy} {r : Dy} (h : m_X1_addAll σ p0 p1 δ = some r) : CT yX1_addAll cX1_addAll 3 none 1 59 0 0 [.ref p0, .ref p1] σ δ (none, σ, r) := CT_of (by decide +kernel) (Nat.le_of_ble_eq_true rfl) (fun J hI => w_X1_addAll hI σ p0 p1 δ r h rfl)
def m_X1_read (σ : St) (p0 : Nat) (p1 : Int32) (p2 : Nat) (δ : Dy) : Option Dy :=
  if p1 < 0 then
    some δ
  else
    (gI σ δ 1 p0 4).bind fun v1 =>
    if p1 < v1 then
      (gR σ 1 p0 1).bind fun v2 =>
      (rI σ δ v2 p1).bind fun v3 =>
      (pI σ δ 0 p2 1 v3).bind fun d4 =>
      (gR σ 1 p0 2).bind fun v5 =>
      (gR σ 0 p2 0).bind fun v6 =>
      (cpI σ d4 v5 ((4 : Int32) * p1) v6 (0 : Int32) (4 : Int32)).bind fun d7 =>
      (gR σ 1 p0 3).bind fun v8 =>
      (rL σ d7 v8 ((2 : Int32) * p1)).bind fun v9 =>
      (pL σ d7 0 p2 2 v9).bind fun d10 =>
      (gR σ 1 p0 3).bind fun v11 =>
      (rL σ d10 v11 (((2 : Int32) * p1) + (1 : Int32))).bind fun v12 =>
      (pL σ d10 0 p2 3 v12).bind fun d13 =>
      some d13
    else
      some δ
set_option maxHeartbeats 4000000 in
set_option maxRecDepth 100000 in
theorem w_X1_read {J : JT} {an : Option Value × St × Dy} (hI : Isj cX1_read 3 RX1 "read" 1 59 none an J) {β : Bu} (σ : St) (p0 : Nat) (p1 : Int32) (p2 : Nat) (δ : Dy) : SJ (m_X1_read σ p0 p1 p2 δ) (PV σ an) (J 0 [(0, .ref p0), (1, .int p1), (2, .ref p2)] [] β σ δ) := by
  have hJ := hI.cor
  unfold m_X1_read
  refine sj (j_iload_n hJ dX1_read_0 rfl 1 rfl) ?_
  refine sj_if (j_if_lt hJ (tgt := 12) dX1_read_1 (by decide)) (fun _ => ?_) (fun _ => ?_)
  · exact sj_vret hI dX1_read_12 (fun h => h)
  · refine sj (j_iload_n hJ dX1_read_4 rfl 1 rfl) ?_
    refine sj (j_aload_n hJ dX1_read_5 rfl 0 rfl) ?_
    refine sj_gI hJ fl_X1_26 (Or.inl rfl) dX1_read_6 (fun v1 => ?_)
    refine sj_if (j_icmp_lt hJ (tgt := 13) dX1_read_9 (by decide)) (fun _ => ?_) (fun _ => ?_)
    · refine sj (j_aload_n hJ dX1_read_13 rfl 2 rfl) ?_
      refine sj (j_aload_n hJ dX1_read_14 rfl 0 rfl) ?_
      refine sj_gR hJ fl_X1_15 rfl dX1_read_15 (fun v2 => ?_)
      refine sj (j_iload_n hJ dX1_read_18 rfl 1 rfl) ?_
      refine sj_rI hJ dX1_read_19 (fun v3 => ?_)
      refine sj_pI hJ fl_X1_53 rfl dX1_read_20 (fun d4 => ?_)
      refine sj (j_aload_n hJ dX1_read_23 rfl 0 rfl) ?_
      refine sj_gR hJ fl_X1_19 rfl dX1_read_24 (fun v5 => ?_)
      refine sj (j_iconst hJ (v := 4) dX1_read_27 ic_4) ?_
      refine sj (j_iload_n hJ dX1_read_28 rfl 1 rfl) ?_
      refine sj (j_imul hJ dX1_read_29) ?_
      refine sj (j_aload_n hJ dX1_read_30 rfl 2 rfl) ?_
      refine sj_gR hJ fl_X1_29 rfl dX1_read_31 (fun v6 => ?_)
      refine sj (j_iconst hJ (v := 0) dX1_read_34 ic_0) ?_
      refine sj (j_iconst hJ (v := 4) dX1_read_35 ic_4) ?_
      refine sj_cpI hJ mm_X1_34 (by decide) (by decide) (Nat.le_of_ble_eq_true rfl) dX1_read_36 (fun d7 => ?_)
      refine sj (j_aload_n hJ dX1_read_39 rfl 2 rfl) ?_
      refine sj (j_aload_n hJ dX1_read_40 rfl 0 rfl) ?_
      refine sj_gR hJ fl_X1_22 rfl dX1_read_41 (fun v8 => ?_)
      refine sj (j_iconst hJ (v := 2) dX1_read_44 ic_2) ?_
      refine sj (j_iload_n hJ dX1_read_45 rfl 1 rfl) ?_
      refine sj (j_imul hJ dX1_read_46) ?_
      refine sj_rL hJ dX1_read_47 (fun v9 => ?_)
      refine sj_pL hJ fl_X1_40 rfl dX1_read_48 (fun d10 => ?_)
      refine sj (j_aload_n hJ dX1_read_51 rfl 2 rfl) ?_
      refine sj (j_aload_n hJ dX1_read_52 rfl 0 rfl) ?_
      refine sj_gR hJ fl_X1_22 rfl dX1_read_53 (fun v11 => ?_)
      refine sj (j_iconst hJ (v := 2) dX1_read_56 ic_2) ?_
      refine sj (j_iload_n hJ dX1_read_57 rfl 1 rfl) ?_
      refine sj (j_imul hJ dX1_read_58) ?_
      refine sj (j_iconst hJ (v := 1) dX1_read_59 ic_1) ?_
      refine sj (j_iadd hJ dX1_read_60) ?_
      refine sj_rL hJ dX1_read_61 (fun v12 => ?_)
      refine sj_pL hJ fl_X1_44 rfl dX1_read_62 (fun d13 => ?_)
      exact sj_vret hI dX1_read_65 (fun h => h)
    · exact sj_vret hI dX1_read_12 (fun h => h)
theorem ct_X1_read {σ : St} {p0 : Nat} {p1 : Int32} {p2 : Nat} {δ : Dy} {r : Dy} (h : m_X1_read σ p0 p1 p2 δ = some r) : CT yX1_read cX1_read 3 none 1 59 0 0 [.ref p0, .int p1, .ref p2] σ δ (none, σ, r) := CT_of (by decide +kernel) (Nat.le_of_ble_eq_true rfl) (fun J hI => w_X1_read hI σ p0 p1 p2 δ r h rfl)
def m_X1_drop (σ : St) (p0 : Nat) (p1 : Int32) (δ : Dy) : Option Dy :=
  if p1 < 0 then
    some δ
  else
    (gI σ δ 1 p0 4).bind fun v1 =>
    if p1 < v1 then
      (gI σ δ 1 p0 4).bind fun v2 =>
      (gR σ 1 p0 1).bind fun v3 =>
      (gR σ 1 p0 1).bind fun v4 =>
      (cpI σ δ v3 (p1 + (1 : Int32)) v4 p1 ((v2 - p1) - (1 : Int32))).bind fun d5 =>
      (gR σ 1 p0 2).bind fun v6 =>
      (gR σ 1 p0 2).bind fun v7 =>
      (cpI σ d5 v6 ((4 : Int32) * (p1 + (1 : Int32))) v7 ((4 : Int32) * p1) ((4 : Int32) * ((v2 - p1) - (1 : Int32)))).bind fun d8 =>
      (gR σ 1 p0 3).bind fun v9 =>
      (gR σ 1 p0 3).bind fun v10 =>
      (cpL σ d8 v9 ((2 : Int32) * (p1 + (1 : Int32))) v10 ((2 : Int32) * p1) ((2 : Int32) * ((v2 - p1) - (1 : Int32)))).bind fun d11 =>
      (gI σ d11 1 p0 4).bind fun v12 =>
      (pI σ d11 1 p0 4 (v12 - (1 : Int32))).bind fun d13 =>
      some d13
    else
      some δ
set_option maxHeartbeats 4000000 in
set_option maxRecDepth 100000 in
theorem w_X1_drop {J : JT} {an : Option Value × St × Dy} (hI : Isj cX1_drop 3 RX1 "drop" 1 59 none an J) {β : Bu} (σ : St) (p0 : Nat) (p1 : Int32) (δ : Dy) : SJ (m_X1_drop σ p0 p1 δ) (PV σ an) (J 0 [(0, .ref p0), (1, .int p1)] [] β σ δ) := by
  have hJ := hI.cor
  unfold m_X1_drop
  refine sj (j_iload_n hJ dX1_drop_0 rfl 1 rfl) ?_
  refine sj_if (j_if_lt hJ (tgt := 12) dX1_drop_1 (by decide)) (fun _ => ?_) (fun _ => ?_)
  · exact sj_vret hI dX1_drop_12 (fun h => h)
  · refine sj (j_iload_n hJ dX1_drop_4 rfl 1 rfl) ?_
    refine sj (j_aload_n hJ dX1_drop_5 rfl 0 rfl) ?_
    refine sj_gI hJ fl_X1_26 (Or.inl rfl) dX1_drop_6 (fun v1 => ?_)
    refine sj_if (j_icmp_lt hJ (tgt := 13) dX1_drop_9 (by decide)) (fun _ => ?_) (fun _ => ?_)
    · refine sj (j_aload_n hJ dX1_drop_13 rfl 0 rfl) ?_
      refine sj_gI hJ fl_X1_26 (Or.inl rfl) dX1_drop_14 (fun v2 => ?_)
      refine sj (j_iload_n hJ dX1_drop_17 rfl 1 rfl) ?_
      refine sj (j_isub hJ dX1_drop_18) ?_
      refine sj (j_iconst hJ (v := 1) dX1_drop_19 ic_1) ?_
      refine sj (j_isub hJ dX1_drop_20) ?_
      refine sj (j_istore_n hJ (L' := [(2, .int ((v2 - p1) - (1 : Int32))), (0, .ref p0), (1, .int p1)]) dX1_drop_21 rfl (by decide) rfl) ?_
      refine sj (j_aload_n hJ dX1_drop_22 rfl 1 rfl) ?_
      refine sj_gR hJ fl_X1_15 rfl dX1_drop_23 (fun v3 => ?_)
      refine sj (j_iload_n hJ dX1_drop_26 rfl 2 rfl) ?_
      refine sj (j_iconst hJ (v := 1) dX1_drop_27 ic_1) ?_
      refine sj (j_iadd hJ dX1_drop_28) ?_
      refine sj (j_aload_n hJ dX1_drop_29 rfl 1 rfl) ?_
      refine sj_gR hJ fl_X1_15 rfl dX1_drop_30 (fun v4 => ?_)
      refine sj (j_iload_n hJ dX1_drop_33 rfl 2 rfl) ?_
      refine sj (j_iload_n hJ dX1_drop_34 rfl 0 rfl) ?_
      refine sj_cpI hJ mm_X1_34 (by decide) (by decide) (Nat.le_of_ble_eq_true rfl) dX1_drop_35 (fun d5 => ?_)
      refine sj (j_aload_n hJ dX1_drop_38 rfl 1 rfl) ?_
      refine sj_gR hJ fl_X1_19 rfl dX1_drop_39 (fun v6 => ?_)
      refine sj (j_iconst hJ (v := 4) dX1_drop_42 ic_4) ?_
      refine sj (j_iload_n hJ dX1_drop_43 rfl 2 rfl) ?_
      refine sj (j_iconst hJ (v := 1) dX1_drop_44 ic_1) ?_
      refine sj (j_iadd hJ dX1_drop_45) ?_
      refine sj (j_imul hJ dX1_drop_46) ?_
      refine sj (j_aload_n hJ dX1_drop_47 rfl 1 rfl) ?_
      refine sj_gR hJ fl_X1_19 rfl dX1_drop_48 (fun v7 => ?_)
      refine sj (j_iconst hJ (v := 4) dX1_drop_51 ic_4) ?_
      refine sj (j_iload_n hJ dX1_drop_52 rfl 2 rfl) ?_
      refine sj (j_imul hJ dX1_drop_53) ?_
      refine sj (j_iconst hJ (v := 4) dX1_drop_54 ic_4) ?_
      refine sj (j_iload_n hJ dX1_drop_55 rfl 0 rfl) ?_
      refine sj (j_imul hJ dX1_drop_56) ?_
      refine sj_cpI hJ mm_X1_34 (by decide) (by decide) (Nat.le_of_ble_eq_true rfl) dX1_drop_57 (fun d8 => ?_)
      refine sj (j_aload_n hJ dX1_drop_60 rfl 1 rfl) ?_
      refine sj_gR hJ fl_X1_22 rfl dX1_drop_61 (fun v9 => ?_)
      refine sj (j_iconst hJ (v := 2) dX1_drop_64 ic_2) ?_
      refine sj (j_iload_n hJ dX1_drop_65 rfl 2 rfl) ?_
      refine sj (j_iconst hJ (v := 1) dX1_drop_66 ic_1) ?_
      refine sj (j_iadd hJ dX1_drop_67) ?_
      refine sj (j_imul hJ dX1_drop_68) ?_
      refine sj (j_aload_n hJ dX1_drop_69 rfl 1 rfl) ?_
      refine sj_gR hJ fl_X1_22 rfl dX1_drop_70 (fun v10 => ?_)
      refine sj (j_iconst hJ (v := 2) dX1_drop_73 ic_2) ?_
      refine sj (j_iload_n hJ dX1_drop_74 rfl 2 rfl) ?_
      refine sj (j_imul hJ dX1_drop_75) ?_
      refine sj (j_iconst hJ (v := 2) dX1_drop_76 ic_2) ?_
      refine sj (j_iload_n hJ dX1_drop_77 rfl 0 rfl) ?_
      refine sj (j_imul hJ dX1_drop_78) ?_
      refine sj_cpL hJ mm_X1_34 (by decide) (by decide) (Nat.le_of_ble_eq_true rfl) dX1_drop_79 (fun d11 => ?_)
      refine sj (j_aload_n hJ dX1_drop_82 rfl 1 rfl) ?_
      refine sj (j_dup hJ dX1_drop_83 rfl) ?_
      refine sj_gI hJ fl_X1_26 (Or.inl rfl) dX1_drop_84 (fun v12 => ?_)
      refine sj (j_iconst hJ (v := 1) dX1_drop_87 ic_1) ?_
      refine sj (j_isub hJ dX1_drop_88) ?_
      refine sj_pI hJ fl_X1_26 rfl dX1_drop_89 (fun d13 => ?_)
      exact sj_vret hI dX1_drop_92 (fun h => h)
    · exact sj_vret hI dX1_drop_12 (fun h => h)
theorem ct_X1_drop {σ : St} {p0 : Nat} {p1 : Int32} {δ : Dy} {r : Dy} (h : m_X1_drop σ p0 p1 δ = some r) : CT yX1_drop cX1_drop 3 none 1 59 0 0 [.ref p0, .int p1] σ δ (none, σ, r) := CT_of (by decide +kernel) (Nat.le_of_ble_eq_true rfl) (fun J hI => w_X1_drop hI σ p0 p1 δ r h rfl)
def m_J7_fill_53178_b5 (σ : St) (p0 : Nat) (p1 : Int32) (p2 : Int32) (p3 : Int32) (δ : Dy) : Option Dy := lp (fun (s : (Int32 × Dy)) =>
  if p3 ≤ s.1 then
    some (Sum.inr s.2)
  else
    (wI σ s.2 p0 s.1 p1).bind fun d2 =>
    some (Sum.inl ((s.1 + (1 : Int32)), d2))) (p2, δ)
def m_J7_fill_53178 (σ : St) (p0 : Nat) (p1 : Int32) (δ : Dy) : Option Dy :=
  (aln σ 100 p0).bind fun v1 =>
  m_J7_fill_53178_b5 σ p0 p1 (0 : Int32) v1 δ
set_option maxHeartbeats 4000000 in
set_option maxRecDepth 100000 in
theorem w_J7_fill_53178_b5 {J : JT} {an : Option Value × St × Dy} (hI : Isj cJ7_fill_53178 4 RJ7 "fill" 0 0 none an J) {β : Bu} (σ : St) (p0 : Nat) (p1 : Int32) (p2 : Int32) (p3 : Int32) (δ : Dy) : SJ (m_J7_fill_53178_b5 σ p0 p1 p2 p3 δ) (PV σ an) (J 5 [(0, .ref p0), (1, .int p1), (2, .int p2), (3, .int p3)] [] β σ δ) := by
  have hJ := hI.cor
  unfold m_J7_fill_53178_b5
  refine sj_lp (G := fun s : (Int32 × Dy) => J 5 [(0, .ref p0), (1, .int p1), (2, .int s.1), (3, .int p3)] [] β σ s.2) (fun s => ?_) (p2, δ)
  refine sj (j_iload_n hJ dJ7_fill_53178_5 rfl 2 rfl) ?_
  refine sj (j_iload_n hJ dJ7_fill_53178_6 rfl 3 rfl) ?_
  refine sj_if (j_icmp_ge hJ (tgt := 20) dJ7_fill_53178_7 (by decide)) (fun _ => ?_) (fun _ => ?_)
  · exact sj_vret hI dJ7_fill_53178_20 (fun h => h)
  · refine sj (j_aload_n hJ dJ7_fill_53178_10 rfl 0 rfl) ?_
    refine sj (j_iload_n hJ dJ7_fill_53178_11 rfl 2 rfl) ?_
    refine sj (j_iload_n hJ dJ7_fill_53178_12 rfl 1 rfl) ?_
    refine sj_wI hJ dJ7_fill_53178_13 (fun d2 => ?_)
    refine sj (j_iinc hJ (L' := [(2, .int (s.1 + (1 : Int32))), (0, .ref p0), (1, .int p1), (3, .int p3)]) dJ7_fill_53178_14 2 rfl (congrArg (fun z => s.1 + z) ic_1) (by decide) rfl) ?_
    refine sj (j_goto hJ (tgt := 5) dJ7_fill_53178_17 (by decide)) ?_
    refine sj (j_sub hJ (L' := [(0, .ref p0), (1, .int p1), (2, .int (s.1 + (1 : Int32))), (3, .int p3)]) [1, 2, 0, 3] rfl) ?_
    exact sj_end (fun h => h)
set_option maxHeartbeats 4000000 in
set_option maxRecDepth 100000 in
theorem w_J7_fill_53178 {J : JT} {an : Option Value × St × Dy} (hI : Isj cJ7_fill_53178 4 RJ7 "fill" 0 0 none an J) {β : Bu} (σ : St) (p0 : Nat) (p1 : Int32) (δ : Dy) : SJ (m_J7_fill_53178 σ p0 p1 δ) (PV σ an) (J 0 [(0, .ref p0), (1, .int p1)] [] β σ δ) := by
  have hJ := hI.cor
  unfold m_J7_fill_53178
  refine sj (j_iconst hJ (v := 0) dJ7_fill_53178_0 ic_0) ?_
  refine sj (j_istore_n hJ (L' := [(2, .int (0 : Int32)), (0, .ref p0), (1, .int p1)]) dJ7_fill_53178_1 rfl (by decide) rfl) ?_
  refine sj (j_aload_n hJ dJ7_fill_53178_2 rfl 1 rfl) ?_
  refine sj_alnI hJ dJ7_fill_53178_3 (fun v1 => ?_)
  refine sj (j_istore_n hJ (L' := [(3, .int v1), (2, .int (0 : Int32)), (0, .ref p0), (1, .int p1)]) dJ7_fill_53178_4 rfl (by decide) rfl) ?_
  refine sj (j_sub hJ (L' := [(0, .ref p0), (1, .int p1), (2, .int (0 : Int32)), (3, .int v1)]) [2, 3, 1, 0] rfl) ?_
  exact w_J7_fill_53178_b5 hI σ p0 p1 (0 : Int32) v1 δ
theorem ct_J7_fill_53178 {σ : St} {p0 : Nat} {p1 : Int32} {δ : Dy} {r : Dy} (h : m_J7_fill_53178 σ p0 p1 δ = some r) : CT yJ7_fill_53178 cJ7_fill_53178 4 none 0 0 0 0 [.ref p0, .int p1] σ δ (none, σ, r) := CT_of (by decide +kernel) (Nat.le_of_ble_eq_true rfl) (fun J hI => w_J7_fill_53178 hI σ p0 p1 δ r h rfl)
def m_X2_clear (σ : St) (p0 : Nat) (δ : Dy) : Option Dy :=
  (pI σ δ 2 p0 1 (1 : Int32)).bind fun d1 =>
  (gR σ 2 p0 0).bind fun v2 =>
  (m_J7_fill_53178 σ v2 (0 : Int32) d1).bind fun v3 =>
  some v3
set_option maxHeartbeats 4000000 in
set_option maxRecDepth 100000 in
theorem w_X2_clear {J : JT} {an : Option Value × St × Dy} (hI : Isj cX2_clear 1 RX2 "clear" 1 23 none an J) {β : Bu} (σ : St) (p0 : Nat) (δ : Dy) : SJ (m_X2_clear σ p0 δ) (PV σ an) (J 0 [(0, .ref p0)] [] β σ δ) := by
  have hJ := hI.cor
  unfold m_X2_clear
  refine sj (j_aload_n hJ dX2_clear_0 rfl 0 rfl) ?_
  refine sj (j_iconst hJ (v := 1) dX2_clear_1 ic_1) ?_
  refine sj_pI hJ fl_X2_18 rfl dX2_clear_2 (fun d1 => ?_)
  refine sj (j_aload_n hJ dX2_clear_5 rfl 0 rfl) ?_
  refine sj_gR hJ fl_X2_15 rfl dX2_clear_6 (fun v2 => ?_)
  refine sj (j_iconst hJ (v := 0) dX2_clear_9 ic_0) ?_
  refine sj_callSv hJ [.ref v2, .int (0 : Int32)] (st := []) (fr' := 0) (lo' := 0) ml_X2_22 (by decide) (by decide) (Nat.le_of_ble_eq_true rfl) dX2_clear_10 rfl (fun _ h9 => ct_J7_fill_53178 h9) (fun v3 => ?_)
  exact sj_vret hI dX2_clear_13 (fun h => h)
theorem ct_X2_clear {σ : St} {p0 : Nat} {δ : Dy} {r : Dy} (h : m_X2_clear σ p0 δ = some r) : CT yX2_clear cX2_clear 1 none 1 23 0 0 [.ref p0] σ δ (none, σ, r) := CT_of (by decide +kernel) (Nat.le_of_ble_eq_true rfl) (fun J hI => w_X2_clear hI σ p0 δ r h rfl)
def m_X2_copyFrom (σ : St) (p0 : Nat) (p1 : Nat) (δ : Dy) : Option Dy :=
  (gI σ δ 2 p1 1).bind fun v1 =>
  (pI σ δ 2 p0 1 v1).bind fun d2 =>
  (gR σ 2 p1 0).bind fun v3 =>
  (gR σ 2 p0 0).bind fun v4 =>
  (gR σ 2 p0 0).bind fun v5 =>
  (aln σ 100 v5).bind fun v6 =>
  (cpI σ d2 v3 (0 : Int32) v4 (0 : Int32) v6).bind fun d7 =>
  some d7
set_option maxHeartbeats 4000000 in
set_option maxRecDepth 100000 in
theorem w_X2_copyFrom {J : JT} {an : Option Value × St × Dy} (hI : Isj cX2_copyFrom 2 RX2 "copyFrom" 1 59 none an J) {β : Bu} (σ : St) (p0 : Nat) (p1 : Nat) (δ : Dy) : SJ (m_X2_copyFrom σ p0 p1 δ) (PV σ an) (J 0 [(0, .ref p0), (1, .ref p1)] [] β σ δ) := by
  have hJ := hI.cor
  unfold m_X2_copyFrom
  refine sj (j_aload_n hJ dX2_copyFrom_0 rfl 0 rfl) ?_
  refine sj (j_aload_n hJ dX2_copyFrom_1 rfl 1 rfl) ?_
  refine sj_gI hJ fl_X2_18 (Or.inl rfl) dX2_copyFrom_2 (fun v1 => ?_)
  refine sj_pI hJ fl_X2_18 rfl dX2_copyFrom_5 (fun d2 => ?_)
  refine sj (j_aload_n hJ dX2_copyFrom_8 rfl 1 rfl) ?_
  refine sj_gR hJ fl_X2_15 rfl dX2_copyFrom_9 (fun v3 => ?_)
  refine sj (j_iconst hJ (v := 0) dX2_copyFrom_12 ic_0) ?_
  refine sj (j_aload_n hJ dX2_copyFrom_13 rfl 0 rfl) ?_
  refine sj_gR hJ fl_X2_15 rfl dX2_copyFrom_14 (fun v4 => ?_)
  refine sj (j_iconst hJ (v := 0) dX2_copyFrom_17 ic_0) ?_
  refine sj (j_aload_n hJ dX2_copyFrom_18 rfl 0 rfl) ?_
  refine sj_gR hJ fl_X2_15 rfl dX2_copyFrom_19 (fun v5 => ?_)
  refine sj_alnI hJ dX2_copyFrom_22 (fun v6 => ?_)
  refine sj_cpI hJ mm_X2_28 (by decide) (by decide) (Nat.le_of_ble_eq_true rfl) dX2_copyFrom_23 (fun d7 => ?_)
  exact sj_vret hI dX2_copyFrom_26 (fun h => h)
theorem ct_X2_copyFrom {σ : St} {p0 : Nat} {p1 : Nat} {δ : Dy} {r : Dy} (h : m_X2_copyFrom σ p0 p1 δ = some r) : CT yX2_copyFrom cX2_copyFrom 2 none 1 59 0 0 [.ref p0, .ref p1] σ δ (none, σ, r) := CT_of (by decide +kernel) (Nat.le_of_ble_eq_true rfl) (fun J hI => w_X2_copyFrom hI σ p0 p1 δ r h rfl)
def m_X2_multiply_b53 (σ : St) (p0 : Nat) (p1 : Int32) (p2 : Int32) (p3 : Int32) (δ : Dy) : Option ((Int32 × Dy) ⊕ Dy) :=
  some (Sum.inl ((p3 + (1 : Int32)), δ))
def m_X2_multiply_b13 (σ : St) (p0 : Nat) (p1 : Int32) (p2 : Int32) (p3 : Int32) (p4 : Int32) (δ : Dy) : Option ((Int32 × Dy) ⊕ Dy) := lp (fun (s : (Int32 × Dy)) =>
  if s.1 ≤ (1 : Int32) then
    (m_X2_multiply_b53 σ p0 p1 p2 p3 s.2).bind fun r => some (Sum.inr r)
  else
    (rP p3).bind fun v1 =>
    (rmI s.1 v1).bind fun v2 =>
    if v2 = 0 then
      (gR σ 2 p0 0).bind fun v3 =>
      (rI σ s.2 v3 p3).bind fun v4 =>
      (wI σ s.2 v3 p3 (v4 + p2)).bind fun d5 =>
      (rP p3).bind fun v6 =>
      (dvI s.1 v6).bind fun v7 =>
      some (Sum.inl (v7, d5))
    else
      (m_X2_multiply_b53 σ p0 p1 p2 p3 s.2).bind fun r => some (Sum.inr r)) (p4, δ)
def m_X2_multiply_b2 (σ : St) (p0 : Nat) (p1 : Int32) (p2 : Int32) (p3 : Int32) (δ : Dy) : Option Dy := lp (fun (s : (Int32 × Dy)) =>
  if (7 : Int32) ≤ s.1 then
    some (Sum.inr s.2)
  else
    m_X2_multiply_b13 σ p0 p1 p2 s.1 p1 s.2) (p3, δ)
def m_X2_multiply (σ : St) (p0 : Nat) (p1 : Int32) (p2 : Int32) (δ : Dy) : Option Dy :=
  m_X2_multiply_b2 σ p0 p1 p2 (0 : Int32) δ
set_option maxHeartbeats 4000000 in
set_option maxRecDepth 100000 in
theorem w_X2_multiply_b53 {J : JT} {an : Option Value × St × Dy} (hI : Isj cX2_multiply 5 RX2 "multiply" 0 0 none an J) {β : Bu} (σ : St) (p0 : Nat) (p1 : Int32) (p2 : Int32) (p3 : Int32) (δ : Dy) : SJ (m_X2_multiply_b53 σ p0 p1 p2 p3 δ) (PL (fun s : (Int32 × Dy) => J 2 [(0, .ref p0), (1, .int p1), (2, .int p2), (3, .int s.1)] [] β σ s.2) (PV σ an)) (J 53 [(0, .ref p0), (1, .int p1), (2, .int p2), (3, .int p3)] [] β σ δ) := by
  have hJ := hI.cor
  unfold m_X2_multiply_b53
  refine sj (j_iinc hJ (L' := [(3, .int (p3 + (1 : Int32))), (0, .ref p0), (1, .int p1), (2, .int p2)]) dX2_multiply_53 3 rfl (congrArg (fun z => p3 + z) ic_1) (by decide) rfl) ?_
  refine sj (j_goto hJ (tgt := 2) dX2_multiply_56 (by decide)) ?_
  refine sj (j_sub hJ (L' := [(0, .ref p0), (1, .int p1), (2, .int p2), (3, .int (p3 + (1 : Int32)))]) [1, 2, 3, 0] rfl) ?_
  exact sj_end (fun h => h)
set_option maxHeartbeats 4000000 in
set_option maxRecDepth 100000 in
theorem w_X2_multiply_b13 {J : JT} {an : Option Value × St × Dy} (hI : Isj cX2_multiply 5 RX2 "multiply" 0 0 none an J) {β : Bu} (σ : St) (p0 : Nat) (p1 : Int32) (p2 : Int32) (p3 : Int32) (p4 : Int32) (δ : Dy) : SJ (m_X2_multiply_b13 σ p0 p1 p2 p3 p4 δ) (PL (fun s : (Int32 × Dy) => J 2 [(0, .ref p0), (1, .int p1), (2, .int p2), (3, .int s.1)] [] β σ s.2) (PV σ an)) (J 13 [(0, .ref p0), (1, .int p1), (2, .int p2), (3, .int p3), (4, .int p4)] [] β σ δ) := by
  have hJ := hI.cor
  unfold m_X2_multiply_b13
  refine sj_lp (G := fun s : (Int32 × Dy) => J 13 [(0, .ref p0), (1, .int p1), (2, .int p2), (3, .int p3), (4, .int s.1)] [] β σ s.2) (fun s => ?_) (p4, δ)
  refine sj (j_iload hJ dX2_multiply_13 4 rfl) ?_
  refine sj (j_iconst hJ (v := 1) dX2_multiply_15 ic_1) ?_
  refine sj_if (j_icmp_le hJ (tgt := 53) dX2_multiply_16 (by decide)) (fun _ => ?_) (fun _ => ?_)
  · refine sj (j_sub hJ (L' := [(0, .ref p0), (1, .int p1), (2, .int p2), (3, .int p3)]) [0, 1, 2, 3] rfl) ?_
    refine sj_map ?_
    exact w_X2_multiply_b53 hI σ p0 p1 p2 p3 s.2
  · refine sj (j_iload hJ dX2_multiply_19 4 rfl) ?_
    refine sj (j_prm hJ wd_265 dX2_multiply_21) ?_
    refine sj (j_iload_n hJ dX2_multiply_24 rfl 3 rfl) ?_
    refine sj_rP hJ dX2_multiply_25 (fun v1 => ?_)
    refine sj_rmI hJ dX2_multiply_26 (fun v2 => ?_)
    refine sj_if (j_if_ne hJ (tgt := 53) dX2_multiply_27 (by decide)) (fun _ => ?_) (fun _ => ?_)
    · refine sj (j_aload_n hJ dX2_multiply_30 rfl 0 rfl) ?_
      refine sj_gR hJ fl_X2_15 rfl dX2_multiply_31 (fun v3 => ?_)
      refine sj (j_iload_n hJ dX2_multiply_34 rfl 3 rfl) ?_
      refine sj (j_dup2 hJ dX2_multiply_35 rfl rfl) ?_
      refine sj_rI hJ dX2_multiply_36 (fun v4 => ?_)
      refine sj (j_iload_n hJ dX2_multiply_37 rfl 2 rfl) ?_
      refine sj (j_iadd hJ dX2_multiply_38) ?_
      refine sj_wI hJ dX2_multiply_39 (fun d5 => ?_)
      refine sj (j_iload hJ dX2_multiply_40 4 rfl) ?_
      refine sj (j_prm hJ wd_265 dX2_multiply_42) ?_
      refine sj (j_iload_n hJ dX2_multiply_45 rfl 3 rfl) ?_
      refine sj_rP hJ dX2_multiply_46 (fun v6 => ?_)
      refine sj_dvI hJ dX2_multiply_47 (fun v7 => ?_)
      refine sj (j_istore hJ (L' := [(4, .int v7), (0, .ref p0), (1, .int p1), (2, .int p2), (3, .int p3)]) dX2_multiply_48 (by decide) rfl) ?_
      refine sj (j_goto hJ (tgt := 13) dX2_multiply_50 (by decide)) ?_
      refine sj (j_sub hJ (L' := [(0, .ref p0), (1, .int p1), (2, .int p2), (3, .int p3), (4, .int v7)]) [1, 2, 3, 4, 0] rfl) ?_
      exact sj_end (fun h => h)
    · refine sj (j_sub hJ (L' := [(0, .ref p0), (1, .int p1), (2, .int p2), (3, .int p3)]) [0, 1, 2, 3] rfl) ?_
      refine sj_map ?_
      exact w_X2_multiply_b53 hI σ p0 p1 p2 p3 s.2
set_option maxHeartbeats 4000000 in
set_option maxRecDepth 100000 in
theorem w_X2_multiply_b2 {J : JT} {an : Option Value × St × Dy} (hI : Isj cX2_multiply 5 RX2 "multiply" 0 0 none an J) {β : Bu} (σ : St) (p0 : Nat) (p1 : Int32) (p2 : Int32) (p3 : Int32) (δ : Dy) : SJ (m_X2_multiply_b2 σ p0 p1 p2 p3 δ) (PV σ an) (J 2 [(0, .ref p0), (1, .int p1), (2, .int p2), (3, .int p3)] [] β σ δ) := by
  have hJ := hI.cor
  unfold m_X2_multiply_b2
  refine sj_lp (G := fun s : (Int32 × Dy) => J 2 [(0, .ref p0), (1, .int p1), (2, .int p2), (3, .int s.1)] [] β σ s.2) (fun s => ?_) (p3, δ)
  refine sj (j_iload_n hJ dX2_multiply_2 rfl 3 rfl) ?_
  refine sj (j_prm hJ wd_265 dX2_multiply_3) ?_
  refine sj (j_prmLen hJ dX2_multiply_6) ?_
  refine sj_if (j_icmp_ge hJ (tgt := 59) dX2_multiply_7 (by decide)) (fun _ => ?_) (fun _ => ?_)
  · exact sj_vret hI dX2_multiply_59 (fun h => h)
  · refine sj (j_iload_n hJ dX2_multiply_10 rfl 1 rfl) ?_
    refine sj (j_istore hJ (L' := [(4, .int p1), (0, .ref p0), (1, .int p1), (2, .int p2), (3, .int s.1)]) dX2_multiply_11 (by decide) rfl) ?_
    refine sj (j_sub hJ (L' := [(0, .ref p0), (1, .int p1), (2, .int p2), (3, .int s.1), (4, .int p1)]) [1, 2, 3, 4, 0] rfl) ?_
    exact w_X2_multiply_b13 hI σ p0 p1 p2 s.1 p1 s.2
set_option maxHeartbeats 4000000 in
set_option maxRecDepth 100000 in
theorem w_X2_multiply {J : JT} {an : Option Value × St × Dy} (hI : Isj cX2_multiply 5 RX2 "multiply" 0 0 none an J) {β : Bu} (σ : St) (p0 : Nat) (p1 : Int32) (p2 : Int32) (δ : Dy) : SJ (m_X2_multiply σ p0 p1 p2 δ) (PV σ an) (J 0 [(0, .ref p0), (1, .int p1), (2, .int p2)] [] β σ δ) := by
  have hJ := hI.cor
  unfold m_X2_multiply
  refine sj (j_iconst hJ (v := 0) dX2_multiply_0 ic_0) ?_
  refine sj (j_istore_n hJ (L' := [(3, .int (0 : Int32)), (0, .ref p0), (1, .int p1), (2, .int p2)]) dX2_multiply_1 rfl (by decide) rfl) ?_
  refine sj (j_sub hJ (L' := [(0, .ref p0), (1, .int p1), (2, .int p2), (3, .int (0 : Int32))]) [1, 2, 3, 0] rfl) ?_
  exact w_X2_multiply_b2 hI σ p0 p1 p2 (0 : Int32) δ
theorem ct_X2_multiply {σ : St} {p0 : Nat} {p1 : Int32} {p2 : Int32} {δ : Dy} {r : Dy} (h : m_X2_multiply σ p0 p1 p2 δ = some r) : CT yX2_multiply cX2_multiply 5 none 0 0 0 0 [.ref p0, .int p1, .int p2] σ δ (none, σ, r) := CT_of (by decide +kernel) (Nat.le_of_ble_eq_true rfl) (fun J hI => w_X2_multiply hI σ p0 p1 p2 δ r h rfl)
def m_X2_isFirst_b53 (σ : St) (p0 : Nat) (p3 : Int32) (p4 : Int32) (q0 : Nat) (q1 : Int32) (δ : Dy) : Option (Int32 × Dy) :=
  (chk σ 2 q0).bind fun _ => (m_X2_multiply σ q0 q1 (1 : Int32) δ).bind fun v4 =>
  (chk σ 2 p0).bind fun _ => (m_X2_multiply σ p0 p3 (-1 : Int32) v4).bind fun v5 =>
  (zo p4).bind fun _ => some (p4, v5)
def m_X2_isFirst_b40 (σ : St) (p0 : Nat) (p1 : Int32) (p2 : Int32) (p3 : Int32) (q0 : Int32) (δ : Dy) : Option (Int32 × Dy) :=
  if q0 = 0 then
    m_X2_isFirst_b53 σ p0 p3 q0 p0 p2 δ
  else
    m_X2_isFirst_b53 σ p0 p3 q0 p0 p1 δ
def m_X2_isFirst_b35 (σ : St) (p0 : Nat) (p1 : Int32) (p2 : Int32) (p3 : Int32) (δ : Dy) : Option (Int32 × Dy) :=
  m_X2_isFirst_b40 σ p0 p1 p2 p3 (1 : Int32) δ
def m_X2_isFirst (σ : St) (p0 : Nat) (p1 : Int32) (p2 : Int32) (δ : Dy) : Option (Int32 × Dy) :=
  (gI σ δ 2 p0 1).bind fun v1 =>
  (rmI ((v1 * (75 : Int32)) + (74 : Int32)) (65537 : Int32)).bind fun v2 =>
  (pI σ δ 2 p0 1 v2).bind fun d3 =>
  if (p1 + p2) ≤ 0 then
    m_X2_isFirst_b35 σ p0 p1 p2 (p1 + p2) d3
  else
    (gI σ d3 2 p0 1).bind fun v6 =>
    (rmI v6 (p1 + p2)).bind fun v7 =>
    if p1 ≤ v7 then
      m_X2_isFirst_b40 σ p0 p1 p2 (p1 + p2) (0 : Int32) d3
    else
      m_X2_isFirst_b35 σ p0 p1 p2 (p1 + p2) d3
set_option maxHeartbeats 4000000 in
set_option maxRecDepth 100000 in
theorem w_X2_isFirst_b53 {J : JT} {an : Option Value × St × Dy} (hI : Isj cX2_isFirst 5 RX2 "isFirst" 1 24 (some .boolean) an J) {β : Bu} (σ : St) (p0 : Nat) (p3 : Int32) (p4 : Int32) (q0 : Nat) (q1 : Int32) (δ : Dy) : SJ (m_X2_isFirst_b53 σ p0 p3 p4 q0 q1 δ) (PI σ an) (J 53 [(0, .ref p0), (3, .int p3), (4, .int p4)] [.int q1, .ref q0] β σ δ) := by
  have hJ := hI.cor
  unfold m_X2_isFirst_b53
  refine sj (j_iconst hJ (v := 1) dX2_isFirst_53 ic_1) ?_
  refine sj_callVv hJ [.int q1, .int (1 : Int32)] (st := []) (fr' := 0) (lo' := 0) ml_X2_35 hc_2 (by decide) (by decide) (Nat.le_of_ble_eq_true rfl) dX2_isFirst_54 rfl (fun _ h9 => ct_X2_multiply h9) (fun v4 => ?_)
  refine sj (j_aload_n hJ dX2_isFirst_57 rfl 0 rfl) ?_
  refine sj (j_iload_n hJ dX2_isFirst_58 rfl 1 rfl) ?_
  refine sj (j_iconst hJ (v := -1) dX2_isFirst_59 ic_m1) ?_
  refine sj_callVv hJ [.int p3, .int (-1 : Int32)] (st := []) (fr' := 0) (lo' := 0) ml_X2_35 hc_2 (by decide) (by decide) (Nat.le_of_ble_eq_true rfl) dX2_isFirst_60 rfl (fun _ h9 => ct_X2_multiply h9) (fun v5 => ?_)
  refine sj (j_iload hJ dX2_isFirst_63 2 rfl) ?_
  exact sj_zretG hI dX2_isFirst_65 (fun h => h)
set_option maxHeartbeats 4000000 in
set_option maxRecDepth 100000 in
theorem w_X2_isFirst_b40 {J : JT} {an : Option Value × St × Dy} (hI : Isj cX2_isFirst 5 RX2 "isFirst" 1 24 (some .boolean) an J) {β : Bu} (σ : St) (p0 : Nat) (p1 : Int32) (p2 : Int32) (p3 : Int32) (q0 : Int32) (δ : Dy) : SJ (m_X2_isFirst_b40 σ p0 p1 p2 p3 q0 δ) (PI σ an) (J 40 [(0, .ref p0), (1, .int p1), (2, .int p2), (3, .int p3)] [.int q0] β σ δ) := by
  have hJ := hI.cor
  unfold m_X2_isFirst_b40
  refine sj (j_istore hJ (L' := [(4, .int q0), (0, .ref p0), (1, .int p1), (2, .int p2), (3, .int p3)]) dX2_isFirst_40 (by decide) rfl) ?_
  refine sj (j_aload_n hJ dX2_isFirst_42 rfl 1 rfl) ?_
  refine sj (j_iload hJ dX2_isFirst_43 0 rfl) ?_
  refine sj_if (j_if_eq hJ (tgt := 52) dX2_isFirst_45 (by decide)) (fun _ => ?_) (fun _ => ?_)
  · refine sj (j_iload_n hJ dX2_isFirst_52 rfl 3 rfl) ?_
    refine sj (j_sub hJ (L' := [(0, .ref p0), (3, .int p3), (4, .int q0)]) [1, 4, 0] rfl) ?_
    exact w_X2_isFirst_b53 hI σ p0 p3 q0 p0 p2 δ
  · refine sj (j_iload_n hJ dX2_isFirst_48 rfl 2 rfl) ?_
    refine sj (j_goto hJ (tgt := 53) dX2_isFirst_49 (by decide)) ?_
    refine sj (j_sub hJ (L' := [(0, .ref p0), (3, .int p3), (4, .int q0)]) [1, 4, 0] rfl) ?_
    exact w_X2_isFirst_b53 hI σ p0 p3 q0 p0 p1 δ
set_option maxHeartbeats 4000000 in
set_option maxRecDepth 100000 in
theorem w_X2_isFirst_b35 {J : JT} {an : Option Value × St × Dy} (hI : Isj cX2_isFirst 5 RX2 "isFirst" 1 24 (some .boolean) an J) {β : Bu} (σ : St) (p0 : Nat) (p1 : Int32) (p2 : Int32) (p3 : Int32) (δ : Dy) : SJ (m_X2_isFirst_b35 σ p0 p1 p2 p3 δ) (PI σ an) (J 35 [(0, .ref p0), (1, .int p1), (2, .int p2), (3, .int p3)] [] β σ δ) := by
  have hJ := hI.cor
  unfold m_X2_isFirst_b35
  refine sj (j_iconst hJ (v := 1) dX2_isFirst_35 ic_1) ?_
  refine sj (j_goto hJ (tgt := 40) dX2_isFirst_36 (by decide)) ?_
  exact w_X2_isFirst_b40 hI σ p0 p1 p2 p3 (1 : Int32) δ
set_option maxHeartbeats 4000000 in
set_option maxRecDepth 100000 in
theorem w_X2_isFirst {J : JT} {an : Option Value × St × Dy} (hI : Isj cX2_isFirst 5 RX2 "isFirst" 1 24 (some .boolean) an J) {β : Bu} (σ : St) (p0 : Nat) (p1 : Int32) (p2 : Int32) (δ : Dy) : SJ (m_X2_isFirst σ p0 p1 p2 δ) (PI σ an) (J 0 [(0, .ref p0), (1, .int p1), (2, .int p2)] [] β σ δ) := by
  have hJ := hI.cor
  unfold m_X2_isFirst
  refine sj (j_aload_n hJ dX2_isFirst_0 rfl 0 rfl) ?_
  refine sj (j_aload_n hJ dX2_isFirst_1 rfl 0 rfl) ?_
  refine sj_gI hJ fl_X2_18 (Or.inl rfl) dX2_isFirst_2 (fun v1 => ?_)
  refine sj (j_bipush hJ (v := 75) dX2_isFirst_5 ib_75) ?_
  refine sj (j_imul hJ dX2_isFirst_7) ?_
  refine sj (j_bipush hJ (v := 74) dX2_isFirst_8 ib_74) ?_
  refine sj (j_iadd hJ dX2_isFirst_10) ?_
  refine sj (j_ldc hJ (v := 65537) dX2_isFirst_11 wd_944) ?_
  refine sj_rmI hJ dX2_isFirst_13 (fun v2 => ?_)
  refine sj_pI hJ fl_X2_18 rfl dX2_isFirst_14 (fun d3 => ?_)
  refine sj (j_iload_n hJ dX2_isFirst_17 rfl 1 rfl) ?_
  refine sj (j_iload_n hJ dX2_isFirst_18 rfl 2 rfl) ?_
  refine sj (j_iadd hJ dX2_isFirst_19) ?_
  refine sj (j_istore_n hJ (L' := [(3, .int (p1 + p2)), (0, .ref p0), (1, .int p1), (2, .int p2)]) dX2_isFirst_20 rfl (by decide) rfl) ?_
  refine sj (j_iload_n hJ dX2_isFirst_21 rfl 0 rfl) ?_
  refine sj_if (j_if_le hJ (tgt := 35) dX2_isFirst_22 (by decide)) (fun _ => ?_) (fun _ => ?_)
  · refine sj (j_sub hJ (L' := [(0, .ref p0), (1, .int p1), (2, .int p2), (3, .int (p1 + p2))]) [1, 2, 3, 0] rfl) ?_
    exact w_X2_isFirst_b35 hI σ p0 p1 p2 (p1 + p2) d3
  · refine sj (j_aload_n hJ dX2_isFirst_25 rfl 1 rfl) ?_
    refine sj_gI hJ fl_X2_18 (Or.inl rfl) dX2_isFirst_26 (fun v6 => ?_)
    refine sj (j_iload_n hJ dX2_isFirst_29 rfl 0 rfl) ?_
    refine sj_rmI hJ dX2_isFirst_30 (fun v7 => ?_)
    refine sj (j_iload_n hJ dX2_isFirst_31 rfl 2 rfl) ?_
    refine sj_if (j_icmp_ge hJ (tgt := 39) dX2_isFirst_32 (by decide)) (fun _ => ?_) (fun _ => ?_)
    · refine sj (j_iconst hJ (v := 0) dX2_isFirst_39 ic_0) ?_
      refine sj (j_sub hJ (L' := [(0, .ref p0), (1, .int p1), (2, .int p2), (3, .int (p1 + p2))]) [1, 2, 3, 0] rfl) ?_
      exact w_X2_isFirst_b40 hI σ p0 p1 p2 (p1 + p2) (0 : Int32) d3
    · refine sj (j_sub hJ (L' := [(0, .ref p0), (1, .int p1), (2, .int p2), (3, .int (p1 + p2))]) [1, 2, 3, 0] rfl) ?_
      exact w_X2_isFirst_b35 hI σ p0 p1 p2 (p1 + p2) d3
theorem ct_X2_isFirst {σ : St} {p0 : Nat} {p1 : Int32} {p2 : Int32} {δ : Dy} {r : (Int32 × Dy)} (h : m_X2_isFirst σ p0 p1 p2 δ = some r) : CT yX2_isFirst cX2_isFirst 5 (some .boolean) 1 24 0 0 [.ref p0, .int p1, .int p2] σ δ ((some (.int r.1)), σ, r.2) := CT_of (by decide +kernel) (Nat.le_of_ble_eq_true rfl) (fun J hI => w_X2_isFirst hI σ p0 p1 p2 δ r h rfl)
def m_X2_line_b41 (σ : St) (p0 : Nat) (p1 : Int32) (p2 : Int64) (p4 : Int32) (p5 : Int32) (p6 : Int32) (δ : Dy) : Option ((Int64 × Int32) ⊕ Int32) := lp (fun (s : (Int64 × Int32)) =>
  if p5 ≤ s.2 then
    some (Sum.inr (Sum.inl (s.1, (p4 + (1 : Int32)))))
  else
    (rP p4).bind fun v3 =>
    (rmL (s.1 * (v3).toInt64) (1000003 : Int64)).bind fun v4 =>
    some (Sum.inl (v4, (s.2 + (1 : Int32))))) (p2, p6)
def m_X2_line_b36 (σ : St) (p0 : Nat) (p1 : Int32) (p2 : Int64) (p4 : Int32) (q0 : Int32) (δ : Dy) : Option ((Int64 × Int32) ⊕ Int32) :=
  m_X2_line_b41 σ p0 p1 p2 p4 q0 (0 : Int32) δ
def m_X2_line_b5 (σ : St) (p0 : Nat) (p1 : Int32) (p2 : Int64) (p4 : Int32) (δ : Dy) : Option Int32 := lp (fun (s : (Int64 × Int32)) =>
  if (7 : Int32) ≤ s.2 then
    some (Sum.inr (s.1).toInt32)
  else
    if p1 = 0 then
      (gR σ 2 p0 0).bind fun v1 =>
      (rI σ δ v1 s.2).bind fun v2 =>
      m_X2_line_b36 σ p0 p1 s.1 s.2 (-v2) δ
    else
      (gR σ 2 p0 0).bind fun v5 =>
      (rI σ δ v5 s.2).bind fun v6 =>
      m_X2_line_b36 σ p0 p1 s.1 s.2 v6 δ) (p2, p4)
def m_X2_line (σ : St) (p0 : Nat) (p1 : Int32) (δ : Dy) : Option Int32 :=
  m_X2_line_b5 σ p0 p1 (1 : Int64) (0 : Int32) δ
set_option maxHeartbeats 4000000 in
set_option maxRecDepth 100000 in
theorem w_X2_line_b41 {J : JT} {an : Option Value × St × Dy} (hI : Isj cX2_line 7 RX2 "line" 0 0 (some .int) an J) {β : Bu} (σ : St) (p0 : Nat) (p1 : Int32) (p2 : Int64) (p4 : Int32) (p5 : Int32) (p6 : Int32) (δ : Dy) : SJ (m_X2_line_b41 σ p0 p1 p2 p4 p5 p6 δ) (PL (fun s : (Int64 × Int32) => J 5 [(0, .ref p0), (1, .int p1), (2, .long s.1), (4, .int s.2)] [] β σ δ) (PIp σ δ an)) (J 41 [(0, .ref p0), (1, .int p1), (2, .long p2), (4, .int p4), (5, .int p5), (6, .int p6)] [] β σ δ) := by
  have hJ := hI.cor
  unfold m_X2_line_b41
  refine sj_lp (G := fun s : (Int64 × Int32) => J 41 [(0, .ref p0), (1, .int p1), (2, .long s.1), (4, .int p4), (5, .int p5), (6, .int s.2)] [] β σ δ) (fun s => ?_) (p2, p6)
  refine sj (j_iload hJ dX2_line_41 5 rfl) ?_
  refine sj (j_iload hJ dX2_line_43 4 rfl) ?_
  refine sj_if (j_icmp_ge hJ (tgt := 68) dX2_line_45 (by decide)) (fun _ => ?_) (fun _ => ?_)
  · refine sj (j_iinc hJ (L' := [(4, .int (p4 + (1 : Int32))), (0, .ref p0), (1, .int p1), (2, .long s.1), (5, .int p5), (6, .int s.2)]) dX2_line_68 3 rfl (congrArg (fun z => p4 + z) ic_1) (by decide) rfl) ?_
    refine sj (j_goto hJ (tgt := 5) dX2_line_71 (by decide)) ?_
    refine sj (j_sub hJ (L' := [(0, .ref p0), (1, .int p1), (2, .long s.1), (4, .int (p4 + (1 : Int32)))]) [1, 2, 3, 0] rfl) ?_
    exact sj_end (fun h => h)
  · refine sj (j_lload_n hJ dX2_line_48 rfl 2 rfl) ?_
    refine sj (j_prm hJ wd_265 dX2_line_49) ?_
    refine sj (j_iload hJ dX2_line_52 3 rfl) ?_
    refine sj_rP hJ dX2_line_54 (fun v3 => ?_)
    refine sj (j_i2l hJ dX2_line_55) ?_
    refine sj (j_lmul hJ dX2_line_56) ?_
    refine sj (j_ldc2 hJ (v := 1000003) dX2_line_57 wd_1110) ?_
    refine sj_rmL hJ dX2_line_60 (fun v4 => ?_)
    refine sj (j_lstore_n hJ (L' := [(2, .long v4), (0, .ref p0), (1, .int p1), (4, .int p4), (5, .int p5), (6, .int s.2)]) dX2_line_61 rfl (by decide) rfl) ?_
    refine sj (j_iinc hJ (L' := [(6, .int (s.2 + (1 : Int32))), (2, .long v4), (0, .ref p0), (1, .int p1), (4, .int p4), (5, .int p5)]) dX2_line_62 5 rfl (congrArg (fun z => s.2 + z) ic_1) (by decide) rfl) ?_
    refine sj (j_goto hJ (tgt := 41) dX2_line_65 (by decide)) ?_
    refine sj (j_sub hJ (L' := [(0, .ref p0), (1, .int p1), (2, .long v4), (4, .int p4), (5, .int p5), (6, .int (s.2 + (1 : Int32)))]) [2, 3, 1, 4, 5, 0] rfl) ?_
    exact sj_end (fun h => h)
set_option maxHeartbeats 4000000 in
set_option maxRecDepth 100000 in
theorem w_X2_line_b36 {J : JT} {an : Option Value × St × Dy} (hI : Isj cX2_line 7 RX2 "line" 0 0 (some .int) an J) {β : Bu} (σ : St) (p0 : Nat) (p1 : Int32) (p2 : Int64) (p4 : Int32) (q0 : Int32) (δ : Dy) : SJ (m_X2_line_b36 σ p0 p1 p2 p4 q0 δ) (PL (fun s : (Int64 × Int32) => J 5 [(0, .ref p0), (1, .int p1), (2, .long s.1), (4, .int s.2)] [] β σ δ) (PIp σ δ an)) (J 36 [(0, .ref p0), (1, .int p1), (2, .long p2), (4, .int p4)] [.int q0] β σ δ) := by
  have hJ := hI.cor
  unfold m_X2_line_b36
  refine sj (j_istore hJ (L' := [(5, .int q0), (0, .ref p0), (1, .int p1), (2, .long p2), (4, .int p4)]) dX2_line_36 (by decide) rfl) ?_
  refine sj (j_iconst hJ (v := 0) dX2_line_38 ic_0) ?_
  refine sj (j_istore hJ (L' := [(6, .int (0 : Int32)), (5, .int q0), (0, .ref p0), (1, .int p1), (2, .long p2), (4, .int p4)]) dX2_line_39 (by decide) rfl) ?_
  refine sj (j_sub hJ (L' := [(0, .ref p0), (1, .int p1), (2, .long p2), (4, .int p4), (5, .int q0), (6, .int (0 : Int32))]) [2, 3, 4, 5, 1, 0] rfl) ?_
  exact w_X2_line_b41 hI σ p0 p1 p2 p4 q0 (0 : Int32) δ
set_option maxHeartbeats 4000000 in
set_option maxRecDepth 100000 in
theorem w_X2_line_b5 {J : JT} {an : Option Value × St × Dy} (hI : Isj cX2_line 7 RX2 "line" 0 0 (some .int) an J) {β : Bu} (σ : St) (p0 : Nat) (p1 : Int32) (p2 : Int64) (p4 : Int32) (δ : Dy) : SJ (m_X2_line_b5 σ p0 p1 p2 p4 δ) (PIp σ δ an) (J 5 [(0, .ref p0), (1, .int p1), (2, .long p2), (4, .int p4)] [] β σ δ) := by
  have hJ := hI.cor
  unfold m_X2_line_b5
  refine sj_lp (G := fun s : (Int64 × Int32) => J 5 [(0, .ref p0), (1, .int p1), (2, .long s.1), (4, .int s.2)] [] β σ δ) (fun s => ?_) (p2, p4)
  refine sj (j_iload hJ dX2_line_5 3 rfl) ?_
  refine sj (j_prm hJ wd_265 dX2_line_7) ?_
  refine sj (j_prmLen hJ dX2_line_10) ?_
  refine sj_if (j_icmp_ge hJ (tgt := 74) dX2_line_11 (by decide)) (fun _ => ?_) (fun _ => ?_)
  · refine sj (j_lload_n hJ dX2_line_74 rfl 2 rfl) ?_
    refine sj (j_l2i hJ dX2_line_75) ?_
    exact sj_iret hI dX2_line_76 (fun h => h)
  · refine sj (j_iload_n hJ dX2_line_14 rfl 1 rfl) ?_
    refine sj_if (j_if_eq hJ (tgt := 28) dX2_line_15 (by decide)) (fun _ => ?_) (fun _ => ?_)
    · refine sj (j_aload_n hJ dX2_line_28 rfl 0 rfl) ?_
      refine sj_gR hJ fl_X2_15 rfl dX2_line_29 (fun v1 => ?_)
      refine sj (j_iload hJ dX2_line_32 3 rfl) ?_
      refine sj_rI hJ dX2_line_34 (fun v2 => ?_)
      refine sj (j_ineg hJ dX2_line_35) ?_
      exact w_X2_line_b36 hI σ p0 p1 s.1 s.2 (-v2) δ
    · refine sj (j_aload_n hJ dX2_line_18 rfl 0 rfl) ?_
      refine sj_gR hJ fl_X2_15 rfl dX2_line_19 (fun v5 => ?_)
      refine sj (j_iload hJ dX2_line_22 3 rfl) ?_
      refine sj_rI hJ dX2_line_24 (fun v6 => ?_)
      refine sj (j_goto hJ (tgt := 36) dX2_line_25 (by decide)) ?_
      exact w_X2_line_b36 hI σ p0 p1 s.1 s.2 v6 δ
set_option maxHeartbeats 4000000 in
set_option maxRecDepth 100000 in
theorem w_X2_line {J : JT} {an : Option Value × St × Dy} (hI : Isj cX2_line 7 RX2 "line" 0 0 (some .int) an J) {β : Bu} (σ : St) (p0 : Nat) (p1 : Int32) (δ : Dy) : SJ (m_X2_line σ p0 p1 δ) (PIp σ δ an) (J 0 [(0, .ref p0), (1, .int p1)] [] β σ δ) := by
  have hJ := hI.cor
  unfold m_X2_line
  refine sj (j_lconst hJ (v := 1) dX2_line_0 rfl) ?_
  refine sj (j_lstore_n hJ (L' := [(2, .long (1 : Int64)), (0, .ref p0), (1, .int p1)]) dX2_line_1 rfl (by decide) rfl) ?_
  refine sj (j_iconst hJ (v := 0) dX2_line_2 ic_0) ?_
  refine sj (j_istore hJ (L' := [(4, .int (0 : Int32)), (2, .long (1 : Int64)), (0, .ref p0), (1, .int p1)]) dX2_line_3 (by decide) rfl) ?_
  refine sj (j_sub hJ (L' := [(0, .ref p0), (1, .int p1), (2, .long (1 : Int64)), (4, .int (0 : Int32))]) [2, 3, 1, 0] rfl) ?_
  exact w_X2_line_b5 hI σ p0 p1 (1 : Int64) (0 : Int32) δ
theorem ct_X2_line {σ : St} {p0 : Nat} {p1 : Int32} {δ : Dy} {r : Int32} (h : m_X2_line σ p0 p1 δ = some r) : CT yX2_line cX2_line 7 (some .int) 0 0 0 0 [.ref p0, .int p1] σ δ ((some (.int r)), σ, δ) := CT_of (by decide +kernel) (Nat.le_of_ble_eq_true rfl) (fun J hI => w_X2_line hI σ p0 p1 δ r h rfl)
def m_X4_open (σ : St) (p0 : Nat) (δ : Dy) : Option Dy :=
  (gR σ 4 p0 0).bind fun v1 =>
  (pI σ δ 1 v1 4 (0 : Int32)).bind fun d2 =>
  (gR σ 4 p0 1).bind fun v3 =>
  (pI σ d2 1 v3 4 (0 : Int32)).bind fun d4 =>
  (gR σ 4 p0 2).bind fun v5 =>
  (pI σ d4 1 v5 4 (0 : Int32)).bind fun d6 =>
  (gR σ 4 p0 3).bind fun v7 =>
  (pI σ d6 1 v7 4 (0 : Int32)).bind fun d8 =>
  some d8
set_option maxHeartbeats 4000000 in
set_option maxRecDepth 100000 in
theorem w_X4_open {J : JT} {an : Option Value × St × Dy} (hI : Isj cX4_open 1 RX4 "open" 0 0 none an J) {β : Bu} (σ : St) (p0 : Nat) (δ : Dy) : SJ (m_X4_open σ p0 δ) (PV σ an) (J 0 [(0, .ref p0)] [] β σ δ) := by
  have hJ := hI.cor
  unfold m_X4_open
  refine sj (j_aload_n hJ dX4_open_0 rfl 0 rfl) ?_
  refine sj_gR hJ fl_X4_14 rfl dX4_open_1 (fun v1 => ?_)
  refine sj (j_iconst hJ (v := 0) dX4_open_4 ic_0) ?_
  refine sj_pI hJ fl_X4_43 rfl dX4_open_5 (fun d2 => ?_)
  refine sj (j_aload_n hJ dX4_open_8 rfl 0 rfl) ?_
  refine sj_gR hJ fl_X4_20 rfl dX4_open_9 (fun v3 => ?_)
  refine sj (j_iconst hJ (v := 0) dX4_open_12 ic_0) ?_
  refine sj_pI hJ fl_X4_43 rfl dX4_open_13 (fun d4 => ?_)
  refine sj (j_aload_n hJ dX4_open_16 rfl 0 rfl) ?_
  refine sj_gR hJ fl_X4_23 rfl dX4_open_17 (fun v5 => ?_)
  refine sj (j_iconst hJ (v := 0) dX4_open_20 ic_0) ?_
  refine sj_pI hJ fl_X4_43 rfl dX4_open_21 (fun d6 => ?_)
  refine sj (j_aload_n hJ dX4_open_24 rfl 0 rfl) ?_
  refine sj_gR hJ fl_X4_26 rfl dX4_open_25 (fun v7 => ?_)
  refine sj (j_iconst hJ (v := 0) dX4_open_28 ic_0) ?_
  refine sj_pI hJ fl_X4_43 rfl dX4_open_29 (fun d8 => ?_)
  exact sj_vret hI dX4_open_32 (fun h => h)
theorem ct_X4_open {σ : St} {p0 : Nat} {δ : Dy} {r : Dy} (h : m_X4_open σ p0 δ = some r) : CT yX4_open cX4_open 1 none 0 0 0 0 [.ref p0] σ δ (none, σ, r) := CT_of (by decide +kernel) (Nat.le_of_ble_eq_true rfl) (fun J hI => w_X4_open hI σ p0 δ r h rfl)
def m_X5_add (σ : St) (p0 : Nat) (p1 : Int32) (p2 : Int32) (p3 : Int32) (p4 : Int32) (p5 : Int32) (p6 : Int32) (δ : Dy) : Option (Int32 × Dy) :=
  (gI σ δ 5 p0 6).bind fun v1 =>
  if v1 < (60 : Int32) then
    (gR σ 5 p0 0).bind fun v2 =>
    (gI σ δ 5 p0 6).bind fun v3 =>
    (wI σ δ v2 v3 p1).bind fun d4 =>
    (gR σ 5 p0 1).bind fun v5 =>
    (gI σ d4 5 p0 6).bind fun v6 =>
    (wI σ d4 v5 v6 p2).bind fun d7 =>
    (gR σ 5 p0 2).bind fun v8 =>
    (gI σ d7 5 p0 6).bind fun v9 =>
    (wI σ d7 v8 v9 p3).bind fun d10 =>
    (gR σ 5 p0 3).bind fun v11 =>
    (gI σ d10 5 p0 6).bind fun v12 =>
    (wI σ d10 v11 v12 p4).bind fun d13 =>
    (gR σ 5 p0 4).bind fun v14 =>
    (gI σ d13 5 p0 6).bind fun v15 =>
    (wI σ d13 v14 v15 p5).bind fun d16 =>
    (gR σ 5 p0 5).bind fun v17 =>
    (gI σ d16 5 p0 6).bind fun v18 =>
    (wI σ d16 v17 v18 p6).bind fun d19 =>
    (gI σ d19 5 p0 6).bind fun v20 =>
    (pI σ d19 5 p0 6 (v20 + (1 : Int32))).bind fun d21 =>
    (gI σ d21 5 p0 6).bind fun v22 =>
    some ((v22 - (1 : Int32)), d21)
  else
    some ((-1 : Int32), δ)
set_option maxHeartbeats 4000000 in
set_option maxRecDepth 100000 in
theorem w_X5_add {J : JT} {an : Option Value × St × Dy} (hI : Isj cX5_add 7 RX5 "add" 0 0 (some .int) an J) {β : Bu} (σ : St) (p0 : Nat) (p1 : Int32) (p2 : Int32) (p3 : Int32) (p4 : Int32) (p5 : Int32) (p6 : Int32) (δ : Dy) : SJ (m_X5_add σ p0 p1 p2 p3 p4 p5 p6 δ) (PI σ an) (J 0 [(0, .ref p0), (1, .int p1), (2, .int p2), (3, .int p3), (4, .int p4), (5, .int p5), (6, .int p6)] [] β σ δ) := by
  have hJ := hI.cor
  unfold m_X5_add
  refine sj (j_aload_n hJ dX5_add_0 rfl 0 rfl) ?_
  refine sj_gI hJ fl_X5_30 (Or.inl rfl) dX5_add_1 (fun v1 => ?_)
  refine sj (j_bipush hJ (v := 60) dX5_add_4 ib_60) ?_
  refine sj_if (j_icmp_lt hJ (tgt := 11) dX5_add_6 (by decide)) (fun _ => ?_) (fun _ => ?_)
  · refine sj (j_aload_n hJ dX5_add_11 rfl 0 rfl) ?_
    refine sj_gR hJ fl_X5_9 rfl dX5_add_12 (fun v2 => ?_)
    refine sj (j_aload_n hJ dX5_add_15 rfl 0 rfl) ?_
    refine sj_gI hJ fl_X5_30 (Or.inl rfl) dX5_add_16 (fun v3 => ?_)
    refine sj (j_iload_n hJ dX5_add_19 rfl 1 rfl) ?_
    refine sj_wI hJ dX5_add_20 (fun d4 => ?_)
    refine sj (j_aload_n hJ dX5_add_21 rfl 0 rfl) ?_
    refine sj_gR hJ fl_X5_15 rfl dX5_add_22 (fun v5 => ?_)
    refine sj (j_aload_n hJ dX5_add_25 rfl 0 rfl) ?_
    refine sj_gI hJ fl_X5_30 (Or.inl rfl) dX5_add_26 (fun v6 => ?_)
    refine sj (j_iload_n hJ dX5_add_29 rfl 2 rfl) ?_
    refine sj_wI hJ dX5_add_30 (fun d7 => ?_)
    refine sj (j_aload_n hJ dX5_add_31 rfl 0 rfl) ?_
    refine sj_gR hJ fl_X5_18 rfl dX5_add_32 (fun v8 => ?_)
    refine sj (j_aload_n hJ dX5_add_35 rfl 0 rfl) ?_
    refine sj_gI hJ fl_X5_30 (Or.inl rfl) dX5_add_36 (fun v9 => ?_)
    refine sj (j_iload_n hJ dX5_add_39 rfl 3 rfl) ?_
    refine sj_wI hJ dX5_add_40 (fun d10 => ?_)
    refine sj (j_aload_n hJ dX5_add_41 rfl 0 rfl) ?_
    refine sj_gR hJ fl_X5_21 rfl dX5_add_42 (fun v11 => ?_)
    refine sj (j_aload_n hJ dX5_add_45 rfl 0 rfl) ?_
    refine sj_gI hJ fl_X5_30 (Or.inl rfl) dX5_add_46 (fun v12 => ?_)
    refine sj (j_iload hJ dX5_add_49 4 rfl) ?_
    refine sj_wI hJ dX5_add_51 (fun d13 => ?_)
    refine sj (j_aload_n hJ dX5_add_52 rfl 0 rfl) ?_
    refine sj_gR hJ fl_X5_24 rfl dX5_add_53 (fun v14 => ?_)
    refine sj (j_aload_n hJ dX5_add_56 rfl 0 rfl) ?_
    refine sj_gI hJ fl_X5_30 (Or.inl rfl) dX5_add_57 (fun v15 => ?_)
    refine sj (j_iload hJ dX5_add_60 5 rfl) ?_
    refine sj_wI hJ dX5_add_62 (fun d16 => ?_)
    refine sj (j_aload_n hJ dX5_add_63 rfl 0 rfl) ?_
    refine sj_gR hJ fl_X5_27 rfl dX5_add_64 (fun v17 => ?_)
    refine sj (j_aload_n hJ dX5_add_67 rfl 0 rfl) ?_
    refine sj_gI hJ fl_X5_30 (Or.inl rfl) dX5_add_68 (fun v18 => ?_)
    refine sj (j_iload hJ dX5_add_71 6 rfl) ?_
    refine sj_wI hJ dX5_add_73 (fun d19 => ?_)
    refine sj (j_aload_n hJ dX5_add_74 rfl 0 rfl) ?_
    refine sj (j_dup hJ dX5_add_75 rfl) ?_
    refine sj_gI hJ fl_X5_30 (Or.inl rfl) dX5_add_76 (fun v20 => ?_)
    refine sj (j_iconst hJ (v := 1) dX5_add_79 ic_1) ?_
    refine sj (j_iadd hJ dX5_add_80) ?_
    refine sj_pI hJ fl_X5_30 rfl dX5_add_81 (fun d21 => ?_)
    refine sj (j_aload_n hJ dX5_add_84 rfl 0 rfl) ?_
    refine sj_gI hJ fl_X5_30 (Or.inl rfl) dX5_add_85 (fun v22 => ?_)
    refine sj (j_iconst hJ (v := 1) dX5_add_88 ic_1) ?_
    refine sj (j_isub hJ dX5_add_89) ?_
    exact sj_iret hI dX5_add_90 (fun h => h)
  · refine sj (j_iconst hJ (v := -1) dX5_add_9 ic_m1) ?_
    exact sj_iret hI dX5_add_10 (fun h => h)
theorem ct_X5_add {σ : St} {p0 : Nat} {p1 : Int32} {p2 : Int32} {p3 : Int32} {p4 : Int32} {p5 : Int32} {p6 : Int32} {δ : Dy} {r : (Int32 × Dy)} (h : m_X5_add σ p0 p1 p2 p3 p4 p5 p6 δ = some r) : CT yX5_add cX5_add 7 (some .int) 0 0 0 0 [.ref p0, .int p1, .int p2, .int p3, .int p4, .int p5, .int p6] σ δ ((some (.int r.1)), σ, r.2) := CT_of (by decide +kernel) (Nat.le_of_ble_eq_true rfl) (fun J hI => w_X5_add hI σ p0 p1 p2 p3 p4 p5 p6 δ r h rfl)
def m_J7_fill_d0a16_b6 (σ : St) (p0 : Nat) (p1 : Int64) (p3 : Int32) (p4 : Int32) (δ : Dy) : Option Dy := lp (fun (s : (Int32 × Dy)) =>
  if p4 ≤ s.1 then
    some (Sum.inr s.2)
  else
    (wLo σ s.2 p0 s.1 p1).bind fun d2 =>
    some (Sum.inl ((s.1 + (1 : Int32)), d2))) (p3, δ)
def m_J7_fill_d0a16 (σ : St) (p0 : Nat) (p1 : Int64) (δ : Dy) : Option Dy :=
  (aln σ 102 p0).bind fun v1 =>
  m_J7_fill_d0a16_b6 σ p0 p1 (0 : Int32) v1 δ
set_option maxHeartbeats 4000000 in
set_option maxRecDepth 100000 in
theorem w_J7_fill_d0a16_b6 {J : JT} {an : Option Value × St × Dy} (hI : Isj cJ7_fill_d0a16 5 RJ7 "fill" 0 0 none an J) {β : Bu} (σ : St) (p0 : Nat) (p1 : Int64) (p3 : Int32) (p4 : Int32) (δ : Dy) : SJ (m_J7_fill_d0a16_b6 σ p0 p1 p3 p4 δ) (PV σ an) (J 6 [(0, .ref p0), (1, .long p1), (3, .int p3), (4, .int p4)] [] β σ δ) := by
  have hJ := hI.cor
  unfold m_J7_fill_d0a16_b6
  refine sj_lp (G := fun s : (Int32 × Dy) => J 6 [(0, .ref p0), (1, .long p1), (3, .int s.1), (4, .int p4)] [] β σ s.2) (fun s => ?_) (p3, δ)
  refine sj (j_iload_n hJ dJ7_fill_d0a16_6 rfl 2 rfl) ?_
  refine sj (j_iload hJ dJ7_fill_d0a16_7 3 rfl) ?_
  refine sj_if (j_icmp_ge hJ (tgt := 22) dJ7_fill_d0a16_9 (by decide)) (fun _ => ?_) (fun _ => ?_)
  · exact sj_vret hI dJ7_fill_d0a16_22 (fun h => h)
  · refine sj (j_aload_n hJ dJ7_fill_d0a16_12 rfl 0 rfl) ?_
    refine sj (j_iload_n hJ dJ7_fill_d0a16_13 rfl 2 rfl) ?_
    refine sj (j_lload_n hJ dJ7_fill_d0a16_14 rfl 1 rfl) ?_
    refine sj_wLo hJ dJ7_fill_d0a16_15 (fun d2 => ?_)
    refine sj (j_iinc hJ (L' := [(3, .int (s.1 + (1 : Int32))), (0, .ref p0), (1, .long p1), (4, .int p4)]) dJ7_fill_d0a16_16 2 rfl (congrArg (fun z => s.1 + z) ic_1) (by decide) rfl) ?_
    refine sj (j_goto hJ (tgt := 6) dJ7_fill_d0a16_19 (by decide)) ?_
    refine sj (j_sub hJ (L' := [(0, .ref p0), (1, .long p1), (3, .int (s.1 + (1 : Int32))), (4, .int p4)]) [1, 2, 0, 3] rfl) ?_
    exact sj_end (fun h => h)
set_option maxHeartbeats 4000000 in
set_option maxRecDepth 100000 in
theorem w_J7_fill_d0a16 {J : JT} {an : Option Value × St × Dy} (hI : Isj cJ7_fill_d0a16 5 RJ7 "fill" 0 0 none an J) {β : Bu} (σ : St) (p0 : Nat) (p1 : Int64) (δ : Dy) : SJ (m_J7_fill_d0a16 σ p0 p1 δ) (PV σ an) (J 0 [(0, .ref p0), (1, .long p1)] [] β σ δ) := by
  have hJ := hI.cor
  unfold m_J7_fill_d0a16
  refine sj (j_iconst hJ (v := 0) dJ7_fill_d0a16_0 ic_0) ?_
  refine sj (j_istore_n hJ (L' := [(3, .int (0 : Int32)), (0, .ref p0), (1, .long p1)]) dJ7_fill_d0a16_1 rfl (by decide) rfl) ?_
  refine sj (j_aload_n hJ dJ7_fill_d0a16_2 rfl 1 rfl) ?_
  refine sj_alnL hJ dJ7_fill_d0a16_3 (fun v1 => ?_)
  refine sj (j_istore hJ (L' := [(4, .int v1), (3, .int (0 : Int32)), (0, .ref p0), (1, .long p1)]) dJ7_fill_d0a16_4 (by decide) rfl) ?_
  refine sj (j_sub hJ (L' := [(0, .ref p0), (1, .long p1), (3, .int (0 : Int32)), (4, .int v1)]) [2, 3, 1, 0] rfl) ?_
  exact w_J7_fill_d0a16_b6 hI σ p0 p1 (0 : Int32) v1 δ
theorem ct_J7_fill_d0a16 {σ : St} {p0 : Nat} {p1 : Int64} {δ : Dy} {r : Dy} (h : m_J7_fill_d0a16 σ p0 p1 δ = some r) : CT yJ7_fill_d0a16 cJ7_fill_d0a16 5 none 0 0 0 0 [.ref p0, .long p1] σ δ (none, σ, r) := CT_of (by decide +kernel) (Nat.le_of_ble_eq_true rfl) (fun J hI => w_J7_fill_d0a16 hI σ p0 p1 δ r h rfl)
def m_X6_clear (σ : St) (p0 : Nat) (δ : Dy) : Option Dy :=
  (pI σ δ 6 p0 3 (0 : Int32)).bind fun d1 =>
  (pI σ d1 6 p0 9 (0 : Int32)).bind fun d2 =>
  (pI σ d2 6 p0 7 (0 : Int32)).bind fun d3 =>
  (gR σ 6 p0 5).bind fun v4 =>
  (m_J7_fill_d0a16 σ v4 (0 : Int64) d3).bind fun v5 =>
  (gR σ 6 p0 8).bind fun v6 =>
  (m_J7_fill_53178 σ v6 (0 : Int32) v5).bind fun v7 =>
  some v7
set_option maxHeartbeats 4000000 in
set_option maxRecDepth 100000 in
theorem w_X6_clear {J : JT} {an : Option Value × St × Dy} (hI : Isj cX6_clear 1 RX6 "clear" 1 24 none an J) {β : Bu} (σ : St) (p0 : Nat) (δ : Dy) : SJ (m_X6_clear σ p0 δ) (PV σ an) (J 0 [(0, .ref p0)] [] β σ δ) := by
  have hJ := hI.cor
  unfold m_X6_clear
  refine sj (j_aload_n hJ dX6_clear_0 rfl 0 rfl) ?_
  refine sj (j_iconst hJ (v := 0) dX6_clear_1 ic_0) ?_
  refine sj_pI hJ fl_X6_40 rfl dX6_clear_2 (fun d1 => ?_)
  refine sj (j_aload_n hJ dX6_clear_5 rfl 0 rfl) ?_
  refine sj (j_iconst hJ (v := 0) dX6_clear_6 ic_0) ?_
  refine sj_pI hJ fl_X6_44 rfl dX6_clear_7 (fun d2 => ?_)
  refine sj (j_aload_n hJ dX6_clear_10 rfl 0 rfl) ?_
  refine sj (j_iconst hJ (v := 0) dX6_clear_11 ic_0) ?_
  refine sj_pI hJ fl_X6_47 rfl dX6_clear_12 (fun d3 => ?_)
  refine sj (j_aload_n hJ dX6_clear_15 rfl 0 rfl) ?_
  refine sj_gR hJ fl_X6_21 rfl dX6_clear_16 (fun v4 => ?_)
  refine sj (j_lconst hJ (v := 0) dX6_clear_19 rfl) ?_
  refine sj_callSv hJ [.ref v4, .long (0 : Int64)] (st := []) (fr' := 0) (lo' := 0) ml_X6_50 (by decide) (by decide) (Nat.le_of_ble_eq_true rfl) dX6_clear_20 rfl (fun _ h9 => ct_J7_fill_d0a16 h9) (fun v5 => ?_)
  refine sj (j_aload_n hJ dX6_clear_23 rfl 0 rfl) ?_
  refine sj_gR hJ fl_X6_28 rfl dX6_clear_24 (fun v6 => ?_)
  refine sj (j_iconst hJ (v := 0) dX6_clear_27 ic_0) ?_
  refine sj_callSv hJ [.ref v6, .int (0 : Int32)] (st := []) (fr' := 0) (lo' := 0) ml_X6_56 (by decide) (by decide) (Nat.le_of_ble_eq_true rfl) dX6_clear_28 rfl (fun _ h9 => ct_J7_fill_53178 h9) (fun v7 => ?_)
  exact sj_vret hI dX6_clear_31 (fun h => h)
theorem ct_X6_clear {σ : St} {p0 : Nat} {δ : Dy} {r : Dy} (h : m_X6_clear σ p0 δ = some r) : CT yX6_clear cX6_clear 1 none 1 24 0 0 [.ref p0] σ δ (none, σ, r) := CT_of (by decide +kernel) (Nat.le_of_ble_eq_true rfl) (fun J hI => w_X6_clear hI σ p0 δ r h rfl)
def m_X6_copyFrom (σ : St) (p0 : Nat) (p1 : Nat) (δ : Dy) : Option Dy :=
  (gI σ δ 6 p1 9).bind fun v1 =>
  (pI σ δ 6 p0 9 v1).bind fun d2 =>
  (gR σ 6 p1 5).bind fun v3 =>
  (gR σ 6 p0 5).bind fun v4 =>
  (gR σ 6 p0 5).bind fun v5 =>
  (aln σ 102 v5).bind fun v6 =>
  (cpL σ d2 v3 (0 : Int32) v4 (0 : Int32) v6).bind fun d7 =>
  (gR σ 6 p1 8).bind fun v8 =>
  (gR σ 6 p0 8).bind fun v9 =>
  (gR σ 6 p0 8).bind fun v10 =>
  (aln σ 100 v10).bind fun v11 =>
  (cpI σ d7 v8 (0 : Int32) v9 (0 : Int32) v11).bind fun d12 =>
  some d12
set_option maxHeartbeats 4000000 in
set_option maxRecDepth 100000 in
theorem w_X6_copyFrom {J : JT} {an : Option Value × St × Dy} (hI : Isj cX6_copyFrom 2 RX6 "copyFrom" 1 59 none an J) {β : Bu} (σ : St) (p0 : Nat) (p1 : Nat) (δ : Dy) : SJ (m_X6_copyFrom σ p0 p1 δ) (PV σ an) (J 0 [(0, .ref p0), (1, .ref p1)] [] β σ δ) := by
  have hJ := hI.cor
  unfold m_X6_copyFrom
  refine sj (j_aload_n hJ dX6_copyFrom_0 rfl 0 rfl) ?_
  refine sj (j_aload_n hJ dX6_copyFrom_1 rfl 1 rfl) ?_
  refine sj_gI hJ fl_X6_44 (Or.inl rfl) dX6_copyFrom_2 (fun v1 => ?_)
  refine sj_pI hJ fl_X6_44 rfl dX6_copyFrom_5 (fun d2 => ?_)
  refine sj (j_aload_n hJ dX6_copyFrom_8 rfl 1 rfl) ?_
  refine sj_gR hJ fl_X6_21 rfl dX6_copyFrom_9 (fun v3 => ?_)
  refine sj (j_iconst hJ (v := 0) dX6_copyFrom_12 ic_0) ?_
  refine sj (j_aload_n hJ dX6_copyFrom_13 rfl 0 rfl) ?_
  refine sj_gR hJ fl_X6_21 rfl dX6_copyFrom_14 (fun v4 => ?_)
  refine sj (j_iconst hJ (v := 0) dX6_copyFrom_17 ic_0) ?_
  refine sj (j_aload_n hJ dX6_copyFrom_18 rfl 0 rfl) ?_
  refine sj_gR hJ fl_X6_21 rfl dX6_copyFrom_19 (fun v5 => ?_)
  refine sj_alnL hJ dX6_copyFrom_22 (fun v6 => ?_)
  refine sj_cpL hJ mm_X6_59 (by decide) (by decide) (Nat.le_of_ble_eq_true rfl) dX6_copyFrom_23 (fun d7 => ?_)
  refine sj (j_aload_n hJ dX6_copyFrom_26 rfl 1 rfl) ?_
  refine sj_gR hJ fl_X6_28 rfl dX6_copyFrom_27 (fun v8 => ?_)
  refine sj (j_iconst hJ (v := 0) dX6_copyFrom_30 ic_0) ?_
  refine sj (j_aload_n hJ dX6_copyFrom_31 rfl 0 rfl) ?_
  refine sj_gR hJ fl_X6_28 rfl dX6_copyFrom_32 (fun v9 => ?_)
  refine sj (j_iconst hJ (v := 0) dX6_copyFrom_35 ic_0) ?_
  refine sj (j_aload_n hJ dX6_copyFrom_36 rfl 0 rfl) ?_
  refine sj_gR hJ fl_X6_28 rfl dX6_copyFrom_37 (fun v10 => ?_)
  refine sj_alnI hJ dX6_copyFrom_40 (fun v11 => ?_)
  refine sj_cpI hJ mm_X6_59 (by decide) (by decide) (Nat.le_of_ble_eq_true rfl) dX6_copyFrom_41 (fun d12 => ?_)
  exact sj_vret hI dX6_copyFrom_44 (fun h => h)
theorem ct_X6_copyFrom {σ : St} {p0 : Nat} {p1 : Nat} {δ : Dy} {r : Dy} (h : m_X6_copyFrom σ p0 p1 δ = some r) : CT yX6_copyFrom cX6_copyFrom 2 none 1 59 0 0 [.ref p0, .ref p1] σ δ (none, σ, r) := CT_of (by decide +kernel) (Nat.le_of_ble_eq_true rfl) (fun J hI => w_X6_copyFrom hI σ p0 p1 δ r h rfl)
def m_X6_startStep (σ : St) (p0 : Nat) (δ : Dy) : Option Dy :=
  (pI σ δ 6 p0 3 (0 : Int32)).bind fun d1 =>
  (pI σ d1 6 p0 7 (0 : Int32)).bind fun d2 =>
  some d2
set_option maxHeartbeats 4000000 in
set_option maxRecDepth 100000 in
theorem w_X6_startStep {J : JT} {an : Option Value × St × Dy} (hI : Isj cX6_startStep 1 RX6 "startStep" 0 0 none an J) {β : Bu} (σ : St) (p0 : Nat) (δ : Dy) : SJ (m_X6_startStep σ p0 δ) (PV σ an) (J 0 [(0, .ref p0)] [] β σ δ) := by
  have hJ := hI.cor
  unfold m_X6_startStep
  refine sj (j_aload_n hJ dX6_startStep_0 rfl 0 rfl) ?_
  refine sj (j_iconst hJ (v := 0) dX6_startStep_1 ic_0) ?_
  refine sj_pI hJ fl_X6_40 rfl dX6_startStep_2 (fun d1 => ?_)
  refine sj (j_aload_n hJ dX6_startStep_5 rfl 0 rfl) ?_
  refine sj (j_iconst hJ (v := 0) dX6_startStep_6 ic_0) ?_
  refine sj_pI hJ fl_X6_47 rfl dX6_startStep_7 (fun d2 => ?_)
  exact sj_vret hI dX6_startStep_10 (fun h => h)
theorem ct_X6_startStep {σ : St} {p0 : Nat} {δ : Dy} {r : Dy} (h : m_X6_startStep σ p0 δ = some r) : CT yX6_startStep cX6_startStep 1 none 0 0 0 0 [.ref p0] σ δ (none, σ, r) := CT_of (by decide +kernel) (Nat.le_of_ble_eq_true rfl) (fun J hI => w_X6_startStep hI σ p0 δ r h rfl)
def m_X6_isBusy (σ : St) (p0 : Nat) (δ : Dy) : Option Int32 :=
  (gI σ δ 6 p0 3).bind fun v1 =>
  if v1 ≤ 0 then
    some (0 : Int32)
  else
    some (1 : Int32)
set_option maxHeartbeats 4000000 in
set_option maxRecDepth 100000 in
theorem w_X6_isBusy {J : JT} {an : Option Value × St × Dy} (hI : Isj cX6_isBusy 1 RX6 "isBusy" 0 0 (some .boolean) an J) {β : Bu} (σ : St) (p0 : Nat) (δ : Dy) : SJ (m_X6_isBusy σ p0 δ) (PIp σ δ an) (J 0 [(0, .ref p0)] [] β σ δ) := by
  have hJ := hI.cor
  unfold m_X6_isBusy
  refine sj (j_aload_n hJ dX6_isBusy_0 rfl 0 rfl) ?_
  refine sj_gI hJ fl_X6_40 (Or.inl rfl) dX6_isBusy_1 (fun v1 => ?_)
  refine sj_if (j_if_le hJ (tgt := 11) dX6_isBusy_4 (by decide)) (fun _ => ?_) (fun _ => ?_)
  · refine sj (j_iconst hJ (v := 0) dX6_isBusy_11 ic_0) ?_
    exact sj_zret hI (by decide) dX6_isBusy_12 (fun h => h)
  · refine sj (j_iconst hJ (v := 1) dX6_isBusy_7 ic_1) ?_
    refine sj (j_goto hJ (tgt := 12) dX6_isBusy_8 (by decide)) ?_
    exact sj_zret hI (by decide) dX6_isBusy_12 (fun h => h)
theorem ct_X6_isBusy {σ : St} {p0 : Nat} {δ : Dy} {r : Int32} (h : m_X6_isBusy σ p0 δ = some r) : CT yX6_isBusy cX6_isBusy 1 (some .boolean) 0 0 0 0 [.ref p0] σ δ ((some (.int r)), σ, δ) := CT_of (by decide +kernel) (Nat.le_of_ble_eq_true rfl) (fun J hI => w_X6_isBusy hI σ p0 δ r h rfl)
def m_X6_stop (σ : St) (p0 : Nat) (δ : Dy) : Option Dy :=
  (pI σ δ 6 p0 3 (0 : Int32)).bind fun d1 =>
  some d1
set_option maxHeartbeats 4000000 in
set_option maxRecDepth 100000 in
theorem w_X6_stop {J : JT} {an : Option Value × St × Dy} (hI : Isj cX6_stop 1 RX6 "stop" 0 0 none an J) {β : Bu} (σ : St) (p0 : Nat) (δ : Dy) : SJ (m_X6_stop σ p0 δ) (PV σ an) (J 0 [(0, .ref p0)] [] β σ δ) := by
  have hJ := hI.cor
  unfold m_X6_stop
  refine sj (j_aload_n hJ dX6_stop_0 rfl 0 rfl) ?_
  refine sj (j_iconst hJ (v := 0) dX6_stop_1 ic_0) ?_
  refine sj_pI hJ fl_X6_40 rfl dX6_stop_2 (fun d1 => ?_)
  exact sj_vret hI dX6_stop_5 (fun h => h)
theorem ct_X6_stop {σ : St} {p0 : Nat} {δ : Dy} {r : Dy} (h : m_X6_stop σ p0 δ = some r) : CT yX6_stop cX6_stop 1 none 0 0 0 0 [.ref p0] σ δ (none, σ, r) := CT_of (by decide +kernel) (Nat.le_of_ble_eq_true rfl) (fun J hI => w_X6_stop hI σ p0 δ r h rfl)
def m_X6_push (σ : St) (p0 : Nat) (p1 : Int32) (δ : Dy) : Option (Nat × Dy) :=
  (gI σ δ 6 p0 3).bind fun v1 =>
  if v1 < (183 : Int32) then
    (gR σ 6 p0 2).bind fun v2 =>
    (gI σ δ 6 p0 3).bind fun v3 =>
    (rA σ 105 v2 v3).bind fun v4 =>
    (gI σ δ 6 p0 3).bind fun v5 =>
    (pI σ δ 6 p0 3 (v5 + (1 : Int32))).bind fun d6 =>
    (pI σ d6 3 v4 1 p1).bind fun d7 =>
    (pI σ d7 3 v4 2 (0 : Int32)).bind fun d8 =>
    (pI σ d8 3 v4 3 (0 : Int32)).bind fun d9 =>
    (pI σ d9 3 v4 5 (0 : Int32)).bind fun d10 =>
    (pL σ d10 3 v4 7 (0 : Int64)).bind fun d11 =>
    (pL σ d11 3 v4 8 (0 : Int64)).bind fun d12 =>
    some (v4, d12)
  else
    (gR σ 6 p0 0).bind fun v13 =>
    (pZ σ δ 8 v13 12 (1 : Int32)).bind fun d14 =>
    (gR σ 6 p0 2).bind fun v15 =>
    (rA σ 105 v15 (182 : Int32)).bind fun v16 =>
    some (v16, d14)
set_option maxHeartbeats 4000000 in
set_option maxRecDepth 100000 in
theorem w_X6_push {J : JT} {an : Option Value × St × Dy} (hI : Isj cX6_push 3 RX6 "push" 0 0 (some (.object "Tellcourt$Frame")) an J) {β : Bu} (σ : St) (p0 : Nat) (p1 : Int32) (δ : Dy) : SJ (m_X6_push σ p0 p1 δ) (PA σ an) (J 0 [(0, .ref p0), (1, .int p1)] [] β σ δ) := by
  have hJ := hI.cor
  unfold m_X6_push
  refine sj (j_aload_n hJ dX6_push_0 rfl 0 rfl) ?_
  refine sj_gI hJ fl_X6_40 (Or.inl rfl) dX6_push_1 (fun v1 => ?_)
  refine sj (j_sipush hJ (v := 183) dX6_push_4 is_183) ?_
  refine sj_if (j_icmp_lt hJ (tgt := 27) dX6_push_7 (by decide)) (fun _ => ?_) (fun _ => ?_)
  · refine sj (j_aload_n hJ dX6_push_27 rfl 0 rfl) ?_
    refine sj_gR hJ fl_X6_13 rfl dX6_push_28 (fun v2 => ?_)
    refine sj (j_aload_n hJ dX6_push_31 rfl 0 rfl) ?_
    refine sj_gI hJ fl_X6_40 (Or.inl rfl) dX6_push_32 (fun v3 => ?_)
    refine sj_rAFr hJ dX6_push_35 (fun v4 => ?_)
    refine sj (j_astore_n hJ (L' := [(2, .ref v4), (0, .ref p0), (1, .int p1)]) dX6_push_36 rfl (by decide) rfl) ?_
    refine sj (j_aload_n hJ dX6_push_37 rfl 1 rfl) ?_
    refine sj (j_dup hJ dX6_push_38 rfl) ?_
    refine sj_gI hJ fl_X6_40 (Or.inl rfl) dX6_push_39 (fun v5 => ?_)
    refine sj (j_iconst hJ (v := 1) dX6_push_42 ic_1) ?_
    refine sj (j_iadd hJ dX6_push_43) ?_
    refine sj_pI hJ fl_X6_40 rfl dX6_push_44 (fun d6 => ?_)
    refine sj (j_aload_n hJ dX6_push_47 rfl 0 rfl) ?_
    refine sj (j_iload_n hJ dX6_push_48 rfl 2 rfl) ?_
    refine sj_pI hJ fl_X6_71 rfl dX6_push_49 (fun d7 => ?_)
    refine sj (j_aload_n hJ dX6_push_52 rfl 0 rfl) ?_
    refine sj (j_iconst hJ (v := 0) dX6_push_53 ic_0) ?_
    refine sj_pI hJ fl_X6_74 rfl dX6_push_54 (fun d8 => ?_)
    refine sj (j_aload_n hJ dX6_push_57 rfl 0 rfl) ?_
    refine sj (j_iconst hJ (v := 0) dX6_push_58 ic_0) ?_
    refine sj_pI hJ fl_X6_77 rfl dX6_push_59 (fun d9 => ?_)
    refine sj (j_aload_n hJ dX6_push_62 rfl 0 rfl) ?_
    refine sj (j_iconst hJ (v := 0) dX6_push_63 ic_0) ?_
    refine sj_pI hJ fl_X6_80 rfl dX6_push_64 (fun d10 => ?_)
    refine sj (j_aload_n hJ dX6_push_67 rfl 0 rfl) ?_
    refine sj (j_lconst hJ (v := 0) dX6_push_68 rfl) ?_
    refine sj_pL hJ fl_X6_83 rfl dX6_push_69 (fun d11 => ?_)
    refine sj (j_aload_n hJ dX6_push_72 rfl 0 rfl) ?_
    refine sj (j_lconst hJ (v := 0) dX6_push_73 rfl) ?_
    refine sj_pL hJ fl_X6_87 rfl dX6_push_74 (fun d12 => ?_)
    refine sj (j_aload_n hJ dX6_push_77 rfl 0 rfl) ?_
    exact sj_aret (Or.inl ⟨_, rfl⟩) hI dX6_push_78 (fun h => h)
  · refine sj (j_aload_n hJ dX6_push_10 rfl 0 rfl) ?_
    refine sj_gR hJ fl_X6_31 rfl dX6_push_11 (fun v13 => ?_)
    refine sj (j_iconst hJ (v := 1) dX6_push_14 ic_1) ?_
    refine sj_pZ hJ fl_X6_65 rfl dX6_push_15 (fun d14 => ?_)
    refine sj (j_aload_n hJ dX6_push_18 rfl 0 rfl) ?_
    refine sj_gR hJ fl_X6_13 rfl dX6_push_19 (fun v15 => ?_)
    refine sj (j_sipush hJ (v := 182) dX6_push_22 is_182) ?_
    refine sj_rAFr hJ dX6_push_25 (fun v16 => ?_)
    exact sj_aret (Or.inl ⟨_, rfl⟩) hI dX6_push_26 (fun h => h)
theorem ct_X6_push {σ : St} {p0 : Nat} {p1 : Int32} {δ : Dy} {r : (Nat × Dy)} (h : m_X6_push σ p0 p1 δ = some r) : CT yX6_push cX6_push 3 (some (.object "Tellcourt$Frame")) 0 0 0 0 [.ref p0, .int p1] σ δ ((some (.ref r.1)), σ, r.2) := CT_of (by decide +kernel) (Nat.le_of_ble_eq_true rfl) (fun J hI => w_X6_push hI σ p0 p1 δ r h rfl)
def m_X8_addToken (σ : St) (p0 : Nat) (p1 : Int32) (p2 : Int32) (p3 : Int32) (p4 : Int32) (p5 : Int64) (p7 : Int64) (δ : Dy) : Option (Int32 × Dy) :=
  (gI σ δ 8 p0 10).bind fun v1 =>
  if v1 < (100 : Int32) then
    (gR σ 8 p0 3).bind fun v2 =>
    (gI σ δ 8 p0 10).bind fun v3 =>
    (wI σ δ v2 v3 p1).bind fun d4 =>
    (gR σ 8 p0 4).bind fun v5 =>
    (gI σ d4 8 p0 10).bind fun v6 =>
    (wI σ d4 v5 v6 p2).bind fun d7 =>
    (gR σ 8 p0 5).bind fun v8 =>
    (gI σ d7 8 p0 10).bind fun v9 =>
    (wI σ d7 v8 v9 p3).bind fun d10 =>
    (gR σ 8 p0 6).bind fun v11 =>
    (gI σ d10 8 p0 10).bind fun v12 =>
    (wZ σ d10 v11 v12 p4).bind fun d13 =>
    (gR σ 8 p0 7).bind fun v14 =>
    (gI σ d13 8 p0 10).bind fun v15 =>
    (wZ σ d13 v14 v15 (1 : Int32)).bind fun d16 =>
    (gR σ 8 p0 8).bind fun v17 =>
    (gI σ d16 8 p0 10).bind fun v18 =>
    (wLo σ d16 v17 v18 p5).bind fun d19 =>
    (gR σ 8 p0 9).bind fun v20 =>
    (gI σ d19 8 p0 10).bind fun v21 =>
    (wLo σ d19 v20 v21 p7).bind fun d22 =>
    (gI σ d22 8 p0 10).bind fun v23 =>
    (pI σ d22 8 p0 10 (v23 + (1 : Int32))).bind fun d24 =>
    (gI σ d24 8 p0 10).bind fun v25 =>
    some ((v25 - (1 : Int32)), d24)
  else
    (pZ σ δ 8 p0 12 (1 : Int32)).bind fun d26 =>
    some ((-1 : Int32), d26)
set_option maxHeartbeats 4000000 in
set_option maxRecDepth 100000 in
theorem w_X8_addToken {J : JT} {an : Option Value × St × Dy} (hI : Isj cX8_addToken 9 RX8 "addToken" 0 0 (some .int) an J) {β : Bu} (σ : St) (p0 : Nat) (p1 : Int32) (p2 : Int32) (p3 : Int32) (p4 : Int32) (p5 : Int64) (p7 : Int64) (δ : Dy) : SJ (m_X8_addToken σ p0 p1 p2 p3 p4 p5 p7 δ) (PI σ an) (J 0 [(0, .ref p0), (1, .int p1), (2, .int p2), (3, .int p3), (4, .int p4), (5, .long p5), (7, .long p7)] [] β σ δ) := by
  have hJ := hI.cor
  unfold m_X8_addToken
  refine sj (j_aload_n hJ dX8_addToken_0 rfl 0 rfl) ?_
  refine sj_gI hJ fl_X8_52 (Or.inl rfl) dX8_addToken_1 (fun v1 => ?_)
  refine sj (j_bipush hJ (v := 100) dX8_addToken_4 ib_100) ?_
  refine sj_if (j_icmp_lt hJ (tgt := 16) dX8_addToken_6 (by decide)) (fun _ => ?_) (fun _ => ?_)
  · refine sj (j_aload_n hJ dX8_addToken_16 rfl 0 rfl) ?_
    refine sj_gR hJ fl_X8_18 rfl dX8_addToken_17 (fun v2 => ?_)
    refine sj (j_aload_n hJ dX8_addToken_20 rfl 0 rfl) ?_
    refine sj_gI hJ fl_X8_52 (Or.inl rfl) dX8_addToken_21 (fun v3 => ?_)
    refine sj (j_iload_n hJ dX8_addToken_24 rfl 1 rfl) ?_
    refine sj_wI hJ dX8_addToken_25 (fun d4 => ?_)
    refine sj (j_aload_n hJ dX8_addToken_26 rfl 0 rfl) ?_
    refine sj_gR hJ fl_X8_21 rfl dX8_addToken_27 (fun v5 => ?_)
    refine sj (j_aload_n hJ dX8_addToken_30 rfl 0 rfl) ?_
    refine sj_gI hJ fl_X8_52 (Or.inl rfl) dX8_addToken_31 (fun v6 => ?_)
    refine sj (j_iload_n hJ dX8_addToken_34 rfl 2 rfl) ?_
    refine sj_wI hJ dX8_addToken_35 (fun d7 => ?_)
    refine sj (j_aload_n hJ dX8_addToken_36 rfl 0 rfl) ?_
    refine sj_gR hJ fl_X8_24 rfl dX8_addToken_37 (fun v8 => ?_)
    refine sj (j_aload_n hJ dX8_addToken_40 rfl 0 rfl) ?_
    refine sj_gI hJ fl_X8_52 (Or.inl rfl) dX8_addToken_41 (fun v9 => ?_)
    refine sj (j_iload_n hJ dX8_addToken_44 rfl 3 rfl) ?_
    refine sj_wI hJ dX8_addToken_45 (fun d10 => ?_)
    refine sj (j_aload_n hJ dX8_addToken_46 rfl 0 rfl) ?_
    refine sj_gR hJ fl_X8_27 rfl dX8_addToken_47 (fun v11 => ?_)
    refine sj (j_aload_n hJ dX8_addToken_50 rfl 0 rfl) ?_
    refine sj_gI hJ fl_X8_52 (Or.inl rfl) dX8_addToken_51 (fun v12 => ?_)
    refine sj (j_iload hJ dX8_addToken_54 4 rfl) ?_
    refine sj_wZ hJ dX8_addToken_56 (fun d13 => ?_)
    refine sj (j_aload_n hJ dX8_addToken_57 rfl 0 rfl) ?_
    refine sj_gR hJ fl_X8_31 rfl dX8_addToken_58 (fun v14 => ?_)
    refine sj (j_aload_n hJ dX8_addToken_61 rfl 0 rfl) ?_
    refine sj_gI hJ fl_X8_52 (Or.inl rfl) dX8_addToken_62 (fun v15 => ?_)
    refine sj (j_iconst hJ (v := 1) dX8_addToken_65 ic_1) ?_
    refine sj_wZ hJ dX8_addToken_66 (fun d16 => ?_)
    refine sj (j_aload_n hJ dX8_addToken_67 rfl 0 rfl) ?_
    refine sj_gR hJ fl_X8_34 rfl dX8_addToken_68 (fun v17 => ?_)
    refine sj (j_aload_n hJ dX8_addToken_71 rfl 0 rfl) ?_
    refine sj_gI hJ fl_X8_52 (Or.inl rfl) dX8_addToken_72 (fun v18 => ?_)
    refine sj (j_lload hJ dX8_addToken_75 5 rfl) ?_
    refine sj_wLo hJ dX8_addToken_77 (fun d19 => ?_)
    refine sj (j_aload_n hJ dX8_addToken_78 rfl 0 rfl) ?_
    refine sj_gR hJ fl_X8_38 rfl dX8_addToken_79 (fun v20 => ?_)
    refine sj (j_aload_n hJ dX8_addToken_82 rfl 0 rfl) ?_
    refine sj_gI hJ fl_X8_52 (Or.inl rfl) dX8_addToken_83 (fun v21 => ?_)
    refine sj (j_lload hJ dX8_addToken_86 6 rfl) ?_
    refine sj_wLo hJ dX8_addToken_88 (fun d22 => ?_)
    refine sj (j_aload_n hJ dX8_addToken_89 rfl 0 rfl) ?_
    refine sj (j_dup hJ dX8_addToken_90 rfl) ?_
    refine sj_gI hJ fl_X8_52 (Or.inl rfl) dX8_addToken_91 (fun v23 => ?_)
    refine sj (j_iconst hJ (v := 1) dX8_addToken_94 ic_1) ?_
    refine sj (j_iadd hJ dX8_addToken_95) ?_
    refine sj_pI hJ fl_X8_52 rfl dX8_addToken_96 (fun d24 => ?_)
    refine sj (j_aload_n hJ dX8_addToken_99 rfl 0 rfl) ?_
    refine sj_gI hJ fl_X8_52 (Or.inl rfl) dX8_addToken_100 (fun v25 => ?_)
    refine sj (j_iconst hJ (v := 1) dX8_addToken_103 ic_1) ?_
    refine sj (j_isub hJ dX8_addToken_104) ?_
    exact sj_iret hI dX8_addToken_105 (fun h => h)
  · refine sj (j_aload_n hJ dX8_addToken_9 rfl 0 rfl) ?_
    refine sj (j_iconst hJ (v := 1) dX8_addToken_10 ic_1) ?_
    refine sj_pZ hJ fl_X8_58 rfl dX8_addToken_11 (fun d26 => ?_)
    refine sj (j_iconst hJ (v := -1) dX8_addToken_14 ic_m1) ?_
    exact sj_iret hI dX8_addToken_15 (fun h => h)
theorem ct_X8_addToken {σ : St} {p0 : Nat} {p1 : Int32} {p2 : Int32} {p3 : Int32} {p4 : Int32} {p5 : Int64} {p7 : Int64} {δ : Dy} {r : (Int32 × Dy)} (h : m_X8_addToken σ p0 p1 p2 p3 p4 p5 p7 δ = some r) : CT yX8_addToken cX8_addToken 9 (some .int) 0 0 0 0 [.ref p0, .int p1, .int p2, .int p3, .int p4, .long p5, .long p7] σ δ ((some (.int r.1)), σ, r.2) := CT_of (by decide +kernel) (Nat.le_of_ble_eq_true rfl) (fun J hI => w_X8_addToken hI σ p0 p1 p2 p3 p4 p5 p7 δ r h rfl)
def m_X6_tellToken (σ : St) (p0 : Nat) (p1 : Int32) (p2 : Int32) (p3 : Int32) (p4 : Int32) (p5 : Int64) (p7 : Int64) (δ : Dy) : Option Dy :=
  (gR σ 6 p0 0).bind fun v1 =>
  (chk σ 8 v1).bind fun _ => (m_X8_addToken σ v1 p1 p2 p3 p4 p5 p7 δ).bind fun v2 =>
  if v2.1 = (-1 : Int32) then
    some v2.2
  else
    (chk σ 6 p0).bind fun _ => (m_X6_push σ p0 (0 : Int32) v2.2).bind fun v3 =>
    (pI σ v3.2 3 v3.1 2 v2.1).bind fun d4 =>
    some d4
set_option maxHeartbeats 4000000 in
set_option maxRecDepth 100000 in
theorem w_X6_tellToken {J : JT} {an : Option Value × St × Dy} (hI : Isj cX6_tellToken 10 RX6 "tellToken" 1 28 none an J) {β : Bu} (σ : St) (p0 : Nat) (p1 : Int32) (p2 : Int32) (p3 : Int32) (p4 : Int32) (p5 : Int64) (p7 : Int64) (δ : Dy) : SJ (m_X6_tellToken σ p0 p1 p2 p3 p4 p5 p7 δ) (PV σ an) (J 0 [(0, .ref p0), (1, .int p1), (2, .int p2), (3, .int p3), (4, .int p4), (5, .long p5), (7, .long p7)] [] β σ δ) := by
  have hJ := hI.cor
  unfold m_X6_tellToken
  refine sj (j_aload_n hJ dX6_tellToken_0 rfl 0 rfl) ?_
  refine sj_gR hJ fl_X6_31 rfl dX6_tellToken_1 (fun v1 => ?_)
  refine sj (j_iload_n hJ dX6_tellToken_4 rfl 1 rfl) ?_
  refine sj (j_iload_n hJ dX6_tellToken_5 rfl 2 rfl) ?_
  refine sj (j_iload_n hJ dX6_tellToken_6 rfl 3 rfl) ?_
  refine sj (j_iload hJ dX6_tellToken_7 4 rfl) ?_
  refine sj (j_lload hJ dX6_tellToken_9 5 rfl) ?_
  refine sj (j_lload hJ dX6_tellToken_11 6 rfl) ?_
  refine sj_callVi hJ [.int p1, .int p2, .int p3, .int p4, .long p5, .long p7] (st := []) (fr' := 0) (lo' := 0) ml_X6_90 hc_8 (by decide) (by decide) (Nat.le_of_ble_eq_true rfl) dX6_tellToken_13 rfl (fun _ h9 => ct_X8_addToken h9) (fun v2 => ?_)
  refine sj (j_istore hJ (L' := [(9, .int v2.1), (0, .ref p0), (1, .int p1), (2, .int p2), (3, .int p3), (4, .int p4), (5, .long p5), (7, .long p7)]) dX6_tellToken_16 (by decide) rfl) ?_
  refine sj (j_iload hJ dX6_tellToken_18 0 rfl) ?_
  refine sj (j_iconst hJ (v := -1) dX6_tellToken_20 ic_m1) ?_
  refine sj_if (j_icmp_eq hJ (tgt := 34) dX6_tellToken_21 (by decide)) (fun _ => ?_) (fun _ => ?_)
  · exact sj_vret hI dX6_tellToken_34 (fun h => h)
  · refine sj (j_aload_n hJ dX6_tellToken_24 rfl 1 rfl) ?_
    refine sj (j_iconst hJ (v := 0) dX6_tellToken_25 ic_0) ?_
    refine sj_callVa hJ [.int (0 : Int32)] (st := []) (fr' := 0) (lo' := 0) ml_X6_94 hc_6 (by decide) (by decide) (Nat.le_of_ble_eq_true rfl) dX6_tellToken_26 rfl (fun _ h9 => ct_X6_push h9) (fun v3 => ?_)
    refine sj (j_iload hJ dX6_tellToken_29 0 rfl) ?_
    refine sj_pI hJ fl_X6_74 rfl dX6_tellToken_31 (fun d4 => ?_)
    exact sj_vret hI dX6_tellToken_34 (fun h => h)
theorem ct_X6_tellToken {σ : St} {p0 : Nat} {p1 : Int32} {p2 : Int32} {p3 : Int32} {p4 : Int32} {p5 : Int64} {p7 : Int64} {δ : Dy} {r : Dy} (h : m_X6_tellToken σ p0 p1 p2 p3 p4 p5 p7 δ = some r) : CT yX6_tellToken cX6_tellToken 10 none 1 28 0 0 [.ref p0, .int p1, .int p2, .int p3, .int p4, .long p5, .long p7] σ δ (none, σ, r) := CT_of (by decide +kernel) (Nat.le_of_ble_eq_true rfl) (fun J hI => w_X6_tellToken hI σ p0 p1 p2 p3 p4 p5 p7 δ r h rfl)
def m_X8_form (σ : St) (p0 : Nat) (p1 : Int32) (δ : Dy) : Option Int32 :=
  if (p1 - (400 : Int32)) < 0 then
    some p1
  else
    (gI σ δ 8 p0 2).bind fun v1 =>
    if (p1 - (400 : Int32)) < v1 then
      (gR σ 8 p0 0).bind fun v2 =>
      (rI σ δ v2 (p1 - (400 : Int32))).bind fun v3 =>
      (gR σ 8 p0 1).bind fun v4 =>
      (rI σ δ v4 v3).bind fun v5 =>
      if v5 = (100 : Int32) then
        some ((400 : Int32) + v3)
      else
        (gR σ 8 p0 1).bind fun v6 =>
        (rI σ δ v6 v3).bind fun v7 =>
        some v7
    else
      some p1
set_option maxHeartbeats 4000000 in
set_option maxRecDepth 100000 in
theorem w_X8_form {J : JT} {an : Option Value × St × Dy} (hI : Isj cX8_form 4 RX8 "form" 0 0 (some .int) an J) {β : Bu} (σ : St) (p0 : Nat) (p1 : Int32) (δ : Dy) : SJ (m_X8_form σ p0 p1 δ) (PIp σ δ an) (J 0 [(0, .ref p0), (1, .int p1)] [] β σ δ) := by
  have hJ := hI.cor
  unfold m_X8_form
  refine sj (j_iload_n hJ dX8_form_0 rfl 1 rfl) ?_
  refine sj (j_sipush hJ (v := 400) dX8_form_1 is_400) ?_
  refine sj (j_isub hJ dX8_form_4) ?_
  refine sj (j_istore_n hJ (L' := [(2, .int (p1 - (400 : Int32))), (0, .ref p0), (1, .int p1)]) dX8_form_5 rfl (by decide) rfl) ?_
  refine sj (j_iload_n hJ dX8_form_6 rfl 0 rfl) ?_
  refine sj_if (j_if_lt hJ (tgt := 18) dX8_form_7 (by decide)) (fun _ => ?_) (fun _ => ?_)
  · refine sj (j_iload_n hJ dX8_form_18 rfl 2 rfl) ?_
    exact sj_iret hI dX8_form_19 (fun h => h)
  · refine sj (j_iload_n hJ dX8_form_10 rfl 0 rfl) ?_
    refine sj (j_aload_n hJ dX8_form_11 rfl 1 rfl) ?_
    refine sj_gI hJ fl_X8_48 (Or.inl rfl) dX8_form_12 (fun v1 => ?_)
    refine sj_if (j_icmp_lt hJ (tgt := 20) dX8_form_15 (by decide)) (fun _ => ?_) (fun _ => ?_)
    · refine sj (j_aload_n hJ dX8_form_20 rfl 1 rfl) ?_
      refine sj_gR hJ fl_X8_9 rfl dX8_form_21 (fun v2 => ?_)
      refine sj (j_iload_n hJ dX8_form_24 rfl 0 rfl) ?_
      refine sj_rI hJ dX8_form_25 (fun v3 => ?_)
      refine sj (j_istore_n hJ (L' := [(3, .int v3), (2, .int (p1 - (400 : Int32))), (0, .ref p0), (1, .int p1)]) dX8_form_26 rfl (by decide) rfl) ?_
      refine sj (j_aload_n hJ dX8_form_27 rfl 2 rfl) ?_
      refine sj_gR hJ fl_X8_15 rfl dX8_form_28 (fun v4 => ?_)
      refine sj (j_iload_n hJ dX8_form_31 rfl 0 rfl) ?_
      refine sj_rI hJ dX8_form_32 (fun v5 => ?_)
      refine sj (j_bipush hJ (v := 100) dX8_form_33 ib_100) ?_
      refine sj_if (j_icmp_eq hJ (tgt := 47) dX8_form_35 (by decide)) (fun _ => ?_) (fun _ => ?_)
      · refine sj (j_sipush hJ (v := 400) dX8_form_47 is_400) ?_
        refine sj (j_iload_n hJ dX8_form_50 rfl 0 rfl) ?_
        refine sj (j_iadd hJ dX8_form_51) ?_
        exact sj_iret hI dX8_form_52 (fun h => h)
      · refine sj (j_aload_n hJ dX8_form_38 rfl 2 rfl) ?_
        refine sj_gR hJ fl_X8_15 rfl dX8_form_39 (fun v6 => ?_)
        refine sj (j_iload_n hJ dX8_form_42 rfl 0 rfl) ?_
        refine sj_rI hJ dX8_form_43 (fun v7 => ?_)
        refine sj (j_goto hJ (tgt := 52) dX8_form_44 (by decide)) ?_
        exact sj_iret hI dX8_form_52 (fun h => h)
    · refine sj (j_iload_n hJ dX8_form_18 rfl 2 rfl) ?_
      exact sj_iret hI dX8_form_19 (fun h => h)
theorem ct_X8_form {σ : St} {p0 : Nat} {p1 : Int32} {δ : Dy} {r : Int32} (h : m_X8_form σ p0 p1 δ = some r) : CT yX8_form cX8_form 4 (some .int) 0 0 0 0 [.ref p0, .int p1] σ δ ((some (.int r)), σ, δ) := CT_of (by decide +kernel) (Nat.le_of_ble_eq_true rfl) (fun J hI => w_X8_form hI σ p0 p1 δ r h rfl)
def m_X8_rootOf (σ : St) (p0 : Nat) (p1 : Int32) (δ : Dy) : Option Int32 :=
  if (p1 - (400 : Int32)) < 0 then
    some (-1 : Int32)
  else
    (gI σ δ 8 p0 2).bind fun v1 =>
    if (p1 - (400 : Int32)) < v1 then
      (gR σ 8 p0 0).bind fun v2 =>
      (rI σ δ v2 (p1 - (400 : Int32))).bind fun v3 =>
      some v3
    else
      some (-1 : Int32)
set_option maxHeartbeats 4000000 in
set_option maxRecDepth 100000 in
theorem w_X8_rootOf {J : JT} {an : Option Value × St × Dy} (hI : Isj cX8_rootOf 3 RX8 "rootOf" 0 0 (some .int) an J) {β : Bu} (σ : St) (p0 : Nat) (p1 : Int32) (δ : Dy) : SJ (m_X8_rootOf σ p0 p1 δ) (PIp σ δ an) (J 0 [(0, .ref p0), (1, .int p1)] [] β σ δ) := by
  have hJ := hI.cor
  unfold m_X8_rootOf
  refine sj (j_iload_n hJ dX8_rootOf_0 rfl 1 rfl) ?_
  refine sj (j_sipush hJ (v := 400) dX8_rootOf_1 is_400) ?_
  refine sj (j_isub hJ dX8_rootOf_4) ?_
  refine sj (j_istore_n hJ (L' := [(2, .int (p1 - (400 : Int32))), (0, .ref p0), (1, .int p1)]) dX8_rootOf_5 rfl (by decide) rfl) ?_
  refine sj (j_iload_n hJ dX8_rootOf_6 rfl 0 rfl) ?_
  refine sj_if (j_if_lt hJ (tgt := 18) dX8_rootOf_7 (by decide)) (fun _ => ?_) (fun _ => ?_)
  · refine sj (j_iconst hJ (v := -1) dX8_rootOf_18 ic_m1) ?_
    refine sj (j_goto hJ (tgt := 28) dX8_rootOf_19 (by decide)) ?_
    exact sj_iret hI dX8_rootOf_28 (fun h => h)
  · refine sj (j_iload_n hJ dX8_rootOf_10 rfl 0 rfl) ?_
    refine sj (j_aload_n hJ dX8_rootOf_11 rfl 1 rfl) ?_
    refine sj_gI hJ fl_X8_48 (Or.inl rfl) dX8_rootOf_12 (fun v1 => ?_)
    refine sj_if (j_icmp_lt hJ (tgt := 22) dX8_rootOf_15 (by decide)) (fun _ => ?_) (fun _ => ?_)
    · refine sj (j_aload_n hJ dX8_rootOf_22 rfl 1 rfl) ?_
      refine sj_gR hJ fl_X8_9 rfl dX8_rootOf_23 (fun v2 => ?_)
      refine sj (j_iload_n hJ dX8_rootOf_26 rfl 0 rfl) ?_
      refine sj_rI hJ dX8_rootOf_27 (fun v3 => ?_)
      exact sj_iret hI dX8_rootOf_28 (fun h => h)
    · refine sj (j_iconst hJ (v := -1) dX8_rootOf_18 ic_m1) ?_
      refine sj (j_goto hJ (tgt := 28) dX8_rootOf_19 (by decide)) ?_
      exact sj_iret hI dX8_rootOf_28 (fun h => h)
theorem ct_X8_rootOf {σ : St} {p0 : Nat} {p1 : Int32} {δ : Dy} {r : Int32} (h : m_X8_rootOf σ p0 p1 δ = some r) : CT yX8_rootOf cX8_rootOf 3 (some .int) 0 0 0 0 [.ref p0, .int p1] σ δ ((some (.int r)), σ, δ) := CT_of (by decide +kernel) (Nat.le_of_ble_eq_true rfl) (fun J hI => w_X8_rootOf hI σ p0 p1 δ r h rfl)
def m_X8_join_b31 (σ : St) (p0 : Nat) (p1 : Int32) (p2 : Int32) (p3 : Int32) (p4 : Int32) (δ : Dy) : Option ((Int32 × Dy) ⊕ (Int32 × Dy)) :=
  some (Sum.inl ((p4 + (1 : Int32)), δ))
def m_X8_join_b3 (σ : St) (p0 : Nat) (p1 : Int32) (p2 : Int32) (p3 : Int32) (p4 : Int32) (δ : Dy) : Option (Int32 × Dy) := lp (fun (s : (Int32 × Dy)) =>
  (gI σ s.2 8 p0 2).bind fun v1 =>
  if v1 ≤ s.1 then
    (gR σ 8 p0 1).bind fun v2 =>
    (wI σ s.2 v2 p1 p3).bind fun d3 =>
    some (Sum.inr (p1, d3))
  else
    (gR σ 8 p0 0).bind fun v4 =>
    (rI σ s.2 v4 s.1).bind fun v5 =>
    if v5 = p2 then
      (gR σ 8 p0 0).bind fun v6 =>
      (wI σ s.2 v6 s.1 p1).bind fun d7 =>
      m_X8_join_b31 σ p0 p1 p2 p3 s.1 d7
    else
      m_X8_join_b31 σ p0 p1 p2 p3 s.1 s.2) (p4, δ)
def m_X8_join (σ : St) (p0 : Nat) (p1 : Int32) (p2 : Int32) (p3 : Int32) (δ : Dy) : Option (Int32 × Dy) :=
  m_X8_join_b3 σ p0 p1 p2 p3 (0 : Int32) δ
set_option maxHeartbeats 4000000 in
set_option maxRecDepth 100000 in
theorem w_X8_join_b31 {J : JT} {an : Option Value × St × Dy} (hI : Isj cX8_join 5 RX8 "join" 0 0 (some .int) an J) {β : Bu} (σ : St) (p0 : Nat) (p1 : Int32) (p2 : Int32) (p3 : Int32) (p4 : Int32) (δ : Dy) : SJ (m_X8_join_b31 σ p0 p1 p2 p3 p4 δ) (PL (fun s : (Int32 × Dy) => J 3 [(0, .ref p0), (1, .int p1), (2, .int p2), (3, .int p3), (4, .int s.1)] [] β σ s.2) (PI σ an)) (J 31 [(0, .ref p0), (1, .int p1), (2, .int p2), (3, .int p3), (4, .int p4)] [] β σ δ) := by
  have hJ := hI.cor
  unfold m_X8_join_b31
  refine sj (j_iinc hJ (L' := [(4, .int (p4 + (1 : Int32))), (0, .ref p0), (1, .int p1), (2, .int p2), (3, .int p3)]) dX8_join_31 4 rfl (congrArg (fun z => p4 + z) ic_1) (by decide) rfl) ?_
  refine sj (j_goto hJ (tgt := 3) dX8_join_34 (by decide)) ?_
  refine sj (j_sub hJ (L' := [(0, .ref p0), (1, .int p1), (2, .int p2), (3, .int p3), (4, .int (p4 + (1 : Int32)))]) [1, 2, 3, 4, 0] rfl) ?_
  exact sj_end (fun h => h)
set_option maxHeartbeats 4000000 in
set_option maxRecDepth 100000 in
theorem w_X8_join_b3 {J : JT} {an : Option Value × St × Dy} (hI : Isj cX8_join 5 RX8 "join" 0 0 (some .int) an J) {β : Bu} (σ : St) (p0 : Nat) (p1 : Int32) (p2 : Int32) (p3 : Int32) (p4 : Int32) (δ : Dy) : SJ (m_X8_join_b3 σ p0 p1 p2 p3 p4 δ) (PI σ an) (J 3 [(0, .ref p0), (1, .int p1), (2, .int p2), (3, .int p3), (4, .int p4)] [] β σ δ) := by
  have hJ := hI.cor
  unfold m_X8_join_b3
  refine sj_lp (G := fun s : (Int32 × Dy) => J 3 [(0, .ref p0), (1, .int p1), (2, .int p2), (3, .int p3), (4, .int s.1)] [] β σ s.2) (fun s => ?_) (p4, δ)
  refine sj (j_iload hJ dX8_join_3 4 rfl) ?_
  refine sj (j_aload_n hJ dX8_join_5 rfl 0 rfl) ?_
  refine sj_gI hJ fl_X8_48 (Or.inl rfl) dX8_join_6 (fun v1 => ?_)
  refine sj_if (j_icmp_ge hJ (tgt := 37) dX8_join_9 (by decide)) (fun _ => ?_) (fun _ => ?_)
  · refine sj (j_aload_n hJ dX8_join_37 rfl 0 rfl) ?_
    refine sj_gR hJ fl_X8_15 rfl dX8_join_38 (fun v2 => ?_)
    refine sj (j_iload_n hJ dX8_join_41 rfl 1 rfl) ?_
    refine sj (j_iload_n hJ dX8_join_42 rfl 3 rfl) ?_
    refine sj_wI hJ dX8_join_43 (fun d3 => ?_)
    refine sj (j_iload_n hJ dX8_join_44 rfl 1 rfl) ?_
    exact sj_iret hI dX8_join_45 (fun h => h)
  · refine sj (j_aload_n hJ dX8_join_12 rfl 0 rfl) ?_
    refine sj_gR hJ fl_X8_9 rfl dX8_join_13 (fun v4 => ?_)
    refine sj (j_iload hJ dX8_join_16 4 rfl) ?_
    refine sj_rI hJ dX8_join_18 (fun v5 => ?_)
    refine sj (j_iload_n hJ dX8_join_19 rfl 2 rfl) ?_
    refine sj_if (j_icmp_ne hJ (tgt := 31) dX8_join_20 (by decide)) (fun _ => ?_) (fun _ => ?_)
    · refine sj (j_aload_n hJ dX8_join_23 rfl 0 rfl) ?_
      refine sj_gR hJ fl_X8_9 rfl dX8_join_24 (fun v6 => ?_)
      refine sj (j_iload hJ dX8_join_27 4 rfl) ?_
      refine sj (j_iload_n hJ dX8_join_29 rfl 1 rfl) ?_
      refine sj_wI hJ dX8_join_30 (fun d7 => ?_)
      exact w_X8_join_b31 hI σ p0 p1 p2 p3 s.1 d7
    · exact w_X8_join_b31 hI σ p0 p1 p2 p3 s.1 s.2
set_option maxHeartbeats 4000000 in
set_option maxRecDepth 100000 in
theorem w_X8_join {J : JT} {an : Option Value × St × Dy} (hI : Isj cX8_join 5 RX8 "join" 0 0 (some .int) an J) {β : Bu} (σ : St) (p0 : Nat) (p1 : Int32) (p2 : Int32) (p3 : Int32) (δ : Dy) : SJ (m_X8_join σ p0 p1 p2 p3 δ) (PI σ an) (J 0 [(0, .ref p0), (1, .int p1), (2, .int p2), (3, .int p3)] [] β σ δ) := by
  have hJ := hI.cor
  unfold m_X8_join
  refine sj (j_iconst hJ (v := 0) dX8_join_0 ic_0) ?_
  refine sj (j_istore hJ (L' := [(4, .int (0 : Int32)), (0, .ref p0), (1, .int p1), (2, .int p2), (3, .int p3)]) dX8_join_1 (by decide) rfl) ?_
  refine sj (j_sub hJ (L' := [(0, .ref p0), (1, .int p1), (2, .int p2), (3, .int p3), (4, .int (0 : Int32))]) [1, 2, 3, 4, 0] rfl) ?_
  exact w_X8_join_b3 hI σ p0 p1 p2 p3 (0 : Int32) δ
theorem ct_X8_join {σ : St} {p0 : Nat} {p1 : Int32} {p2 : Int32} {p3 : Int32} {δ : Dy} {r : (Int32 × Dy)} (h : m_X8_join σ p0 p1 p2 p3 δ = some r) : CT yX8_join cX8_join 5 (some .int) 0 0 0 0 [.ref p0, .int p1, .int p2, .int p3] σ δ ((some (.int r.1)), σ, r.2) := CT_of (by decide +kernel) (Nat.le_of_ble_eq_true rfl) (fun J hI => w_X8_join hI σ p0 p1 p2 p3 δ r h rfl)
def m_X8_unite_b125 (σ : St) (p0 : Nat) (p5 : Int32) (p6 : Int32) (p7 : Int32) (δ : Dy) : Option (Int32 × Dy) :=
  (gR σ 8 p0 1).bind fun v5 =>
  (rI σ δ v5 (if p5 < p6 then p6 else p5)).bind fun v6 =>
  if v6 = (100 : Int32) then
    (gR σ 8 p0 1).bind fun v7 =>
    (wI σ δ v7 (if p5 < p6 then p6 else p5) p7).bind fun d8 =>
    some ((if p5 < p6 then p6 else p5), d8)
  else
    some ((-1 : Int32), δ)
def m_X8_unite_b90 (σ : St) (p0 : Nat) (p5 : Int32) (p6 : Int32) (q0 : Int32) (δ : Dy) : Option (Int32 × Dy) :=
  if p5 = (-1 : Int32) then
    m_X8_unite_b125 σ p0 p5 p6 q0 δ
  else
    if p6 = (-1 : Int32) then
      m_X8_unite_b125 σ p0 p5 p6 q0 δ
    else
      (chk σ 8 p0).bind fun _ => (m_X8_join σ p0 (if p6 < p5 then p6 else p5) (if p5 < p6 then p6 else p5) q0 δ).bind fun v9 =>
      some (v9.1, v9.2)
def m_X8_unite_b41 (σ : St) (p0 : Nat) (p1 : Int32) (p2 : Int32) (p3 : Int32) (p4 : Int32) (δ : Dy) : Option (Int32 × Dy) :=
  (chk σ 8 p0).bind fun _ => (m_X8_rootOf σ p0 p1 δ).bind fun v3 =>
  (chk σ 8 p0).bind fun _ => (m_X8_rootOf σ p0 p2 δ).bind fun v4 =>
  if v3 = v4 then
    some ((-1 : Int32), δ)
  else
    if (400 : Int32) ≤ p3 then
      if (400 : Int32) ≤ p4 then
        m_X8_unite_b90 σ p0 v3 v4 (100 : Int32) δ
      else
        m_X8_unite_b90 σ p0 v3 v4 p4 δ
    else
      m_X8_unite_b90 σ p0 v3 v4 p3 δ
def m_X8_unite (σ : St) (p0 : Nat) (p1 : Int32) (p2 : Int32) (δ : Dy) : Option (Int32 × Dy) :=
  (chk σ 8 p0).bind fun _ => (m_X8_form σ p0 p1 δ).bind fun v1 =>
  (chk σ 8 p0).bind fun _ => (m_X8_form σ p0 p2 δ).bind fun v2 =>
  if (400 : Int32) ≤ v1 then
    m_X8_unite_b41 σ p0 p1 p2 v1 v2 δ
  else
    if (400 : Int32) ≤ v2 then
      m_X8_unite_b41 σ p0 p1 p2 v1 v2 δ
    else
      if v1 = v2 then
        m_X8_unite_b41 σ p0 p1 p2 v1 v2 δ
      else
        (pZ σ δ 8 p0 12 (1 : Int32)).bind fun d10 =>
        some ((-1 : Int32), d10)
set_option maxHeartbeats 4000000 in
set_option maxRecDepth 100000 in
theorem w_X8_unite_b125 {J : JT} {an : Option Value × St × Dy} (hI : Isj cX8_unite 9 RX8 "unite" 1 24 (some .int) an J) {β : Bu} (σ : St) (p0 : Nat) (p5 : Int32) (p6 : Int32) (p7 : Int32) (δ : Dy) : SJ (m_X8_unite_b125 σ p0 p5 p6 p7 δ) (PI σ an) (J 125 [(0, .ref p0), (5, .int p5), (6, .int p6), (7, .int p7)] [] β σ δ) := by
  have hJ := hI.cor
  unfold m_X8_unite_b125
  refine sj (j_iload hJ dX8_unite_125 1 rfl) ?_
  refine sj (j_iload hJ dX8_unite_127 2 rfl) ?_
  refine sj (j_mmax hJ mm_X8_92 (by decide) (by decide) (Nat.le_of_ble_eq_true rfl) dX8_unite_129) ?_
  refine sj (j_istore hJ (L' := [(8, .int (if p5 < p6 then p6 else p5)), (0, .ref p0), (5, .int p5), (6, .int p6), (7, .int p7)]) dX8_unite_132 (by decide) rfl) ?_
  refine sj (j_aload_n hJ dX8_unite_134 rfl 1 rfl) ?_
  refine sj_gR hJ fl_X8_15 rfl dX8_unite_135 (fun v5 => ?_)
  refine sj (j_iload hJ dX8_unite_138 0 rfl) ?_
  refine sj_rI hJ dX8_unite_140 (fun v6 => ?_)
  refine sj (j_bipush hJ (v := 100) dX8_unite_141 ib_100) ?_
  refine sj_if (j_icmp_eq hJ (tgt := 148) dX8_unite_143 (by decide)) (fun _ => ?_) (fun _ => ?_)
  · refine sj (j_aload_n hJ dX8_unite_148 rfl 1 rfl) ?_
    refine sj_gR hJ fl_X8_15 rfl dX8_unite_149 (fun v7 => ?_)
    refine sj (j_iload hJ dX8_unite_152 0 rfl) ?_
    refine sj (j_iload hJ dX8_unite_154 4 rfl) ?_
    refine sj_wI hJ dX8_unite_156 (fun d8 => ?_)
    refine sj (j_iload hJ dX8_unite_157 0 rfl) ?_
    exact sj_iret hI dX8_unite_159 (fun h => h)
  · refine sj (j_iconst hJ (v := -1) dX8_unite_146 ic_m1) ?_
    exact sj_iret hI dX8_unite_147 (fun h => h)
set_option maxHeartbeats 4000000 in
set_option maxRecDepth 100000 in
theorem w_X8_unite_b90 {J : JT} {an : Option Value × St × Dy} (hI : Isj cX8_unite 9 RX8 "unite" 1 24 (some .int) an J) {β : Bu} (σ : St) (p0 : Nat) (p5 : Int32) (p6 : Int32) (q0 : Int32) (δ : Dy) : SJ (m_X8_unite_b90 σ p0 p5 p6 q0 δ) (PI σ an) (J 90 [(0, .ref p0), (5, .int p5), (6, .int p6)] [.int q0] β σ δ) := by
  have hJ := hI.cor
  unfold m_X8_unite_b90
  refine sj (j_istore hJ (L' := [(7, .int q0), (0, .ref p0), (5, .int p5), (6, .int p6)]) dX8_unite_90 (by decide) rfl) ?_
  refine sj (j_iload hJ dX8_unite_92 2 rfl) ?_
  refine sj (j_iconst hJ (v := -1) dX8_unite_94 ic_m1) ?_
  refine sj_if (j_icmp_eq hJ (tgt := 125) dX8_unite_95 (by decide)) (fun _ => ?_) (fun _ => ?_)
  · refine sj (j_sub hJ (L' := [(0, .ref p0), (5, .int p5), (6, .int p6), (7, .int q0)]) [1, 2, 3, 0] rfl) ?_
    exact w_X8_unite_b125 hI σ p0 p5 p6 q0 δ
  · refine sj (j_iload hJ dX8_unite_98 3 rfl) ?_
    refine sj (j_iconst hJ (v := -1) dX8_unite_100 ic_m1) ?_
    refine sj_if (j_icmp_eq hJ (tgt := 125) dX8_unite_101 (by decide)) (fun _ => ?_) (fun _ => ?_)
    · refine sj (j_sub hJ (L' := [(0, .ref p0), (5, .int p5), (6, .int p6), (7, .int q0)]) [1, 2, 3, 0] rfl) ?_
      exact w_X8_unite_b125 hI σ p0 p5 p6 q0 δ
    · refine sj (j_aload_n hJ dX8_unite_104 rfl 1 rfl) ?_
      refine sj (j_iload hJ dX8_unite_105 2 rfl) ?_
      refine sj (j_iload hJ dX8_unite_107 3 rfl) ?_
      refine sj (j_mmin hJ mm_X8_86 (by decide) (by decide) (Nat.le_of_ble_eq_true rfl) dX8_unite_109) ?_
      refine sj (j_iload hJ dX8_unite_112 2 rfl) ?_
      refine sj (j_iload hJ dX8_unite_114 3 rfl) ?_
      refine sj (j_mmax hJ mm_X8_92 (by decide) (by decide) (Nat.le_of_ble_eq_true rfl) dX8_unite_116) ?_
      refine sj (j_iload hJ dX8_unite_119 0 rfl) ?_
      refine sj_callVi hJ [.int (if p6 < p5 then p6 else p5), .int (if p5 < p6 then p6 else p5), .int q0] (st := []) (fr' := 0) (lo' := 0) ml_X8_95 hc_8 (by decide) (by decide) (Nat.le_of_ble_eq_true rfl) dX8_unite_121 rfl (fun _ h9 => ct_X8_join h9) (fun v9 => ?_)
      exact sj_iret hI dX8_unite_124 (fun h => h)
set_option maxHeartbeats 4000000 in
set_option maxRecDepth 100000 in
theorem w_X8_unite_b41 {J : JT} {an : Option Value × St × Dy} (hI : Isj cX8_unite 9 RX8 "unite" 1 24 (some .int) an J) {β : Bu} (σ : St) (p0 : Nat) (p1 : Int32) (p2 : Int32) (p3 : Int32) (p4 : Int32) (δ : Dy) : SJ (m_X8_unite_b41 σ p0 p1 p2 p3 p4 δ) (PI σ an) (J 41 [(0, .ref p0), (1, .int p1), (2, .int p2), (3, .int p3), (4, .int p4)] [] β σ δ) := by
  have hJ := hI.cor
  unfold m_X8_unite_b41
  refine sj (j_aload_n hJ dX8_unite_41 rfl 0 rfl) ?_
  refine sj (j_iload_n hJ dX8_unite_42 rfl 1 rfl) ?_
  refine sj_callVip hJ [.int p1] (st := []) (fr' := 0) (lo' := 0) ml_X8_83 hc_8 (by decide) (by decide) (Nat.le_of_ble_eq_true rfl) dX8_unite_43 rfl (fun _ h9 => ct_X8_rootOf h9) (fun v3 => ?_)
  refine sj (j_istore hJ (L' := [(5, .int v3), (0, .ref p0), (1, .int p1), (2, .int p2), (3, .int p3), (4, .int p4)]) dX8_unite_46 (by decide) rfl) ?_
  refine sj (j_aload_n hJ dX8_unite_48 rfl 1 rfl) ?_
  refine sj (j_iload_n hJ dX8_unite_49 rfl 3 rfl) ?_
  refine sj_callVip hJ [.int p2] (st := []) (fr' := 0) (lo' := 0) ml_X8_83 hc_8 (by decide) (by decide) (Nat.le_of_ble_eq_true rfl) dX8_unite_50 rfl (fun _ h9 => ct_X8_rootOf h9) (fun v4 => ?_)
  refine sj (j_istore hJ (L' := [(6, .int v4), (5, .int v3), (0, .ref p0), (1, .int p1), (2, .int p2), (3, .int p3), (4, .int p4)]) dX8_unite_53 (by decide) rfl) ?_
  refine sj (j_iload hJ dX8_unite_55 1 rfl) ?_
  refine sj (j_iload hJ dX8_unite_57 0 rfl) ?_
  refine sj_if (j_icmp_ne hJ (tgt := 64) dX8_unite_59 (by decide)) (fun _ => ?_) (fun _ => ?_)
  · refine sj (j_iconst hJ (v := -1) dX8_unite_62 ic_m1) ?_
    exact sj_iret hI dX8_unite_63 (fun h => h)
  · refine sj (j_iload_n hJ dX8_unite_64 rfl 5 rfl) ?_
    refine sj (j_sipush hJ (v := 400) dX8_unite_65 is_400) ?_
    refine sj_if (j_icmp_ge hJ (tgt := 75) dX8_unite_68 (by decide)) (fun _ => ?_) (fun _ => ?_)
    · refine sj (j_iload hJ dX8_unite_75 6 rfl) ?_
      refine sj (j_sipush hJ (v := 400) dX8_unite_77 is_400) ?_
      refine sj_if (j_icmp_ge hJ (tgt := 88) dX8_unite_80 (by decide)) (fun _ => ?_) (fun _ => ?_)
      · refine sj (j_bipush hJ (v := 100) dX8_unite_88 ib_100) ?_
        refine sj (j_sub hJ (L' := [(0, .ref p0), (5, .int v3), (6, .int v4)]) [2, 1, 0] rfl) ?_
        exact w_X8_unite_b90 hI σ p0 v3 v4 (100 : Int32) δ
      · refine sj (j_iload hJ dX8_unite_83 6 rfl) ?_
        refine sj (j_goto hJ (tgt := 90) dX8_unite_85 (by decide)) ?_
        refine sj (j_sub hJ (L' := [(0, .ref p0), (5, .int v3), (6, .int v4)]) [2, 1, 0] rfl) ?_
        exact w_X8_unite_b90 hI σ p0 v3 v4 p4 δ
    · refine sj (j_iload_n hJ dX8_unite_71 rfl 5 rfl) ?_
      refine sj (j_goto hJ (tgt := 90) dX8_unite_72 (by decide)) ?_
      refine sj (j_sub hJ (L' := [(0, .ref p0), (5, .int v3), (6, .int v4)]) [2, 1, 0] rfl) ?_
      exact w_X8_unite_b90 hI σ p0 v3 v4 p3 δ
set_option maxHeartbeats 4000000 in
set_option maxRecDepth 100000 in
theorem w_X8_unite {J : JT} {an : Option Value × St × Dy} (hI : Isj cX8_unite 9 RX8 "unite" 1 24 (some .int) an J) {β : Bu} (σ : St) (p0 : Nat) (p1 : Int32) (p2 : Int32) (δ : Dy) : SJ (m_X8_unite σ p0 p1 p2 δ) (PI σ an) (J 0 [(0, .ref p0), (1, .int p1), (2, .int p2)] [] β σ δ) := by
  have hJ := hI.cor
  unfold m_X8_unite
  refine sj (j_aload_n hJ dX8_unite_0 rfl 0 rfl) ?_
  refine sj (j_iload_n hJ dX8_unite_1 rfl 1 rfl) ?_
  refine sj_callVip hJ [.int p1] (st := []) (fr' := 0) (lo' := 0) ml_X8_79 hc_8 (by decide) (by decide) (Nat.le_of_ble_eq_true rfl) dX8_unite_2 rfl (fun _ h9 => ct_X8_form h9) (fun v1 => ?_)
  refine sj (j_istore_n hJ (L' := [(3, .int v1), (0, .ref p0), (1, .int p1), (2, .int p2)]) dX8_unite_5 rfl (by decide) rfl) ?_
  refine sj (j_aload_n hJ dX8_unite_6 rfl 1 rfl) ?_
  refine sj (j_iload_n hJ dX8_unite_7 rfl 3 rfl) ?_
  refine sj_callVip hJ [.int p2] (st := []) (fr' := 0) (lo' := 0) ml_X8_79 hc_8 (by decide) (by decide) (Nat.le_of_ble_eq_true rfl) dX8_unite_8 rfl (fun _ h9 => ct_X8_form h9) (fun v2 => ?_)
  refine sj (j_istore hJ (L' := [(4, .int v2), (3, .int v1), (0, .ref p0), (1, .int p1), (2, .int p2)]) dX8_unite_11 (by decide) rfl) ?_
  refine sj (j_iload_n hJ dX8_unite_13 rfl 1 rfl) ?_
  refine sj (j_sipush hJ (v := 400) dX8_unite_14 is_400) ?_
  refine sj_if (j_icmp_ge hJ (tgt := 41) dX8_unite_17 (by decide)) (fun _ => ?_) (fun _ => ?_)
  · refine sj (j_sub hJ (L' := [(0, .ref p0), (1, .int p1), (2, .int p2), (3, .int v1), (4, .int v2)]) [2, 3, 4, 1, 0] rfl) ?_
    exact w_X8_unite_b41 hI σ p0 p1 p2 v1 v2 δ
  · refine sj (j_iload hJ dX8_unite_20 0 rfl) ?_
    refine sj (j_sipush hJ (v := 400) dX8_unite_22 is_400) ?_
    refine sj_if (j_icmp_ge hJ (tgt := 41) dX8_unite_25 (by decide)) (fun _ => ?_) (fun _ => ?_)
    · refine sj (j_sub hJ (L' := [(0, .ref p0), (1, .int p1), (2, .int p2), (3, .int v1), (4, .int v2)]) [2, 3, 4, 1, 0] rfl) ?_
      exact w_X8_unite_b41 hI σ p0 p1 p2 v1 v2 δ
    · refine sj (j_iload_n hJ dX8_unite_28 rfl 1 rfl) ?_
      refine sj (j_iload hJ dX8_unite_29 0 rfl) ?_
      refine sj_if (j_icmp_eq hJ (tgt := 41) dX8_unite_31 (by decide)) (fun _ => ?_) (fun _ => ?_)
      · refine sj (j_sub hJ (L' := [(0, .ref p0), (1, .int p1), (2, .int p2), (3, .int v1), (4, .int v2)]) [2, 3, 4, 1, 0] rfl) ?_
        exact w_X8_unite_b41 hI σ p0 p1 p2 v1 v2 δ
      · refine sj (j_aload_n hJ dX8_unite_34 rfl 2 rfl) ?_
        refine sj (j_iconst hJ (v := 1) dX8_unite_35 ic_1) ?_
        refine sj_pZ hJ fl_X8_58 rfl dX8_unite_36 (fun d10 => ?_)
        refine sj (j_iconst hJ (v := -1) dX8_unite_39 ic_m1) ?_
        exact sj_iret hI dX8_unite_40 (fun h => h)
theorem ct_X8_unite {σ : St} {p0 : Nat} {p1 : Int32} {p2 : Int32} {δ : Dy} {r : (Int32 × Dy)} (h : m_X8_unite σ p0 p1 p2 δ = some r) : CT yX8_unite cX8_unite 9 (some .int) 1 24 0 0 [.ref p0, .int p1, .int p2] σ δ ((some (.int r.1)), σ, r.2) := CT_of (by decide +kernel) (Nat.le_of_ble_eq_true rfl) (fun J hI => w_X8_unite hI σ p0 p1 p2 δ r h rfl)
def m_X8_isTouched (σ : St) (p0 : Nat) (p1 : Int32) (p2 : Int32) (δ : Dy) : Option Int32 :=
  (gR σ 8 p0 7).bind fun v1 =>
  (rZ σ δ v1 p1).bind fun v2 =>
  if v2 = 0 then
    some (0 : Int32)
  else
    (gR σ 8 p0 4).bind fun v3 =>
    (rI σ δ v3 p1).bind fun v4 =>
    (chk σ 8 p0).bind fun _ => (m_X8_rootOf σ p0 v4 δ).bind fun v5 =>
    if v5 = p2 then
      some (1 : Int32)
    else
      (gR σ 8 p0 5).bind fun v6 =>
      (rI σ δ v6 p1).bind fun v7 =>
      (chk σ 8 p0).bind fun _ => (m_X8_rootOf σ p0 v7 δ).bind fun v8 =>
      if v8 = p2 then
        some (1 : Int32)
      else
        some (0 : Int32)
set_option maxHeartbeats 4000000 in
set_option maxRecDepth 100000 in
theorem w_X8_isTouched {J : JT} {an : Option Value × St × Dy} (hI : Isj cX8_isTouched 3 RX8 "isTouched" 1 22 (some .boolean) an J) {β : Bu} (σ : St) (p0 : Nat) (p1 : Int32) (p2 : Int32) (δ : Dy) : SJ (m_X8_isTouched σ p0 p1 p2 δ) (PIp σ δ an) (J 0 [(0, .ref p0), (1, .int p1), (2, .int p2)] [] β σ δ) := by
  have hJ := hI.cor
  unfold m_X8_isTouched
  refine sj (j_aload_n hJ dX8_isTouched_0 rfl 0 rfl) ?_
  refine sj_gR hJ fl_X8_31 rfl dX8_isTouched_1 (fun v1 => ?_)
  refine sj (j_iload_n hJ dX8_isTouched_4 rfl 1 rfl) ?_
  refine sj_rZ hJ dX8_isTouched_5 (fun v2 => ?_)
  refine sj_if (j_if_eq hJ (tgt := 41) dX8_isTouched_6 (by decide)) (fun _ => ?_) (fun _ => ?_)
  · refine sj (j_iconst hJ (v := 0) dX8_isTouched_41 ic_0) ?_
    exact sj_zret hI (by decide) dX8_isTouched_42 (fun h => h)
  · refine sj (j_aload_n hJ dX8_isTouched_9 rfl 0 rfl) ?_
    refine sj (j_aload_n hJ dX8_isTouched_10 rfl 0 rfl) ?_
    refine sj_gR hJ fl_X8_21 rfl dX8_isTouched_11 (fun v3 => ?_)
    refine sj (j_iload_n hJ dX8_isTouched_14 rfl 1 rfl) ?_
    refine sj_rI hJ dX8_isTouched_15 (fun v4 => ?_)
    refine sj_callVip hJ [.int v4] (st := []) (fr' := 0) (lo' := 0) ml_X8_83 hc_8 (by decide) (by decide) (Nat.le_of_ble_eq_true rfl) dX8_isTouched_16 rfl (fun _ h9 => ct_X8_rootOf h9) (fun v5 => ?_)
    refine sj (j_iload_n hJ dX8_isTouched_19 rfl 2 rfl) ?_
    refine sj_if (j_icmp_eq hJ (tgt := 37) dX8_isTouched_20 (by decide)) (fun _ => ?_) (fun _ => ?_)
    · refine sj (j_iconst hJ (v := 1) dX8_isTouched_37 ic_1) ?_
      refine sj (j_goto hJ (tgt := 42) dX8_isTouched_38 (by decide)) ?_
      exact sj_zret hI (by decide) dX8_isTouched_42 (fun h => h)
    · refine sj (j_aload_n hJ dX8_isTouched_23 rfl 0 rfl) ?_
      refine sj (j_aload_n hJ dX8_isTouched_24 rfl 0 rfl) ?_
      refine sj_gR hJ fl_X8_24 rfl dX8_isTouched_25 (fun v6 => ?_)
      refine sj (j_iload_n hJ dX8_isTouched_28 rfl 1 rfl) ?_
      refine sj_rI hJ dX8_isTouched_29 (fun v7 => ?_)
      refine sj_callVip hJ [.int v7] (st := []) (fr' := 0) (lo' := 0) ml_X8_83 hc_8 (by decide) (by decide) (Nat.le_of_ble_eq_true rfl) dX8_isTouched_30 rfl (fun _ h9 => ct_X8_rootOf h9) (fun v8 => ?_)
      refine sj (j_iload_n hJ dX8_isTouched_33 rfl 2 rfl) ?_
      refine sj_if (j_icmp_ne hJ (tgt := 41) dX8_isTouched_34 (by decide)) (fun _ => ?_) (fun _ => ?_)
      · refine sj (j_iconst hJ (v := 1) dX8_isTouched_37 ic_1) ?_
        refine sj (j_goto hJ (tgt := 42) dX8_isTouched_38 (by decide)) ?_
        exact sj_zret hI (by decide) dX8_isTouched_42 (fun h => h)
      · refine sj (j_iconst hJ (v := 0) dX8_isTouched_41 ic_0) ?_
        exact sj_zret hI (by decide) dX8_isTouched_42 (fun h => h)
theorem ct_X8_isTouched {σ : St} {p0 : Nat} {p1 : Int32} {p2 : Int32} {δ : Dy} {r : Int32} (h : m_X8_isTouched σ p0 p1 p2 δ = some r) : CT yX8_isTouched cX8_isTouched 3 (some .boolean) 1 22 0 0 [.ref p0, .int p1, .int p2] σ δ ((some (.int r)), σ, δ) := CT_of (by decide +kernel) (Nat.le_of_ble_eq_true rfl) (fun J hI => w_X8_isTouched hI σ p0 p1 p2 δ r h rfl)
def m_X6_tellEqual_b81 (σ : St) (p0 : Nat) (p3 : Int32) (p4 : Nat) (p5 : Int32) (δ : Dy) : Option ((Int32 × Dy) ⊕ Dy) :=
  some (Sum.inl ((p5 + (1 : Int32)), δ))
def m_X6_tellEqual_b26 (σ : St) (p0 : Nat) (p3 : Int32) (p4 : Nat) (p5 : Int32) (δ : Dy) : Option Dy := lp (fun (s : (Int32 × Dy)) =>
  (gR σ 6 p0 0).bind fun v4 =>
  (gI σ s.2 8 v4 10).bind fun v5 =>
  if v5 ≤ s.1 then
    some (Sum.inr s.2)
  else
    (gR σ 6 p0 0).bind fun v6 =>
    (chk σ 8 v6).bind fun _ => (m_X8_isTouched σ v6 s.1 p3 s.2).bind fun v7 =>
    if v7 = 0 then
      m_X6_tellEqual_b81 σ p0 p3 p4 s.1 s.2
    else
      (gL σ s.2 3 p4 7).bind fun v8 =>
      (m_X8_lowBit σ s.1 s.2).bind fun v9 =>
      (pL σ s.2 3 p4 7 (v8 ||| v9)).bind fun d10 =>
      (gL σ d10 3 p4 8).bind fun v11 =>
      (m_X8_highBit σ s.1 d10).bind fun v12 =>
      (pL σ d10 3 p4 8 (v11 ||| v12)).bind fun d13 =>
      m_X6_tellEqual_b81 σ p0 p3 p4 s.1 d13) (p5, δ)
def m_X6_tellEqual (σ : St) (p0 : Nat) (p1 : Int32) (p2 : Int32) (δ : Dy) : Option Dy :=
  (gR σ 6 p0 0).bind fun v1 =>
  (chk σ 8 v1).bind fun _ => (m_X8_unite σ v1 p1 p2 δ).bind fun v2 =>
  if v2.1 = (-1 : Int32) then
    some v2.2
  else
    (chk σ 6 p0).bind fun _ => (m_X6_push σ p0 (1 : Int32) v2.2).bind fun v3 =>
    m_X6_tellEqual_b26 σ p0 v2.1 v3.1 (0 : Int32) v3.2
set_option maxHeartbeats 4000000 in
set_option maxRecDepth 100000 in
theorem w_X6_tellEqual_b81 {J : JT} {an : Option Value × St × Dy} (hI : Isj cX6_tellEqual 6 RX6 "tellEqual" 2 52 none an J) {β : Bu} (σ : St) (p0 : Nat) (p3 : Int32) (p4 : Nat) (p5 : Int32) (δ : Dy) : SJ (m_X6_tellEqual_b81 σ p0 p3 p4 p5 δ) (PL (fun s : (Int32 × Dy) => J 26 [(0, .ref p0), (3, .int p3), (4, .ref p4), (5, .int s.1)] [] β σ s.2) (PV σ an)) (J 81 [(0, .ref p0), (3, .int p3), (4, .ref p4), (5, .int p5)] [] β σ δ) := by
  have hJ := hI.cor
  unfold m_X6_tellEqual_b81
  refine sj (j_iinc hJ (L' := [(5, .int (p5 + (1 : Int32))), (0, .ref p0), (3, .int p3), (4, .ref p4)]) dX6_tellEqual_81 3 rfl (congrArg (fun z => p5 + z) ic_1) (by decide) rfl) ?_
  refine sj (j_goto hJ (tgt := 26) dX6_tellEqual_84 (by decide)) ?_
  refine sj (j_sub hJ (L' := [(0, .ref p0), (3, .int p3), (4, .ref p4), (5, .int (p5 + (1 : Int32)))]) [1, 2, 3, 0] rfl) ?_
  exact sj_end (fun h => h)
set_option maxHeartbeats 4000000 in
set_option maxRecDepth 100000 in
theorem w_X6_tellEqual_b26 {J : JT} {an : Option Value × St × Dy} (hI : Isj cX6_tellEqual 6 RX6 "tellEqual" 2 52 none an J) {β : Bu} (σ : St) (p0 : Nat) (p3 : Int32) (p4 : Nat) (p5 : Int32) (δ : Dy) : SJ (m_X6_tellEqual_b26 σ p0 p3 p4 p5 δ) (PV σ an) (J 26 [(0, .ref p0), (3, .int p3), (4, .ref p4), (5, .int p5)] [] β σ δ) := by
  have hJ := hI.cor
  unfold m_X6_tellEqual_b26
  refine sj_lp (G := fun s : (Int32 × Dy) => J 26 [(0, .ref p0), (3, .int p3), (4, .ref p4), (5, .int s.1)] [] β σ s.2) (fun s => ?_) (p5, δ)
  refine sj (j_iload hJ dX6_tellEqual_26 3 rfl) ?_
  refine sj (j_aload_n hJ dX6_tellEqual_28 rfl 0 rfl) ?_
  refine sj_gR hJ fl_X6_31 rfl dX6_tellEqual_29 (fun v4 => ?_)
  refine sj_gI hJ fl_X6_102 (Or.inl rfl) dX6_tellEqual_32 (fun v5 => ?_)
  refine sj_if (j_icmp_ge hJ (tgt := 87) dX6_tellEqual_35 (by decide)) (fun _ => ?_) (fun _ => ?_)
  · exact sj_vret hI dX6_tellEqual_87 (fun h => h)
  · refine sj (j_aload_n hJ dX6_tellEqual_38 rfl 0 rfl) ?_
    refine sj_gR hJ fl_X6_31 rfl dX6_tellEqual_39 (fun v6 => ?_)
    refine sj (j_iload hJ dX6_tellEqual_42 3 rfl) ?_
    refine sj (j_iload_n hJ dX6_tellEqual_44 rfl 1 rfl) ?_
    refine sj_callVip hJ [.int s.1, .int p3] (st := []) (fr' := 1) (lo' := 22) ml_X6_105 hc_8 (by decide) (by decide) (Nat.le_of_ble_eq_true rfl) dX6_tellEqual_45 rfl (fun _ h9 => ct_X8_isTouched h9) (fun v7 => ?_)
    refine sj_if (j_if_eq hJ (tgt := 81) dX6_tellEqual_48 (by decide)) (fun _ => ?_) (fun _ => ?_)
    · exact w_X6_tellEqual_b81 hI σ p0 p3 p4 s.1 s.2
    · refine sj (j_aload hJ dX6_tellEqual_51 2 rfl) ?_
      refine sj (j_dup hJ dX6_tellEqual_53 rfl) ?_
      refine sj_gL hJ fl_X6_83 rfl dX6_tellEqual_54 (fun v8 => ?_)
      refine sj (j_iload hJ dX6_tellEqual_57 3 rfl) ?_
      refine sj_callSlp hJ [.int s.1] (st := [.long v8, .ref p4]) (fr' := 0) (lo' := 0) ml_X6_109 (by decide) (by decide) (Nat.le_of_ble_eq_true rfl) dX6_tellEqual_59 rfl (fun _ h9 => ct_X8_lowBit h9) (fun v9 => ?_)
      refine sj (j_lor hJ dX6_tellEqual_62) ?_
      refine sj_pL hJ fl_X6_83 rfl dX6_tellEqual_63 (fun d10 => ?_)
      refine sj (j_aload hJ dX6_tellEqual_66 2 rfl) ?_
      refine sj (j_dup hJ dX6_tellEqual_68 rfl) ?_
      refine sj_gL hJ fl_X6_87 rfl dX6_tellEqual_69 (fun v11 => ?_)
      refine sj (j_iload hJ dX6_tellEqual_72 3 rfl) ?_
      refine sj_callSlp hJ [.int s.1] (st := [.long v11, .ref p4]) (fr' := 0) (lo' := 0) ml_X6_113 (by decide) (by decide) (Nat.le_of_ble_eq_true rfl) dX6_tellEqual_74 rfl (fun _ h9 => ct_X8_highBit h9) (fun v12 => ?_)
      refine sj (j_lor hJ dX6_tellEqual_77) ?_
      refine sj_pL hJ fl_X6_87 rfl dX6_tellEqual_78 (fun d13 => ?_)
      exact w_X6_tellEqual_b81 hI σ p0 p3 p4 s.1 d13
set_option maxHeartbeats 4000000 in
set_option maxRecDepth 100000 in
theorem w_X6_tellEqual {J : JT} {an : Option Value × St × Dy} (hI : Isj cX6_tellEqual 6 RX6 "tellEqual" 2 52 none an J) {β : Bu} (σ : St) (p0 : Nat) (p1 : Int32) (p2 : Int32) (δ : Dy) : SJ (m_X6_tellEqual σ p0 p1 p2 δ) (PV σ an) (J 0 [(0, .ref p0), (1, .int p1), (2, .int p2)] [] β σ δ) := by
  have hJ := hI.cor
  unfold m_X6_tellEqual
  refine sj (j_aload_n hJ dX6_tellEqual_0 rfl 0 rfl) ?_
  refine sj_gR hJ fl_X6_31 rfl dX6_tellEqual_1 (fun v1 => ?_)
  refine sj (j_iload_n hJ dX6_tellEqual_4 rfl 1 rfl) ?_
  refine sj (j_iload_n hJ dX6_tellEqual_5 rfl 2 rfl) ?_
  refine sj_callVi hJ [.int p1, .int p2] (st := []) (fr' := 1) (lo' := 24) ml_X6_98 hc_8 (by decide) (by decide) (Nat.le_of_ble_eq_true rfl) dX6_tellEqual_6 rfl (fun _ h9 => ct_X8_unite h9) (fun v2 => ?_)
  refine sj (j_istore_n hJ (L' := [(3, .int v2.1), (0, .ref p0), (1, .int p1), (2, .int p2)]) dX6_tellEqual_9 rfl (by decide) rfl) ?_
  refine sj (j_iload_n hJ dX6_tellEqual_10 rfl 0 rfl) ?_
  refine sj (j_iconst hJ (v := -1) dX6_tellEqual_11 ic_m1) ?_
  refine sj_if (j_icmp_ne hJ (tgt := 16) dX6_tellEqual_12 (by decide)) (fun _ => ?_) (fun _ => ?_)
  · exact sj_vret hI dX6_tellEqual_15 (fun h => h)
  · refine sj (j_aload_n hJ dX6_tellEqual_16 rfl 1 rfl) ?_
    refine sj (j_iconst hJ (v := 1) dX6_tellEqual_17 ic_1) ?_
    refine sj_callVa hJ [.int (1 : Int32)] (st := []) (fr' := 0) (lo' := 0) ml_X6_94 hc_6 (by decide) (by decide) (Nat.le_of_ble_eq_true rfl) dX6_tellEqual_18 rfl (fun _ h9 => ct_X6_push h9) (fun v3 => ?_)
    refine sj (j_astore hJ (L' := [(4, .ref v3.1), (3, .int v2.1), (0, .ref p0), (1, .int p1), (2, .int p2)]) dX6_tellEqual_21 (by decide) rfl) ?_
    refine sj (j_iconst hJ (v := 0) dX6_tellEqual_23 ic_0) ?_
    refine sj (j_istore hJ (L' := [(5, .int (0 : Int32)), (4, .ref v3.1), (3, .int v2.1), (0, .ref p0), (1, .int p1), (2, .int p2)]) dX6_tellEqual_24 (by decide) rfl) ?_
    refine sj (j_sub hJ (L' := [(0, .ref p0), (3, .int v2.1), (4, .ref v3.1), (5, .int (0 : Int32))]) [3, 2, 1, 0] rfl) ?_
    exact w_X6_tellEqual_b26 hI σ p0 v2.1 v3.1 (0 : Int32) v3.2
theorem ct_X6_tellEqual {σ : St} {p0 : Nat} {p1 : Int32} {p2 : Int32} {δ : Dy} {r : Dy} (h : m_X6_tellEqual σ p0 p1 p2 δ = some r) : CT yX6_tellEqual cX6_tellEqual 6 none 2 52 0 0 [.ref p0, .int p1, .int p2] σ δ (none, σ, r) := CT_of (by decide +kernel) (Nat.le_of_ble_eq_true rfl) (fun J hI => w_X6_tellEqual hI σ p0 p1 p2 δ r h rfl)
def m_X8_isIn (σ : St) (p0 : Int32) (p1 : Int64) (p3 : Int64) (δ : Dy) : Option Int32 :=
  (m_X8_lowBit σ p0 δ).bind fun v1 =>
  (m_X8_highBit σ p0 δ).bind fun v2 =>
  if (lg_cmp ((v1 &&& p1) ||| (v2 &&& p3)) (0 : Int64)) = 0 then
    some (0 : Int32)
  else
    some (1 : Int32)
set_option maxHeartbeats 4000000 in
set_option maxRecDepth 100000 in
theorem w_X8_isIn {J : JT} {an : Option Value × St × Dy} (hI : Isj cX8_isIn 5 RX8 "isIn" 1 20 (some .boolean) an J) {β : Bu} (σ : St) (p0 : Int32) (p1 : Int64) (p3 : Int64) (δ : Dy) : SJ (m_X8_isIn σ p0 p1 p3 δ) (PIp σ δ an) (J 0 [(0, .int p0), (1, .long p1), (3, .long p3)] [] β σ δ) := by
  have hJ := hI.cor
  unfold m_X8_isIn
  refine sj (j_iload_n hJ dX8_isIn_0 rfl 0 rfl) ?_
  refine sj_callSlp hJ [.int p0] (st := []) (fr' := 0) (lo' := 0) ml_X8_41 (by decide) (by decide) (Nat.le_of_ble_eq_true rfl) dX8_isIn_1 rfl (fun _ h9 => ct_X8_lowBit h9) (fun v1 => ?_)
  refine sj (j_lload_n hJ dX8_isIn_4 rfl 1 rfl) ?_
  refine sj (j_land hJ dX8_isIn_5) ?_
  refine sj (j_iload_n hJ dX8_isIn_6 rfl 0 rfl) ?_
  refine sj_callSlp hJ [.int p0] (st := [.long (v1 &&& p1)]) (fr' := 0) (lo' := 0) ml_X8_45 (by decide) (by decide) (Nat.le_of_ble_eq_true rfl) dX8_isIn_7 rfl (fun _ h9 => ct_X8_highBit h9) (fun v2 => ?_)
  refine sj (j_lload_n hJ dX8_isIn_10 rfl 2 rfl) ?_
  refine sj (j_land hJ dX8_isIn_11) ?_
  refine sj (j_lor hJ dX8_isIn_12) ?_
  refine sj (j_lconst hJ (v := 0) dX8_isIn_13 rfl) ?_
  refine sj (j_lcmp hJ dX8_isIn_14) ?_
  refine sj_if (j_if_eq hJ (tgt := 22) dX8_isIn_15 (by decide)) (fun _ => ?_) (fun _ => ?_)
  · refine sj (j_iconst hJ (v := 0) dX8_isIn_22 ic_0) ?_
    exact sj_zret hI (by decide) dX8_isIn_23 (fun h => h)
  · refine sj (j_iconst hJ (v := 1) dX8_isIn_18 ic_1) ?_
    refine sj (j_goto hJ (tgt := 23) dX8_isIn_19 (by decide)) ?_
    exact sj_zret hI (by decide) dX8_isIn_23 (fun h => h)
theorem ct_X8_isIn {σ : St} {p0 : Int32} {p1 : Int64} {p3 : Int64} {δ : Dy} {r : Int32} (h : m_X8_isIn σ p0 p1 p3 δ = some r) : CT yX8_isIn cX8_isIn 5 (some .boolean) 1 20 0 0 [.int p0, .long p1, .long p3] σ δ ((some (.int r)), σ, δ) := CT_of (by decide +kernel) (Nat.le_of_ble_eq_true rfl) (fun J hI => w_X8_isIn hI σ p0 p1 p3 δ r h rfl)
def m_X6_advanceWaking_b60 (σ : St) (p0 : Nat) (p1 : Nat) (p2 : Int32) (δ : Dy) : Option ((Int32) ⊕ Dy) :=
  some (Sum.inl (p2 + (1 : Int32)))
def m_X6_advanceWaking_b5 (σ : St) (p0 : Nat) (p1 : Nat) (p2 : Int32) (δ : Dy) : Option Dy := lp (fun (s : (Int32)) =>
  (gR σ 6 p0 0).bind fun v2 =>
  (gI σ δ 8 v2 10).bind fun v3 =>
  if v3 ≤ s then
    (gI σ δ 6 p0 3).bind fun v4 =>
    (pI σ δ 6 p0 3 (v4 - (1 : Int32))).bind fun d5 =>
    some (Sum.inr d5)
  else
    (gL σ δ 3 p1 7).bind fun v6 =>
    (gL σ δ 3 p1 8).bind fun v7 =>
    (m_X8_isIn σ s v6 v7 δ).bind fun v8 =>
    if v8 = 0 then
      m_X6_advanceWaking_b60 σ p0 p1 s δ
    else
      (gR σ 6 p0 0).bind fun v9 =>
      (gR σ 8 v9 7).bind fun v10 =>
      (rZ σ δ v10 s).bind fun v11 =>
      if v11 = 0 then
        m_X6_advanceWaking_b60 σ p0 p1 s δ
      else
        (pI σ δ 3 p1 2 (s + (1 : Int32))).bind fun d12 =>
        (chk σ 6 p0).bind fun _ => (m_X6_push σ p0 (0 : Int32) d12).bind fun v13 =>
        (pI σ v13.2 3 v13.1 2 s).bind fun d14 =>
        some (Sum.inr d14)) (p2)
def m_X6_advanceWaking (σ : St) (p0 : Nat) (p1 : Nat) (δ : Dy) : Option Dy :=
  (gI σ δ 3 p1 2).bind fun v1 =>
  m_X6_advanceWaking_b5 σ p0 p1 v1 δ
set_option maxHeartbeats 4000000 in
set_option maxRecDepth 100000 in
theorem w_X6_advanceWaking_b60 {J : JT} {an : Option Value × St × Dy} (hI : Isj cX6_advanceWaking 3 RX6 "advanceWaking" 2 44 none an J) {β : Bu} (σ : St) (p0 : Nat) (p1 : Nat) (p2 : Int32) (δ : Dy) : SJ (m_X6_advanceWaking_b60 σ p0 p1 p2 δ) (PL (fun s : (Int32) => J 5 [(0, .ref p0), (1, .ref p1), (2, .int s)] [] β σ δ) (PV σ an)) (J 60 [(0, .ref p0), (1, .ref p1), (2, .int p2)] [] β σ δ) := by
  have hJ := hI.cor
  unfold m_X6_advanceWaking_b60
  refine sj (j_iinc hJ (L' := [(2, .int (p2 + (1 : Int32))), (0, .ref p0), (1, .ref p1)]) dX6_advanceWaking_60 2 rfl (congrArg (fun z => p2 + z) ic_1) (by decide) rfl) ?_
  refine sj (j_goto hJ (tgt := 5) dX6_advanceWaking_63 (by decide)) ?_
  refine sj (j_sub hJ (L' := [(0, .ref p0), (1, .ref p1), (2, .int (p2 + (1 : Int32)))]) [1, 2, 0] rfl) ?_
  exact sj_end (fun h => h)
set_option maxHeartbeats 4000000 in
set_option maxRecDepth 100000 in
theorem w_X6_advanceWaking_b5 {J : JT} {an : Option Value × St × Dy} (hI : Isj cX6_advanceWaking 3 RX6 "advanceWaking" 2 44 none an J) {β : Bu} (σ : St) (p0 : Nat) (p1 : Nat) (p2 : Int32) (δ : Dy) : SJ (m_X6_advanceWaking_b5 σ p0 p1 p2 δ) (PV σ an) (J 5 [(0, .ref p0), (1, .ref p1), (2, .int p2)] [] β σ δ) := by
  have hJ := hI.cor
  unfold m_X6_advanceWaking_b5
  refine sj_lp (G := fun s : (Int32) => J 5 [(0, .ref p0), (1, .ref p1), (2, .int s)] [] β σ δ) (fun s => ?_) (p2)
  refine sj (j_iload_n hJ dX6_advanceWaking_5 rfl 2 rfl) ?_
  refine sj (j_aload_n hJ dX6_advanceWaking_6 rfl 0 rfl) ?_
  refine sj_gR hJ fl_X6_31 rfl dX6_advanceWaking_7 (fun v2 => ?_)
  refine sj_gI hJ fl_X6_102 (Or.inl rfl) dX6_advanceWaking_10 (fun v3 => ?_)
  refine sj_if (j_icmp_ge hJ (tgt := 66) dX6_advanceWaking_13 (by decide)) (fun _ => ?_) (fun _ => ?_)
  · refine sj (j_aload_n hJ dX6_advanceWaking_66 rfl 0 rfl) ?_
    refine sj (j_dup hJ dX6_advanceWaking_67 rfl) ?_
    refine sj_gI hJ fl_X6_40 (Or.inl rfl) dX6_advanceWaking_68 (fun v4 => ?_)
    refine sj (j_iconst hJ (v := 1) dX6_advanceWaking_71 ic_1) ?_
    refine sj (j_isub hJ dX6_advanceWaking_72) ?_
    refine sj_pI hJ fl_X6_40 rfl dX6_advanceWaking_73 (fun d5 => ?_)
    exact sj_vret hI dX6_advanceWaking_76 (fun h => h)
  · refine sj (j_iload_n hJ dX6_advanceWaking_16 rfl 2 rfl) ?_
    refine sj (j_aload_n hJ dX6_advanceWaking_17 rfl 1 rfl) ?_
    refine sj_gL hJ fl_X6_83 rfl dX6_advanceWaking_18 (fun v6 => ?_)
    refine sj (j_aload_n hJ dX6_advanceWaking_21 rfl 1 rfl) ?_
    refine sj_gL hJ fl_X6_87 rfl dX6_advanceWaking_22 (fun v7 => ?_)
    refine sj_callSip hJ [.int s, .long v6, .long v7] (st := []) (fr' := 1) (lo' := 20) ml_X6_233 (by decide) (by decide) (Nat.le_of_ble_eq_true rfl) dX6_advanceWaking_25 rfl (fun _ h9 => ct_X8_isIn h9) (fun v8 => ?_)
    refine sj_if (j_if_eq hJ (tgt := 60) dX6_advanceWaking_28 (by decide)) (fun _ => ?_) (fun _ => ?_)
    · exact w_X6_advanceWaking_b60 hI σ p0 p1 s δ
    · refine sj (j_aload_n hJ dX6_advanceWaking_31 rfl 0 rfl) ?_
      refine sj_gR hJ fl_X6_31 rfl dX6_advanceWaking_32 (fun v9 => ?_)
      refine sj_gR hJ fl_X6_126 rfl dX6_advanceWaking_35 (fun v10 => ?_)
      refine sj (j_iload_n hJ dX6_advanceWaking_38 rfl 2 rfl) ?_
      refine sj_rZ hJ dX6_advanceWaking_39 (fun v11 => ?_)
      refine sj_if (j_if_eq hJ (tgt := 60) dX6_advanceWaking_40 (by decide)) (fun _ => ?_) (fun _ => ?_)
      · exact w_X6_advanceWaking_b60 hI σ p0 p1 s δ
      · refine sj (j_aload_n hJ dX6_advanceWaking_43 rfl 1 rfl) ?_
        refine sj (j_iload_n hJ dX6_advanceWaking_44 rfl 2 rfl) ?_
        refine sj (j_iconst hJ (v := 1) dX6_advanceWaking_45 ic_1) ?_
        refine sj (j_iadd hJ dX6_advanceWaking_46) ?_
        refine sj_pI hJ fl_X6_74 rfl dX6_advanceWaking_47 (fun d12 => ?_)
        refine sj (j_aload_n hJ dX6_advanceWaking_50 rfl 0 rfl) ?_
        refine sj (j_iconst hJ (v := 0) dX6_advanceWaking_51 ic_0) ?_
        refine sj_callVa hJ [.int (0 : Int32)] (st := []) (fr' := 0) (lo' := 0) ml_X6_94 hc_6 (by decide) (by decide) (Nat.le_of_ble_eq_true rfl) dX6_advanceWaking_52 rfl (fun _ h9 => ct_X6_push h9) (fun v13 => ?_)
        refine sj (j_iload_n hJ dX6_advanceWaking_55 rfl 2 rfl) ?_
        refine sj_pI hJ fl_X6_74 rfl dX6_advanceWaking_56 (fun d14 => ?_)
        exact sj_vret hI dX6_advanceWaking_59 (fun h => h)
set_option maxHeartbeats 4000000 in
set_option maxRecDepth 100000 in
theorem w_X6_advanceWaking {J : JT} {an : Option Value × St × Dy} (hI : Isj cX6_advanceWaking 3 RX6 "advanceWaking" 2 44 none an J) {β : Bu} (σ : St) (p0 : Nat) (p1 : Nat) (δ : Dy) : SJ (m_X6_advanceWaking σ p0 p1 δ) (PV σ an) (J 0 [(0, .ref p0), (1, .ref p1)] [] β σ δ) := by
  have hJ := hI.cor
  unfold m_X6_advanceWaking
  refine sj (j_aload_n hJ dX6_advanceWaking_0 rfl 1 rfl) ?_
  refine sj_gI hJ fl_X6_74 (Or.inl rfl) dX6_advanceWaking_1 (fun v1 => ?_)
  refine sj (j_istore_n hJ (L' := [(2, .int v1), (0, .ref p0), (1, .ref p1)]) dX6_advanceWaking_4 rfl (by decide) rfl) ?_
  refine sj (j_sub hJ (L' := [(0, .ref p0), (1, .ref p1), (2, .int v1)]) [1, 2, 0] rfl) ?_
  exact w_X6_advanceWaking_b5 hI σ p0 p1 v1 δ
theorem ct_X6_advanceWaking {σ : St} {p0 : Nat} {p1 : Nat} {δ : Dy} {r : Dy} (h : m_X6_advanceWaking σ p0 p1 δ = some r) : CT yX6_advanceWaking cX6_advanceWaking 3 none 2 44 0 0 [.ref p0, .ref p1] σ δ (none, σ, r) := CT_of (by decide +kernel) (Nat.le_of_ble_eq_true rfl) (fun J hI => w_X6_advanceWaking hI σ p0 p1 δ r h rfl)
def m_X6_isPartner_b50 (σ : St) (q0 : Int32) (q1 : Nat) (q2 : Int32) (δ : Dy) : Option Int32 :=
  (rI σ δ q1 q2).bind fun v9 =>
  if q0 = v9 then
    some (1 : Int32)
  else
    some (0 : Int32)
def m_X6_isPartner (σ : St) (p0 : Nat) (p1 : Nat) (p2 : Int32) (p3 : Int32) (p4 : Int32) (δ : Dy) : Option Int32 :=
  (gI σ δ 7 p1 5).bind fun v1 =>
  if v1 < (2 : Int32) then
    some (1 : Int32)
  else
    if p4 = p3 then
      some (0 : Int32)
    else
      (gR σ 6 p0 0).bind fun v2 =>
      (gR σ 8 v2 7).bind fun v3 =>
      (rZ σ δ v3 p4).bind fun v4 =>
      if v4 = 0 then
        some (0 : Int32)
      else
        (gR σ 6 p0 0).bind fun v5 =>
        (gR σ 8 v5 3).bind fun v6 =>
        (rI σ δ v6 p4).bind fun v7 =>
        (gR σ 7 p1 0).bind fun v8 =>
        if p2 = 0 then
          m_X6_isPartner_b50 σ v7 v8 (1 : Int32) δ
        else
          m_X6_isPartner_b50 σ v7 v8 (0 : Int32) δ
set_option maxHeartbeats 4000000 in
set_option maxRecDepth 100000 in
theorem w_X6_isPartner_b50 {J : JT} {an : Option Value × St × Dy} (hI : Isj cX6_isPartner 5 RX6 "isPartner" 0 0 (some .boolean) an J) {β : Bu} (σ : St) (q0 : Int32) (q1 : Nat) (q2 : Int32) (δ : Dy) : SJ (m_X6_isPartner_b50 σ q0 q1 q2 δ) (PIp σ δ an) (J 50 [] [.int q2, .ref q1, .int q0] β σ δ) := by
  have hJ := hI.cor
  unfold m_X6_isPartner_b50
  refine sj_rI hJ dX6_isPartner_50 (fun v9 => ?_)
  refine sj_if (j_icmp_ne hJ (tgt := 58) dX6_isPartner_51 (by decide)) (fun _ => ?_) (fun _ => ?_)
  · refine sj (j_iconst hJ (v := 1) dX6_isPartner_54 ic_1) ?_
    refine sj (j_goto hJ (tgt := 59) dX6_isPartner_55 (by decide)) ?_
    exact sj_zret hI (by decide) dX6_isPartner_59 (fun h => h)
  · refine sj (j_iconst hJ (v := 0) dX6_isPartner_58 ic_0) ?_
    exact sj_zret hI (by decide) dX6_isPartner_59 (fun h => h)
set_option maxHeartbeats 4000000 in
set_option maxRecDepth 100000 in
theorem w_X6_isPartner {J : JT} {an : Option Value × St × Dy} (hI : Isj cX6_isPartner 5 RX6 "isPartner" 0 0 (some .boolean) an J) {β : Bu} (σ : St) (p0 : Nat) (p1 : Nat) (p2 : Int32) (p3 : Int32) (p4 : Int32) (δ : Dy) : SJ (m_X6_isPartner σ p0 p1 p2 p3 p4 δ) (PIp σ δ an) (J 0 [(0, .ref p0), (1, .ref p1), (2, .int p2), (3, .int p3), (4, .int p4)] [] β σ δ) := by
  have hJ := hI.cor
  unfold m_X6_isPartner
  refine sj (j_aload_n hJ dX6_isPartner_0 rfl 1 rfl) ?_
  refine sj_gI hJ fl_X6_130 (Or.inl rfl) dX6_isPartner_1 (fun v1 => ?_)
  refine sj (j_iconst hJ (v := 2) dX6_isPartner_4 ic_2) ?_
  refine sj_if (j_icmp_lt hJ (tgt := 54) dX6_isPartner_5 (by decide)) (fun _ => ?_) (fun _ => ?_)
  · refine sj (j_iconst hJ (v := 1) dX6_isPartner_54 ic_1) ?_
    refine sj (j_goto hJ (tgt := 59) dX6_isPartner_55 (by decide)) ?_
    exact sj_zret hI (by decide) dX6_isPartner_59 (fun h => h)
  · refine sj (j_iload hJ dX6_isPartner_8 4 rfl) ?_
    refine sj (j_iload_n hJ dX6_isPartner_10 rfl 3 rfl) ?_
    refine sj_if (j_icmp_eq hJ (tgt := 58) dX6_isPartner_11 (by decide)) (fun _ => ?_) (fun _ => ?_)
    · refine sj (j_iconst hJ (v := 0) dX6_isPartner_58 ic_0) ?_
      exact sj_zret hI (by decide) dX6_isPartner_59 (fun h => h)
    · refine sj (j_aload_n hJ dX6_isPartner_14 rfl 0 rfl) ?_
      refine sj_gR hJ fl_X6_31 rfl dX6_isPartner_15 (fun v2 => ?_)
      refine sj_gR hJ fl_X6_126 rfl dX6_isPartner_18 (fun v3 => ?_)
      refine sj (j_iload hJ dX6_isPartner_21 4 rfl) ?_
      refine sj_rZ hJ dX6_isPartner_23 (fun v4 => ?_)
      refine sj_if (j_if_eq hJ (tgt := 58) dX6_isPartner_24 (by decide)) (fun _ => ?_) (fun _ => ?_)
      · refine sj (j_iconst hJ (v := 0) dX6_isPartner_58 ic_0) ?_
        exact sj_zret hI (by decide) dX6_isPartner_59 (fun h => h)
      · refine sj (j_aload_n hJ dX6_isPartner_27 rfl 0 rfl) ?_
        refine sj_gR hJ fl_X6_31 rfl dX6_isPartner_28 (fun v5 => ?_)
        refine sj_gR hJ fl_X6_138 rfl dX6_isPartner_31 (fun v6 => ?_)
        refine sj (j_iload hJ dX6_isPartner_34 4 rfl) ?_
        refine sj_rI hJ dX6_isPartner_36 (fun v7 => ?_)
        refine sj (j_aload_n hJ dX6_isPartner_37 rfl 1 rfl) ?_
        refine sj_gR hJ fl_X6_135 rfl dX6_isPartner_38 (fun v8 => ?_)
        refine sj (j_iload_n hJ dX6_isPartner_41 rfl 2 rfl) ?_
        refine sj_if (j_if_ne hJ (tgt := 49) dX6_isPartner_42 (by decide)) (fun _ => ?_) (fun _ => ?_)
        · refine sj (j_iconst hJ (v := 1) dX6_isPartner_45 ic_1) ?_
          refine sj (j_goto hJ (tgt := 50) dX6_isPartner_46 (by decide)) ?_
          refine sj (j_sub hJ (L' := []) [] rfl) ?_
          exact w_X6_isPartner_b50 hI σ v7 v8 (1 : Int32) δ
        · refine sj (j_iconst hJ (v := 0) dX6_isPartner_49 ic_0) ?_
          refine sj (j_sub hJ (L' := []) [] rfl) ?_
          exact w_X6_isPartner_b50 hI σ v7 v8 (0 : Int32) δ
theorem ct_X6_isPartner {σ : St} {p0 : Nat} {p1 : Nat} {p2 : Int32} {p3 : Int32} {p4 : Int32} {δ : Dy} {r : Int32} (h : m_X6_isPartner σ p0 p1 p2 p3 p4 δ = some r) : CT yX6_isPartner cX6_isPartner 5 (some .boolean) 0 0 0 0 [.ref p0, .ref p1, .int p2, .int p3, .int p4] σ δ ((some (.int r)), σ, δ) := CT_of (by decide +kernel) (Nat.le_of_ble_eq_true rfl) (fun J hI => w_X6_isPartner hI σ p0 p1 p2 p3 p4 δ r h rfl)
def m_X6_historyRow (σ : St) (p0 : Int32) (p1 : Int32) (p2 : Int32) (δ : Dy) : Option Int32 :=
  if (64 : Int32) ≤ p2 then
    some (((2 : Int32) * ((p0 * (100 : Int32)) + p1)) + (1 : Int32))
  else
    some (((2 : Int32) * ((p0 * (100 : Int32)) + p1)) + (0 : Int32))
set_option maxHeartbeats 4000000 in
set_option maxRecDepth 100000 in
theorem w_X6_historyRow {J : JT} {an : Option Value × St × Dy} (hI : Isj cX6_historyRow 3 RX6 "historyRow" 0 0 (some .int) an J) {β : Bu} (σ : St) (p0 : Int32) (p1 : Int32) (p2 : Int32) (δ : Dy) : SJ (m_X6_historyRow σ p0 p1 p2 δ) (PIp σ δ an) (J 0 [(0, .int p0), (1, .int p1), (2, .int p2)] [] β σ δ) := by
  have hJ := hI.cor
  unfold m_X6_historyRow
  refine sj (j_iconst hJ (v := 2) dX6_historyRow_0 ic_2) ?_
  refine sj (j_iload_n hJ dX6_historyRow_1 rfl 0 rfl) ?_
  refine sj (j_bipush hJ (v := 100) dX6_historyRow_2 ib_100) ?_
  refine sj (j_imul hJ dX6_historyRow_4) ?_
  refine sj (j_iload_n hJ dX6_historyRow_5 rfl 1 rfl) ?_
  refine sj (j_iadd hJ dX6_historyRow_6) ?_
  refine sj (j_imul hJ dX6_historyRow_7) ?_
  refine sj (j_iload_n hJ dX6_historyRow_8 rfl 2 rfl) ?_
  refine sj (j_bipush hJ (v := 64) dX6_historyRow_9 ib_64) ?_
  refine sj_if (j_icmp_ge hJ (tgt := 18) dX6_historyRow_11 (by decide)) (fun _ => ?_) (fun _ => ?_)
  · refine sj (j_iconst hJ (v := 1) dX6_historyRow_18 ic_1) ?_
    refine sj (j_iadd hJ dX6_historyRow_19) ?_
    exact sj_iret hI dX6_historyRow_20 (fun h => h)
  · refine sj (j_iconst hJ (v := 0) dX6_historyRow_14 ic_0) ?_
    refine sj (j_goto hJ (tgt := 19) dX6_historyRow_15 (by decide)) ?_
    refine sj (j_iadd hJ dX6_historyRow_19) ?_
    exact sj_iret hI dX6_historyRow_20 (fun h => h)
theorem ct_X6_historyRow {σ : St} {p0 : Int32} {p1 : Int32} {p2 : Int32} {δ : Dy} {r : Int32} (h : m_X6_historyRow σ p0 p1 p2 δ = some r) : CT yX6_historyRow cX6_historyRow 3 (some .int) 0 0 0 0 [.int p0, .int p1, .int p2] σ δ ((some (.int r)), σ, δ) := CT_of (by decide +kernel) (Nat.le_of_ble_eq_true rfl) (fun J hI => w_X6_historyRow hI σ p0 p1 p2 δ r h rfl)
def m_X6_historyBit (σ : St) (p0 : Int32) (δ : Dy) : Option Int64 :=
  if 0 ≤ p0 then
    some ((1 : Int64) <<< (((p0 &&& (63 : Int32))).toInt64 &&& 63))
  else
    some (1 : Int64)
set_option maxHeartbeats 4000000 in
set_option maxRecDepth 100000 in
theorem w_X6_historyBit {J : JT} {an : Option Value × St × Dy} (hI : Isj cX6_historyBit 1 RX6 "historyBit" 0 0 (some .long) an J) {β : Bu} (σ : St) (p0 : Int32) (δ : Dy) : SJ (m_X6_historyBit σ p0 δ) (PJp σ δ an) (J 0 [(0, .int p0)] [] β σ δ) := by
  have hJ := hI.cor
  unfold m_X6_historyBit
  refine sj (j_iload_n hJ dX6_historyBit_0 rfl 0 rfl) ?_
  refine sj_if (j_if_ge hJ (tgt := 8) dX6_historyBit_1 (by decide)) (fun _ => ?_) (fun _ => ?_)
  · refine sj (j_lconst hJ (v := 1) dX6_historyBit_8 rfl) ?_
    refine sj (j_iload_n hJ dX6_historyBit_9 rfl 0 rfl) ?_
    refine sj (j_bipush hJ (v := 63) dX6_historyBit_10 ib_63) ?_
    refine sj (j_iand hJ dX6_historyBit_12) ?_
    refine sj (j_lshl hJ dX6_historyBit_13) ?_
    exact sj_lret hI dX6_historyBit_14 (fun h => h)
  · refine sj (j_lconst hJ (v := 1) dX6_historyBit_4 rfl) ?_
    refine sj (j_goto hJ (tgt := 14) dX6_historyBit_5 (by decide)) ?_
    exact sj_lret hI dX6_historyBit_14 (fun h => h)
theorem ct_X6_historyBit {σ : St} {p0 : Int32} {δ : Dy} {r : Int64} (h : m_X6_historyBit σ p0 δ = some r) : CT yX6_historyBit cX6_historyBit 1 (some .long) 0 0 0 0 [.int p0] σ δ ((some (.long r)), σ, δ) := CT_of (by decide +kernel) (Nat.le_of_ble_eq_true rfl) (fun J hI => w_X6_historyBit hI σ p0 δ r h rfl)
def m_X6_isNew (σ : St) (p0 : Nat) (p1 : Int32) (p2 : Int32) (p3 : Int32) (δ : Dy) : Option Int32 :=
  (gR σ 6 p0 5).bind fun v1 =>
  (m_X6_historyRow σ p1 p2 p3 δ).bind fun v2 =>
  (rL σ δ v1 v2).bind fun v3 =>
  (m_X6_historyBit σ p3 δ).bind fun v4 =>
  if (lg_cmp (v3 &&& v4) (0 : Int64)) = 0 then
    some (1 : Int32)
  else
    some (0 : Int32)
set_option maxHeartbeats 4000000 in
set_option maxRecDepth 100000 in
theorem w_X6_isNew {J : JT} {an : Option Value × St × Dy} (hI : Isj cX6_isNew 4 RX6 "isNew" 1 22 (some .boolean) an J) {β : Bu} (σ : St) (p0 : Nat) (p1 : Int32) (p2 : Int32) (p3 : Int32) (δ : Dy) : SJ (m_X6_isNew σ p0 p1 p2 p3 δ) (PIp σ δ an) (J 0 [(0, .ref p0), (1, .int p1), (2, .int p2), (3, .int p3)] [] β σ δ) := by
  have hJ := hI.cor
  unfold m_X6_isNew
  refine sj (j_aload_n hJ dX6_isNew_0 rfl 0 rfl) ?_
  refine sj_gR hJ fl_X6_21 rfl dX6_isNew_1 (fun v1 => ?_)
  refine sj (j_iload_n hJ dX6_isNew_4 rfl 1 rfl) ?_
  refine sj (j_iload_n hJ dX6_isNew_5 rfl 2 rfl) ?_
  refine sj (j_iload_n hJ dX6_isNew_6 rfl 3 rfl) ?_
  refine sj_callSip hJ [.int p1, .int p2, .int p3] (st := [.ref v1]) (fr' := 0) (lo' := 0) ml_X6_193 (by decide) (by decide) (Nat.le_of_ble_eq_true rfl) dX6_isNew_7 rfl (fun _ h9 => ct_X6_historyRow h9) (fun v2 => ?_)
  refine sj_rL hJ dX6_isNew_10 (fun v3 => ?_)
  refine sj (j_iload_n hJ dX6_isNew_11 rfl 3 rfl) ?_
  refine sj_callSlp hJ [.int p3] (st := [.long v3]) (fr' := 0) (lo' := 0) ml_X6_197 (by decide) (by decide) (Nat.le_of_ble_eq_true rfl) dX6_isNew_12 rfl (fun _ h9 => ct_X6_historyBit h9) (fun v4 => ?_)
  refine sj (j_land hJ dX6_isNew_15) ?_
  refine sj (j_lconst hJ (v := 0) dX6_isNew_16 rfl) ?_
  refine sj (j_lcmp hJ dX6_isNew_17) ?_
  refine sj_if (j_if_ne hJ (tgt := 25) dX6_isNew_18 (by decide)) (fun _ => ?_) (fun _ => ?_)
  · refine sj (j_iconst hJ (v := 1) dX6_isNew_21 ic_1) ?_
    refine sj (j_goto hJ (tgt := 26) dX6_isNew_22 (by decide)) ?_
    exact sj_zret hI (by decide) dX6_isNew_26 (fun h => h)
  · refine sj (j_iconst hJ (v := 0) dX6_isNew_25 ic_0) ?_
    exact sj_zret hI (by decide) dX6_isNew_26 (fun h => h)
theorem ct_X6_isNew {σ : St} {p0 : Nat} {p1 : Int32} {p2 : Int32} {p3 : Int32} {δ : Dy} {r : Int32} (h : m_X6_isNew σ p0 p1 p2 p3 δ = some r) : CT yX6_isNew cX6_isNew 4 (some .boolean) 1 22 0 0 [.ref p0, .int p1, .int p2, .int p3] σ δ ((some (.int r)), σ, δ) := CT_of (by decide +kernel) (Nat.le_of_ble_eq_true rfl) (fun J hI => w_X6_isNew hI σ p0 p1 p2 p3 δ r h rfl)
def m_X6_resolve (σ : St) (p0 : Int32) (p1 : Nat) (δ : Dy) : Option Int32 :=
  (m_X11_isSlot σ p0 δ).bind fun v1 =>
  if v1 = 0 then
    some p0
  else
    (rI σ δ p1 (p0 - (200 : Int32))).bind fun v2 =>
    some v2
set_option maxHeartbeats 4000000 in
set_option maxRecDepth 100000 in
theorem w_X6_resolve {J : JT} {an : Option Value × St × Dy} (hI : Isj cX6_resolve 2 RX6 "resolve" 1 20 (some .int) an J) {β : Bu} (σ : St) (p0 : Int32) (p1 : Nat) (δ : Dy) : SJ (m_X6_resolve σ p0 p1 δ) (PIp σ δ an) (J 0 [(0, .int p0), (1, .ref p1)] [] β σ δ) := by
  have hJ := hI.cor
  unfold m_X6_resolve
  refine sj (j_iload_n hJ dX6_resolve_0 rfl 0 rfl) ?_
  refine sj_callSNip hJ [.int p0] (st := []) (fr' := 0) (lo' := 0) ml_X6_166 (by decide) (by decide) (Nat.le_of_ble_eq_true rfl) dX6_resolve_1 rfl (fun _ h9 => ct_X11_isSlot h9) (fun v1 => ?_)
  refine sj_if (j_if_eq hJ (tgt := 17) dX6_resolve_4 (by decide)) (fun _ => ?_) (fun _ => ?_)
  · refine sj (j_iload_n hJ dX6_resolve_17 rfl 0 rfl) ?_
    exact sj_iret hI dX6_resolve_18 (fun h => h)
  · refine sj (j_aload_n hJ dX6_resolve_7 rfl 1 rfl) ?_
    refine sj (j_iload_n hJ dX6_resolve_8 rfl 0 rfl) ?_
    refine sj (j_sipush hJ (v := 200) dX6_resolve_9 is_200) ?_
    refine sj (j_isub hJ dX6_resolve_12) ?_
    refine sj_rI hJ dX6_resolve_13 (fun v2 => ?_)
    refine sj (j_goto hJ (tgt := 18) dX6_resolve_14 (by decide)) ?_
    exact sj_iret hI dX6_resolve_18 (fun h => h)
theorem ct_X6_resolve {σ : St} {p0 : Int32} {p1 : Nat} {δ : Dy} {r : Int32} (h : m_X6_resolve σ p0 p1 δ = some r) : CT yX6_resolve cX6_resolve 2 (some .int) 1 20 0 0 [.int p0, .ref p1] σ δ ((some (.int r)), σ, δ) := CT_of (by decide +kernel) (Nat.le_of_ble_eq_true rfl) (fun J hI => w_X6_resolve hI σ p0 p1 δ r h rfl)
def m_X8_lowest_b82 (σ : St) (p0 : Nat) (p1 : Int32) (p4 : Int32) (p5 : Int32) (p6 : Int32) (δ : Dy) : Option ((Int32) ⊕ Int32) :=
  some (Sum.inl (p6 + (1 : Int32)))
def m_X8_lowest_b17 (σ : St) (p0 : Nat) (p1 : Int32) (p4 : Int32) (p5 : Int32) (p6 : Int32) (δ : Dy) : Option Int32 := lp (fun (s : (Int32)) =>
  (gI σ δ 8 p0 10).bind fun v3 =>
  if v3 ≤ s then
    some (Sum.inr (-1 : Int32))
  else
    (gR σ 8 p0 7).bind fun v4 =>
    (rZ σ δ v4 s).bind fun v5 =>
    if v5 = 0 then
      m_X8_lowest_b82 σ p0 p1 p4 p5 s δ
    else
      (gR σ 8 p0 3).bind fun v6 =>
      (rI σ δ v6 s).bind fun v7 =>
      if v7 = p1 then
        (gR σ 8 p0 4).bind fun v8 =>
        (rI σ δ v8 s).bind fun v9 =>
        (chk σ 8 p0).bind fun _ => (m_X8_form σ p0 v9 δ).bind fun v10 =>
        if v10 = p4 then
          (gR σ 8 p0 5).bind fun v11 =>
          (rI σ δ v11 s).bind fun v12 =>
          (chk σ 8 p0).bind fun _ => (m_X8_form σ p0 v12 δ).bind fun v13 =>
          if v13 = p5 then
            some (Sum.inr s)
          else
            m_X8_lowest_b82 σ p0 p1 p4 p5 s δ
        else
          m_X8_lowest_b82 σ p0 p1 p4 p5 s δ
      else
        m_X8_lowest_b82 σ p0 p1 p4 p5 s δ) (p6)
def m_X8_lowest (σ : St) (p0 : Nat) (p1 : Int32) (p2 : Int32) (p3 : Int32) (δ : Dy) : Option Int32 :=
  (chk σ 8 p0).bind fun _ => (m_X8_form σ p0 p2 δ).bind fun v1 =>
  (chk σ 8 p0).bind fun _ => (m_X8_form σ p0 p3 δ).bind fun v2 =>
  m_X8_lowest_b17 σ p0 p1 v1 v2 (0 : Int32) δ
set_option maxHeartbeats 4000000 in
set_option maxRecDepth 100000 in
theorem w_X8_lowest_b82 {J : JT} {an : Option Value × St × Dy} (hI : Isj cX8_lowest 7 RX8 "lowest" 1 23 (some .int) an J) {β : Bu} (σ : St) (p0 : Nat) (p1 : Int32) (p4 : Int32) (p5 : Int32) (p6 : Int32) (δ : Dy) : SJ (m_X8_lowest_b82 σ p0 p1 p4 p5 p6 δ) (PL (fun s : (Int32) => J 17 [(0, .ref p0), (1, .int p1), (4, .int p4), (5, .int p5), (6, .int s)] [] β σ δ) (PIp σ δ an)) (J 82 [(0, .ref p0), (1, .int p1), (4, .int p4), (5, .int p5), (6, .int p6)] [] β σ δ) := by
  have hJ := hI.cor
  unfold m_X8_lowest_b82
  refine sj (j_iinc hJ (L' := [(6, .int (p6 + (1 : Int32))), (0, .ref p0), (1, .int p1), (4, .int p4), (5, .int p5)]) dX8_lowest_82 4 rfl (congrArg (fun z => p6 + z) ic_1) (by decide) rfl) ?_
  refine sj (j_goto hJ (tgt := 17) dX8_lowest_85 (by decide)) ?_
  refine sj (j_sub hJ (L' := [(0, .ref p0), (1, .int p1), (4, .int p4), (5, .int p5), (6, .int (p6 + (1 : Int32)))]) [1, 2, 3, 4, 0] rfl) ?_
  exact sj_end (fun h => h)
set_option maxHeartbeats 4000000 in
set_option maxRecDepth 100000 in
theorem w_X8_lowest_b17 {J : JT} {an : Option Value × St × Dy} (hI : Isj cX8_lowest 7 RX8 "lowest" 1 23 (some .int) an J) {β : Bu} (σ : St) (p0 : Nat) (p1 : Int32) (p4 : Int32) (p5 : Int32) (p6 : Int32) (δ : Dy) : SJ (m_X8_lowest_b17 σ p0 p1 p4 p5 p6 δ) (PIp σ δ an) (J 17 [(0, .ref p0), (1, .int p1), (4, .int p4), (5, .int p5), (6, .int p6)] [] β σ δ) := by
  have hJ := hI.cor
  unfold m_X8_lowest_b17
  refine sj_lp (G := fun s : (Int32) => J 17 [(0, .ref p0), (1, .int p1), (4, .int p4), (5, .int p5), (6, .int s)] [] β σ δ) (fun s => ?_) (p6)
  refine sj (j_iload hJ dX8_lowest_17 4 rfl) ?_
  refine sj (j_aload_n hJ dX8_lowest_19 rfl 0 rfl) ?_
  refine sj_gI hJ fl_X8_52 (Or.inl rfl) dX8_lowest_20 (fun v3 => ?_)
  refine sj_if (j_icmp_ge hJ (tgt := 88) dX8_lowest_23 (by decide)) (fun _ => ?_) (fun _ => ?_)
  · refine sj (j_iconst hJ (v := -1) dX8_lowest_88 ic_m1) ?_
    exact sj_iret hI dX8_lowest_89 (fun h => h)
  · refine sj (j_aload_n hJ dX8_lowest_26 rfl 0 rfl) ?_
    refine sj_gR hJ fl_X8_31 rfl dX8_lowest_27 (fun v4 => ?_)
    refine sj (j_iload hJ dX8_lowest_30 4 rfl) ?_
    refine sj_rZ hJ dX8_lowest_32 (fun v5 => ?_)
    refine sj_if (j_if_eq hJ (tgt := 82) dX8_lowest_33 (by decide)) (fun _ => ?_) (fun _ => ?_)
    · exact w_X8_lowest_b82 hI σ p0 p1 p4 p5 s δ
    · refine sj (j_aload_n hJ dX8_lowest_36 rfl 0 rfl) ?_
      refine sj_gR hJ fl_X8_18 rfl dX8_lowest_37 (fun v6 => ?_)
      refine sj (j_iload hJ dX8_lowest_40 4 rfl) ?_
      refine sj_rI hJ dX8_lowest_42 (fun v7 => ?_)
      refine sj (j_iload_n hJ dX8_lowest_43 rfl 1 rfl) ?_
      refine sj_if (j_icmp_ne hJ (tgt := 82) dX8_lowest_44 (by decide)) (fun _ => ?_) (fun _ => ?_)
      · refine sj (j_aload_n hJ dX8_lowest_47 rfl 0 rfl) ?_
        refine sj (j_aload_n hJ dX8_lowest_48 rfl 0 rfl) ?_
        refine sj_gR hJ fl_X8_21 rfl dX8_lowest_49 (fun v8 => ?_)
        refine sj (j_iload hJ dX8_lowest_52 4 rfl) ?_
        refine sj_rI hJ dX8_lowest_54 (fun v9 => ?_)
        refine sj_callVip hJ [.int v9] (st := []) (fr' := 0) (lo' := 0) ml_X8_79 hc_8 (by decide) (by decide) (Nat.le_of_ble_eq_true rfl) dX8_lowest_55 rfl (fun _ h9 => ct_X8_form h9) (fun v10 => ?_)
        refine sj (j_iload hJ dX8_lowest_58 2 rfl) ?_
        refine sj_if (j_icmp_ne hJ (tgt := 82) dX8_lowest_60 (by decide)) (fun _ => ?_) (fun _ => ?_)
        · refine sj (j_aload_n hJ dX8_lowest_63 rfl 0 rfl) ?_
          refine sj (j_aload_n hJ dX8_lowest_64 rfl 0 rfl) ?_
          refine sj_gR hJ fl_X8_24 rfl dX8_lowest_65 (fun v11 => ?_)
          refine sj (j_iload hJ dX8_lowest_68 4 rfl) ?_
          refine sj_rI hJ dX8_lowest_70 (fun v12 => ?_)
          refine sj_callVip hJ [.int v12] (st := []) (fr' := 0) (lo' := 0) ml_X8_79 hc_8 (by decide) (by decide) (Nat.le_of_ble_eq_true rfl) dX8_lowest_71 rfl (fun _ h9 => ct_X8_form h9) (fun v13 => ?_)
          refine sj (j_iload hJ dX8_lowest_74 3 rfl) ?_
          refine sj_if (j_icmp_ne hJ (tgt := 82) dX8_lowest_76 (by decide)) (fun _ => ?_) (fun _ => ?_)
          · refine sj (j_iload hJ dX8_lowest_79 4 rfl) ?_
            exact sj_iret hI dX8_lowest_81 (fun h => h)
          · exact w_X8_lowest_b82 hI σ p0 p1 p4 p5 s δ
        · exact w_X8_lowest_b82 hI σ p0 p1 p4 p5 s δ
      · exact w_X8_lowest_b82 hI σ p0 p1 p4 p5 s δ
set_option maxHeartbeats 4000000 in
set_option maxRecDepth 100000 in
theorem w_X8_lowest {J : JT} {an : Option Value × St × Dy} (hI : Isj cX8_lowest 7 RX8 "lowest" 1 23 (some .int) an J) {β : Bu} (σ : St) (p0 : Nat) (p1 : Int32) (p2 : Int32) (p3 : Int32) (δ : Dy) : SJ (m_X8_lowest σ p0 p1 p2 p3 δ) (PIp σ δ an) (J 0 [(0, .ref p0), (1, .int p1), (2, .int p2), (3, .int p3)] [] β σ δ) := by
  have hJ := hI.cor
  unfold m_X8_lowest
  refine sj (j_aload_n hJ dX8_lowest_0 rfl 0 rfl) ?_
  refine sj (j_iload_n hJ dX8_lowest_1 rfl 2 rfl) ?_
  refine sj_callVip hJ [.int p2] (st := []) (fr' := 0) (lo' := 0) ml_X8_79 hc_8 (by decide) (by decide) (Nat.le_of_ble_eq_true rfl) dX8_lowest_2 rfl (fun _ h9 => ct_X8_form h9) (fun v1 => ?_)
  refine sj (j_istore hJ (L' := [(4, .int v1), (0, .ref p0), (1, .int p1), (2, .int p2), (3, .int p3)]) dX8_lowest_5 (by decide) rfl) ?_
  refine sj (j_aload_n hJ dX8_lowest_7 rfl 1 rfl) ?_
  refine sj (j_iload_n hJ dX8_lowest_8 rfl 4 rfl) ?_
  refine sj_callVip hJ [.int p3] (st := []) (fr' := 0) (lo' := 0) ml_X8_79 hc_8 (by decide) (by decide) (Nat.le_of_ble_eq_true rfl) dX8_lowest_9 rfl (fun _ h9 => ct_X8_form h9) (fun v2 => ?_)
  refine sj (j_istore hJ (L' := [(5, .int v2), (4, .int v1), (0, .ref p0), (1, .int p1), (2, .int p2), (3, .int p3)]) dX8_lowest_12 (by decide) rfl) ?_
  refine sj (j_iconst hJ (v := 0) dX8_lowest_14 ic_0) ?_
  refine sj (j_istore hJ (L' := [(6, .int (0 : Int32)), (5, .int v2), (4, .int v1), (0, .ref p0), (1, .int p1), (2, .int p2), (3, .int p3)]) dX8_lowest_15 (by decide) rfl) ?_
  refine sj (j_sub hJ (L' := [(0, .ref p0), (1, .int p1), (4, .int v1), (5, .int v2), (6, .int (0 : Int32))]) [3, 4, 2, 1, 0] rfl) ?_
  exact w_X8_lowest_b17 hI σ p0 p1 v1 v2 (0 : Int32) δ
theorem ct_X8_lowest {σ : St} {p0 : Nat} {p1 : Int32} {p2 : Int32} {p3 : Int32} {δ : Dy} {r : Int32} (h : m_X8_lowest σ p0 p1 p2 p3 δ = some r) : CT yX8_lowest cX8_lowest 7 (some .int) 1 23 0 0 [.ref p0, .int p1, .int p2, .int p3] σ δ ((some (.int r)), σ, δ) := CT_of (by decide +kernel) (Nat.le_of_ble_eq_true rfl) (fun J hI => w_X8_lowest hI σ p0 p1 p2 p3 δ r h rfl)
def m_X8_isEntailed_b61 (σ : St) (p1 : Int32) (p4 : Int32) (p5 : Int32) (q0 : Int32) (δ : Dy) : Option Int32 :=
  if p1 = (0 : Int32) then
    if p4 = p5 then
      some (1 : Int32)
    else
      some (0 : Int32)
  else
  if p1 = (1 : Int32) then
    if q0 = 0 then
      some (0 : Int32)
    else
      if p4 = p5 then
        some (0 : Int32)
      else
        some (1 : Int32)
  else
  if p1 = (2 : Int32) then
    if q0 = 0 then
      some (0 : Int32)
    else
      if p5 ≤ p4 then
        some (0 : Int32)
      else
        some (1 : Int32)
  else
  if (400 : Int32) ≤ p4 then
    some (0 : Int32)
  else
    some (1 : Int32)
def m_X8_isEntailed_b60 (σ : St) (p1 : Int32) (p4 : Int32) (p5 : Int32) (δ : Dy) : Option Int32 :=
  m_X8_isEntailed_b61 σ p1 p4 p5 (0 : Int32) δ
def m_X8_isEntailed (σ : St) (p0 : Nat) (p1 : Int32) (p2 : Int32) (p3 : Int32) (δ : Dy) : Option Int32 :=
  if p1 < (10 : Int32) then
    (chk σ 8 p0).bind fun _ => (m_X8_form σ p0 p2 δ).bind fun v1 =>
    (chk σ 8 p0).bind fun _ => (m_X8_form σ p0 p3 δ).bind fun v2 =>
    if (400 : Int32) ≤ v1 then
      m_X8_isEntailed_b60 σ p1 v1 v2 δ
    else
      if (400 : Int32) ≤ v2 then
        m_X8_isEntailed_b60 σ p1 v1 v2 δ
      else
        m_X8_isEntailed_b61 σ p1 v1 v2 (1 : Int32) δ
  else
    (chk σ 8 p0).bind fun _ => (m_X8_lowest σ p0 (p1 - (10 : Int32)) p2 p3 δ).bind fun v4 =>
    if v4 = (-1 : Int32) then
      some (0 : Int32)
    else
      some (1 : Int32)
set_option maxHeartbeats 4000000 in
set_option maxRecDepth 100000 in
theorem w_X8_isEntailed_b61 {J : JT} {an : Option Value × St × Dy} (hI : Isj cX8_isEntailed 7 RX8 "isEntailed" 2 49 (some .boolean) an J) {β : Bu} (σ : St) (p1 : Int32) (p4 : Int32) (p5 : Int32) (q0 : Int32) (δ : Dy) : SJ (m_X8_isEntailed_b61 σ p1 p4 p5 q0 δ) (PIp σ δ an) (J 61 [(1, .int p1), (4, .int p4), (5, .int p5)] [.int q0] β σ δ) := by
  have hJ := hI.cor
  unfold m_X8_isEntailed_b61
  refine sj (j_istore hJ (L' := [(6, .int q0), (1, .int p1), (4, .int p4), (5, .int p5)]) dX8_isEntailed_61 (by decide) rfl) ?_
  refine sj (j_iload_n hJ dX8_isEntailed_63 rfl 1 rfl) ?_
  refine sj_ifc (fun h3 => ?_) (fun h3_0 => ?_)
  · refine sj (fun k9 => j_tableIn hJ dX8_isEntailed_64 (off := 28) (by rw [h3]; decide) (by rw [h3]; decide) (by rw [h3]; decide) (tgt := 92) (by decide) k9) ?_
    refine sj (j_iload hJ dX8_isEntailed_92 2 rfl) ?_
    refine sj (j_iload hJ dX8_isEntailed_94 3 rfl) ?_
    refine sj_if (j_icmp_ne hJ (tgt := 103) dX8_isEntailed_96 (by decide)) (fun _ => ?_) (fun _ => ?_)
    · refine sj (j_iconst hJ (v := 1) dX8_isEntailed_99 ic_1) ?_
      refine sj (j_goto hJ (tgt := 104) dX8_isEntailed_100 (by decide)) ?_
      exact sj_zret hI (by decide) dX8_isEntailed_104 (fun h => h)
    · refine sj (j_iconst hJ (v := 0) dX8_isEntailed_103 ic_0) ?_
      exact sj_zret hI (by decide) dX8_isEntailed_104 (fun h => h)
  refine sj_ifc (fun h3 => ?_) (fun h3_1 => ?_)
  · refine sj (fun k9 => j_tableIn hJ dX8_isEntailed_64 (off := 41) (by rw [h3]; decide) (by rw [h3]; decide) (by rw [h3]; decide) (tgt := 105) (by decide) k9) ?_
    refine sj (j_iload hJ dX8_isEntailed_105 0 rfl) ?_
    refine sj_if (j_if_eq hJ (tgt := 121) dX8_isEntailed_107 (by decide)) (fun _ => ?_) (fun _ => ?_)
    · refine sj (j_iconst hJ (v := 0) dX8_isEntailed_121 ic_0) ?_
      exact sj_zret hI (by decide) dX8_isEntailed_122 (fun h => h)
    · refine sj (j_iload hJ dX8_isEntailed_110 2 rfl) ?_
      refine sj (j_iload hJ dX8_isEntailed_112 3 rfl) ?_
      refine sj_if (j_icmp_eq hJ (tgt := 121) dX8_isEntailed_114 (by decide)) (fun _ => ?_) (fun _ => ?_)
      · refine sj (j_iconst hJ (v := 0) dX8_isEntailed_121 ic_0) ?_
        exact sj_zret hI (by decide) dX8_isEntailed_122 (fun h => h)
      · refine sj (j_iconst hJ (v := 1) dX8_isEntailed_117 ic_1) ?_
        refine sj (j_goto hJ (tgt := 122) dX8_isEntailed_118 (by decide)) ?_
        exact sj_zret hI (by decide) dX8_isEntailed_122 (fun h => h)
  refine sj_ifc (fun h3 => ?_) (fun h3_2 => ?_)
  · refine sj (fun k9 => j_tableIn hJ dX8_isEntailed_64 (off := 59) (by rw [h3]; decide) (by rw [h3]; decide) (by rw [h3]; decide) (tgt := 123) (by decide) k9) ?_
    refine sj (j_iload hJ dX8_isEntailed_123 0 rfl) ?_
    refine sj_if (j_if_eq hJ (tgt := 139) dX8_isEntailed_125 (by decide)) (fun _ => ?_) (fun _ => ?_)
    · refine sj (j_iconst hJ (v := 0) dX8_isEntailed_139 ic_0) ?_
      exact sj_zret hI (by decide) dX8_isEntailed_140 (fun h => h)
    · refine sj (j_iload hJ dX8_isEntailed_128 2 rfl) ?_
      refine sj (j_iload hJ dX8_isEntailed_130 3 rfl) ?_
      refine sj_if (j_icmp_ge hJ (tgt := 139) dX8_isEntailed_132 (by decide)) (fun _ => ?_) (fun _ => ?_)
      · refine sj (j_iconst hJ (v := 0) dX8_isEntailed_139 ic_0) ?_
        exact sj_zret hI (by decide) dX8_isEntailed_140 (fun h => h)
      · refine sj (j_iconst hJ (v := 1) dX8_isEntailed_135 ic_1) ?_
        refine sj (j_goto hJ (tgt := 140) dX8_isEntailed_136 (by decide)) ?_
        exact sj_zret hI (by decide) dX8_isEntailed_140 (fun h => h)
  have g0 : (p1).toInt ≠ 0 := fun q => h3_0 (Int32.toInt_inj.mp (q.trans (by decide)))
  have g1 : (p1).toInt ≠ 1 := fun q => h3_1 (Int32.toInt_inj.mp (q.trans (by decide)))
  have g2 : (p1).toInt ≠ 2 := fun q => h3_2 (Int32.toInt_inj.mp (q.trans (by decide)))
  refine sj (fun k9 => j_tableOut hJ dX8_isEntailed_64 (by omega) (tgt := 141) (by decide) k9) ?_
  refine sj (j_iload hJ dX8_isEntailed_141 2 rfl) ?_
  refine sj (j_sipush hJ (v := 400) dX8_isEntailed_143 is_400) ?_
  refine sj_if (j_icmp_ge hJ (tgt := 153) dX8_isEntailed_146 (by decide)) (fun _ => ?_) (fun _ => ?_)
  · refine sj (j_iconst hJ (v := 0) dX8_isEntailed_153 ic_0) ?_
    exact sj_zret hI (by decide) dX8_isEntailed_154 (fun h => h)
  · refine sj (j_iconst hJ (v := 1) dX8_isEntailed_149 ic_1) ?_
    refine sj (j_goto hJ (tgt := 154) dX8_isEntailed_150 (by decide)) ?_
    exact sj_zret hI (by decide) dX8_isEntailed_154 (fun h => h)
set_option maxHeartbeats 4000000 in
set_option maxRecDepth 100000 in
theorem w_X8_isEntailed_b60 {J : JT} {an : Option Value × St × Dy} (hI : Isj cX8_isEntailed 7 RX8 "isEntailed" 2 49 (some .boolean) an J) {β : Bu} (σ : St) (p1 : Int32) (p4 : Int32) (p5 : Int32) (δ : Dy) : SJ (m_X8_isEntailed_b60 σ p1 p4 p5 δ) (PIp σ δ an) (J 60 [(1, .int p1), (4, .int p4), (5, .int p5)] [] β σ δ) := by
  have hJ := hI.cor
  unfold m_X8_isEntailed_b60
  refine sj (j_iconst hJ (v := 0) dX8_isEntailed_60 ic_0) ?_
  exact w_X8_isEntailed_b61 hI σ p1 p4 p5 (0 : Int32) δ
set_option maxHeartbeats 4000000 in
set_option maxRecDepth 100000 in
theorem w_X8_isEntailed {J : JT} {an : Option Value × St × Dy} (hI : Isj cX8_isEntailed 7 RX8 "isEntailed" 2 49 (some .boolean) an J) {β : Bu} (σ : St) (p0 : Nat) (p1 : Int32) (p2 : Int32) (p3 : Int32) (δ : Dy) : SJ (m_X8_isEntailed σ p0 p1 p2 p3 δ) (PIp σ δ an) (J 0 [(0, .ref p0), (1, .int p1), (2, .int p2), (3, .int p3)] [] β σ δ) := by
  have hJ := hI.cor
  unfold m_X8_isEntailed
  refine sj (j_iload_n hJ dX8_isEntailed_0 rfl 1 rfl) ?_
  refine sj (j_bipush hJ (v := 10) dX8_isEntailed_1 ib_10) ?_
  refine sj_if (j_icmp_lt hJ (tgt := 26) dX8_isEntailed_3 (by decide)) (fun _ => ?_) (fun _ => ?_)
  · refine sj (j_aload_n hJ dX8_isEntailed_26 rfl 0 rfl) ?_
    refine sj (j_iload_n hJ dX8_isEntailed_27 rfl 2 rfl) ?_
    refine sj_callVip hJ [.int p2] (st := []) (fr' := 0) (lo' := 0) ml_X8_79 hc_8 (by decide) (by decide) (Nat.le_of_ble_eq_true rfl) dX8_isEntailed_28 rfl (fun _ h9 => ct_X8_form h9) (fun v1 => ?_)
    refine sj (j_istore hJ (L' := [(4, .int v1), (0, .ref p0), (1, .int p1), (2, .int p2), (3, .int p3)]) dX8_isEntailed_31 (by decide) rfl) ?_
    refine sj (j_aload_n hJ dX8_isEntailed_33 rfl 1 rfl) ?_
    refine sj (j_iload_n hJ dX8_isEntailed_34 rfl 4 rfl) ?_
    refine sj_callVip hJ [.int p3] (st := []) (fr' := 0) (lo' := 0) ml_X8_79 hc_8 (by decide) (by decide) (Nat.le_of_ble_eq_true rfl) dX8_isEntailed_35 rfl (fun _ h9 => ct_X8_form h9) (fun v2 => ?_)
    refine sj (j_istore hJ (L' := [(5, .int v2), (4, .int v1), (0, .ref p0), (1, .int p1), (2, .int p2), (3, .int p3)]) dX8_isEntailed_38 (by decide) rfl) ?_
    refine sj (j_iload hJ dX8_isEntailed_40 1 rfl) ?_
    refine sj (j_sipush hJ (v := 400) dX8_isEntailed_42 is_400) ?_
    refine sj_if (j_icmp_ge hJ (tgt := 60) dX8_isEntailed_45 (by decide)) (fun _ => ?_) (fun _ => ?_)
    · refine sj (j_sub hJ (L' := [(1, .int p1), (4, .int v1), (5, .int v2)]) [3, 1, 0] rfl) ?_
      exact w_X8_isEntailed_b60 hI σ p1 v1 v2 δ
    · refine sj (j_iload hJ dX8_isEntailed_48 0 rfl) ?_
      refine sj (j_sipush hJ (v := 400) dX8_isEntailed_50 is_400) ?_
      refine sj_if (j_icmp_ge hJ (tgt := 60) dX8_isEntailed_53 (by decide)) (fun _ => ?_) (fun _ => ?_)
      · refine sj (j_sub hJ (L' := [(1, .int p1), (4, .int v1), (5, .int v2)]) [3, 1, 0] rfl) ?_
        exact w_X8_isEntailed_b60 hI σ p1 v1 v2 δ
      · refine sj (j_iconst hJ (v := 1) dX8_isEntailed_56 ic_1) ?_
        refine sj (j_goto hJ (tgt := 61) dX8_isEntailed_57 (by decide)) ?_
        refine sj (j_sub hJ (L' := [(1, .int p1), (4, .int v1), (5, .int v2)]) [3, 1, 0] rfl) ?_
        exact w_X8_isEntailed_b61 hI σ p1 v1 v2 (1 : Int32) δ
  · refine sj (j_aload_n hJ dX8_isEntailed_6 rfl 0 rfl) ?_
    refine sj (j_iload_n hJ dX8_isEntailed_7 rfl 1 rfl) ?_
    refine sj (j_bipush hJ (v := 10) dX8_isEntailed_8 ib_10) ?_
    refine sj (j_isub hJ dX8_isEntailed_10) ?_
    refine sj (j_iload_n hJ dX8_isEntailed_11 rfl 2 rfl) ?_
    refine sj (j_iload_n hJ dX8_isEntailed_12 rfl 3 rfl) ?_
    refine sj_callVip hJ [.int (p1 - (10 : Int32)), .int p2, .int p3] (st := []) (fr' := 1) (lo' := 23) ml_X8_75 hc_8 (by decide) (by decide) (Nat.le_of_ble_eq_true rfl) dX8_isEntailed_13 rfl (fun _ h9 => ct_X8_lowest h9) (fun v4 => ?_)
    refine sj (j_iconst hJ (v := -1) dX8_isEntailed_16 ic_m1) ?_
    refine sj_if (j_icmp_eq hJ (tgt := 24) dX8_isEntailed_17 (by decide)) (fun _ => ?_) (fun _ => ?_)
    · refine sj (j_iconst hJ (v := 0) dX8_isEntailed_24 ic_0) ?_
      exact sj_zret hI (by decide) dX8_isEntailed_25 (fun h => h)
    · refine sj (j_iconst hJ (v := 1) dX8_isEntailed_20 ic_1) ?_
      refine sj (j_goto hJ (tgt := 25) dX8_isEntailed_21 (by decide)) ?_
      exact sj_zret hI (by decide) dX8_isEntailed_25 (fun h => h)
theorem ct_X8_isEntailed {σ : St} {p0 : Nat} {p1 : Int32} {p2 : Int32} {p3 : Int32} {δ : Dy} {r : Int32} (h : m_X8_isEntailed σ p0 p1 p2 p3 δ = some r) : CT yX8_isEntailed cX8_isEntailed 7 (some .boolean) 2 49 0 0 [.ref p0, .int p1, .int p2, .int p3] σ δ ((some (.int r)), σ, δ) := CT_of (by decide +kernel) (Nat.le_of_ble_eq_true rfl) (fun J hI => w_X8_isEntailed hI σ p0 p1 p2 p3 δ r h rfl)
def m_X6_isMatch_b160 (σ : St) (p0 : Nat) (p1 : Nat) (p2 : Int32) (p3 : Int32) (p4 : Int32) (δ : Dy) : Option ((Int32 × Dy) ⊕ (Int32 × Dy)) :=
  some (Sum.inl ((p4 + (1 : Int32)), δ))
def m_X6_isMatch_b130 (σ : St) (p0 : Nat) (p1 : Nat) (p2 : Int32) (p3 : Int32) (p4 : Int32) (p6 : Int32) (p7 : Int32) (δ : Dy) : Option ((Int32 × Dy) ⊕ (Int32 × Dy)) :=
  (gR σ 6 p0 0).bind fun v21 =>
  (gR σ 6 p0 4).bind fun v22 =>
  (m_X6_resolve σ p7 v22 δ).bind fun v23 =>
  (chk σ 8 v21).bind fun _ => (m_X8_form σ v21 v23 δ).bind fun v24 =>
  (gR σ 6 p0 0).bind fun v25 =>
  (chk σ 8 v25).bind fun _ => (m_X8_form σ v25 p6 δ).bind fun v26 =>
  if v24 = v26 then
    m_X6_isMatch_b160 σ p0 p1 p2 p3 p4 δ
  else
    some (Sum.inr ((0 : Int32), δ))
def m_X6_isMatch_b67 (σ : St) (p0 : Nat) (p1 : Nat) (p2 : Int32) (p3 : Int32) (p4 : Int32) (q0 : Int32) (δ : Dy) : Option ((Int32 × Dy) ⊕ (Int32 × Dy)) :=
  (gR σ 7 p1 1).bind fun v18 =>
  (rI σ δ v18 p4).bind fun v19 =>
  if v19 = (300 : Int32) then
    m_X6_isMatch_b160 σ p0 p1 p2 p3 p4 δ
  else
    (m_X11_isSlot σ v19 δ).bind fun v20 =>
    if v20 = 0 then
      m_X6_isMatch_b130 σ p0 p1 p2 p3 p4 q0 v19 δ
    else
      (gR σ 6 p0 4).bind fun v27 =>
      (rI σ δ v27 (v19 - (200 : Int32))).bind fun v28 =>
      if v28 = (1000 : Int32) then
        (gR σ 6 p0 4).bind fun v29 =>
        (wI σ δ v29 (v19 - (200 : Int32)) q0).bind fun d30 =>
        m_X6_isMatch_b160 σ p0 p1 p2 p3 p4 d30
      else
        m_X6_isMatch_b130 σ p0 p1 p2 p3 p4 q0 v19 δ
def m_X6_isMatch_b35 (σ : St) (p0 : Nat) (p1 : Nat) (p2 : Int32) (p3 : Int32) (p4 : Int32) (q0 : Int32) (δ : Dy) : Option ((Int32 × Dy) ⊕ (Int32 × Dy)) :=
  (rmI p4 (2 : Int32)).bind fun v14 =>
  if v14 = 0 then
    (gR σ 6 p0 0).bind fun v15 =>
    (gR σ 8 v15 4).bind fun v16 =>
    (rI σ δ v16 q0).bind fun v17 =>
    m_X6_isMatch_b67 σ p0 p1 p2 p3 p4 v17 δ
  else
    (gR σ 6 p0 0).bind fun v31 =>
    (gR σ 8 v31 5).bind fun v32 =>
    (rI σ δ v32 q0).bind fun v33 =>
    m_X6_isMatch_b67 σ p0 p1 p2 p3 p4 v33 δ
def m_X6_isMatch_b13 (σ : St) (p0 : Nat) (p1 : Nat) (p2 : Int32) (p3 : Int32) (p4 : Int32) (δ : Dy) : Option (Int32 × Dy) := lp (fun (s : (Int32 × Dy)) =>
  (gI σ s.2 7 p1 5).bind fun v3 =>
  if ((2 : Int32) * v3) ≤ s.1 then
    (gI σ s.2 7 p1 8).bind fun v4 =>
    if v4 = 0 then
      some (Sum.inr ((1 : Int32), s.2))
    else
      (gR σ 6 p0 0).bind fun v5 =>
      (gI σ s.2 7 p1 9).bind fun v6 =>
      (gI σ s.2 7 p1 10).bind fun v7 =>
      (gR σ 6 p0 4).bind fun v8 =>
      (m_X6_resolve σ v7 v8 s.2).bind fun v9 =>
      (gI σ s.2 7 p1 11).bind fun v10 =>
      (gR σ 6 p0 4).bind fun v11 =>
      (m_X6_resolve σ v10 v11 s.2).bind fun v12 =>
      (chk σ 8 v5).bind fun _ => (m_X8_isEntailed σ v5 v6 v9 v12 s.2).bind fun v13 =>
      if v13 = 0 then
        some (Sum.inr ((0 : Int32), s.2))
      else
        some (Sum.inr ((1 : Int32), s.2))
  else
    if (2 : Int32) ≤ s.1 then
      m_X6_isMatch_b35 σ p0 p1 p2 p3 s.1 p3 s.2
    else
      m_X6_isMatch_b35 σ p0 p1 p2 p3 s.1 p2 s.2) (p4, δ)
def m_X6_isMatch (σ : St) (p0 : Nat) (p1 : Nat) (p2 : Int32) (p3 : Int32) (δ : Dy) : Option (Int32 × Dy) :=
  (gR σ 6 p0 4).bind fun v1 =>
  (m_J7_fill_53178 σ v1 (1000 : Int32) δ).bind fun v2 =>
  m_X6_isMatch_b13 σ p0 p1 p2 p3 (0 : Int32) v2
set_option maxHeartbeats 4000000 in
set_option maxRecDepth 100000 in
theorem w_X6_isMatch_b160 {J : JT} {an : Option Value × St × Dy} (hI : Isj cX6_isMatch 8 RX6 "isMatch" 3 75 (some .boolean) an J) {β : Bu} (σ : St) (p0 : Nat) (p1 : Nat) (p2 : Int32) (p3 : Int32) (p4 : Int32) (δ : Dy) : SJ (m_X6_isMatch_b160 σ p0 p1 p2 p3 p4 δ) (PL (fun s : (Int32 × Dy) => J 13 [(0, .ref p0), (1, .ref p1), (2, .int p2), (3, .int p3), (4, .int s.1)] [] β σ s.2) (PI σ an)) (J 160 [(0, .ref p0), (1, .ref p1), (2, .int p2), (3, .int p3), (4, .int p4)] [] β σ δ) := by
  have hJ := hI.cor
  unfold m_X6_isMatch_b160
  refine sj (j_iinc hJ (L' := [(4, .int (p4 + (1 : Int32))), (0, .ref p0), (1, .ref p1), (2, .int p2), (3, .int p3)]) dX6_isMatch_160 4 rfl (congrArg (fun z => p4 + z) ic_1) (by decide) rfl) ?_
  refine sj (j_goto hJ (tgt := 13) dX6_isMatch_163 (by decide)) ?_
  refine sj (j_sub hJ (L' := [(0, .ref p0), (1, .ref p1), (2, .int p2), (3, .int p3), (4, .int (p4 + (1 : Int32)))]) [1, 2, 3, 4, 0] rfl) ?_
  exact sj_end (fun h => h)
set_option maxHeartbeats 4000000 in
set_option maxRecDepth 100000 in
theorem w_X6_isMatch_b130 {J : JT} {an : Option Value × St × Dy} (hI : Isj cX6_isMatch 8 RX6 "isMatch" 3 75 (some .boolean) an J) {β : Bu} (σ : St) (p0 : Nat) (p1 : Nat) (p2 : Int32) (p3 : Int32) (p4 : Int32) (p6 : Int32) (p7 : Int32) (δ : Dy) : SJ (m_X6_isMatch_b130 σ p0 p1 p2 p3 p4 p6 p7 δ) (PL (fun s : (Int32 × Dy) => J 13 [(0, .ref p0), (1, .ref p1), (2, .int p2), (3, .int p3), (4, .int s.1)] [] β σ s.2) (PI σ an)) (J 130 [(0, .ref p0), (1, .ref p1), (2, .int p2), (3, .int p3), (4, .int p4), (6, .int p6), (7, .int p7)] [] β σ δ) := by
  have hJ := hI.cor
  unfold m_X6_isMatch_b130
  refine sj (j_aload_n hJ dX6_isMatch_130 rfl 0 rfl) ?_
  refine sj_gR hJ fl_X6_31 rfl dX6_isMatch_131 (fun v21 => ?_)
  refine sj (j_iload hJ dX6_isMatch_134 6 rfl) ?_
  refine sj (j_aload_n hJ dX6_isMatch_136 rfl 0 rfl) ?_
  refine sj_gR hJ fl_X6_17 rfl dX6_isMatch_137 (fun v22 => ?_)
  refine sj_callSip hJ [.int p7, .ref v22] (st := [.ref v21]) (fr' := 1) (lo' := 20) ml_X6_170 (by decide) (by decide) (Nat.le_of_ble_eq_true rfl) dX6_isMatch_140 rfl (fun _ h9 => ct_X6_resolve h9) (fun v23 => ?_)
  refine sj_callVip hJ [.int v23] (st := []) (fr' := 0) (lo' := 0) ml_X6_174 hc_8 (by decide) (by decide) (Nat.le_of_ble_eq_true rfl) dX6_isMatch_143 rfl (fun _ h9 => ct_X8_form h9) (fun v24 => ?_)
  refine sj (j_aload_n hJ dX6_isMatch_146 rfl 0 rfl) ?_
  refine sj_gR hJ fl_X6_31 rfl dX6_isMatch_147 (fun v25 => ?_)
  refine sj (j_iload hJ dX6_isMatch_150 5 rfl) ?_
  refine sj_callVip hJ [.int p6] (st := [.int v24]) (fr' := 0) (lo' := 0) ml_X6_174 hc_8 (by decide) (by decide) (Nat.le_of_ble_eq_true rfl) dX6_isMatch_152 rfl (fun _ h9 => ct_X8_form h9) (fun v26 => ?_)
  refine sj_if (j_icmp_eq hJ (tgt := 160) dX6_isMatch_155 (by decide)) (fun _ => ?_) (fun _ => ?_)
  · refine sj (j_sub hJ (L' := [(0, .ref p0), (1, .ref p1), (2, .int p2), (3, .int p3), (4, .int p4)]) [0, 1, 2, 3, 4] rfl) ?_
    exact w_X6_isMatch_b160 hI σ p0 p1 p2 p3 p4 δ
  · refine sj (j_iconst hJ (v := 0) dX6_isMatch_158 ic_0) ?_
    exact sj_zret hI (by decide) dX6_isMatch_159 (fun h => h)
set_option maxHeartbeats 4000000 in
set_option maxRecDepth 100000 in
theorem w_X6_isMatch_b67 {J : JT} {an : Option Value × St × Dy} (hI : Isj cX6_isMatch 8 RX6 "isMatch" 3 75 (some .boolean) an J) {β : Bu} (σ : St) (p0 : Nat) (p1 : Nat) (p2 : Int32) (p3 : Int32) (p4 : Int32) (q0 : Int32) (δ : Dy) : SJ (m_X6_isMatch_b67 σ p0 p1 p2 p3 p4 q0 δ) (PL (fun s : (Int32 × Dy) => J 13 [(0, .ref p0), (1, .ref p1), (2, .int p2), (3, .int p3), (4, .int s.1)] [] β σ s.2) (PI σ an)) (J 67 [(0, .ref p0), (1, .ref p1), (2, .int p2), (3, .int p3), (4, .int p4)] [.int q0] β σ δ) := by
  have hJ := hI.cor
  unfold m_X6_isMatch_b67
  refine sj (j_istore hJ (L' := [(6, .int q0), (0, .ref p0), (1, .ref p1), (2, .int p2), (3, .int p3), (4, .int p4)]) dX6_isMatch_67 (by decide) rfl) ?_
  refine sj (j_aload_n hJ dX6_isMatch_69 rfl 2 rfl) ?_
  refine sj_gR hJ fl_X6_163 rfl dX6_isMatch_70 (fun v18 => ?_)
  refine sj (j_iload hJ dX6_isMatch_73 5 rfl) ?_
  refine sj_rI hJ dX6_isMatch_75 (fun v19 => ?_)
  refine sj (j_istore hJ (L' := [(7, .int v19), (6, .int q0), (0, .ref p0), (1, .ref p1), (2, .int p2), (3, .int p3), (4, .int p4)]) dX6_isMatch_76 (by decide) rfl) ?_
  refine sj (j_iload hJ dX6_isMatch_78 0 rfl) ?_
  refine sj (j_sipush hJ (v := 300) dX6_isMatch_80 is_300) ?_
  refine sj_if (j_icmp_ne hJ (tgt := 89) dX6_isMatch_83 (by decide)) (fun _ => ?_) (fun _ => ?_)
  · refine sj (j_goto hJ (tgt := 160) dX6_isMatch_86 (by decide)) ?_
    refine sj (j_sub hJ (L' := [(0, .ref p0), (1, .ref p1), (2, .int p2), (3, .int p3), (4, .int p4)]) [2, 3, 4, 5, 6] rfl) ?_
    exact w_X6_isMatch_b160 hI σ p0 p1 p2 p3 p4 δ
  · refine sj (j_iload hJ dX6_isMatch_89 0 rfl) ?_
    refine sj_callSNip hJ [.int v19] (st := []) (fr' := 0) (lo' := 0) ml_X6_166 (by decide) (by decide) (Nat.le_of_ble_eq_true rfl) dX6_isMatch_91 rfl (fun _ h9 => ct_X11_isSlot h9) (fun v20 => ?_)
    refine sj_if (j_if_eq hJ (tgt := 130) dX6_isMatch_94 (by decide)) (fun _ => ?_) (fun _ => ?_)
    · refine sj (j_sub hJ (L' := [(0, .ref p0), (1, .ref p1), (2, .int p2), (3, .int p3), (4, .int p4), (6, .int q0), (7, .int v19)]) [2, 3, 4, 5, 6, 1, 0] rfl) ?_
      exact w_X6_isMatch_b130 hI σ p0 p1 p2 p3 p4 q0 v19 δ
    · refine sj (j_aload_n hJ dX6_isMatch_97 rfl 2 rfl) ?_
      refine sj_gR hJ fl_X6_17 rfl dX6_isMatch_98 (fun v27 => ?_)
      refine sj (j_iload hJ dX6_isMatch_101 0 rfl) ?_
      refine sj (j_sipush hJ (v := 200) dX6_isMatch_103 is_200) ?_
      refine sj (j_isub hJ dX6_isMatch_106) ?_
      refine sj_rI hJ dX6_isMatch_107 (fun v28 => ?_)
      refine sj (j_sipush hJ (v := 1000) dX6_isMatch_108 is_1000) ?_
      refine sj_if (j_icmp_ne hJ (tgt := 130) dX6_isMatch_111 (by decide)) (fun _ => ?_) (fun _ => ?_)
      · refine sj (j_aload_n hJ dX6_isMatch_114 rfl 2 rfl) ?_
        refine sj_gR hJ fl_X6_17 rfl dX6_isMatch_115 (fun v29 => ?_)
        refine sj (j_iload hJ dX6_isMatch_118 0 rfl) ?_
        refine sj (j_sipush hJ (v := 200) dX6_isMatch_120 is_200) ?_
        refine sj (j_isub hJ dX6_isMatch_123) ?_
        refine sj (j_iload hJ dX6_isMatch_124 1 rfl) ?_
        refine sj_wI hJ dX6_isMatch_126 (fun d30 => ?_)
        refine sj (j_goto hJ (tgt := 160) dX6_isMatch_127 (by decide)) ?_
        refine sj (j_sub hJ (L' := [(0, .ref p0), (1, .ref p1), (2, .int p2), (3, .int p3), (4, .int p4)]) [2, 3, 4, 5, 6] rfl) ?_
        exact w_X6_isMatch_b160 hI σ p0 p1 p2 p3 p4 d30
      · refine sj (j_sub hJ (L' := [(0, .ref p0), (1, .ref p1), (2, .int p2), (3, .int p3), (4, .int p4), (6, .int q0), (7, .int v19)]) [2, 3, 4, 5, 6, 1, 0] rfl) ?_
        exact w_X6_isMatch_b130 hI σ p0 p1 p2 p3 p4 q0 v19 δ
set_option maxHeartbeats 4000000 in
set_option maxRecDepth 100000 in
theorem w_X6_isMatch_b35 {J : JT} {an : Option Value × St × Dy} (hI : Isj cX6_isMatch 8 RX6 "isMatch" 3 75 (some .boolean) an J) {β : Bu} (σ : St) (p0 : Nat) (p1 : Nat) (p2 : Int32) (p3 : Int32) (p4 : Int32) (q0 : Int32) (δ : Dy) : SJ (m_X6_isMatch_b35 σ p0 p1 p2 p3 p4 q0 δ) (PL (fun s : (Int32 × Dy) => J 13 [(0, .ref p0), (1, .ref p1), (2, .int p2), (3, .int p3), (4, .int s.1)] [] β σ s.2) (PI σ an)) (J 35 [(0, .ref p0), (1, .ref p1), (2, .int p2), (3, .int p3), (4, .int p4)] [.int q0] β σ δ) := by
  have hJ := hI.cor
  unfold m_X6_isMatch_b35
  refine sj (j_istore hJ (L' := [(5, .int q0), (0, .ref p0), (1, .ref p1), (2, .int p2), (3, .int p3), (4, .int p4)]) dX6_isMatch_35 (by decide) rfl) ?_
  refine sj (j_iload hJ dX6_isMatch_37 5 rfl) ?_
  refine sj (j_iconst hJ (v := 2) dX6_isMatch_39 ic_2) ?_
  refine sj_rmI hJ dX6_isMatch_40 (fun v14 => ?_)
  refine sj_if (j_if_ne hJ (tgt := 57) dX6_isMatch_41 (by decide)) (fun _ => ?_) (fun _ => ?_)
  · refine sj (j_aload_n hJ dX6_isMatch_44 rfl 1 rfl) ?_
    refine sj_gR hJ fl_X6_31 rfl dX6_isMatch_45 (fun v15 => ?_)
    refine sj_gR hJ fl_X6_157 rfl dX6_isMatch_48 (fun v16 => ?_)
    refine sj (j_iload hJ dX6_isMatch_51 0 rfl) ?_
    refine sj_rI hJ dX6_isMatch_53 (fun v17 => ?_)
    refine sj (j_goto hJ (tgt := 67) dX6_isMatch_54 (by decide)) ?_
    refine sj (j_sub hJ (L' := [(0, .ref p0), (1, .ref p1), (2, .int p2), (3, .int p3), (4, .int p4)]) [1, 2, 3, 4, 5] rfl) ?_
    exact w_X6_isMatch_b67 hI σ p0 p1 p2 p3 p4 v17 δ
  · refine sj (j_aload_n hJ dX6_isMatch_57 rfl 1 rfl) ?_
    refine sj_gR hJ fl_X6_31 rfl dX6_isMatch_58 (fun v31 => ?_)
    refine sj_gR hJ fl_X6_160 rfl dX6_isMatch_61 (fun v32 => ?_)
    refine sj (j_iload hJ dX6_isMatch_64 0 rfl) ?_
    refine sj_rI hJ dX6_isMatch_66 (fun v33 => ?_)
    refine sj (j_sub hJ (L' := [(0, .ref p0), (1, .ref p1), (2, .int p2), (3, .int p3), (4, .int p4)]) [1, 2, 3, 4, 5] rfl) ?_
    exact w_X6_isMatch_b67 hI σ p0 p1 p2 p3 p4 v33 δ
set_option maxHeartbeats 4000000 in
set_option maxRecDepth 100000 in
theorem w_X6_isMatch_b13 {J : JT} {an : Option Value × St × Dy} (hI : Isj cX6_isMatch 8 RX6 "isMatch" 3 75 (some .boolean) an J) {β : Bu} (σ : St) (p0 : Nat) (p1 : Nat) (p2 : Int32) (p3 : Int32) (p4 : Int32) (δ : Dy) : SJ (m_X6_isMatch_b13 σ p0 p1 p2 p3 p4 δ) (PI σ an) (J 13 [(0, .ref p0), (1, .ref p1), (2, .int p2), (3, .int p3), (4, .int p4)] [] β σ δ) := by
  have hJ := hI.cor
  unfold m_X6_isMatch_b13
  refine sj_lp (G := fun s : (Int32 × Dy) => J 13 [(0, .ref p0), (1, .ref p1), (2, .int p2), (3, .int p3), (4, .int s.1)] [] β σ s.2) (fun s => ?_) (p4, δ)
  refine sj (j_iload hJ dX6_isMatch_13 4 rfl) ?_
  refine sj (j_iconst hJ (v := 2) dX6_isMatch_15 ic_2) ?_
  refine sj (j_aload_n hJ dX6_isMatch_16 rfl 1 rfl) ?_
  refine sj_gI hJ fl_X6_130 (Or.inl rfl) dX6_isMatch_17 (fun v3 => ?_)
  refine sj (j_imul hJ dX6_isMatch_20) ?_
  refine sj_if (j_icmp_ge hJ (tgt := 166) dX6_isMatch_21 (by decide)) (fun _ => ?_) (fun _ => ?_)
  · refine sj (j_aload_n hJ dX6_isMatch_166 rfl 1 rfl) ?_
    refine sj_gI hJ fl_X6_178 (Or.inr rfl) dX6_isMatch_167 (fun v4 => ?_)
    refine sj_if (j_if_eq hJ (tgt := 209) dX6_isMatch_170 (by decide)) (fun _ => ?_) (fun _ => ?_)
    · refine sj (j_iconst hJ (v := 1) dX6_isMatch_209 ic_1) ?_
      refine sj (j_goto hJ (tgt := 214) dX6_isMatch_210 (by decide)) ?_
      exact sj_zret hI (by decide) dX6_isMatch_214 (fun h => h)
    · refine sj (j_aload_n hJ dX6_isMatch_173 rfl 0 rfl) ?_
      refine sj_gR hJ fl_X6_31 rfl dX6_isMatch_174 (fun v5 => ?_)
      refine sj (j_aload_n hJ dX6_isMatch_177 rfl 1 rfl) ?_
      refine sj_gI hJ fl_X6_181 (Or.inl rfl) dX6_isMatch_178 (fun v6 => ?_)
      refine sj (j_aload_n hJ dX6_isMatch_181 rfl 1 rfl) ?_
      refine sj_gI hJ fl_X6_184 (Or.inl rfl) dX6_isMatch_182 (fun v7 => ?_)
      refine sj (j_aload_n hJ dX6_isMatch_185 rfl 0 rfl) ?_
      refine sj_gR hJ fl_X6_17 rfl dX6_isMatch_186 (fun v8 => ?_)
      refine sj_callSip hJ [.int v7, .ref v8] (st := [.int v6, .ref v5]) (fr' := 1) (lo' := 20) ml_X6_170 (by decide) (by decide) (Nat.le_of_ble_eq_true rfl) dX6_isMatch_189 rfl (fun _ h9 => ct_X6_resolve h9) (fun v9 => ?_)
      refine sj (j_aload_n hJ dX6_isMatch_192 rfl 1 rfl) ?_
      refine sj_gI hJ fl_X6_187 (Or.inl rfl) dX6_isMatch_193 (fun v10 => ?_)
      refine sj (j_aload_n hJ dX6_isMatch_196 rfl 0 rfl) ?_
      refine sj_gR hJ fl_X6_17 rfl dX6_isMatch_197 (fun v11 => ?_)
      refine sj_callSip hJ [.int v10, .ref v11] (st := [.int v9, .int v6, .ref v5]) (fr' := 1) (lo' := 20) ml_X6_170 (by decide) (by decide) (Nat.le_of_ble_eq_true rfl) dX6_isMatch_200 rfl (fun _ h9 => ct_X6_resolve h9) (fun v12 => ?_)
      refine sj_callVip hJ [.int v6, .int v9, .int v12] (st := []) (fr' := 2) (lo' := 49) ml_X6_190 hc_8 (by decide) (by decide) (Nat.le_of_ble_eq_true rfl) dX6_isMatch_203 rfl (fun _ h9 => ct_X8_isEntailed h9) (fun v13 => ?_)
      refine sj_if (j_if_eq hJ (tgt := 213) dX6_isMatch_206 (by decide)) (fun _ => ?_) (fun _ => ?_)
      · refine sj (j_iconst hJ (v := 0) dX6_isMatch_213 ic_0) ?_
        exact sj_zret hI (by decide) dX6_isMatch_214 (fun h => h)
      · refine sj (j_iconst hJ (v := 1) dX6_isMatch_209 ic_1) ?_
        refine sj (j_goto hJ (tgt := 214) dX6_isMatch_210 (by decide)) ?_
        exact sj_zret hI (by decide) dX6_isMatch_214 (fun h => h)
  · refine sj (j_iload hJ dX6_isMatch_24 4 rfl) ?_
    refine sj (j_iconst hJ (v := 2) dX6_isMatch_26 ic_2) ?_
    refine sj_if (j_icmp_ge hJ (tgt := 34) dX6_isMatch_27 (by decide)) (fun _ => ?_) (fun _ => ?_)
    · refine sj (j_iload_n hJ dX6_isMatch_34 rfl 3 rfl) ?_
      exact w_X6_isMatch_b35 hI σ p0 p1 p2 p3 s.1 p3 s.2
    · refine sj (j_iload_n hJ dX6_isMatch_30 rfl 2 rfl) ?_
      refine sj (j_goto hJ (tgt := 35) dX6_isMatch_31 (by decide)) ?_
      exact w_X6_isMatch_b35 hI σ p0 p1 p2 p3 s.1 p2 s.2
set_option maxHeartbeats 4000000 in
set_option maxRecDepth 100000 in
theorem w_X6_isMatch {J : JT} {an : Option Value × St × Dy} (hI : Isj cX6_isMatch 8 RX6 "isMatch" 3 75 (some .boolean) an J) {β : Bu} (σ : St) (p0 : Nat) (p1 : Nat) (p2 : Int32) (p3 : Int32) (δ : Dy) : SJ (m_X6_isMatch σ p0 p1 p2 p3 δ) (PI σ an) (J 0 [(0, .ref p0), (1, .ref p1), (2, .int p2), (3, .int p3)] [] β σ δ) := by
  have hJ := hI.cor
  unfold m_X6_isMatch
  refine sj (j_aload_n hJ dX6_isMatch_0 rfl 0 rfl) ?_
  refine sj_gR hJ fl_X6_17 rfl dX6_isMatch_1 (fun v1 => ?_)
  refine sj (j_sipush hJ (v := 1000) dX6_isMatch_4 is_1000) ?_
  refine sj_callSv hJ [.ref v1, .int (1000 : Int32)] (st := []) (fr' := 0) (lo' := 0) ml_X6_56 (by decide) (by decide) (Nat.le_of_ble_eq_true rfl) dX6_isMatch_7 rfl (fun _ h9 => ct_J7_fill_53178 h9) (fun v2 => ?_)
  refine sj (j_iconst hJ (v := 0) dX6_isMatch_10 ic_0) ?_
  refine sj (j_istore hJ (L' := [(4, .int (0 : Int32)), (0, .ref p0), (1, .ref p1), (2, .int p2), (3, .int p3)]) dX6_isMatch_11 (by decide) rfl) ?_
  refine sj (j_sub hJ (L' := [(0, .ref p0), (1, .ref p1), (2, .int p2), (3, .int p3), (4, .int (0 : Int32))]) [1, 2, 3, 4, 0] rfl) ?_
  exact w_X6_isMatch_b13 hI σ p0 p1 p2 p3 (0 : Int32) v2
theorem ct_X6_isMatch {σ : St} {p0 : Nat} {p1 : Nat} {p2 : Int32} {p3 : Int32} {δ : Dy} {r : (Int32 × Dy)} (h : m_X6_isMatch σ p0 p1 p2 p3 δ = some r) : CT yX6_isMatch cX6_isMatch 8 (some .boolean) 3 75 0 0 [.ref p0, .ref p1, .int p2, .int p3] σ δ ((some (.int r.1)), σ, r.2) := CT_of (by decide +kernel) (Nat.le_of_ble_eq_true rfl) (fun J hI => w_X6_isMatch hI σ p0 p1 p2 p3 δ r h rfl)
def m_X8_mayAct (σ : St) (p0 : Nat) (δ : Dy) : Option (Int32 × Dy) :=
  (gI σ δ 8 p0 11).bind fun v1 =>
  if v1 < (60 : Int32) then
    (gI σ δ 8 p0 11).bind fun v2 =>
    (pI σ δ 8 p0 11 (v2 + (1 : Int32))).bind fun d3 =>
    some ((1 : Int32), d3)
  else
    (pZ σ δ 8 p0 12 (1 : Int32)).bind fun d4 =>
    some ((0 : Int32), d4)
set_option maxHeartbeats 4000000 in
set_option maxRecDepth 100000 in
theorem w_X8_mayAct {J : JT} {an : Option Value × St × Dy} (hI : Isj cX8_mayAct 1 RX8 "mayAct" 0 0 (some .boolean) an J) {β : Bu} (σ : St) (p0 : Nat) (δ : Dy) : SJ (m_X8_mayAct σ p0 δ) (PI σ an) (J 0 [(0, .ref p0)] [] β σ δ) := by
  have hJ := hI.cor
  unfold m_X8_mayAct
  refine sj (j_aload_n hJ dX8_mayAct_0 rfl 0 rfl) ?_
  refine sj_gI hJ fl_X8_55 (Or.inl rfl) dX8_mayAct_1 (fun v1 => ?_)
  refine sj (j_bipush hJ (v := 60) dX8_mayAct_4 ib_60) ?_
  refine sj_if (j_icmp_lt hJ (tgt := 16) dX8_mayAct_6 (by decide)) (fun _ => ?_) (fun _ => ?_)
  · refine sj (j_aload_n hJ dX8_mayAct_16 rfl 0 rfl) ?_
    refine sj (j_dup hJ dX8_mayAct_17 rfl) ?_
    refine sj_gI hJ fl_X8_55 (Or.inl rfl) dX8_mayAct_18 (fun v2 => ?_)
    refine sj (j_iconst hJ (v := 1) dX8_mayAct_21 ic_1) ?_
    refine sj (j_iadd hJ dX8_mayAct_22) ?_
    refine sj_pI hJ fl_X8_55 rfl dX8_mayAct_23 (fun d3 => ?_)
    refine sj (j_iconst hJ (v := 1) dX8_mayAct_26 ic_1) ?_
    exact sj_zret hI (by decide) dX8_mayAct_27 (fun h => h)
  · refine sj (j_aload_n hJ dX8_mayAct_9 rfl 0 rfl) ?_
    refine sj (j_iconst hJ (v := 1) dX8_mayAct_10 ic_1) ?_
    refine sj_pZ hJ fl_X8_58 rfl dX8_mayAct_11 (fun d4 => ?_)
    refine sj (j_iconst hJ (v := 0) dX8_mayAct_14 ic_0) ?_
    exact sj_zret hI (by decide) dX8_mayAct_15 (fun h => h)
theorem ct_X8_mayAct {σ : St} {p0 : Nat} {δ : Dy} {r : (Int32 × Dy)} (h : m_X8_mayAct σ p0 δ = some r) : CT yX8_mayAct cX8_mayAct 1 (some .boolean) 0 0 0 0 [.ref p0] σ δ ((some (.int r.1)), σ, r.2) := CT_of (by decide +kernel) (Nat.le_of_ble_eq_true rfl) (fun J hI => w_X8_mayAct hI σ p0 δ r h rfl)
def m_X7_removesNone (σ : St) (p0 : Nat) (δ : Dy) : Option Int32 :=
  (gR σ 7 p0 2).bind fun v1 =>
  (rZ σ δ v1 (0 : Int32)).bind fun v2 =>
  if v2 = 0 then
    some (0 : Int32)
  else
    (gI σ δ 7 p0 5).bind fun v3 =>
    if v3 < (2 : Int32) then
      some (1 : Int32)
    else
      (gR σ 7 p0 2).bind fun v4 =>
      (rZ σ δ v4 (1 : Int32)).bind fun v5 =>
      if v5 = 0 then
        some (0 : Int32)
      else
        some (1 : Int32)
set_option maxHeartbeats 4000000 in
set_option maxRecDepth 100000 in
theorem w_X7_removesNone {J : JT} {an : Option Value × St × Dy} (hI : Isj cX7_removesNone 1 RX7 "removesNone" 0 0 (some .boolean) an J) {β : Bu} (σ : St) (p0 : Nat) (δ : Dy) : SJ (m_X7_removesNone σ p0 δ) (PIp σ δ an) (J 0 [(0, .ref p0)] [] β σ δ) := by
  have hJ := hI.cor
  unfold m_X7_removesNone
  refine sj (j_aload_n hJ dX7_removesNone_0 rfl 0 rfl) ?_
  refine sj_gR hJ fl_X7_18 rfl dX7_removesNone_1 (fun v1 => ?_)
  refine sj (j_iconst hJ (v := 0) dX7_removesNone_4 ic_0) ?_
  refine sj_rZ hJ dX7_removesNone_5 (fun v2 => ?_)
  refine sj_if (j_if_eq hJ (tgt := 30) dX7_removesNone_6 (by decide)) (fun _ => ?_) (fun _ => ?_)
  · refine sj (j_iconst hJ (v := 0) dX7_removesNone_30 ic_0) ?_
    exact sj_zret hI (by decide) dX7_removesNone_31 (fun h => h)
  · refine sj (j_aload_n hJ dX7_removesNone_9 rfl 0 rfl) ?_
    refine sj_gI hJ fl_X7_28 (Or.inl rfl) dX7_removesNone_10 (fun v3 => ?_)
    refine sj (j_iconst hJ (v := 2) dX7_removesNone_13 ic_2) ?_
    refine sj_if (j_icmp_lt hJ (tgt := 26) dX7_removesNone_14 (by decide)) (fun _ => ?_) (fun _ => ?_)
    · refine sj (j_iconst hJ (v := 1) dX7_removesNone_26 ic_1) ?_
      refine sj (j_goto hJ (tgt := 31) dX7_removesNone_27 (by decide)) ?_
      exact sj_zret hI (by decide) dX7_removesNone_31 (fun h => h)
    · refine sj (j_aload_n hJ dX7_removesNone_17 rfl 0 rfl) ?_
      refine sj_gR hJ fl_X7_18 rfl dX7_removesNone_18 (fun v4 => ?_)
      refine sj (j_iconst hJ (v := 1) dX7_removesNone_21 ic_1) ?_
      refine sj_rZ hJ dX7_removesNone_22 (fun v5 => ?_)
      refine sj_if (j_if_eq hJ (tgt := 30) dX7_removesNone_23 (by decide)) (fun _ => ?_) (fun _ => ?_)
      · refine sj (j_iconst hJ (v := 0) dX7_removesNone_30 ic_0) ?_
        exact sj_zret hI (by decide) dX7_removesNone_31 (fun h => h)
      · refine sj (j_iconst hJ (v := 1) dX7_removesNone_26 ic_1) ?_
        refine sj (j_goto hJ (tgt := 31) dX7_removesNone_27 (by decide)) ?_
        exact sj_zret hI (by decide) dX7_removesNone_31 (fun h => h)
theorem ct_X7_removesNone {σ : St} {p0 : Nat} {δ : Dy} {r : Int32} (h : m_X7_removesNone σ p0 δ = some r) : CT yX7_removesNone cX7_removesNone 1 (some .boolean) 0 0 0 0 [.ref p0] σ δ ((some (.int r)), σ, δ) := CT_of (by decide +kernel) (Nat.le_of_ble_eq_true rfl) (fun J hI => w_X7_removesNone hI σ p0 δ r h rfl)
def m_X6_remember (σ : St) (p0 : Nat) (p1 : Int32) (p2 : Int32) (p3 : Int32) (δ : Dy) : Option Dy :=
  (gR σ 6 p0 5).bind fun v1 =>
  (m_X6_historyRow σ p1 p2 p3 δ).bind fun v2 =>
  (rL σ δ v1 v2).bind fun v3 =>
  (m_X6_historyBit σ p3 δ).bind fun v4 =>
  (wLo σ δ v1 v2 (v3 ||| v4)).bind fun d5 =>
  (gI σ d5 6 p0 7).bind fun v6 =>
  if (60 : Int32) ≤ v6 then
    some d5
  else
    (gR σ 6 p0 6).bind fun v7 =>
    (gI σ d5 6 p0 7).bind fun v8 =>
    (wI σ d5 v7 v8 ((((p1 * (100 : Int32)) + p2) * (100 : Int32)) + (if p3 < (0 : Int32) then (0 : Int32) else p3))).bind fun d9 =>
    (gI σ d9 6 p0 7).bind fun v10 =>
    (pI σ d9 6 p0 7 (v10 + (1 : Int32))).bind fun d11 =>
    some d11
set_option maxHeartbeats 4000000 in
set_option maxRecDepth 100000 in
theorem w_X6_remember {J : JT} {an : Option Value × St × Dy} (hI : Isj cX6_remember 4 RX6 "remember" 1 22 none an J) {β : Bu} (σ : St) (p0 : Nat) (p1 : Int32) (p2 : Int32) (p3 : Int32) (δ : Dy) : SJ (m_X6_remember σ p0 p1 p2 p3 δ) (PV σ an) (J 0 [(0, .ref p0), (1, .int p1), (2, .int p2), (3, .int p3)] [] β σ δ) := by
  have hJ := hI.cor
  unfold m_X6_remember
  refine sj (j_aload_n hJ dX6_remember_0 rfl 0 rfl) ?_
  refine sj_gR hJ fl_X6_21 rfl dX6_remember_1 (fun v1 => ?_)
  refine sj (j_iload_n hJ dX6_remember_4 rfl 1 rfl) ?_
  refine sj (j_iload_n hJ dX6_remember_5 rfl 2 rfl) ?_
  refine sj (j_iload_n hJ dX6_remember_6 rfl 3 rfl) ?_
  refine sj_callSip hJ [.int p1, .int p2, .int p3] (st := [.ref v1]) (fr' := 0) (lo' := 0) ml_X6_193 (by decide) (by decide) (Nat.le_of_ble_eq_true rfl) dX6_remember_7 rfl (fun _ h9 => ct_X6_historyRow h9) (fun v2 => ?_)
  refine sj (j_dup2 hJ dX6_remember_10 rfl rfl) ?_
  refine sj_rL hJ dX6_remember_11 (fun v3 => ?_)
  refine sj (j_iload_n hJ dX6_remember_12 rfl 3 rfl) ?_
  refine sj_callSlp hJ [.int p3] (st := [.long v3, .int v2, .ref v1]) (fr' := 0) (lo' := 0) ml_X6_197 (by decide) (by decide) (Nat.le_of_ble_eq_true rfl) dX6_remember_13 rfl (fun _ h9 => ct_X6_historyBit h9) (fun v4 => ?_)
  refine sj (j_lor hJ dX6_remember_16) ?_
  refine sj_wLo hJ dX6_remember_17 (fun d5 => ?_)
  refine sj (j_aload_n hJ dX6_remember_18 rfl 0 rfl) ?_
  refine sj_gI hJ fl_X6_47 (Or.inl rfl) dX6_remember_19 (fun v6 => ?_)
  refine sj (j_bipush hJ (v := 60) dX6_remember_22 ib_60) ?_
  refine sj_if (j_icmp_ge hJ (tgt := 61) dX6_remember_24 (by decide)) (fun _ => ?_) (fun _ => ?_)
  · exact sj_vret hI dX6_remember_61 (fun h => h)
  · refine sj (j_aload_n hJ dX6_remember_27 rfl 0 rfl) ?_
    refine sj_gR hJ fl_X6_25 rfl dX6_remember_28 (fun v7 => ?_)
    refine sj (j_aload_n hJ dX6_remember_31 rfl 0 rfl) ?_
    refine sj_gI hJ fl_X6_47 (Or.inl rfl) dX6_remember_32 (fun v8 => ?_)
    refine sj (j_iload_n hJ dX6_remember_35 rfl 1 rfl) ?_
    refine sj (j_bipush hJ (v := 100) dX6_remember_36 ib_100) ?_
    refine sj (j_imul hJ dX6_remember_38) ?_
    refine sj (j_iload_n hJ dX6_remember_39 rfl 2 rfl) ?_
    refine sj (j_iadd hJ dX6_remember_40) ?_
    refine sj (j_bipush hJ (v := 100) dX6_remember_41 ib_100) ?_
    refine sj (j_imul hJ dX6_remember_43) ?_
    refine sj (j_iload_n hJ dX6_remember_44 rfl 3 rfl) ?_
    refine sj (j_iconst hJ (v := 0) dX6_remember_45 ic_0) ?_
    refine sj (j_mmax hJ mm_X6_200 (by decide) (by decide) (Nat.le_of_ble_eq_true rfl) dX6_remember_46) ?_
    refine sj (j_iadd hJ dX6_remember_49) ?_
    refine sj_wI hJ dX6_remember_50 (fun d9 => ?_)
    refine sj (j_aload_n hJ dX6_remember_51 rfl 0 rfl) ?_
    refine sj (j_dup hJ dX6_remember_52 rfl) ?_
    refine sj_gI hJ fl_X6_47 (Or.inl rfl) dX6_remember_53 (fun v10 => ?_)
    refine sj (j_iconst hJ (v := 1) dX6_remember_56 ic_1) ?_
    refine sj (j_iadd hJ dX6_remember_57) ?_
    refine sj_pI hJ fl_X6_47 rfl dX6_remember_58 (fun d11 => ?_)
    exact sj_vret hI dX6_remember_61 (fun h => h)
theorem ct_X6_remember {σ : St} {p0 : Nat} {p1 : Int32} {p2 : Int32} {p3 : Int32} {δ : Dy} {r : Dy} (h : m_X6_remember σ p0 p1 p2 p3 δ = some r) : CT yX6_remember cX6_remember 4 none 1 22 0 0 [.ref p0, .int p1, .int p2, .int p3] σ δ (none, σ, r) := CT_of (by decide +kernel) (Nat.le_of_ble_eq_true rfl) (fun J hI => w_X6_remember hI σ p0 p1 p2 p3 δ r h rfl)
def m_X6_fire_b149 (σ : St) (p0 : Nat) (p2 : Int32) (p3 : Int32) (p4 : Nat) (p5 : Nat) (p6 : Int32) (p7 : Int32) (q0 : Nat) (q1 : Int32) (δ : Dy) : Option ((Int32 × Dy) ⊕ Dy) :=
  (pZ σ δ 3 q0 6 q1).bind fun d22 =>
  (gL σ d22 3 p5 7).bind fun v23 =>
  (m_X8_lowBit σ p7 d22).bind fun v24 =>
  (gR σ 6 p0 0).bind fun v25 =>
  (gR σ 8 v25 8).bind fun v26 =>
  (rL σ d22 v26 p7).bind fun v27 =>
  (pL σ d22 3 p5 7 (v23 ||| (v24 ||| v27))).bind fun d28 =>
  (gL σ d28 3 p5 8).bind fun v29 =>
  (m_X8_highBit σ p7 d28).bind fun v30 =>
  (gR σ 6 p0 0).bind fun v31 =>
  (gR σ 8 v31 9).bind fun v32 =>
  (rL σ d28 v32 p7).bind fun v33 =>
  (pL σ d28 3 p5 8 (v29 ||| (v30 ||| v33))).bind fun d34 =>
  some (Sum.inl ((p6 + (1 : Int32)), d34))
def m_X6_fire_b148 (σ : St) (p0 : Nat) (p2 : Int32) (p3 : Int32) (p4 : Nat) (p5 : Nat) (p6 : Int32) (p7 : Int32) (q0 : Nat) (δ : Dy) : Option ((Int32 × Dy) ⊕ Dy) :=
  m_X6_fire_b149 σ p0 p2 p3 p4 p5 p6 p7 q0 (0 : Int32) δ
def m_X6_fire_b101 (σ : St) (p0 : Nat) (p2 : Int32) (p3 : Int32) (p4 : Nat) (p5 : Nat) (p6 : Int32) (q0 : Int32) (δ : Dy) : Option ((Int32 × Dy) ⊕ Dy) :=
  (gR σ 6 p0 0).bind fun v16 =>
  (gR σ 8 v16 7).bind fun v17 =>
  (gR σ 7 p4 2).bind fun v18 =>
  (rZ σ δ v18 p6).bind fun v19 =>
  (wZ σ δ v17 q0 v19).bind fun d20 =>
  (gI σ d20 3 p5 6).bind fun v21 =>
  if v21 = 0 then
    m_X6_fire_b148 σ p0 p2 p3 p4 p5 p6 q0 p5 d20
  else
    (gR σ 6 p0 0).bind fun v35 =>
    (gR σ 8 v35 6).bind fun v36 =>
    (rZ σ d20 v36 q0).bind fun v37 =>
    if v37 = 0 then
      m_X6_fire_b148 σ p0 p2 p3 p4 p5 p6 q0 p5 d20
    else
      m_X6_fire_b149 σ p0 p2 p3 p4 p5 p6 q0 p5 (1 : Int32) d20
def m_X6_fire_b81 (σ : St) (p0 : Nat) (p2 : Int32) (p3 : Int32) (p4 : Nat) (p5 : Nat) (p6 : Int32) (δ : Dy) : Option Dy := lp (fun (s : (Int32 × Dy)) =>
  (gI σ s.2 7 p4 5).bind fun v15 =>
  if v15 ≤ s.1 then
    some (Sum.inr s.2)
  else
    if s.1 = 0 then
      m_X6_fire_b101 σ p0 p2 p3 p4 p5 s.1 p2 s.2
    else
      m_X6_fire_b101 σ p0 p2 p3 p4 p5 s.1 p3 s.2) (p6, δ)
def m_X6_fire_b44 (σ : St) (p0 : Nat) (p1 : Int32) (p2 : Int32) (p3 : Int32) (p4 : Nat) (δ : Dy) : Option Dy :=
  (chk σ 6 p0).bind fun _ => (m_X6_push σ p0 (2 : Int32) δ).bind fun v9 =>
  (pI σ v9.2 3 v9.1 4 p1).bind fun d10 =>
  (pZ σ d10 3 v9.1 6 (1 : Int32)).bind fun d11 =>
  (gR σ 6 p0 4).bind fun v12 =>
  (gR σ 3 v9.1 0).bind fun v13 =>
  (cpI σ d11 v12 (0 : Int32) v13 (0 : Int32) (4 : Int32)).bind fun d14 =>
  m_X6_fire_b81 σ p0 p2 p3 p4 v9.1 (0 : Int32) d14
def m_X6_fire (σ : St) (p0 : Nat) (p1 : Int32) (p2 : Int32) (p3 : Int32) (δ : Dy) : Option Dy :=
  (gR σ 6 p0 0).bind fun v1 =>
  (chk σ 8 v1).bind fun _ => (m_X8_mayAct σ v1 δ).bind fun v2 =>
  if v2.1 = 0 then
    some v2.2
  else
    (gR σ 6 p0 1).bind fun v3 =>
    (rA σ 104 v3 p1).bind fun v4 =>
    (gR σ 6 p0 8).bind fun v5 =>
    (rI σ v2.2 v5 p1).bind fun v6 =>
    (wI σ v2.2 v5 p1 (v6 + (1 : Int32))).bind fun d7 =>
    (chk σ 7 v4).bind fun _ => (m_X7_removesNone σ v4 d7).bind fun v8 =>
    if v8 = 0 then
      m_X6_fire_b44 σ p0 p1 p2 p3 v4 d7
    else
      (chk σ 6 p0).bind fun _ => (m_X6_remember σ p0 p1 p2 p3 d7).bind fun v38 =>
      m_X6_fire_b44 σ p0 p1 p2 p3 v4 v38
set_option maxHeartbeats 4000000 in
set_option maxRecDepth 100000 in
theorem w_X6_fire_b149 {J : JT} {an : Option Value × St × Dy} (hI : Isj cX6_fire 8 RX6 "fire" 2 59 none an J) {β : Bu} (σ : St) (p0 : Nat) (p2 : Int32) (p3 : Int32) (p4 : Nat) (p5 : Nat) (p6 : Int32) (p7 : Int32) (q0 : Nat) (q1 : Int32) (δ : Dy) : SJ (m_X6_fire_b149 σ p0 p2 p3 p4 p5 p6 p7 q0 q1 δ) (PL (fun s : (Int32 × Dy) => J 81 [(0, .ref p0), (2, .int p2), (3, .int p3), (4, .ref p4), (5, .ref p5), (6, .int s.1)] [] β σ s.2) (PV σ an)) (J 149 [(0, .ref p0), (2, .int p2), (3, .int p3), (4, .ref p4), (5, .ref p5), (6, .int p6), (7, .int p7)] [.int q1, .ref q0] β σ δ) := by
  have hJ := hI.cor
  unfold m_X6_fire_b149
  refine sj_pZ hJ fl_X6_220 rfl dX6_fire_149 (fun d22 => ?_)
  refine sj (j_aload hJ dX6_fire_152 4 rfl) ?_
  refine sj (j_dup hJ dX6_fire_154 rfl) ?_
  refine sj_gL hJ fl_X6_83 rfl dX6_fire_155 (fun v23 => ?_)
  refine sj (j_iload hJ dX6_fire_158 6 rfl) ?_
  refine sj_callSlp hJ [.int p7] (st := [.long v23, .ref p5]) (fr' := 0) (lo' := 0) ml_X6_109 (by decide) (by decide) (Nat.le_of_ble_eq_true rfl) dX6_fire_160 rfl (fun _ h9 => ct_X8_lowBit h9) (fun v24 => ?_)
  refine sj (j_aload_n hJ dX6_fire_163 rfl 0 rfl) ?_
  refine sj_gR hJ fl_X6_31 rfl dX6_fire_164 (fun v25 => ?_)
  refine sj_gR hJ fl_X6_229 rfl dX6_fire_167 (fun v26 => ?_)
  refine sj (j_iload hJ dX6_fire_170 6 rfl) ?_
  refine sj_rL hJ dX6_fire_172 (fun v27 => ?_)
  refine sj (j_lor hJ dX6_fire_173) ?_
  refine sj (j_lor hJ dX6_fire_174) ?_
  refine sj_pL hJ fl_X6_83 rfl dX6_fire_175 (fun d28 => ?_)
  refine sj (j_aload hJ dX6_fire_178 4 rfl) ?_
  refine sj (j_dup hJ dX6_fire_180 rfl) ?_
  refine sj_gL hJ fl_X6_87 rfl dX6_fire_181 (fun v29 => ?_)
  refine sj (j_iload hJ dX6_fire_184 6 rfl) ?_
  refine sj_callSlp hJ [.int p7] (st := [.long v29, .ref p5]) (fr' := 0) (lo' := 0) ml_X6_113 (by decide) (by decide) (Nat.le_of_ble_eq_true rfl) dX6_fire_186 rfl (fun _ h9 => ct_X8_highBit h9) (fun v30 => ?_)
  refine sj (j_aload_n hJ dX6_fire_189 rfl 0 rfl) ?_
  refine sj_gR hJ fl_X6_31 rfl dX6_fire_190 (fun v31 => ?_)
  refine sj_gR hJ fl_X6_231 rfl dX6_fire_193 (fun v32 => ?_)
  refine sj (j_iload hJ dX6_fire_196 6 rfl) ?_
  refine sj_rL hJ dX6_fire_198 (fun v33 => ?_)
  refine sj (j_lor hJ dX6_fire_199) ?_
  refine sj (j_lor hJ dX6_fire_200) ?_
  refine sj_pL hJ fl_X6_87 rfl dX6_fire_201 (fun d34 => ?_)
  refine sj (j_iinc hJ (L' := [(6, .int (p6 + (1 : Int32))), (0, .ref p0), (2, .int p2), (3, .int p3), (4, .ref p4), (5, .ref p5), (7, .int p7)]) dX6_fire_204 5 rfl (congrArg (fun z => p6 + z) ic_1) (by decide) rfl) ?_
  refine sj (j_goto hJ (tgt := 81) dX6_fire_207 (by decide)) ?_
  refine sj (j_sub hJ (L' := [(0, .ref p0), (2, .int p2), (3, .int p3), (4, .ref p4), (5, .ref p5), (6, .int (p6 + (1 : Int32)))]) [1, 2, 3, 4, 5, 0] rfl) ?_
  exact sj_end (fun h => h)
set_option maxHeartbeats 4000000 in
set_option maxRecDepth 100000 in
theorem w_X6_fire_b148 {J : JT} {an : Option Value × St × Dy} (hI : Isj cX6_fire 8 RX6 "fire" 2 59 none an J) {β : Bu} (σ : St) (p0 : Nat) (p2 : Int32) (p3 : Int32) (p4 : Nat) (p5 : Nat) (p6 : Int32) (p7 : Int32) (q0 : Nat) (δ : Dy) : SJ (m_X6_fire_b148 σ p0 p2 p3 p4 p5 p6 p7 q0 δ) (PL (fun s : (Int32 × Dy) => J 81 [(0, .ref p0), (2, .int p2), (3, .int p3), (4, .ref p4), (5, .ref p5), (6, .int s.1)] [] β σ s.2) (PV σ an)) (J 148 [(0, .ref p0), (2, .int p2), (3, .int p3), (4, .ref p4), (5, .ref p5), (6, .int p6), (7, .int p7)] [.ref q0] β σ δ) := by
  have hJ := hI.cor
  unfold m_X6_fire_b148
  refine sj (j_iconst hJ (v := 0) dX6_fire_148 ic_0) ?_
  exact w_X6_fire_b149 hI σ p0 p2 p3 p4 p5 p6 p7 q0 (0 : Int32) δ
set_option maxHeartbeats 4000000 in
set_option maxRecDepth 100000 in
theorem w_X6_fire_b101 {J : JT} {an : Option Value × St × Dy} (hI : Isj cX6_fire 8 RX6 "fire" 2 59 none an J) {β : Bu} (σ : St) (p0 : Nat) (p2 : Int32) (p3 : Int32) (p4 : Nat) (p5 : Nat) (p6 : Int32) (q0 : Int32) (δ : Dy) : SJ (m_X6_fire_b101 σ p0 p2 p3 p4 p5 p6 q0 δ) (PL (fun s : (Int32 × Dy) => J 81 [(0, .ref p0), (2, .int p2), (3, .int p3), (4, .ref p4), (5, .ref p5), (6, .int s.1)] [] β σ s.2) (PV σ an)) (J 101 [(0, .ref p0), (2, .int p2), (3, .int p3), (4, .ref p4), (5, .ref p5), (6, .int p6)] [.int q0] β σ δ) := by
  have hJ := hI.cor
  unfold m_X6_fire_b101
  refine sj (j_istore hJ (L' := [(7, .int q0), (0, .ref p0), (2, .int p2), (3, .int p3), (4, .ref p4), (5, .ref p5), (6, .int p6)]) dX6_fire_101 (by decide) rfl) ?_
  refine sj (j_aload_n hJ dX6_fire_103 rfl 1 rfl) ?_
  refine sj_gR hJ fl_X6_31 rfl dX6_fire_104 (fun v16 => ?_)
  refine sj_gR hJ fl_X6_126 rfl dX6_fire_107 (fun v17 => ?_)
  refine sj (j_iload hJ dX6_fire_110 0 rfl) ?_
  refine sj (j_aload hJ dX6_fire_112 4 rfl) ?_
  refine sj_gR hJ fl_X6_224 rfl dX6_fire_114 (fun v18 => ?_)
  refine sj (j_iload hJ dX6_fire_117 6 rfl) ?_
  refine sj_rZ hJ dX6_fire_119 (fun v19 => ?_)
  refine sj_wZ hJ dX6_fire_120 (fun d20 => ?_)
  refine sj (j_aload hJ dX6_fire_121 5 rfl) ?_
  refine sj (j_aload hJ dX6_fire_123 5 rfl) ?_
  refine sj_gI hJ fl_X6_220 (Or.inr rfl) dX6_fire_125 (fun v21 => ?_)
  refine sj_if (j_if_eq hJ (tgt := 148) dX6_fire_128 (by decide)) (fun _ => ?_) (fun _ => ?_)
  · refine sj (j_sub hJ (L' := [(0, .ref p0), (2, .int p2), (3, .int p3), (4, .ref p4), (5, .ref p5), (6, .int p6), (7, .int q0)]) [1, 2, 3, 4, 5, 6, 0] rfl) ?_
    exact w_X6_fire_b148 hI σ p0 p2 p3 p4 p5 p6 q0 p5 d20
  · refine sj (j_aload_n hJ dX6_fire_131 rfl 1 rfl) ?_
    refine sj_gR hJ fl_X6_31 rfl dX6_fire_132 (fun v35 => ?_)
    refine sj_gR hJ fl_X6_227 rfl dX6_fire_135 (fun v36 => ?_)
    refine sj (j_iload hJ dX6_fire_138 0 rfl) ?_
    refine sj_rZ hJ dX6_fire_140 (fun v37 => ?_)
    refine sj_if (j_if_eq hJ (tgt := 148) dX6_fire_141 (by decide)) (fun _ => ?_) (fun _ => ?_)
    · refine sj (j_sub hJ (L' := [(0, .ref p0), (2, .int p2), (3, .int p3), (4, .ref p4), (5, .ref p5), (6, .int p6), (7, .int q0)]) [1, 2, 3, 4, 5, 6, 0] rfl) ?_
      exact w_X6_fire_b148 hI σ p0 p2 p3 p4 p5 p6 q0 p5 d20
    · refine sj (j_iconst hJ (v := 1) dX6_fire_144 ic_1) ?_
      refine sj (j_goto hJ (tgt := 149) dX6_fire_145 (by decide)) ?_
      refine sj (j_sub hJ (L' := [(0, .ref p0), (2, .int p2), (3, .int p3), (4, .ref p4), (5, .ref p5), (6, .int p6), (7, .int q0)]) [1, 2, 3, 4, 5, 6, 0] rfl) ?_
      exact w_X6_fire_b149 hI σ p0 p2 p3 p4 p5 p6 q0 p5 (1 : Int32) d20
set_option maxHeartbeats 4000000 in
set_option maxRecDepth 100000 in
theorem w_X6_fire_b81 {J : JT} {an : Option Value × St × Dy} (hI : Isj cX6_fire 8 RX6 "fire" 2 59 none an J) {β : Bu} (σ : St) (p0 : Nat) (p2 : Int32) (p3 : Int32) (p4 : Nat) (p5 : Nat) (p6 : Int32) (δ : Dy) : SJ (m_X6_fire_b81 σ p0 p2 p3 p4 p5 p6 δ) (PV σ an) (J 81 [(0, .ref p0), (2, .int p2), (3, .int p3), (4, .ref p4), (5, .ref p5), (6, .int p6)] [] β σ δ) := by
  have hJ := hI.cor
  unfold m_X6_fire_b81
  refine sj_lp (G := fun s : (Int32 × Dy) => J 81 [(0, .ref p0), (2, .int p2), (3, .int p3), (4, .ref p4), (5, .ref p5), (6, .int s.1)] [] β σ s.2) (fun s => ?_) (p6, δ)
  refine sj (j_iload hJ dX6_fire_81 5 rfl) ?_
  refine sj (j_aload hJ dX6_fire_83 3 rfl) ?_
  refine sj_gI hJ fl_X6_130 (Or.inl rfl) dX6_fire_85 (fun v15 => ?_)
  refine sj_if (j_icmp_ge hJ (tgt := 210) dX6_fire_88 (by decide)) (fun _ => ?_) (fun _ => ?_)
  · exact sj_vret hI dX6_fire_210 (fun h => h)
  · refine sj (j_iload hJ dX6_fire_91 5 rfl) ?_
    refine sj_if (j_if_ne hJ (tgt := 100) dX6_fire_93 (by decide)) (fun _ => ?_) (fun _ => ?_)
    · refine sj (j_iload_n hJ dX6_fire_96 rfl 1 rfl) ?_
      refine sj (j_goto hJ (tgt := 101) dX6_fire_97 (by decide)) ?_
      exact w_X6_fire_b101 hI σ p0 p2 p3 p4 p5 s.1 p2 s.2
    · refine sj (j_iload_n hJ dX6_fire_100 rfl 2 rfl) ?_
      exact w_X6_fire_b101 hI σ p0 p2 p3 p4 p5 s.1 p3 s.2
set_option maxHeartbeats 4000000 in
set_option maxRecDepth 100000 in
theorem w_X6_fire_b44 {J : JT} {an : Option Value × St × Dy} (hI : Isj cX6_fire 8 RX6 "fire" 2 59 none an J) {β : Bu} (σ : St) (p0 : Nat) (p1 : Int32) (p2 : Int32) (p3 : Int32) (p4 : Nat) (δ : Dy) : SJ (m_X6_fire_b44 σ p0 p1 p2 p3 p4 δ) (PV σ an) (J 44 [(0, .ref p0), (1, .int p1), (2, .int p2), (3, .int p3), (4, .ref p4)] [] β σ δ) := by
  have hJ := hI.cor
  unfold m_X6_fire_b44
  refine sj (j_aload_n hJ dX6_fire_44 rfl 0 rfl) ?_
  refine sj (j_iconst hJ (v := 2) dX6_fire_45 ic_2) ?_
  refine sj_callVa hJ [.int (2 : Int32)] (st := []) (fr' := 0) (lo' := 0) ml_X6_94 hc_6 (by decide) (by decide) (Nat.le_of_ble_eq_true rfl) dX6_fire_46 rfl (fun _ h9 => ct_X6_push h9) (fun v9 => ?_)
  refine sj (j_astore hJ (L' := [(5, .ref v9.1), (0, .ref p0), (1, .int p1), (2, .int p2), (3, .int p3), (4, .ref p4)]) dX6_fire_49 (by decide) rfl) ?_
  refine sj (j_aload hJ dX6_fire_51 0 rfl) ?_
  refine sj (j_iload_n hJ dX6_fire_53 rfl 2 rfl) ?_
  refine sj_pI hJ fl_X6_217 rfl dX6_fire_54 (fun d10 => ?_)
  refine sj (j_aload hJ dX6_fire_57 0 rfl) ?_
  refine sj (j_iconst hJ (v := 1) dX6_fire_59 ic_1) ?_
  refine sj_pZ hJ fl_X6_220 rfl dX6_fire_60 (fun d11 => ?_)
  refine sj (j_aload_n hJ dX6_fire_63 rfl 1 rfl) ?_
  refine sj_gR hJ fl_X6_17 rfl dX6_fire_64 (fun v12 => ?_)
  refine sj (j_iconst hJ (v := 0) dX6_fire_67 ic_0) ?_
  refine sj (j_aload hJ dX6_fire_68 0 rfl) ?_
  refine sj_gR hJ fl_X6_223 rfl dX6_fire_70 (fun v13 => ?_)
  refine sj (j_iconst hJ (v := 0) dX6_fire_73 ic_0) ?_
  refine sj (j_iconst hJ (v := 4) dX6_fire_74 ic_4) ?_
  refine sj_cpI hJ mm_X6_59 (by decide) (by decide) (Nat.le_of_ble_eq_true rfl) dX6_fire_75 (fun d14 => ?_)
  refine sj (j_iconst hJ (v := 0) dX6_fire_78 ic_0) ?_
  refine sj (j_istore hJ (L' := [(6, .int (0 : Int32)), (5, .ref v9.1), (0, .ref p0), (1, .int p1), (2, .int p2), (3, .int p3), (4, .ref p4)]) dX6_fire_79 (by decide) rfl) ?_
  refine sj (j_sub hJ (L' := [(0, .ref p0), (2, .int p2), (3, .int p3), (4, .ref p4), (5, .ref v9.1), (6, .int (0 : Int32))]) [2, 4, 5, 6, 1, 0] rfl) ?_
  exact w_X6_fire_b81 hI σ p0 p2 p3 p4 v9.1 (0 : Int32) d14
set_option maxHeartbeats 4000000 in
set_option maxRecDepth 100000 in
theorem w_X6_fire {J : JT} {an : Option Value × St × Dy} (hI : Isj cX6_fire 8 RX6 "fire" 2 59 none an J) {β : Bu} (σ : St) (p0 : Nat) (p1 : Int32) (p2 : Int32) (p3 : Int32) (δ : Dy) : SJ (m_X6_fire σ p0 p1 p2 p3 δ) (PV σ an) (J 0 [(0, .ref p0), (1, .int p1), (2, .int p2), (3, .int p3)] [] β σ δ) := by
  have hJ := hI.cor
  unfold m_X6_fire
  refine sj (j_aload_n hJ dX6_fire_0 rfl 0 rfl) ?_
  refine sj_gR hJ fl_X6_31 rfl dX6_fire_1 (fun v1 => ?_)
  refine sj_callVi hJ [] (st := []) (fr' := 0) (lo' := 0) ml_X6_207 hc_8 (by decide) (by decide) (Nat.le_of_ble_eq_true rfl) dX6_fire_4 rfl (fun _ h9 => ct_X8_mayAct h9) (fun v2 => ?_)
  refine sj_if (j_if_ne hJ (tgt := 11) dX6_fire_7 (by decide)) (fun _ => ?_) (fun _ => ?_)
  · exact sj_vret hI dX6_fire_10 (fun h => h)
  · refine sj (j_aload_n hJ dX6_fire_11 rfl 0 rfl) ?_
    refine sj_gR hJ fl_X6_35 rfl dX6_fire_12 (fun v3 => ?_)
    refine sj (j_iload_n hJ dX6_fire_15 rfl 1 rfl) ?_
    refine sj_rARu hJ dX6_fire_16 (fun v4 => ?_)
    refine sj (j_astore hJ (L' := [(4, .ref v4), (0, .ref p0), (1, .int p1), (2, .int p2), (3, .int p3)]) dX6_fire_17 (by decide) rfl) ?_
    refine sj (j_aload_n hJ dX6_fire_19 rfl 1 rfl) ?_
    refine sj_gR hJ fl_X6_28 rfl dX6_fire_20 (fun v5 => ?_)
    refine sj (j_iload_n hJ dX6_fire_23 rfl 2 rfl) ?_
    refine sj (j_dup2 hJ dX6_fire_24 rfl rfl) ?_
    refine sj_rI hJ dX6_fire_25 (fun v6 => ?_)
    refine sj (j_iconst hJ (v := 1) dX6_fire_26 ic_1) ?_
    refine sj (j_iadd hJ dX6_fire_27) ?_
    refine sj_wI hJ dX6_fire_28 (fun d7 => ?_)
    refine sj (j_aload hJ dX6_fire_29 0 rfl) ?_
    refine sj_callVip hJ [] (st := []) (fr' := 0) (lo' := 0) ml_X6_211 hc_7 (by decide) (by decide) (Nat.le_of_ble_eq_true rfl) dX6_fire_31 rfl (fun _ h9 => ct_X7_removesNone h9) (fun v8 => ?_)
    refine sj_if (j_if_eq hJ (tgt := 44) dX6_fire_34 (by decide)) (fun _ => ?_) (fun _ => ?_)
    · refine sj (j_sub hJ (L' := [(0, .ref p0), (1, .int p1), (2, .int p2), (3, .int p3), (4, .ref v4)]) [1, 2, 3, 4, 0] rfl) ?_
      exact w_X6_fire_b44 hI σ p0 p1 p2 p3 v4 d7
    · refine sj (j_aload_n hJ dX6_fire_37 rfl 1 rfl) ?_
      refine sj (j_iload_n hJ dX6_fire_38 rfl 2 rfl) ?_
      refine sj (j_iload_n hJ dX6_fire_39 rfl 3 rfl) ?_
      refine sj (j_iload_n hJ dX6_fire_40 rfl 4 rfl) ?_
      refine sj_callVv hJ [.int p1, .int p2, .int p3] (st := []) (fr' := 1) (lo' := 22) ml_X6_214 hc_6 (by decide) (by decide) (Nat.le_of_ble_eq_true rfl) dX6_fire_41 rfl (fun _ h9 => ct_X6_remember h9) (fun v38 => ?_)
      refine sj (j_sub hJ (L' := [(0, .ref p0), (1, .int p1), (2, .int p2), (3, .int p3), (4, .ref v4)]) [1, 2, 3, 4, 0] rfl) ?_
      exact w_X6_fire_b44 hI σ p0 p1 p2 p3 v4 v38
theorem ct_X6_fire {σ : St} {p0 : Nat} {p1 : Int32} {p2 : Int32} {p3 : Int32} {δ : Dy} {r : Dy} (h : m_X6_fire σ p0 p1 p2 p3 δ = some r) : CT yX6_fire cX6_fire 8 none 2 59 0 0 [.ref p0, .int p1, .int p2, .int p3] σ δ (none, σ, r) := CT_of (by decide +kernel) (Nat.le_of_ble_eq_true rfl) (fun J hI => w_X6_fire hI σ p0 p1 p2 p3 δ r h rfl)
def m_X6_advanceActive_b136 (σ : St) (p0 : Nat) (p1 : Nat) (p2 : Int32) (p3 : Int32) (p4 : Int32) (p8 : Int32) (δ : Dy) : Option ((Dy) ⊕ Dy) :=
  (pI σ δ 3 p1 3 ((p4 - p8) + (100 : Int32))).bind fun d19 =>
  some (Sum.inl d19)
def m_X6_advanceActive_b253 (σ : St) (p0 : Nat) (p1 : Nat) (p2 : Int32) (p3 : Int32) (δ : Dy) : Option ((Dy) ⊕ Dy) :=
  some (Sum.inl δ)
def m_X6_advanceActive_b200 (σ : St) (p0 : Nat) (p1 : Nat) (p2 : Int32) (p3 : Int32) (p5 : Int32) (p6 : Nat) (p7 : Int32) (p10 : Int32) (p11 : Int32) (q0 : Int32) (δ : Dy) : Option ((Dy) ⊕ Dy) :=
  (chk σ 6 p0).bind fun _ => (m_X6_isPartner σ p0 p6 p7 p2 p10 δ).bind fun v27 =>
  if v27 = 0 then
    m_X6_advanceActive_b253 σ p0 p1 p2 p3 δ
  else
    (chk σ 6 p0).bind fun _ => (m_X6_isNew σ p0 p5 p11 q0 δ).bind fun v28 =>
    if v28 = 0 then
      m_X6_advanceActive_b253 σ p0 p1 p2 p3 δ
    else
      (chk σ 6 p0).bind fun _ => (m_X6_isMatch σ p0 p6 p11 q0 δ).bind fun v29 =>
      if v29.1 = 0 then
        m_X6_advanceActive_b253 σ p0 p1 p2 p3 v29.2
      else
        (chk σ 6 p0).bind fun _ => (m_X6_fire σ p0 p5 p11 q0 v29.2).bind fun v30 =>
        some (Sum.inr v30)
def m_X6_advanceActive_b187 (σ : St) (p0 : Nat) (p1 : Nat) (p2 : Int32) (p3 : Int32) (p5 : Int32) (p6 : Nat) (p7 : Int32) (p10 : Int32) (q0 : Int32) (δ : Dy) : Option ((Dy) ⊕ Dy) :=
  if p7 = 0 then
    m_X6_advanceActive_b200 σ p0 p1 p2 p3 p5 p6 p7 p10 q0 p10 δ
  else
    m_X6_advanceActive_b200 σ p0 p1 p2 p3 p5 p6 p7 p10 q0 p2 δ
def m_X6_advanceActive_b174 (σ : St) (p0 : Nat) (p1 : Nat) (p2 : Int32) (p3 : Int32) (p5 : Int32) (p6 : Nat) (p7 : Int32) (q0 : Int32) (δ : Dy) : Option ((Dy) ⊕ Dy) :=
  if p7 = 0 then
    m_X6_advanceActive_b187 σ p0 p1 p2 p3 p5 p6 p7 q0 p2 δ
  else
    m_X6_advanceActive_b187 σ p0 p1 p2 p3 p5 p6 p7 q0 q0 δ
def m_X6_advanceActive_b97 (σ : St) (p0 : Nat) (p1 : Nat) (p2 : Int32) (p3 : Int32) (p4 : Int32) (p5 : Int32) (p6 : Nat) (p7 : Int32) (p8 : Int32) (q0 : Int32) (δ : Dy) : Option ((Dy) ⊕ Dy) :=
  (gI σ δ 7 p6 5).bind fun v18 =>
  if v18 ≤ p7 then
    m_X6_advanceActive_b136 σ p0 p1 p2 p3 p4 p8 δ
  else
    (gR σ 7 p6 0).bind fun v20 =>
    (rI σ δ v20 p7).bind fun v21 =>
    (gR σ 6 p0 0).bind fun v22 =>
    (gR σ 8 v22 3).bind fun v23 =>
    (rI σ δ v23 p2).bind fun v24 =>
    if v21 = v24 then
      if p8 < q0 then
        (pI σ δ 3 p1 3 (p4 + (1 : Int32))).bind fun d25 =>
        (gI σ d25 7 p6 5).bind fun v26 =>
        if (2 : Int32) ≤ v26 then
          m_X6_advanceActive_b174 σ p0 p1 p2 p3 p5 p6 p7 p8 d25
        else
          m_X6_advanceActive_b174 σ p0 p1 p2 p3 p5 p6 p7 (-1 : Int32) d25
      else
        m_X6_advanceActive_b136 σ p0 p1 p2 p3 p4 p8 δ
    else
      m_X6_advanceActive_b136 σ p0 p1 p2 p3 p4 p8 δ
def m_X6_advanceActive_b30 (σ : St) (p0 : Nat) (p1 : Nat) (p2 : Int32) (p3 : Int32) (δ : Dy) : Option Dy := lp (fun (s : (Dy)) =>
  (gI σ s 3 p1 3).bind fun v5 =>
  if p3 ≤ v5 then
    (gI σ s 6 p0 3).bind fun v6 =>
    (pI σ s 6 p0 3 (v6 - (1 : Int32))).bind fun d7 =>
    some (Sum.inr d7)
  else
    (gI σ s 3 p1 3).bind fun v8 =>
    (dvI v8 (200 : Int32)).bind fun v9 =>
    (gR σ 6 p0 1).bind fun v10 =>
    (rA σ 104 v10 v9).bind fun v11 =>
    (dvI v8 (100 : Int32)).bind fun v12 =>
    (rmI v12 (2 : Int32)).bind fun v13 =>
    (rmI v8 (100 : Int32)).bind fun v14 =>
    (gI σ s 7 v11 5).bind fun v15 =>
    if (2 : Int32) ≤ v15 then
      (gR σ 6 p0 0).bind fun v16 =>
      (gI σ s 8 v16 10).bind fun v17 =>
      m_X6_advanceActive_b97 σ p0 p1 p2 p3 v8 v9 v11 v13 v14 v17 s
    else
      m_X6_advanceActive_b97 σ p0 p1 p2 p3 v8 v9 v11 v13 v14 (1 : Int32) s) (δ)
def m_X6_advanceActive_b29 (σ : St) (p0 : Nat) (p1 : Nat) (p2 : Int32) (q0 : Int32) (δ : Dy) : Option Dy :=
  m_X6_advanceActive_b30 σ p0 p1 p2 q0 δ
def m_X6_advanceActive (σ : St) (p0 : Nat) (p1 : Nat) (δ : Dy) : Option Dy :=
  (gI σ δ 3 p1 2).bind fun v1 =>
  (gR σ 6 p0 0).bind fun v2 =>
  (gR σ 8 v2 7).bind fun v3 =>
  (rZ σ δ v3 v1).bind fun v4 =>
  if v4 = 0 then
    m_X6_advanceActive_b29 σ p0 p1 v1 (0 : Int32) δ
  else
    (gI σ δ 6 p0 9).bind fun v31 =>
    m_X6_advanceActive_b29 σ p0 p1 v1 (v31 * (200 : Int32)) δ
set_option maxHeartbeats 4000000 in
set_option maxRecDepth 100000 in
theorem w_X6_advanceActive_b136 {J : JT} {an : Option Value × St × Dy} (hI : Isj cX6_advanceActive 13 RX6 "advanceActive" 4 102 none an J) {β : Bu} (σ : St) (p0 : Nat) (p1 : Nat) (p2 : Int32) (p3 : Int32) (p4 : Int32) (p8 : Int32) (δ : Dy) : SJ (m_X6_advanceActive_b136 σ p0 p1 p2 p3 p4 p8 δ) (PL (fun s : (Dy) => J 30 [(0, .ref p0), (1, .ref p1), (2, .int p2), (3, .int p3)] [] β σ s) (PV σ an)) (J 136 [(0, .ref p0), (1, .ref p1), (2, .int p2), (3, .int p3), (4, .int p4), (8, .int p8)] [] β σ δ) := by
  have hJ := hI.cor
  unfold m_X6_advanceActive_b136
  refine sj (j_aload_n hJ dX6_advanceActive_136 rfl 1 rfl) ?_
  refine sj (j_iload hJ dX6_advanceActive_137 4 rfl) ?_
  refine sj (j_iload hJ dX6_advanceActive_139 5 rfl) ?_
  refine sj (j_isub hJ dX6_advanceActive_141) ?_
  refine sj (j_bipush hJ (v := 100) dX6_advanceActive_142 ib_100) ?_
  refine sj (j_iadd hJ dX6_advanceActive_144) ?_
  refine sj_pI hJ fl_X6_77 rfl dX6_advanceActive_145 (fun d19 => ?_)
  refine sj (j_goto hJ (tgt := 30) dX6_advanceActive_148 (by decide)) ?_
  refine sj (j_sub hJ (L' := [(0, .ref p0), (1, .ref p1), (2, .int p2), (3, .int p3)]) [0, 1, 2, 3] rfl) ?_
  exact sj_end (fun h => h)
set_option maxHeartbeats 4000000 in
set_option maxRecDepth 100000 in
theorem w_X6_advanceActive_b253 {J : JT} {an : Option Value × St × Dy} (hI : Isj cX6_advanceActive 13 RX6 "advanceActive" 4 102 none an J) {β : Bu} (σ : St) (p0 : Nat) (p1 : Nat) (p2 : Int32) (p3 : Int32) (δ : Dy) : SJ (m_X6_advanceActive_b253 σ p0 p1 p2 p3 δ) (PL (fun s : (Dy) => J 30 [(0, .ref p0), (1, .ref p1), (2, .int p2), (3, .int p3)] [] β σ s) (PV σ an)) (J 253 [(0, .ref p0), (1, .ref p1), (2, .int p2), (3, .int p3)] [] β σ δ) := by
  have hJ := hI.cor
  unfold m_X6_advanceActive_b253
  refine sj (j_goto hJ (tgt := 30) dX6_advanceActive_253 (by decide)) ?_
  exact sj_end (fun h => h)
set_option maxHeartbeats 4000000 in
set_option maxRecDepth 100000 in
theorem w_X6_advanceActive_b200 {J : JT} {an : Option Value × St × Dy} (hI : Isj cX6_advanceActive 13 RX6 "advanceActive" 4 102 none an J) {β : Bu} (σ : St) (p0 : Nat) (p1 : Nat) (p2 : Int32) (p3 : Int32) (p5 : Int32) (p6 : Nat) (p7 : Int32) (p10 : Int32) (p11 : Int32) (q0 : Int32) (δ : Dy) : SJ (m_X6_advanceActive_b200 σ p0 p1 p2 p3 p5 p6 p7 p10 p11 q0 δ) (PL (fun s : (Dy) => J 30 [(0, .ref p0), (1, .ref p1), (2, .int p2), (3, .int p3)] [] β σ s) (PV σ an)) (J 200 [(0, .ref p0), (1, .ref p1), (2, .int p2), (3, .int p3), (5, .int p5), (6, .ref p6), (7, .int p7), (10, .int p10), (11, .int p11)] [.int q0] β σ δ) := by
  have hJ := hI.cor
  unfold m_X6_advanceActive_b200
  refine sj (j_istore hJ (L' := [(12, .int q0), (0, .ref p0), (1, .ref p1), (2, .int p2), (3, .int p3), (5, .int p5), (6, .ref p6), (7, .int p7), (10, .int p10), (11, .int p11)]) dX6_advanceActive_200 (by decide) rfl) ?_
  refine sj (j_aload_n hJ dX6_advanceActive_202 rfl 1 rfl) ?_
  refine sj (j_aload hJ dX6_advanceActive_203 6 rfl) ?_
  refine sj (j_iload hJ dX6_advanceActive_205 7 rfl) ?_
  refine sj (j_iload_n hJ dX6_advanceActive_207 rfl 3 rfl) ?_
  refine sj (j_iload hJ dX6_advanceActive_208 8 rfl) ?_
  refine sj_callVip hJ [.ref p6, .int p7, .int p2, .int p10] (st := []) (fr' := 0) (lo' := 0) ml_X6_141 hc_6 (by decide) (by decide) (Nat.le_of_ble_eq_true rfl) dX6_advanceActive_210 rfl (fun _ h9 => ct_X6_isPartner h9) (fun v27 => ?_)
  refine sj_if (j_if_eq hJ (tgt := 253) dX6_advanceActive_213 (by decide)) (fun _ => ?_) (fun _ => ?_)
  · refine sj (j_sub hJ (L' := [(0, .ref p0), (1, .ref p1), (2, .int p2), (3, .int p3)]) [1, 2, 3, 4] rfl) ?_
    exact w_X6_advanceActive_b253 hI σ p0 p1 p2 p3 δ
  · refine sj (j_aload_n hJ dX6_advanceActive_216 rfl 1 rfl) ?_
    refine sj (j_iload hJ dX6_advanceActive_217 5 rfl) ?_
    refine sj (j_iload hJ dX6_advanceActive_219 9 rfl) ?_
    refine sj (j_iload hJ dX6_advanceActive_221 0 rfl) ?_
    refine sj_callVip hJ [.int p5, .int p11, .int q0] (st := []) (fr' := 1) (lo' := 22) ml_X6_145 hc_6 (by decide) (by decide) (Nat.le_of_ble_eq_true rfl) dX6_advanceActive_223 rfl (fun _ h9 => ct_X6_isNew h9) (fun v28 => ?_)
    refine sj_if (j_if_eq hJ (tgt := 253) dX6_advanceActive_226 (by decide)) (fun _ => ?_) (fun _ => ?_)
    · refine sj (j_sub hJ (L' := [(0, .ref p0), (1, .ref p1), (2, .int p2), (3, .int p3)]) [1, 2, 3, 4] rfl) ?_
      exact w_X6_advanceActive_b253 hI σ p0 p1 p2 p3 δ
    · refine sj (j_aload_n hJ dX6_advanceActive_229 rfl 1 rfl) ?_
      refine sj (j_aload hJ dX6_advanceActive_230 6 rfl) ?_
      refine sj (j_iload hJ dX6_advanceActive_232 9 rfl) ?_
      refine sj (j_iload hJ dX6_advanceActive_234 0 rfl) ?_
      refine sj_callVi hJ [.ref p6, .int p11, .int q0] (st := []) (fr' := 3) (lo' := 75) ml_X6_149 hc_6 (by decide) (by decide) (Nat.le_of_ble_eq_true rfl) dX6_advanceActive_236 rfl (fun _ h9 => ct_X6_isMatch h9) (fun v29 => ?_)
      refine sj_if (j_if_eq hJ (tgt := 253) dX6_advanceActive_239 (by decide)) (fun _ => ?_) (fun _ => ?_)
      · refine sj (j_sub hJ (L' := [(0, .ref p0), (1, .ref p1), (2, .int p2), (3, .int p3)]) [1, 2, 3, 4] rfl) ?_
        exact w_X6_advanceActive_b253 hI σ p0 p1 p2 p3 v29.2
      · refine sj (j_aload_n hJ dX6_advanceActive_242 rfl 1 rfl) ?_
        refine sj (j_iload hJ dX6_advanceActive_243 5 rfl) ?_
        refine sj (j_iload hJ dX6_advanceActive_245 9 rfl) ?_
        refine sj (j_iload hJ dX6_advanceActive_247 0 rfl) ?_
        refine sj_callVv hJ [.int p5, .int p11, .int q0] (st := []) (fr' := 2) (lo' := 59) ml_X6_153 hc_6 (by decide) (by decide) (Nat.le_of_ble_eq_true rfl) dX6_advanceActive_249 rfl (fun _ h9 => ct_X6_fire h9) (fun v30 => ?_)
        exact sj_vret hI dX6_advanceActive_252 (fun h => h)
set_option maxHeartbeats 4000000 in
set_option maxRecDepth 100000 in
theorem w_X6_advanceActive_b187 {J : JT} {an : Option Value × St × Dy} (hI : Isj cX6_advanceActive 13 RX6 "advanceActive" 4 102 none an J) {β : Bu} (σ : St) (p0 : Nat) (p1 : Nat) (p2 : Int32) (p3 : Int32) (p5 : Int32) (p6 : Nat) (p7 : Int32) (p10 : Int32) (q0 : Int32) (δ : Dy) : SJ (m_X6_advanceActive_b187 σ p0 p1 p2 p3 p5 p6 p7 p10 q0 δ) (PL (fun s : (Dy) => J 30 [(0, .ref p0), (1, .ref p1), (2, .int p2), (3, .int p3)] [] β σ s) (PV σ an)) (J 187 [(0, .ref p0), (1, .ref p1), (2, .int p2), (3, .int p3), (5, .int p5), (6, .ref p6), (7, .int p7), (10, .int p10)] [.int q0] β σ δ) := by
  have hJ := hI.cor
  unfold m_X6_advanceActive_b187
  refine sj (j_istore hJ (L' := [(11, .int q0), (0, .ref p0), (1, .ref p1), (2, .int p2), (3, .int p3), (5, .int p5), (6, .ref p6), (7, .int p7), (10, .int p10)]) dX6_advanceActive_187 (by decide) rfl) ?_
  refine sj (j_iload hJ dX6_advanceActive_189 7 rfl) ?_
  refine sj_if (j_if_ne hJ (tgt := 199) dX6_advanceActive_191 (by decide)) (fun _ => ?_) (fun _ => ?_)
  · refine sj (j_iload hJ dX6_advanceActive_194 8 rfl) ?_
    refine sj (j_goto hJ (tgt := 200) dX6_advanceActive_196 (by decide)) ?_
    refine sj (j_sub hJ (L' := [(0, .ref p0), (1, .ref p1), (2, .int p2), (3, .int p3), (5, .int p5), (6, .ref p6), (7, .int p7), (10, .int p10), (11, .int q0)]) [1, 2, 3, 4, 5, 6, 7, 8, 0] rfl) ?_
    exact w_X6_advanceActive_b200 hI σ p0 p1 p2 p3 p5 p6 p7 p10 q0 p10 δ
  · refine sj (j_iload_n hJ dX6_advanceActive_199 rfl 3 rfl) ?_
    refine sj (j_sub hJ (L' := [(0, .ref p0), (1, .ref p1), (2, .int p2), (3, .int p3), (5, .int p5), (6, .ref p6), (7, .int p7), (10, .int p10), (11, .int q0)]) [1, 2, 3, 4, 5, 6, 7, 8, 0] rfl) ?_
    exact w_X6_advanceActive_b200 hI σ p0 p1 p2 p3 p5 p6 p7 p10 q0 p2 δ
set_option maxHeartbeats 4000000 in
set_option maxRecDepth 100000 in
theorem w_X6_advanceActive_b174 {J : JT} {an : Option Value × St × Dy} (hI : Isj cX6_advanceActive 13 RX6 "advanceActive" 4 102 none an J) {β : Bu} (σ : St) (p0 : Nat) (p1 : Nat) (p2 : Int32) (p3 : Int32) (p5 : Int32) (p6 : Nat) (p7 : Int32) (q0 : Int32) (δ : Dy) : SJ (m_X6_advanceActive_b174 σ p0 p1 p2 p3 p5 p6 p7 q0 δ) (PL (fun s : (Dy) => J 30 [(0, .ref p0), (1, .ref p1), (2, .int p2), (3, .int p3)] [] β σ s) (PV σ an)) (J 174 [(0, .ref p0), (1, .ref p1), (2, .int p2), (3, .int p3), (5, .int p5), (6, .ref p6), (7, .int p7)] [.int q0] β σ δ) := by
  have hJ := hI.cor
  unfold m_X6_advanceActive_b174
  refine sj (j_istore hJ (L' := [(10, .int q0), (0, .ref p0), (1, .ref p1), (2, .int p2), (3, .int p3), (5, .int p5), (6, .ref p6), (7, .int p7)]) dX6_advanceActive_174 (by decide) rfl) ?_
  refine sj (j_iload hJ dX6_advanceActive_176 7 rfl) ?_
  refine sj_if (j_if_ne hJ (tgt := 185) dX6_advanceActive_178 (by decide)) (fun _ => ?_) (fun _ => ?_)
  · refine sj (j_iload_n hJ dX6_advanceActive_181 rfl 3 rfl) ?_
    refine sj (j_goto hJ (tgt := 187) dX6_advanceActive_182 (by decide)) ?_
    refine sj (j_sub hJ (L' := [(0, .ref p0), (1, .ref p1), (2, .int p2), (3, .int p3), (5, .int p5), (6, .ref p6), (7, .int p7), (10, .int q0)]) [1, 2, 3, 4, 5, 6, 7, 0] rfl) ?_
    exact w_X6_advanceActive_b187 hI σ p0 p1 p2 p3 p5 p6 p7 q0 p2 δ
  · refine sj (j_iload hJ dX6_advanceActive_185 0 rfl) ?_
    refine sj (j_sub hJ (L' := [(0, .ref p0), (1, .ref p1), (2, .int p2), (3, .int p3), (5, .int p5), (6, .ref p6), (7, .int p7), (10, .int q0)]) [1, 2, 3, 4, 5, 6, 7, 0] rfl) ?_
    exact w_X6_advanceActive_b187 hI σ p0 p1 p2 p3 p5 p6 p7 q0 q0 δ
set_option maxHeartbeats 4000000 in
set_option maxRecDepth 100000 in
theorem w_X6_advanceActive_b97 {J : JT} {an : Option Value × St × Dy} (hI : Isj cX6_advanceActive 13 RX6 "advanceActive" 4 102 none an J) {β : Bu} (σ : St) (p0 : Nat) (p1 : Nat) (p2 : Int32) (p3 : Int32) (p4 : Int32) (p5 : Int32) (p6 : Nat) (p7 : Int32) (p8 : Int32) (q0 : Int32) (δ : Dy) : SJ (m_X6_advanceActive_b97 σ p0 p1 p2 p3 p4 p5 p6 p7 p8 q0 δ) (PL (fun s : (Dy) => J 30 [(0, .ref p0), (1, .ref p1), (2, .int p2), (3, .int p3)] [] β σ s) (PV σ an)) (J 97 [(0, .ref p0), (1, .ref p1), (2, .int p2), (3, .int p3), (4, .int p4), (5, .int p5), (6, .ref p6), (7, .int p7), (8, .int p8)] [.int q0] β σ δ) := by
  have hJ := hI.cor
  unfold m_X6_advanceActive_b97
  refine sj (j_istore hJ (L' := [(9, .int q0), (0, .ref p0), (1, .ref p1), (2, .int p2), (3, .int p3), (4, .int p4), (5, .int p5), (6, .ref p6), (7, .int p7), (8, .int p8)]) dX6_advanceActive_97 (by decide) rfl) ?_
  refine sj (j_iload hJ dX6_advanceActive_99 8 rfl) ?_
  refine sj (j_aload hJ dX6_advanceActive_101 7 rfl) ?_
  refine sj_gI hJ fl_X6_130 (Or.inl rfl) dX6_advanceActive_103 (fun v18 => ?_)
  refine sj_if (j_icmp_ge hJ (tgt := 136) dX6_advanceActive_106 (by decide)) (fun _ => ?_) (fun _ => ?_)
  · refine sj (j_sub hJ (L' := [(0, .ref p0), (1, .ref p1), (2, .int p2), (3, .int p3), (4, .int p4), (8, .int p8)]) [1, 2, 3, 4, 5, 9] rfl) ?_
    exact w_X6_advanceActive_b136 hI σ p0 p1 p2 p3 p4 p8 δ
  · refine sj (j_aload hJ dX6_advanceActive_109 7 rfl) ?_
    refine sj_gR hJ fl_X6_135 rfl dX6_advanceActive_111 (fun v20 => ?_)
    refine sj (j_iload hJ dX6_advanceActive_114 8 rfl) ?_
    refine sj_rI hJ dX6_advanceActive_116 (fun v21 => ?_)
    refine sj (j_aload_n hJ dX6_advanceActive_117 rfl 1 rfl) ?_
    refine sj_gR hJ fl_X6_31 rfl dX6_advanceActive_118 (fun v22 => ?_)
    refine sj_gR hJ fl_X6_138 rfl dX6_advanceActive_121 (fun v23 => ?_)
    refine sj (j_iload_n hJ dX6_advanceActive_124 rfl 3 rfl) ?_
    refine sj_rI hJ dX6_advanceActive_125 (fun v24 => ?_)
    refine sj_if (j_icmp_ne hJ (tgt := 136) dX6_advanceActive_126 (by decide)) (fun _ => ?_) (fun _ => ?_)
    · refine sj (j_iload hJ dX6_advanceActive_129 9 rfl) ?_
      refine sj (j_iload hJ dX6_advanceActive_131 0 rfl) ?_
      refine sj_if (j_icmp_lt hJ (tgt := 151) dX6_advanceActive_133 (by decide)) (fun _ => ?_) (fun _ => ?_)
      · refine sj (j_aload_n hJ dX6_advanceActive_151 rfl 2 rfl) ?_
        refine sj (j_iload hJ dX6_advanceActive_152 5 rfl) ?_
        refine sj (j_iconst hJ (v := 1) dX6_advanceActive_154 ic_1) ?_
        refine sj (j_iadd hJ dX6_advanceActive_155) ?_
        refine sj_pI hJ fl_X6_77 rfl dX6_advanceActive_156 (fun d25 => ?_)
        refine sj (j_aload hJ dX6_advanceActive_159 7 rfl) ?_
        refine sj_gI hJ fl_X6_130 (Or.inl rfl) dX6_advanceActive_161 (fun v26 => ?_)
        refine sj (j_iconst hJ (v := 2) dX6_advanceActive_164 ic_2) ?_
        refine sj_if (j_icmp_ge hJ (tgt := 172) dX6_advanceActive_165 (by decide)) (fun _ => ?_) (fun _ => ?_)
        · refine sj (j_iload hJ dX6_advanceActive_172 9 rfl) ?_
          refine sj (j_sub hJ (L' := [(0, .ref p0), (1, .ref p1), (2, .int p2), (3, .int p3), (5, .int p5), (6, .ref p6), (7, .int p7)]) [1, 2, 3, 4, 6, 7, 8] rfl) ?_
          exact w_X6_advanceActive_b174 hI σ p0 p1 p2 p3 p5 p6 p7 p8 d25
        · refine sj (j_iconst hJ (v := -1) dX6_advanceActive_168 ic_m1) ?_
          refine sj (j_goto hJ (tgt := 174) dX6_advanceActive_169 (by decide)) ?_
          refine sj (j_sub hJ (L' := [(0, .ref p0), (1, .ref p1), (2, .int p2), (3, .int p3), (5, .int p5), (6, .ref p6), (7, .int p7)]) [1, 2, 3, 4, 6, 7, 8] rfl) ?_
          exact w_X6_advanceActive_b174 hI σ p0 p1 p2 p3 p5 p6 p7 (-1 : Int32) d25
      · refine sj (j_sub hJ (L' := [(0, .ref p0), (1, .ref p1), (2, .int p2), (3, .int p3), (4, .int p4), (8, .int p8)]) [1, 2, 3, 4, 5, 9] rfl) ?_
        exact w_X6_advanceActive_b136 hI σ p0 p1 p2 p3 p4 p8 δ
    · refine sj (j_sub hJ (L' := [(0, .ref p0), (1, .ref p1), (2, .int p2), (3, .int p3), (4, .int p4), (8, .int p8)]) [1, 2, 3, 4, 5, 9] rfl) ?_
      exact w_X6_advanceActive_b136 hI σ p0 p1 p2 p3 p4 p8 δ
set_option maxHeartbeats 4000000 in
set_option maxRecDepth 100000 in
theorem w_X6_advanceActive_b30 {J : JT} {an : Option Value × St × Dy} (hI : Isj cX6_advanceActive 13 RX6 "advanceActive" 4 102 none an J) {β : Bu} (σ : St) (p0 : Nat) (p1 : Nat) (p2 : Int32) (p3 : Int32) (δ : Dy) : SJ (m_X6_advanceActive_b30 σ p0 p1 p2 p3 δ) (PV σ an) (J 30 [(0, .ref p0), (1, .ref p1), (2, .int p2), (3, .int p3)] [] β σ δ) := by
  have hJ := hI.cor
  unfold m_X6_advanceActive_b30
  refine sj_lp (G := fun s : (Dy) => J 30 [(0, .ref p0), (1, .ref p1), (2, .int p2), (3, .int p3)] [] β σ s) (fun s => ?_) (δ)
  refine sj (j_aload_n hJ dX6_advanceActive_30 rfl 1 rfl) ?_
  refine sj_gI hJ fl_X6_77 (Or.inl rfl) dX6_advanceActive_31 (fun v5 => ?_)
  refine sj (j_iload_n hJ dX6_advanceActive_34 rfl 3 rfl) ?_
  refine sj_if (j_icmp_ge hJ (tgt := 256) dX6_advanceActive_35 (by decide)) (fun _ => ?_) (fun _ => ?_)
  · refine sj (j_aload_n hJ dX6_advanceActive_256 rfl 0 rfl) ?_
    refine sj (j_dup hJ dX6_advanceActive_257 rfl) ?_
    refine sj_gI hJ fl_X6_40 (Or.inl rfl) dX6_advanceActive_258 (fun v6 => ?_)
    refine sj (j_iconst hJ (v := 1) dX6_advanceActive_261 ic_1) ?_
    refine sj (j_isub hJ dX6_advanceActive_262) ?_
    refine sj_pI hJ fl_X6_40 rfl dX6_advanceActive_263 (fun d7 => ?_)
    exact sj_vret hI dX6_advanceActive_266 (fun h => h)
  · refine sj (j_aload_n hJ dX6_advanceActive_38 rfl 1 rfl) ?_
    refine sj_gI hJ fl_X6_77 (Or.inl rfl) dX6_advanceActive_39 (fun v8 => ?_)
    refine sj (j_istore hJ (L' := [(4, .int v8), (0, .ref p0), (1, .ref p1), (2, .int p2), (3, .int p3)]) dX6_advanceActive_42 (by decide) rfl) ?_
    refine sj (j_iload hJ dX6_advanceActive_44 0 rfl) ?_
    refine sj (j_sipush hJ (v := 200) dX6_advanceActive_46 is_200) ?_
    refine sj_dvI hJ dX6_advanceActive_49 (fun v9 => ?_)
    refine sj (j_istore hJ (L' := [(5, .int v9), (4, .int v8), (0, .ref p0), (1, .ref p1), (2, .int p2), (3, .int p3)]) dX6_advanceActive_50 (by decide) rfl) ?_
    refine sj (j_aload_n hJ dX6_advanceActive_52 rfl 2 rfl) ?_
    refine sj_gR hJ fl_X6_35 rfl dX6_advanceActive_53 (fun v10 => ?_)
    refine sj (j_iload hJ dX6_advanceActive_56 0 rfl) ?_
    refine sj_rARu hJ dX6_advanceActive_58 (fun v11 => ?_)
    refine sj (j_astore hJ (L' := [(6, .ref v11), (5, .int v9), (4, .int v8), (0, .ref p0), (1, .ref p1), (2, .int p2), (3, .int p3)]) dX6_advanceActive_59 (by decide) rfl) ?_
    refine sj (j_iload hJ dX6_advanceActive_61 2 rfl) ?_
    refine sj (j_bipush hJ (v := 100) dX6_advanceActive_63 ib_100) ?_
    refine sj_dvI hJ dX6_advanceActive_65 (fun v12 => ?_)
    refine sj (j_iconst hJ (v := 2) dX6_advanceActive_66 ic_2) ?_
    refine sj_rmI hJ dX6_advanceActive_67 (fun v13 => ?_)
    refine sj (j_istore hJ (L' := [(7, .int v13), (6, .ref v11), (5, .int v9), (4, .int v8), (0, .ref p0), (1, .ref p1), (2, .int p2), (3, .int p3)]) dX6_advanceActive_68 (by decide) rfl) ?_
    refine sj (j_iload hJ dX6_advanceActive_70 3 rfl) ?_
    refine sj (j_bipush hJ (v := 100) dX6_advanceActive_72 ib_100) ?_
    refine sj_rmI hJ dX6_advanceActive_74 (fun v14 => ?_)
    refine sj (j_istore hJ (L' := [(8, .int v14), (7, .int v13), (6, .ref v11), (5, .int v9), (4, .int v8), (0, .ref p0), (1, .ref p1), (2, .int p2), (3, .int p3)]) dX6_advanceActive_75 (by decide) rfl) ?_
    refine sj (j_aload hJ dX6_advanceActive_77 2 rfl) ?_
    refine sj_gI hJ fl_X6_130 (Or.inl rfl) dX6_advanceActive_79 (fun v15 => ?_)
    refine sj (j_iconst hJ (v := 2) dX6_advanceActive_82 ic_2) ?_
    refine sj_if (j_icmp_ge hJ (tgt := 90) dX6_advanceActive_83 (by decide)) (fun _ => ?_) (fun _ => ?_)
    · refine sj (j_aload_n hJ dX6_advanceActive_90 rfl 5 rfl) ?_
      refine sj_gR hJ fl_X6_31 rfl dX6_advanceActive_91 (fun v16 => ?_)
      refine sj_gI hJ fl_X6_102 (Or.inl rfl) dX6_advanceActive_94 (fun v17 => ?_)
      refine sj (j_sub hJ (L' := [(0, .ref p0), (1, .ref p1), (2, .int p2), (3, .int p3), (4, .int v8), (5, .int v9), (6, .ref v11), (7, .int v13), (8, .int v14)]) [5, 6, 7, 8, 4, 3, 2, 1, 0] rfl) ?_
      exact w_X6_advanceActive_b97 hI σ p0 p1 p2 p3 v8 v9 v11 v13 v14 v17 s
    · refine sj (j_iconst hJ (v := 1) dX6_advanceActive_86 ic_1) ?_
      refine sj (j_goto hJ (tgt := 97) dX6_advanceActive_87 (by decide)) ?_
      refine sj (j_sub hJ (L' := [(0, .ref p0), (1, .ref p1), (2, .int p2), (3, .int p3), (4, .int v8), (5, .int v9), (6, .ref v11), (7, .int v13), (8, .int v14)]) [5, 6, 7, 8, 4, 3, 2, 1, 0] rfl) ?_
      exact w_X6_advanceActive_b97 hI σ p0 p1 p2 p3 v8 v9 v11 v13 v14 (1 : Int32) s
set_option maxHeartbeats 4000000 in
set_option maxRecDepth 100000 in
theorem w_X6_advanceActive_b29 {J : JT} {an : Option Value × St × Dy} (hI : Isj cX6_advanceActive 13 RX6 "advanceActive" 4 102 none an J) {β : Bu} (σ : St) (p0 : Nat) (p1 : Nat) (p2 : Int32) (q0 : Int32) (δ : Dy) : SJ (m_X6_advanceActive_b29 σ p0 p1 p2 q0 δ) (PV σ an) (J 29 [(0, .ref p0), (1, .ref p1), (2, .int p2)] [.int q0] β σ δ) := by
  have hJ := hI.cor
  unfold m_X6_advanceActive_b29
  refine sj (j_istore_n hJ (L' := [(3, .int q0), (0, .ref p0), (1, .ref p1), (2, .int p2)]) dX6_advanceActive_29 rfl (by decide) rfl) ?_
  refine sj (j_sub hJ (L' := [(0, .ref p0), (1, .ref p1), (2, .int p2), (3, .int q0)]) [1, 2, 3, 0] rfl) ?_
  exact w_X6_advanceActive_b30 hI σ p0 p1 p2 q0 δ
set_option maxHeartbeats 4000000 in
set_option maxRecDepth 100000 in
theorem w_X6_advanceActive {J : JT} {an : Option Value × St × Dy} (hI : Isj cX6_advanceActive 13 RX6 "advanceActive" 4 102 none an J) {β : Bu} (σ : St) (p0 : Nat) (p1 : Nat) (δ : Dy) : SJ (m_X6_advanceActive σ p0 p1 δ) (PV σ an) (J 0 [(0, .ref p0), (1, .ref p1)] [] β σ δ) := by
  have hJ := hI.cor
  unfold m_X6_advanceActive
  refine sj (j_aload_n hJ dX6_advanceActive_0 rfl 1 rfl) ?_
  refine sj_gI hJ fl_X6_74 (Or.inl rfl) dX6_advanceActive_1 (fun v1 => ?_)
  refine sj (j_istore_n hJ (L' := [(2, .int v1), (0, .ref p0), (1, .ref p1)]) dX6_advanceActive_4 rfl (by decide) rfl) ?_
  refine sj (j_aload_n hJ dX6_advanceActive_5 rfl 1 rfl) ?_
  refine sj_gR hJ fl_X6_31 rfl dX6_advanceActive_6 (fun v2 => ?_)
  refine sj_gR hJ fl_X6_126 rfl dX6_advanceActive_9 (fun v3 => ?_)
  refine sj (j_iload_n hJ dX6_advanceActive_12 rfl 0 rfl) ?_
  refine sj_rZ hJ dX6_advanceActive_13 (fun v4 => ?_)
  refine sj_if (j_if_eq hJ (tgt := 28) dX6_advanceActive_14 (by decide)) (fun _ => ?_) (fun _ => ?_)
  · refine sj (j_iconst hJ (v := 0) dX6_advanceActive_28 ic_0) ?_
    refine sj (j_sub hJ (L' := [(0, .ref p0), (1, .ref p1), (2, .int v1)]) [1, 2, 0] rfl) ?_
    exact w_X6_advanceActive_b29 hI σ p0 p1 v1 (0 : Int32) δ
  · refine sj (j_aload_n hJ dX6_advanceActive_17 rfl 1 rfl) ?_
    refine sj_gI hJ fl_X6_44 (Or.inl rfl) dX6_advanceActive_18 (fun v31 => ?_)
    refine sj (j_sipush hJ (v := 200) dX6_advanceActive_21 is_200) ?_
    refine sj (j_imul hJ dX6_advanceActive_24) ?_
    refine sj (j_goto hJ (tgt := 29) dX6_advanceActive_25 (by decide)) ?_
    refine sj (j_sub hJ (L' := [(0, .ref p0), (1, .ref p1), (2, .int v1)]) [1, 2, 0] rfl) ?_
    exact w_X6_advanceActive_b29 hI σ p0 p1 v1 (v31 * (200 : Int32)) δ
theorem ct_X6_advanceActive {σ : St} {p0 : Nat} {p1 : Nat} {δ : Dy} {r : Dy} (h : m_X6_advanceActive σ p0 p1 δ = some r) : CT yX6_advanceActive cX6_advanceActive 13 none 4 102 0 0 [.ref p0, .ref p1] σ δ (none, σ, r) := CT_of (by decide +kernel) (Nat.le_of_ble_eq_true rfl) (fun J hI => w_X6_advanceActive hI σ p0 p1 δ r h rfl)
