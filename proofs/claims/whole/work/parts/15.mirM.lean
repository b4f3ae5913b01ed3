def m_X12_thrown (σ : St) (p0 : Nat) (δ : Dy) : Option Int32 :=
  (gI σ δ 12 p0 50).bind fun v1 =>
  some v1
set_option maxHeartbeats 4000000 in
set_option maxRecDepth 100000 in
theorem w_X12_thrown {J : JT} {an : Option Value × St × Dy} (hI : Isj cX12_thrown 1 RX12 "thrown" 0 0 (some .int) an J) {β : Bu} (σ : St) (p0 : Nat) (δ : Dy) : SJ (m_X12_thrown σ p0 δ) (PIp σ δ an) (J 0 [(0, .ref p0)] [] β σ δ) := by
  have hJ := hI.cor
  unfold m_X12_thrown
  refine sj (j_aload_n hJ dX12_thrown_0 rfl 0 rfl) ?_
  refine sj_gI hJ fl_X12_118 (Or.inl rfl) dX12_thrown_1 (fun v1 => ?_)
  exact sj_iret hI dX12_thrown_4 (fun h => h)
theorem ct_X12_thrown {σ : St} {p0 : Nat} {δ : Dy} {r : Int32} (h : m_X12_thrown σ p0 δ = some r) : CT yX12_thrown cX12_thrown 1 (some .int) 0 0 0 0 [.ref p0] σ δ ((some (.int r)), σ, δ) := CT_of (by decide +kernel) (Nat.le_of_ble_eq_true rfl) (fun J hI => w_X12_thrown hI σ p0 δ r h rfl)
def m_X12_stop (σ : St) (p0 : Nat) (p1 : Int32) (δ : Dy) : Option (Int32 × Dy) :=
  (pI σ δ 12 p0 50 p1).bind fun d1 =>
  some ((0 : Int32), d1)
set_option maxHeartbeats 4000000 in
set_option maxRecDepth 100000 in
theorem w_X12_stop {J : JT} {an : Option Value × St × Dy} (hI : Isj cX12_stop 2 RX12 "stop" 0 0 (some .int) an J) {β : Bu} (σ : St) (p0 : Nat) (p1 : Int32) (δ : Dy) : SJ (m_X12_stop σ p0 p1 δ) (PI σ an) (J 0 [(0, .ref p0), (1, .int p1)] [] β σ δ) := by
  have hJ := hI.cor
  unfold m_X12_stop
  refine sj (j_aload_n hJ dX12_stop_0 rfl 0 rfl) ?_
  refine sj (j_iload_n hJ dX12_stop_1 rfl 1 rfl) ?_
  refine sj_pI hJ fl_X12_118 rfl dX12_stop_2 (fun d1 => ?_)
  refine sj (j_iconst hJ (v := 0) dX12_stop_5 ic_0) ?_
  exact sj_iret hI dX12_stop_6 (fun h => h)
theorem ct_X12_stop {σ : St} {p0 : Nat} {p1 : Int32} {δ : Dy} {r : (Int32 × Dy)} (h : m_X12_stop σ p0 p1 δ = some r) : CT yX12_stop cX12_stop 2 (some .int) 0 0 0 0 [.ref p0, .int p1] σ δ ((some (.int r.1)), σ, r.2) := CT_of (by decide +kernel) (Nat.le_of_ble_eq_true rfl) (fun J hI => w_X12_stop hI σ p0 p1 δ r h rfl)
def m_X12_in (σ : St) (p0 : Int32) (p1 : Int32) (p2 : Int32) (δ : Dy) : Option Int32 :=
  if p0 < p1 then
    some (0 : Int32)
  else
    if p2 < p0 then
      some (0 : Int32)
    else
      some (1 : Int32)
set_option maxHeartbeats 4000000 in
set_option maxRecDepth 100000 in
theorem w_X12_in {J : JT} {an : Option Value × St × Dy} (hI : Isj cX12_in 3 RX12 "in" 0 0 (some .boolean) an J) {β : Bu} (σ : St) (p0 : Int32) (p1 : Int32) (p2 : Int32) (δ : Dy) : SJ (m_X12_in σ p0 p1 p2 δ) (PIp σ δ an) (J 0 [(0, .int p0), (1, .int p1), (2, .int p2)] [] β σ δ) := by
  have hJ := hI.cor
  unfold m_X12_in
  refine sj (j_iload_n hJ dX12_in_0 rfl 0 rfl) ?_
  refine sj (j_iload_n hJ dX12_in_1 rfl 1 rfl) ?_
  refine sj_if (j_icmp_lt hJ (tgt := 14) dX12_in_2 (by decide)) (fun _ => ?_) (fun _ => ?_)
  · refine sj (j_iconst hJ (v := 0) dX12_in_14 ic_0) ?_
    exact sj_zret hI (by decide) dX12_in_15 (fun h => h)
  · refine sj (j_iload_n hJ dX12_in_5 rfl 0 rfl) ?_
    refine sj (j_iload_n hJ dX12_in_6 rfl 2 rfl) ?_
    refine sj_if (j_icmp_gt hJ (tgt := 14) dX12_in_7 (by decide)) (fun _ => ?_) (fun _ => ?_)
    · refine sj (j_iconst hJ (v := 0) dX12_in_14 ic_0) ?_
      exact sj_zret hI (by decide) dX12_in_15 (fun h => h)
    · refine sj (j_iconst hJ (v := 1) dX12_in_10 ic_1) ?_
      refine sj (j_goto hJ (tgt := 15) dX12_in_11 (by decide)) ?_
      exact sj_zret hI (by decide) dX12_in_15 (fun h => h)
theorem ct_X12_in {σ : St} {p0 : Int32} {p1 : Int32} {p2 : Int32} {δ : Dy} {r : Int32} (h : m_X12_in σ p0 p1 p2 δ = some r) : CT yX12_in cX12_in 3 (some .boolean) 0 0 0 0 [.int p0, .int p1, .int p2] σ δ ((some (.int r)), σ, δ) := CT_of (by decide +kernel) (Nat.le_of_ble_eq_true rfl) (fun J hI => w_X12_in hI σ p0 p1 p2 δ r h rfl)
def m_X12_isValue (σ : St) (p0 : Int32) (δ : Dy) : Option Int32 :=
  (m_X12_in σ p0 (-99 : Int32) (99 : Int32) δ).bind fun v1 =>
  (zo v1).bind fun _ => some v1
set_option maxHeartbeats 4000000 in
set_option maxRecDepth 100000 in
theorem w_X12_isValue {J : JT} {an : Option Value × St × Dy} (hI : Isj cX12_isValue 1 RX12 "isValue" 1 22 (some .boolean) an J) {β : Bu} (σ : St) (p0 : Int32) (δ : Dy) : SJ (m_X12_isValue σ p0 δ) (PIp σ δ an) (J 0 [(0, .int p0)] [] β σ δ) := by
  have hJ := hI.cor
  unfold m_X12_isValue
  refine sj (j_iload_n hJ dX12_isValue_0 rfl 0 rfl) ?_
  refine sj (j_bipush hJ (v := -99) dX12_isValue_1 ib_m99) ?_
  refine sj (j_bipush hJ (v := 99) dX12_isValue_3 ib_99) ?_
  refine sj_callSip hJ [.int p0, .int (-99 : Int32), .int (99 : Int32)] (st := []) (fr' := 0) (lo' := 0) ml_X12_122 (by decide) (by decide) (Nat.le_of_ble_eq_true rfl) dX12_isValue_5 rfl (fun _ h9 => ct_X12_in h9) (fun v1 => ?_)
  exact sj_zretG hI dX12_isValue_8 (fun h => h)
theorem ct_X12_isValue {σ : St} {p0 : Int32} {δ : Dy} {r : Int32} (h : m_X12_isValue σ p0 δ = some r) : CT yX12_isValue cX12_isValue 1 (some .boolean) 1 22 0 0 [.int p0] σ δ ((some (.int r)), σ, δ) := CT_of (by decide +kernel) (Nat.le_of_ble_eq_true rfl) (fun J hI => w_X12_isValue hI σ p0 δ r h rfl)
def m_X12_isTerm (σ : St) (p0 : Int32) (δ : Dy) : Option Int32 :=
  (m_X12_isValue σ p0 δ).bind fun v1 =>
  if v1 = 0 then
    (m_X12_in σ p0 (200 : Int32) (203 : Int32) δ).bind fun v2 =>
    if v2 = 0 then
      some (0 : Int32)
    else
      some (1 : Int32)
  else
    some (1 : Int32)
set_option maxHeartbeats 4000000 in
set_option maxRecDepth 100000 in
theorem w_X12_isTerm {J : JT} {an : Option Value × St × Dy} (hI : Isj cX12_isTerm 1 RX12 "isTerm" 2 42 (some .boolean) an J) {β : Bu} (σ : St) (p0 : Int32) (δ : Dy) : SJ (m_X12_isTerm σ p0 δ) (PIp σ δ an) (J 0 [(0, .int p0)] [] β σ δ) := by
  have hJ := hI.cor
  unfold m_X12_isTerm
  refine sj (j_iload_n hJ dX12_isTerm_0 rfl 0 rfl) ?_
  refine sj_callSip hJ [.int p0] (st := []) (fr' := 1) (lo' := 22) ml_X12_126 (by decide) (by decide) (Nat.le_of_ble_eq_true rfl) dX12_isTerm_1 rfl (fun _ h9 => ct_X12_isValue h9) (fun v1 => ?_)
  refine sj_if (j_if_ne hJ (tgt := 20) dX12_isTerm_4 (by decide)) (fun _ => ?_) (fun _ => ?_)
  · refine sj (j_iload_n hJ dX12_isTerm_7 rfl 0 rfl) ?_
    refine sj (j_sipush hJ (v := 200) dX12_isTerm_8 is_200) ?_
    refine sj (j_sipush hJ (v := 203) dX12_isTerm_11 is_203) ?_
    refine sj_callSip hJ [.int p0, .int (200 : Int32), .int (203 : Int32)] (st := []) (fr' := 0) (lo' := 0) ml_X12_122 (by decide) (by decide) (Nat.le_of_ble_eq_true rfl) dX12_isTerm_14 rfl (fun _ h9 => ct_X12_in h9) (fun v2 => ?_)
    refine sj_if (j_if_eq hJ (tgt := 24) dX12_isTerm_17 (by decide)) (fun _ => ?_) (fun _ => ?_)
    · refine sj (j_iconst hJ (v := 0) dX12_isTerm_24 ic_0) ?_
      exact sj_zret hI (by decide) dX12_isTerm_25 (fun h => h)
    · refine sj (j_iconst hJ (v := 1) dX12_isTerm_20 ic_1) ?_
      refine sj (j_goto hJ (tgt := 25) dX12_isTerm_21 (by decide)) ?_
      exact sj_zret hI (by decide) dX12_isTerm_25 (fun h => h)
  · refine sj (j_iconst hJ (v := 1) dX12_isTerm_20 ic_1) ?_
    refine sj (j_goto hJ (tgt := 25) dX12_isTerm_21 (by decide)) ?_
    exact sj_zret hI (by decide) dX12_isTerm_25 (fun h => h)
theorem ct_X12_isTerm {σ : St} {p0 : Int32} {δ : Dy} {r : Int32} (h : m_X12_isTerm σ p0 δ = some r) : CT yX12_isTerm cX12_isTerm 1 (some .boolean) 2 42 0 0 [.int p0] σ δ ((some (.int r)), σ, δ) := CT_of (by decide +kernel) (Nat.le_of_ble_eq_true rfl) (fun J hI => w_X12_isTerm hI σ p0 δ r h rfl)
def m_X12_isCondition (σ : St) (p0 : Int32) (δ : Dy) : Option Int32 :=
  (m_X12_in σ p0 (0 : Int32) (3 : Int32) δ).bind fun v1 =>
  if v1 = 0 then
    (m_X12_in σ p0 (10 : Int32) (15 : Int32) δ).bind fun v2 =>
    if v2 = 0 then
      some (0 : Int32)
    else
      some (1 : Int32)
  else
    some (1 : Int32)
set_option maxHeartbeats 4000000 in
set_option maxRecDepth 100000 in
theorem w_X12_isCondition {J : JT} {an : Option Value × St × Dy} (hI : Isj cX12_isCondition 1 RX12 "isCondition" 1 22 (some .boolean) an J) {β : Bu} (σ : St) (p0 : Int32) (δ : Dy) : SJ (m_X12_isCondition σ p0 δ) (PIp σ δ an) (J 0 [(0, .int p0)] [] β σ δ) := by
  have hJ := hI.cor
  unfold m_X12_isCondition
  refine sj (j_iload_n hJ dX12_isCondition_0 rfl 0 rfl) ?_
  refine sj (j_iconst hJ (v := 0) dX12_isCondition_1 ic_0) ?_
  refine sj (j_iconst hJ (v := 3) dX12_isCondition_2 ic_3) ?_
  refine sj_callSip hJ [.int p0, .int (0 : Int32), .int (3 : Int32)] (st := []) (fr' := 0) (lo' := 0) ml_X12_122 (by decide) (by decide) (Nat.le_of_ble_eq_true rfl) dX12_isCondition_3 rfl (fun _ h9 => ct_X12_in h9) (fun v1 => ?_)
  refine sj_if (j_if_ne hJ (tgt := 20) dX12_isCondition_6 (by decide)) (fun _ => ?_) (fun _ => ?_)
  · refine sj (j_iload_n hJ dX12_isCondition_9 rfl 0 rfl) ?_
    refine sj (j_bipush hJ (v := 10) dX12_isCondition_10 ib_10) ?_
    refine sj (j_bipush hJ (v := 15) dX12_isCondition_12 ib_15) ?_
    refine sj_callSip hJ [.int p0, .int (10 : Int32), .int (15 : Int32)] (st := []) (fr' := 0) (lo' := 0) ml_X12_122 (by decide) (by decide) (Nat.le_of_ble_eq_true rfl) dX12_isCondition_14 rfl (fun _ h9 => ct_X12_in h9) (fun v2 => ?_)
    refine sj_if (j_if_eq hJ (tgt := 24) dX12_isCondition_17 (by decide)) (fun _ => ?_) (fun _ => ?_)
    · refine sj (j_iconst hJ (v := 0) dX12_isCondition_24 ic_0) ?_
      exact sj_zret hI (by decide) dX12_isCondition_25 (fun h => h)
    · refine sj (j_iconst hJ (v := 1) dX12_isCondition_20 ic_1) ?_
      refine sj (j_goto hJ (tgt := 25) dX12_isCondition_21 (by decide)) ?_
      exact sj_zret hI (by decide) dX12_isCondition_25 (fun h => h)
  · refine sj (j_iconst hJ (v := 1) dX12_isCondition_20 ic_1) ?_
    refine sj (j_goto hJ (tgt := 25) dX12_isCondition_21 (by decide)) ?_
    exact sj_zret hI (by decide) dX12_isCondition_25 (fun h => h)
theorem ct_X12_isCondition {σ : St} {p0 : Int32} {δ : Dy} {r : Int32} (h : m_X12_isCondition σ p0 δ = some r) : CT yX12_isCondition cX12_isCondition 1 (some .boolean) 1 22 0 0 [.int p0] σ δ ((some (.int r)), σ, δ) := CT_of (by decide +kernel) (Nat.le_of_ble_eq_true rfl) (fun J hI => w_X12_isCondition hI σ p0 δ r h rfl)
def m_X12_isNode (σ : St) (p0 : Nat) (p1 : Int32) (δ : Dy) : Option Int32 :=
  (gI σ δ 12 p0 7).bind fun v1 =>
  (m_X12_in σ p1 (0 : Int32) (v1 - (1 : Int32)) δ).bind fun v2 =>
  (zo v2).bind fun _ => some v2
set_option maxHeartbeats 4000000 in
set_option maxRecDepth 100000 in
theorem w_X12_isNode {J : JT} {an : Option Value × St × Dy} (hI : Isj cX12_isNode 2 RX12 "isNode" 1 22 (some .boolean) an J) {β : Bu} (σ : St) (p0 : Nat) (p1 : Int32) (δ : Dy) : SJ (m_X12_isNode σ p0 p1 δ) (PIp σ δ an) (J 0 [(0, .ref p0), (1, .int p1)] [] β σ δ) := by
  have hJ := hI.cor
  unfold m_X12_isNode
  refine sj (j_iload_n hJ dX12_isNode_0 rfl 1 rfl) ?_
  refine sj (j_iconst hJ (v := 0) dX12_isNode_1 ic_0) ?_
  refine sj (j_aload_n hJ dX12_isNode_2 rfl 0 rfl) ?_
  refine sj_gI hJ fl_X12_130 (Or.inl rfl) dX12_isNode_3 (fun v1 => ?_)
  refine sj (j_iconst hJ (v := 1) dX12_isNode_6 ic_1) ?_
  refine sj (j_isub hJ dX12_isNode_7) ?_
  refine sj_callSip hJ [.int p1, .int (0 : Int32), .int (v1 - (1 : Int32))] (st := []) (fr' := 0) (lo' := 0) ml_X12_122 (by decide) (by decide) (Nat.le_of_ble_eq_true rfl) dX12_isNode_8 rfl (fun _ h9 => ct_X12_in h9) (fun v2 => ?_)
  exact sj_zretG hI dX12_isNode_11 (fun h => h)
theorem ct_X12_isNode {σ : St} {p0 : Nat} {p1 : Int32} {δ : Dy} {r : Int32} (h : m_X12_isNode σ p0 p1 δ = some r) : CT yX12_isNode cX12_isNode 2 (some .boolean) 1 22 0 0 [.ref p0, .int p1] σ δ ((some (.int r)), σ, δ) := CT_of (by decide +kernel) (Nat.le_of_ble_eq_true rfl) (fun J hI => w_X12_isNode hI σ p0 p1 δ r h rfl)
def m_X12_makeVariable (σ : St) (p0 : Nat) (δ : Dy) : Option (Int32 × Dy) :=
  (gR σ 12 p0 0).bind fun v1 =>
  (rI σ δ v1 (0 : Int32)).bind fun v2 =>
  if v2 = (60 : Int32) then
    (pZ σ δ 12 p0 35 (1 : Int32)).bind fun d3 =>
    some ((0 : Int32), d3)
  else
    (gR σ 12 p0 0).bind fun v4 =>
    (wI σ δ v4 ((1 : Int32) + v2) v2).bind fun d5 =>
    (gR σ 12 p0 0).bind fun v6 =>
    (wI σ d5 v6 ((61 : Int32) + v2) (100 : Int32)).bind fun d7 =>
    (gR σ 12 p0 0).bind fun v8 =>
    (rI σ d7 v8 (0 : Int32)).bind fun v9 =>
    (wI σ d7 v8 (0 : Int32) (v9 + (1 : Int32))).bind fun d10 =>
    some (v2, d10)
set_option maxHeartbeats 4000000 in
set_option maxRecDepth 100000 in
theorem w_X12_makeVariable {J : JT} {an : Option Value × St × Dy} (hI : Isj cX12_makeVariable 2 RX12 "makeVariable" 0 0 (some .int) an J) {β : Bu} (σ : St) (p0 : Nat) (δ : Dy) : SJ (m_X12_makeVariable σ p0 δ) (PI σ an) (J 0 [(0, .ref p0)] [] β σ δ) := by
  have hJ := hI.cor
  unfold m_X12_makeVariable
  refine sj (j_aload_n hJ dX12_makeVariable_0 rfl 0 rfl) ?_
  refine sj_gR hJ fl_X12_7 rfl dX12_makeVariable_1 (fun v1 => ?_)
  refine sj (j_iconst hJ (v := 0) dX12_makeVariable_4 ic_0) ?_
  refine sj_rI hJ dX12_makeVariable_5 (fun v2 => ?_)
  refine sj (j_istore_n hJ (L' := [(1, .int v2), (0, .ref p0)]) dX12_makeVariable_6 rfl (by decide) rfl) ?_
  refine sj (j_iload_n hJ dX12_makeVariable_7 rfl 0 rfl) ?_
  refine sj (j_bipush hJ (v := 60) dX12_makeVariable_8 ib_60) ?_
  refine sj_if (j_icmp_ne hJ (tgt := 20) dX12_makeVariable_10 (by decide)) (fun _ => ?_) (fun _ => ?_)
  · refine sj (j_aload_n hJ dX12_makeVariable_13 rfl 1 rfl) ?_
    refine sj (j_iconst hJ (v := 1) dX12_makeVariable_14 ic_1) ?_
    refine sj_pZ hJ fl_X12_133 rfl dX12_makeVariable_15 (fun d3 => ?_)
    refine sj (j_iconst hJ (v := 0) dX12_makeVariable_18 ic_0) ?_
    exact sj_iret hI dX12_makeVariable_19 (fun h => h)
  · refine sj (j_aload_n hJ dX12_makeVariable_20 rfl 1 rfl) ?_
    refine sj_gR hJ fl_X12_7 rfl dX12_makeVariable_21 (fun v4 => ?_)
    refine sj (j_iconst hJ (v := 1) dX12_makeVariable_24 ic_1) ?_
    refine sj (j_iload_n hJ dX12_makeVariable_25 rfl 0 rfl) ?_
    refine sj (j_iadd hJ dX12_makeVariable_26) ?_
    refine sj (j_iload_n hJ dX12_makeVariable_27 rfl 0 rfl) ?_
    refine sj_wI hJ dX12_makeVariable_28 (fun d5 => ?_)
    refine sj (j_aload_n hJ dX12_makeVariable_29 rfl 1 rfl) ?_
    refine sj_gR hJ fl_X12_7 rfl dX12_makeVariable_30 (fun v6 => ?_)
    refine sj (j_bipush hJ (v := 61) dX12_makeVariable_33 ib_61) ?_
    refine sj (j_iload_n hJ dX12_makeVariable_35 rfl 0 rfl) ?_
    refine sj (j_iadd hJ dX12_makeVariable_36) ?_
    refine sj (j_bipush hJ (v := 100) dX12_makeVariable_37 ib_100) ?_
    refine sj_wI hJ dX12_makeVariable_39 (fun d7 => ?_)
    refine sj (j_aload_n hJ dX12_makeVariable_40 rfl 1 rfl) ?_
    refine sj_gR hJ fl_X12_7 rfl dX12_makeVariable_41 (fun v8 => ?_)
    refine sj (j_iconst hJ (v := 0) dX12_makeVariable_44 ic_0) ?_
    refine sj (j_dup2 hJ dX12_makeVariable_45 rfl rfl) ?_
    refine sj_rI hJ dX12_makeVariable_46 (fun v9 => ?_)
    refine sj (j_iconst hJ (v := 1) dX12_makeVariable_47 ic_1) ?_
    refine sj (j_iadd hJ dX12_makeVariable_48) ?_
    refine sj_wI hJ dX12_makeVariable_49 (fun d10 => ?_)
    refine sj (j_iload_n hJ dX12_makeVariable_50 rfl 0 rfl) ?_
    exact sj_iret hI dX12_makeVariable_51 (fun h => h)
theorem ct_X12_makeVariable {σ : St} {p0 : Nat} {δ : Dy} {r : (Int32 × Dy)} (h : m_X12_makeVariable σ p0 δ = some r) : CT yX12_makeVariable cX12_makeVariable 2 (some .int) 0 0 0 0 [.ref p0] σ δ ((some (.int r.1)), σ, r.2) := CT_of (by decide +kernel) (Nat.le_of_ble_eq_true rfl) (fun J hI => w_X12_makeVariable hI σ p0 δ r h rfl)
def m_X12_variable_b28 (σ : St) (p0 : Nat) (δ : Dy) : Option (Int32 × Dy) :=
  (chk σ 12 p0).bind fun _ => (m_X12_stop σ p0 (1 : Int32) δ).bind fun v4 =>
  some (v4.1, v4.2)
def m_X12_variable (σ : St) (p0 : Nat) (δ : Dy) : Option (Int32 × Dy) :=
  (pI σ δ 12 p0 50 (0 : Int32)).bind fun d1 =>
  (gR σ 12 p0 0).bind fun v2 =>
  (rI σ d1 v2 (0 : Int32)).bind fun v3 =>
  if v3 = (60 : Int32) then
    m_X12_variable_b28 σ p0 d1
  else
    (gR σ 12 p0 0).bind fun v5 =>
    (rI σ d1 v5 (7040 : Int32)).bind fun v6 =>
    if v6 = (1 : Int32) then
      m_X12_variable_b28 σ p0 d1
    else
      (chk σ 12 p0).bind fun _ => (m_X12_makeVariable σ p0 d1).bind fun v7 =>
      some (v7.1, v7.2)
set_option maxHeartbeats 4000000 in
set_option maxRecDepth 100000 in
theorem w_X12_variable_b28 {J : JT} {an : Option Value × St × Dy} (hI : Isj cX12_variable 1 RX12 "variable" 1 21 (some .int) an J) {β : Bu} (σ : St) (p0 : Nat) (δ : Dy) : SJ (m_X12_variable_b28 σ p0 δ) (PI σ an) (J 28 [(0, .ref p0)] [] β σ δ) := by
  have hJ := hI.cor
  unfold m_X12_variable_b28
  refine sj (j_aload_n hJ dX12_variable_28 rfl 0 rfl) ?_
  refine sj (j_iconst hJ (v := 1) dX12_variable_29 ic_1) ?_
  refine sj_callVi hJ [.int (1 : Int32)] (st := []) (fr' := 0) (lo' := 0) ml_X12_137 hc_12 (by decide) (by decide) (Nat.le_of_ble_eq_true rfl) dX12_variable_30 rfl (fun _ h9 => ct_X12_stop h9) (fun v4 => ?_)
  exact sj_iret hI dX12_variable_33 (fun h => h)
set_option maxHeartbeats 4000000 in
set_option maxRecDepth 100000 in
theorem w_X12_variable {J : JT} {an : Option Value × St × Dy} (hI : Isj cX12_variable 1 RX12 "variable" 1 21 (some .int) an J) {β : Bu} (σ : St) (p0 : Nat) (δ : Dy) : SJ (m_X12_variable σ p0 δ) (PI σ an) (J 0 [(0, .ref p0)] [] β σ δ) := by
  have hJ := hI.cor
  unfold m_X12_variable
  refine sj (j_aload_n hJ dX12_variable_0 rfl 0 rfl) ?_
  refine sj (j_iconst hJ (v := 0) dX12_variable_1 ic_0) ?_
  refine sj_pI hJ fl_X12_118 rfl dX12_variable_2 (fun d1 => ?_)
  refine sj (j_aload_n hJ dX12_variable_5 rfl 0 rfl) ?_
  refine sj_gR hJ fl_X12_7 rfl dX12_variable_6 (fun v2 => ?_)
  refine sj (j_iconst hJ (v := 0) dX12_variable_9 ic_0) ?_
  refine sj_rI hJ dX12_variable_10 (fun v3 => ?_)
  refine sj (j_bipush hJ (v := 60) dX12_variable_11 ib_60) ?_
  refine sj_if (j_icmp_eq hJ (tgt := 28) dX12_variable_13 (by decide)) (fun _ => ?_) (fun _ => ?_)
  · exact w_X12_variable_b28 hI σ p0 d1
  · refine sj (j_aload_n hJ dX12_variable_16 rfl 0 rfl) ?_
    refine sj_gR hJ fl_X12_7 rfl dX12_variable_17 (fun v5 => ?_)
    refine sj (j_sipush hJ (v := 7040) dX12_variable_20 is_7040) ?_
    refine sj_rI hJ dX12_variable_23 (fun v6 => ?_)
    refine sj (j_iconst hJ (v := 1) dX12_variable_24 ic_1) ?_
    refine sj_if (j_icmp_ne hJ (tgt := 34) dX12_variable_25 (by decide)) (fun _ => ?_) (fun _ => ?_)
    · exact w_X12_variable_b28 hI σ p0 d1
    · refine sj (j_aload_n hJ dX12_variable_34 rfl 0 rfl) ?_
      refine sj_callVi hJ [] (st := []) (fr' := 0) (lo' := 0) ml_X12_141 hc_12 (by decide) (by decide) (Nat.le_of_ble_eq_true rfl) dX12_variable_35 rfl (fun _ h9 => ct_X12_makeVariable h9) (fun v7 => ?_)
      exact sj_iret hI dX12_variable_38 (fun h => h)
theorem ct_X12_variable {σ : St} {p0 : Nat} {δ : Dy} {r : (Int32 × Dy)} (h : m_X12_variable σ p0 δ = some r) : CT yX12_variable cX12_variable 1 (some .int) 1 21 0 0 [.ref p0] σ δ ((some (.int r.1)), σ, r.2) := CT_of (by decide +kernel) (Nat.le_of_ble_eq_true rfl) (fun J hI => w_X12_variable hI σ p0 δ r h rfl)
def m_X12_valueOf (σ : St) (p0 : Nat) (p1 : Int32) (δ : Dy) : Option Int32 :=
  if p1 < (400 : Int32) then
    some p1
  else
    (gR σ 12 p0 0).bind fun v1 =>
    (gR σ 12 p0 0).bind fun v2 =>
    (rI σ δ v2 (((1 : Int32) + p1) - (400 : Int32))).bind fun v3 =>
    (rI σ δ v1 ((61 : Int32) + v3)).bind fun v4 =>
    some v4
set_option maxHeartbeats 4000000 in
set_option maxRecDepth 100000 in
theorem w_X12_valueOf {J : JT} {an : Option Value × St × Dy} (hI : Isj cX12_valueOf 2 RX12 "valueOf" 0 0 (some .int) an J) {β : Bu} (σ : St) (p0 : Nat) (p1 : Int32) (δ : Dy) : SJ (m_X12_valueOf σ p0 p1 δ) (PIp σ δ an) (J 0 [(0, .ref p0), (1, .int p1)] [] β σ δ) := by
  have hJ := hI.cor
  unfold m_X12_valueOf
  refine sj (j_iload_n hJ dX12_valueOf_0 rfl 1 rfl) ?_
  refine sj (j_sipush hJ (v := 400) dX12_valueOf_1 is_400) ?_
  refine sj_if (j_icmp_lt hJ (tgt := 30) dX12_valueOf_4 (by decide)) (fun _ => ?_) (fun _ => ?_)
  · refine sj (j_iload_n hJ dX12_valueOf_30 rfl 1 rfl) ?_
    exact sj_iret hI dX12_valueOf_31 (fun h => h)
  · refine sj (j_aload_n hJ dX12_valueOf_7 rfl 0 rfl) ?_
    refine sj_gR hJ fl_X12_7 rfl dX12_valueOf_8 (fun v1 => ?_)
    refine sj (j_bipush hJ (v := 61) dX12_valueOf_11 ib_61) ?_
    refine sj (j_aload_n hJ dX12_valueOf_13 rfl 0 rfl) ?_
    refine sj_gR hJ fl_X12_7 rfl dX12_valueOf_14 (fun v2 => ?_)
    refine sj (j_iconst hJ (v := 1) dX12_valueOf_17 ic_1) ?_
    refine sj (j_iload_n hJ dX12_valueOf_18 rfl 1 rfl) ?_
    refine sj (j_iadd hJ dX12_valueOf_19) ?_
    refine sj (j_sipush hJ (v := 400) dX12_valueOf_20 is_400) ?_
    refine sj (j_isub hJ dX12_valueOf_23) ?_
    refine sj_rI hJ dX12_valueOf_24 (fun v3 => ?_)
    refine sj (j_iadd hJ dX12_valueOf_25) ?_
    refine sj_rI hJ dX12_valueOf_26 (fun v4 => ?_)
    refine sj (j_goto hJ (tgt := 31) dX12_valueOf_27 (by decide)) ?_
    exact sj_iret hI dX12_valueOf_31 (fun h => h)
theorem ct_X12_valueOf {σ : St} {p0 : Nat} {p1 : Int32} {δ : Dy} {r : Int32} (h : m_X12_valueOf σ p0 p1 δ = some r) : CT yX12_valueOf cX12_valueOf 2 (some .int) 0 0 0 0 [.ref p0, .int p1] σ δ ((some (.int r)), σ, δ) := CT_of (by decide +kernel) (Nat.le_of_ble_eq_true rfl) (fun J hI => w_X12_valueOf hI σ p0 p1 δ r h rfl)
def m_X12_areEqual (σ : St) (p0 : Nat) (p1 : Int32) (p2 : Int32) (δ : Dy) : Option Int32 :=
  (chk σ 12 p0).bind fun _ => (m_X12_valueOf σ p0 p1 δ).bind fun v1 =>
  if v1 = (100 : Int32) then
    if p2 < (400 : Int32) then
      some (0 : Int32)
    else
      (gR σ 12 p0 0).bind fun v2 =>
      (rI σ δ v2 (((1 : Int32) + p1) - (400 : Int32))).bind fun v3 =>
      (gR σ 12 p0 0).bind fun v4 =>
      (rI σ δ v4 (((1 : Int32) + p2) - (400 : Int32))).bind fun v5 =>
      if v3 = v5 then
        some (1 : Int32)
      else
        some (0 : Int32)
  else
    (chk σ 12 p0).bind fun _ => (m_X12_valueOf σ p0 p2 δ).bind fun v6 =>
    if v1 = v6 then
      some (1 : Int32)
    else
      some (0 : Int32)
set_option maxHeartbeats 4000000 in
set_option maxRecDepth 100000 in
theorem w_X12_areEqual {J : JT} {an : Option Value × St × Dy} (hI : Isj cX12_areEqual 4 RX12 "areEqual" 1 21 (some .boolean) an J) {β : Bu} (σ : St) (p0 : Nat) (p1 : Int32) (p2 : Int32) (δ : Dy) : SJ (m_X12_areEqual σ p0 p1 p2 δ) (PIp σ δ an) (J 0 [(0, .ref p0), (1, .int p1), (2, .int p2)] [] β σ δ) := by
  have hJ := hI.cor
  unfold m_X12_areEqual
  refine sj (j_aload_n hJ dX12_areEqual_0 rfl 0 rfl) ?_
  refine sj (j_iload_n hJ dX12_areEqual_1 rfl 1 rfl) ?_
  refine sj_callVip hJ [.int p1] (st := []) (fr' := 0) (lo' := 0) ml_X12_145 hc_12 (by decide) (by decide) (Nat.le_of_ble_eq_true rfl) dX12_areEqual_2 rfl (fun _ h9 => ct_X12_valueOf h9) (fun v1 => ?_)
  refine sj (j_istore_n hJ (L' := [(3, .int v1), (0, .ref p0), (1, .int p1), (2, .int p2)]) dX12_areEqual_5 rfl (by decide) rfl) ?_
  refine sj (j_iload_n hJ dX12_areEqual_6 rfl 0 rfl) ?_
  refine sj (j_bipush hJ (v := 100) dX12_areEqual_7 ib_100) ?_
  refine sj_if (j_icmp_eq hJ (tgt := 27) dX12_areEqual_9 (by decide)) (fun _ => ?_) (fun _ => ?_)
  · refine sj (j_iload_n hJ dX12_areEqual_27 rfl 3 rfl) ?_
    refine sj (j_sipush hJ (v := 400) dX12_areEqual_28 is_400) ?_
    refine sj_if (j_icmp_lt hJ (tgt := 65) dX12_areEqual_31 (by decide)) (fun _ => ?_) (fun _ => ?_)
    · refine sj (j_iconst hJ (v := 0) dX12_areEqual_65 ic_0) ?_
      exact sj_zret hI (by decide) dX12_areEqual_66 (fun h => h)
    · refine sj (j_aload_n hJ dX12_areEqual_34 rfl 1 rfl) ?_
      refine sj_gR hJ fl_X12_7 rfl dX12_areEqual_35 (fun v2 => ?_)
      refine sj (j_iconst hJ (v := 1) dX12_areEqual_38 ic_1) ?_
      refine sj (j_iload_n hJ dX12_areEqual_39 rfl 2 rfl) ?_
      refine sj (j_iadd hJ dX12_areEqual_40) ?_
      refine sj (j_sipush hJ (v := 400) dX12_areEqual_41 is_400) ?_
      refine sj (j_isub hJ dX12_areEqual_44) ?_
      refine sj_rI hJ dX12_areEqual_45 (fun v3 => ?_)
      refine sj (j_aload_n hJ dX12_areEqual_46 rfl 1 rfl) ?_
      refine sj_gR hJ fl_X12_7 rfl dX12_areEqual_47 (fun v4 => ?_)
      refine sj (j_iconst hJ (v := 1) dX12_areEqual_50 ic_1) ?_
      refine sj (j_iload_n hJ dX12_areEqual_51 rfl 3 rfl) ?_
      refine sj (j_iadd hJ dX12_areEqual_52) ?_
      refine sj (j_sipush hJ (v := 400) dX12_areEqual_53 is_400) ?_
      refine sj (j_isub hJ dX12_areEqual_56) ?_
      refine sj_rI hJ dX12_areEqual_57 (fun v5 => ?_)
      refine sj_if (j_icmp_ne hJ (tgt := 65) dX12_areEqual_58 (by decide)) (fun _ => ?_) (fun _ => ?_)
      · refine sj (j_iconst hJ (v := 1) dX12_areEqual_61 ic_1) ?_
        refine sj (j_goto hJ (tgt := 66) dX12_areEqual_62 (by decide)) ?_
        exact sj_zret hI (by decide) dX12_areEqual_66 (fun h => h)
      · refine sj (j_iconst hJ (v := 0) dX12_areEqual_65 ic_0) ?_
        exact sj_zret hI (by decide) dX12_areEqual_66 (fun h => h)
  · refine sj (j_iload_n hJ dX12_areEqual_12 rfl 0 rfl) ?_
    refine sj (j_aload_n hJ dX12_areEqual_13 rfl 1 rfl) ?_
    refine sj (j_iload_n hJ dX12_areEqual_14 rfl 3 rfl) ?_
    refine sj_callVip hJ [.int p2] (st := [.int v1]) (fr' := 0) (lo' := 0) ml_X12_145 hc_12 (by decide) (by decide) (Nat.le_of_ble_eq_true rfl) dX12_areEqual_15 rfl (fun _ h9 => ct_X12_valueOf h9) (fun v6 => ?_)
    refine sj_if (j_icmp_ne hJ (tgt := 25) dX12_areEqual_18 (by decide)) (fun _ => ?_) (fun _ => ?_)
    · refine sj (j_iconst hJ (v := 1) dX12_areEqual_21 ic_1) ?_
      refine sj (j_goto hJ (tgt := 26) dX12_areEqual_22 (by decide)) ?_
      exact sj_zret hI (by decide) dX12_areEqual_26 (fun h => h)
    · refine sj (j_iconst hJ (v := 0) dX12_areEqual_25 ic_0) ?_
      exact sj_zret hI (by decide) dX12_areEqual_26 (fun h => h)
theorem ct_X12_areEqual {σ : St} {p0 : Nat} {p1 : Int32} {p2 : Int32} {δ : Dy} {r : Int32} (h : m_X12_areEqual σ p0 p1 p2 δ = some r) : CT yX12_areEqual cX12_areEqual 4 (some .boolean) 1 21 0 0 [.ref p0, .int p1, .int p2] σ δ ((some (.int r)), σ, δ) := CT_of (by decide +kernel) (Nat.le_of_ble_eq_true rfl) (fun J hI => w_X12_areEqual hI σ p0 p1 p2 δ r h rfl)
def m_X12_tokenOf_b85 (σ : St) (p0 : Nat) (p1 : Int32) (p2 : Int32) (p3 : Int32) (p4 : Int32) (δ : Dy) : Option ((Int32) ⊕ Int32) :=
  some (Sum.inl (p4 + (1 : Int32)))
def m_X12_tokenOf_b3 (σ : St) (p0 : Nat) (p1 : Int32) (p2 : Int32) (p3 : Int32) (p4 : Int32) (δ : Dy) : Option Int32 := lp (fun (s : (Int32)) =>
  (gR σ 12 p0 0).bind fun v1 =>
  (rI σ δ v1 (121 : Int32)).bind fun v2 =>
  if v2 ≤ s then
    some (Sum.inr (-1 : Int32))
  else
    (gR σ 12 p0 0).bind fun v3 =>
    (rI σ δ v3 ((422 : Int32) + s)).bind fun v4 =>
    if v4 = (1 : Int32) then
      (gR σ 12 p0 0).bind fun v5 =>
      (rI σ δ v5 ((122 : Int32) + s)).bind fun v6 =>
      if v6 = p1 then
        (gR σ 12 p0 0).bind fun v7 =>
        (rI σ δ v7 ((222 : Int32) + s)).bind fun v8 =>
        (chk σ 12 p0).bind fun _ => (m_X12_areEqual σ p0 v8 p2 δ).bind fun v9 =>
        if v9 = 0 then
          m_X12_tokenOf_b85 σ p0 p1 p2 p3 s δ
        else
          (gR σ 12 p0 0).bind fun v10 =>
          (rI σ δ v10 ((322 : Int32) + s)).bind fun v11 =>
          (chk σ 12 p0).bind fun _ => (m_X12_areEqual σ p0 v11 p3 δ).bind fun v12 =>
          if v12 = 0 then
            m_X12_tokenOf_b85 σ p0 p1 p2 p3 s δ
          else
            some (Sum.inr s)
      else
        m_X12_tokenOf_b85 σ p0 p1 p2 p3 s δ
    else
      m_X12_tokenOf_b85 σ p0 p1 p2 p3 s δ) (p4)
def m_X12_tokenOf (σ : St) (p0 : Nat) (p1 : Int32) (p2 : Int32) (p3 : Int32) (δ : Dy) : Option Int32 :=
  m_X12_tokenOf_b3 σ p0 p1 p2 p3 (0 : Int32) δ
set_option maxHeartbeats 4000000 in
set_option maxRecDepth 100000 in
theorem w_X12_tokenOf_b85 {J : JT} {an : Option Value × St × Dy} (hI : Isj cX12_tokenOf 5 RX12 "tokenOf" 2 44 (some .int) an J) {β : Bu} (σ : St) (p0 : Nat) (p1 : Int32) (p2 : Int32) (p3 : Int32) (p4 : Int32) (δ : Dy) : SJ (m_X12_tokenOf_b85 σ p0 p1 p2 p3 p4 δ) (PL (fun s : (Int32) => J 3 [(0, .ref p0), (1, .int p1), (2, .int p2), (3, .int p3), (4, .int s)] [] β σ δ) (PIp σ δ an)) (J 85 [(0, .ref p0), (1, .int p1), (2, .int p2), (3, .int p3), (4, .int p4)] [] β σ δ) := by
  have hJ := hI.cor
  unfold m_X12_tokenOf_b85
  refine sj (j_iinc hJ (L' := [(4, .int (p4 + (1 : Int32))), (0, .ref p0), (1, .int p1), (2, .int p2), (3, .int p3)]) dX12_tokenOf_85 4 rfl (congrArg (fun z => p4 + z) ic_1) (by decide) rfl) ?_
  refine sj (j_goto hJ (tgt := 3) dX12_tokenOf_88 (by decide)) ?_
  refine sj (j_sub hJ (L' := [(0, .ref p0), (1, .int p1), (2, .int p2), (3, .int p3), (4, .int (p4 + (1 : Int32)))]) [1, 2, 3, 4, 0] rfl) ?_
  exact sj_end (fun h => h)
set_option maxHeartbeats 4000000 in
set_option maxRecDepth 100000 in
theorem w_X12_tokenOf_b3 {J : JT} {an : Option Value × St × Dy} (hI : Isj cX12_tokenOf 5 RX12 "tokenOf" 2 44 (some .int) an J) {β : Bu} (σ : St) (p0 : Nat) (p1 : Int32) (p2 : Int32) (p3 : Int32) (p4 : Int32) (δ : Dy) : SJ (m_X12_tokenOf_b3 σ p0 p1 p2 p3 p4 δ) (PIp σ δ an) (J 3 [(0, .ref p0), (1, .int p1), (2, .int p2), (3, .int p3), (4, .int p4)] [] β σ δ) := by
  have hJ := hI.cor
  unfold m_X12_tokenOf_b3
  refine sj_lp (G := fun s : (Int32) => J 3 [(0, .ref p0), (1, .int p1), (2, .int p2), (3, .int p3), (4, .int s)] [] β σ δ) (fun s => ?_) (p4)
  refine sj (j_iload hJ dX12_tokenOf_3 4 rfl) ?_
  refine sj (j_aload_n hJ dX12_tokenOf_5 rfl 0 rfl) ?_
  refine sj_gR hJ fl_X12_7 rfl dX12_tokenOf_6 (fun v1 => ?_)
  refine sj (j_bipush hJ (v := 121) dX12_tokenOf_9 ib_121) ?_
  refine sj_rI hJ dX12_tokenOf_11 (fun v2 => ?_)
  refine sj_if (j_icmp_ge hJ (tgt := 91) dX12_tokenOf_12 (by decide)) (fun _ => ?_) (fun _ => ?_)
  · refine sj (j_iconst hJ (v := -1) dX12_tokenOf_91 ic_m1) ?_
    exact sj_iret hI dX12_tokenOf_92 (fun h => h)
  · refine sj (j_aload_n hJ dX12_tokenOf_15 rfl 0 rfl) ?_
    refine sj_gR hJ fl_X12_7 rfl dX12_tokenOf_16 (fun v3 => ?_)
    refine sj (j_sipush hJ (v := 422) dX12_tokenOf_19 is_422) ?_
    refine sj (j_iload hJ dX12_tokenOf_22 4 rfl) ?_
    refine sj (j_iadd hJ dX12_tokenOf_24) ?_
    refine sj_rI hJ dX12_tokenOf_25 (fun v4 => ?_)
    refine sj (j_iconst hJ (v := 1) dX12_tokenOf_26 ic_1) ?_
    refine sj_if (j_icmp_ne hJ (tgt := 85) dX12_tokenOf_27 (by decide)) (fun _ => ?_) (fun _ => ?_)
    · refine sj (j_aload_n hJ dX12_tokenOf_30 rfl 0 rfl) ?_
      refine sj_gR hJ fl_X12_7 rfl dX12_tokenOf_31 (fun v5 => ?_)
      refine sj (j_bipush hJ (v := 122) dX12_tokenOf_34 ib_122) ?_
      refine sj (j_iload hJ dX12_tokenOf_36 4 rfl) ?_
      refine sj (j_iadd hJ dX12_tokenOf_38) ?_
      refine sj_rI hJ dX12_tokenOf_39 (fun v6 => ?_)
      refine sj (j_iload_n hJ dX12_tokenOf_40 rfl 1 rfl) ?_
      refine sj_if (j_icmp_ne hJ (tgt := 85) dX12_tokenOf_41 (by decide)) (fun _ => ?_) (fun _ => ?_)
      · refine sj (j_aload_n hJ dX12_tokenOf_44 rfl 0 rfl) ?_
        refine sj (j_aload_n hJ dX12_tokenOf_45 rfl 0 rfl) ?_
        refine sj_gR hJ fl_X12_7 rfl dX12_tokenOf_46 (fun v7 => ?_)
        refine sj (j_sipush hJ (v := 222) dX12_tokenOf_49 is_222) ?_
        refine sj (j_iload hJ dX12_tokenOf_52 4 rfl) ?_
        refine sj (j_iadd hJ dX12_tokenOf_54) ?_
        refine sj_rI hJ dX12_tokenOf_55 (fun v8 => ?_)
        refine sj (j_iload_n hJ dX12_tokenOf_56 rfl 2 rfl) ?_
        refine sj_callVip hJ [.int v8, .int p2] (st := []) (fr' := 1) (lo' := 21) ml_X12_148 hc_12 (by decide) (by decide) (Nat.le_of_ble_eq_true rfl) dX12_tokenOf_57 rfl (fun _ h9 => ct_X12_areEqual h9) (fun v9 => ?_)
        refine sj_if (j_if_eq hJ (tgt := 85) dX12_tokenOf_60 (by decide)) (fun _ => ?_) (fun _ => ?_)
        · exact w_X12_tokenOf_b85 hI σ p0 p1 p2 p3 s δ
        · refine sj (j_aload_n hJ dX12_tokenOf_63 rfl 0 rfl) ?_
          refine sj (j_aload_n hJ dX12_tokenOf_64 rfl 0 rfl) ?_
          refine sj_gR hJ fl_X12_7 rfl dX12_tokenOf_65 (fun v10 => ?_)
          refine sj (j_sipush hJ (v := 322) dX12_tokenOf_68 is_322) ?_
          refine sj (j_iload hJ dX12_tokenOf_71 4 rfl) ?_
          refine sj (j_iadd hJ dX12_tokenOf_73) ?_
          refine sj_rI hJ dX12_tokenOf_74 (fun v11 => ?_)
          refine sj (j_iload_n hJ dX12_tokenOf_75 rfl 3 rfl) ?_
          refine sj_callVip hJ [.int v11, .int p3] (st := []) (fr' := 1) (lo' := 21) ml_X12_148 hc_12 (by decide) (by decide) (Nat.le_of_ble_eq_true rfl) dX12_tokenOf_76 rfl (fun _ h9 => ct_X12_areEqual h9) (fun v12 => ?_)
          refine sj_if (j_if_eq hJ (tgt := 85) dX12_tokenOf_79 (by decide)) (fun _ => ?_) (fun _ => ?_)
          · exact w_X12_tokenOf_b85 hI σ p0 p1 p2 p3 s δ
          · refine sj (j_iload hJ dX12_tokenOf_82 4 rfl) ?_
            exact sj_iret hI dX12_tokenOf_84 (fun h => h)
      · exact w_X12_tokenOf_b85 hI σ p0 p1 p2 p3 s δ
    · exact w_X12_tokenOf_b85 hI σ p0 p1 p2 p3 s δ
set_option maxHeartbeats 4000000 in
set_option maxRecDepth 100000 in
theorem w_X12_tokenOf {J : JT} {an : Option Value × St × Dy} (hI : Isj cX12_tokenOf 5 RX12 "tokenOf" 2 44 (some .int) an J) {β : Bu} (σ : St) (p0 : Nat) (p1 : Int32) (p2 : Int32) (p3 : Int32) (δ : Dy) : SJ (m_X12_tokenOf σ p0 p1 p2 p3 δ) (PIp σ δ an) (J 0 [(0, .ref p0), (1, .int p1), (2, .int p2), (3, .int p3)] [] β σ δ) := by
  have hJ := hI.cor
  unfold m_X12_tokenOf
  refine sj (j_iconst hJ (v := 0) dX12_tokenOf_0 ic_0) ?_
  refine sj (j_istore hJ (L' := [(4, .int (0 : Int32)), (0, .ref p0), (1, .int p1), (2, .int p2), (3, .int p3)]) dX12_tokenOf_1 (by decide) rfl) ?_
  refine sj (j_sub hJ (L' := [(0, .ref p0), (1, .int p1), (2, .int p2), (3, .int p3), (4, .int (0 : Int32))]) [1, 2, 3, 4, 0] rfl) ?_
  exact w_X12_tokenOf_b3 hI σ p0 p1 p2 p3 (0 : Int32) δ
theorem ct_X12_tokenOf {σ : St} {p0 : Nat} {p1 : Int32} {p2 : Int32} {p3 : Int32} {δ : Dy} {r : Int32} (h : m_X12_tokenOf σ p0 p1 p2 p3 δ = some r) : CT yX12_tokenOf cX12_tokenOf 5 (some .int) 2 44 0 0 [.ref p0, .int p1, .int p2, .int p3] σ δ ((some (.int r)), σ, δ) := CT_of (by decide +kernel) (Nat.le_of_ble_eq_true rfl) (fun J hI => w_X12_tokenOf hI σ p0 p1 p2 p3 δ r h rfl)
def m_X12_entails_b88 (σ : St) (p1 : Int32) (p4 : Int32) (p5 : Int32) (q0 : Int32) (δ : Dy) : Option Int32 :=
  if q0 = 0 then
    some (0 : Int32)
  else
    if p1 = (1 : Int32) then
      if p4 = p5 then
        some (0 : Int32)
      else
        some (1 : Int32)
    else
      if p5 ≤ p4 then
        some (0 : Int32)
      else
        some (1 : Int32)
def m_X12_entails_b87 (σ : St) (p1 : Int32) (p4 : Int32) (p5 : Int32) (δ : Dy) : Option Int32 :=
  m_X12_entails_b88 σ p1 p4 p5 (0 : Int32) δ
def m_X12_entails (σ : St) (p0 : Nat) (p1 : Int32) (p2 : Int32) (p3 : Int32) (δ : Dy) : Option Int32 :=
  if p1 < (10 : Int32) then
    (chk σ 12 p0).bind fun _ => (m_X12_valueOf σ p0 p2 δ).bind fun v1 =>
    (chk σ 12 p0).bind fun _ => (m_X12_valueOf σ p0 p3 δ).bind fun v2 =>
    if p1 = 0 then
      (chk σ 12 p0).bind fun _ => (m_X12_areEqual σ p0 p2 p3 δ).bind fun v3 =>
      (zo v3).bind fun _ => some v3
    else
      if p1 = (3 : Int32) then
        if v1 = (100 : Int32) then
          some (0 : Int32)
        else
          some (1 : Int32)
      else
        if v1 = (100 : Int32) then
          m_X12_entails_b87 σ p1 v1 v2 δ
        else
          if v2 = (100 : Int32) then
            m_X12_entails_b87 σ p1 v1 v2 δ
          else
            m_X12_entails_b88 σ p1 v1 v2 (1 : Int32) δ
  else
    (chk σ 12 p0).bind fun _ => (m_X12_tokenOf σ p0 (p1 - (10 : Int32)) p2 p3 δ).bind fun v4 =>
    if v4 = (-1 : Int32) then
      some (0 : Int32)
    else
      some (1 : Int32)
set_option maxHeartbeats 4000000 in
set_option maxRecDepth 100000 in
theorem w_X12_entails_b88 {J : JT} {an : Option Value × St × Dy} (hI : Isj cX12_entails 7 RX12 "entails" 3 68 (some .boolean) an J) {β : Bu} (σ : St) (p1 : Int32) (p4 : Int32) (p5 : Int32) (q0 : Int32) (δ : Dy) : SJ (m_X12_entails_b88 σ p1 p4 p5 q0 δ) (PIp σ δ an) (J 88 [(1, .int p1), (4, .int p4), (5, .int p5)] [.int q0] β σ δ) := by
  have hJ := hI.cor
  unfold m_X12_entails_b88
  refine sj (j_istore hJ (L' := [(6, .int q0), (1, .int p1), (4, .int p4), (5, .int p5)]) dX12_entails_88 (by decide) rfl) ?_
  refine sj (j_iload hJ dX12_entails_90 0 rfl) ?_
  refine sj_if (j_if_eq hJ (tgt := 121) dX12_entails_92 (by decide)) (fun _ => ?_) (fun _ => ?_)
  · refine sj (j_iconst hJ (v := 0) dX12_entails_121 ic_0) ?_
    exact sj_zret hI (by decide) dX12_entails_122 (fun h => h)
  · refine sj (j_iload_n hJ dX12_entails_95 rfl 1 rfl) ?_
    refine sj (j_iconst hJ (v := 1) dX12_entails_96 ic_1) ?_
    refine sj_if (j_icmp_ne hJ (tgt := 110) dX12_entails_97 (by decide)) (fun _ => ?_) (fun _ => ?_)
    · refine sj (j_iload hJ dX12_entails_100 2 rfl) ?_
      refine sj (j_iload hJ dX12_entails_102 3 rfl) ?_
      refine sj_if (j_icmp_eq hJ (tgt := 121) dX12_entails_104 (by decide)) (fun _ => ?_) (fun _ => ?_)
      · refine sj (j_iconst hJ (v := 0) dX12_entails_121 ic_0) ?_
        exact sj_zret hI (by decide) dX12_entails_122 (fun h => h)
      · refine sj (j_goto hJ (tgt := 117) dX12_entails_107 (by decide)) ?_
        refine sj (j_iconst hJ (v := 1) dX12_entails_117 ic_1) ?_
        refine sj (j_goto hJ (tgt := 122) dX12_entails_118 (by decide)) ?_
        exact sj_zret hI (by decide) dX12_entails_122 (fun h => h)
    · refine sj (j_iload hJ dX12_entails_110 2 rfl) ?_
      refine sj (j_iload hJ dX12_entails_112 3 rfl) ?_
      refine sj_if (j_icmp_ge hJ (tgt := 121) dX12_entails_114 (by decide)) (fun _ => ?_) (fun _ => ?_)
      · refine sj (j_iconst hJ (v := 0) dX12_entails_121 ic_0) ?_
        exact sj_zret hI (by decide) dX12_entails_122 (fun h => h)
      · refine sj (j_iconst hJ (v := 1) dX12_entails_117 ic_1) ?_
        refine sj (j_goto hJ (tgt := 122) dX12_entails_118 (by decide)) ?_
        exact sj_zret hI (by decide) dX12_entails_122 (fun h => h)
set_option maxHeartbeats 4000000 in
set_option maxRecDepth 100000 in
theorem w_X12_entails_b87 {J : JT} {an : Option Value × St × Dy} (hI : Isj cX12_entails 7 RX12 "entails" 3 68 (some .boolean) an J) {β : Bu} (σ : St) (p1 : Int32) (p4 : Int32) (p5 : Int32) (δ : Dy) : SJ (m_X12_entails_b87 σ p1 p4 p5 δ) (PIp σ δ an) (J 87 [(1, .int p1), (4, .int p4), (5, .int p5)] [] β σ δ) := by
  have hJ := hI.cor
  unfold m_X12_entails_b87
  refine sj (j_iconst hJ (v := 0) dX12_entails_87 ic_0) ?_
  exact w_X12_entails_b88 hI σ p1 p4 p5 (0 : Int32) δ
set_option maxHeartbeats 4000000 in
set_option maxRecDepth 100000 in
theorem w_X12_entails {J : JT} {an : Option Value × St × Dy} (hI : Isj cX12_entails 7 RX12 "entails" 3 68 (some .boolean) an J) {β : Bu} (σ : St) (p0 : Nat) (p1 : Int32) (p2 : Int32) (p3 : Int32) (δ : Dy) : SJ (m_X12_entails σ p0 p1 p2 p3 δ) (PIp σ δ an) (J 0 [(0, .ref p0), (1, .int p1), (2, .int p2), (3, .int p3)] [] β σ δ) := by
  have hJ := hI.cor
  unfold m_X12_entails
  refine sj (j_iload_n hJ dX12_entails_0 rfl 1 rfl) ?_
  refine sj (j_bipush hJ (v := 10) dX12_entails_1 ib_10) ?_
  refine sj_if (j_icmp_lt hJ (tgt := 26) dX12_entails_3 (by decide)) (fun _ => ?_) (fun _ => ?_)
  · refine sj (j_aload_n hJ dX12_entails_26 rfl 0 rfl) ?_
    refine sj (j_iload_n hJ dX12_entails_27 rfl 2 rfl) ?_
    refine sj_callVip hJ [.int p2] (st := []) (fr' := 0) (lo' := 0) ml_X12_145 hc_12 (by decide) (by decide) (Nat.le_of_ble_eq_true rfl) dX12_entails_28 rfl (fun _ h9 => ct_X12_valueOf h9) (fun v1 => ?_)
    refine sj (j_istore hJ (L' := [(4, .int v1), (0, .ref p0), (1, .int p1), (2, .int p2), (3, .int p3)]) dX12_entails_31 (by decide) rfl) ?_
    refine sj (j_aload_n hJ dX12_entails_33 rfl 1 rfl) ?_
    refine sj (j_iload_n hJ dX12_entails_34 rfl 4 rfl) ?_
    refine sj_callVip hJ [.int p3] (st := []) (fr' := 0) (lo' := 0) ml_X12_145 hc_12 (by decide) (by decide) (Nat.le_of_ble_eq_true rfl) dX12_entails_35 rfl (fun _ h9 => ct_X12_valueOf h9) (fun v2 => ?_)
    refine sj (j_istore hJ (L' := [(5, .int v2), (4, .int v1), (0, .ref p0), (1, .int p1), (2, .int p2), (3, .int p3)]) dX12_entails_38 (by decide) rfl) ?_
    refine sj (j_iload_n hJ dX12_entails_40 rfl 3 rfl) ?_
    refine sj_if (j_if_ne hJ (tgt := 51) dX12_entails_41 (by decide)) (fun _ => ?_) (fun _ => ?_)
    · refine sj (j_aload_n hJ dX12_entails_44 rfl 2 rfl) ?_
      refine sj (j_iload_n hJ dX12_entails_45 rfl 4 rfl) ?_
      refine sj (j_iload_n hJ dX12_entails_46 rfl 5 rfl) ?_
      refine sj_callVip hJ [.int p2, .int p3] (st := []) (fr' := 1) (lo' := 21) ml_X12_148 hc_12 (by decide) (by decide) (Nat.le_of_ble_eq_true rfl) dX12_entails_47 rfl (fun _ h9 => ct_X12_areEqual h9) (fun v3 => ?_)
      exact sj_zretG hI dX12_entails_50 (fun h => h)
    · refine sj (j_iload_n hJ dX12_entails_51 rfl 3 rfl) ?_
      refine sj (j_iconst hJ (v := 3) dX12_entails_52 ic_3) ?_
      refine sj_if (j_icmp_ne hJ (tgt := 69) dX12_entails_53 (by decide)) (fun _ => ?_) (fun _ => ?_)
      · refine sj (j_iload hJ dX12_entails_56 1 rfl) ?_
        refine sj (j_bipush hJ (v := 100) dX12_entails_58 ib_100) ?_
        refine sj_if (j_icmp_eq hJ (tgt := 67) dX12_entails_60 (by decide)) (fun _ => ?_) (fun _ => ?_)
        · refine sj (j_iconst hJ (v := 0) dX12_entails_67 ic_0) ?_
          exact sj_zret hI (by decide) dX12_entails_68 (fun h => h)
        · refine sj (j_iconst hJ (v := 1) dX12_entails_63 ic_1) ?_
          refine sj (j_goto hJ (tgt := 68) dX12_entails_64 (by decide)) ?_
          exact sj_zret hI (by decide) dX12_entails_68 (fun h => h)
      · refine sj (j_iload hJ dX12_entails_69 1 rfl) ?_
        refine sj (j_bipush hJ (v := 100) dX12_entails_71 ib_100) ?_
        refine sj_if (j_icmp_eq hJ (tgt := 87) dX12_entails_73 (by decide)) (fun _ => ?_) (fun _ => ?_)
        · refine sj (j_sub hJ (L' := [(1, .int p1), (4, .int v1), (5, .int v2)]) [3, 1, 0] rfl) ?_
          exact w_X12_entails_b87 hI σ p1 v1 v2 δ
        · refine sj (j_iload hJ dX12_entails_76 0 rfl) ?_
          refine sj (j_bipush hJ (v := 100) dX12_entails_78 ib_100) ?_
          refine sj_if (j_icmp_eq hJ (tgt := 87) dX12_entails_80 (by decide)) (fun _ => ?_) (fun _ => ?_)
          · refine sj (j_sub hJ (L' := [(1, .int p1), (4, .int v1), (5, .int v2)]) [3, 1, 0] rfl) ?_
            exact w_X12_entails_b87 hI σ p1 v1 v2 δ
          · refine sj (j_iconst hJ (v := 1) dX12_entails_83 ic_1) ?_
            refine sj (j_goto hJ (tgt := 88) dX12_entails_84 (by decide)) ?_
            refine sj (j_sub hJ (L' := [(1, .int p1), (4, .int v1), (5, .int v2)]) [3, 1, 0] rfl) ?_
            exact w_X12_entails_b88 hI σ p1 v1 v2 (1 : Int32) δ
  · refine sj (j_aload_n hJ dX12_entails_6 rfl 0 rfl) ?_
    refine sj (j_iload_n hJ dX12_entails_7 rfl 1 rfl) ?_
    refine sj (j_bipush hJ (v := 10) dX12_entails_8 ib_10) ?_
    refine sj (j_isub hJ dX12_entails_10) ?_
    refine sj (j_iload_n hJ dX12_entails_11 rfl 2 rfl) ?_
    refine sj (j_iload_n hJ dX12_entails_12 rfl 3 rfl) ?_
    refine sj_callVip hJ [.int (p1 - (10 : Int32)), .int p2, .int p3] (st := []) (fr' := 2) (lo' := 44) ml_X12_152 hc_12 (by decide) (by decide) (Nat.le_of_ble_eq_true rfl) dX12_entails_13 rfl (fun _ h9 => ct_X12_tokenOf h9) (fun v4 => ?_)
    refine sj (j_iconst hJ (v := -1) dX12_entails_16 ic_m1) ?_
    refine sj_if (j_icmp_eq hJ (tgt := 24) dX12_entails_17 (by decide)) (fun _ => ?_) (fun _ => ?_)
    · refine sj (j_iconst hJ (v := 0) dX12_entails_24 ic_0) ?_
      exact sj_zret hI (by decide) dX12_entails_25 (fun h => h)
    · refine sj (j_iconst hJ (v := 1) dX12_entails_20 ic_1) ?_
      refine sj (j_goto hJ (tgt := 25) dX12_entails_21 (by decide)) ?_
      exact sj_zret hI (by decide) dX12_entails_25 (fun h => h)
theorem ct_X12_entails {σ : St} {p0 : Nat} {p1 : Int32} {p2 : Int32} {p3 : Int32} {δ : Dy} {r : Int32} (h : m_X12_entails σ p0 p1 p2 p3 δ = some r) : CT yX12_entails cX12_entails 7 (some .boolean) 3 68 0 0 [.ref p0, .int p1, .int p2, .int p3] σ δ ((some (.int r)), σ, δ) := CT_of (by decide +kernel) (Nat.le_of_ble_eq_true rfl) (fun J hI => w_X12_entails hI σ p0 p1 p2 p3 δ r h rfl)
def m_X12_pushFrame_b2 (σ : St) (p0 : Nat) (p1 : Int32) (p2 : Int32) (δ : Dy) : Option Dy := lp (fun (s : (Int32 × Dy)) =>
  if (12 : Int32) ≤ s.1 then
    (gR σ 12 p0 36).bind fun v1 =>
    (gI σ s.2 12 p0 37).bind fun v2 =>
    (wI σ s.2 v1 ((12 : Int32) * v2) p1).bind fun d3 =>
    (gI σ d3 12 p0 37).bind fun v4 =>
    (pI σ d3 12 p0 37 (v4 + (1 : Int32))).bind fun d5 =>
    some (Sum.inr d5)
  else
    (gR σ 12 p0 36).bind fun v6 =>
    (gI σ s.2 12 p0 37).bind fun v7 =>
    (wI σ s.2 v6 (((12 : Int32) * v7) + s.1) (0 : Int32)).bind fun d8 =>
    some (Sum.inl ((s.1 + (1 : Int32)), d8))) (p2, δ)
def m_X12_pushFrame (σ : St) (p0 : Nat) (p1 : Int32) (δ : Dy) : Option Dy :=
  m_X12_pushFrame_b2 σ p0 p1 (0 : Int32) δ
set_option maxHeartbeats 4000000 in
set_option maxRecDepth 100000 in
theorem w_X12_pushFrame_b2 {J : JT} {an : Option Value × St × Dy} (hI : Isj cX12_pushFrame 3 RX12 "pushFrame" 0 0 none an J) {β : Bu} (σ : St) (p0 : Nat) (p1 : Int32) (p2 : Int32) (δ : Dy) : SJ (m_X12_pushFrame_b2 σ p0 p1 p2 δ) (PV σ an) (J 2 [(0, .ref p0), (1, .int p1), (2, .int p2)] [] β σ δ) := by
  have hJ := hI.cor
  unfold m_X12_pushFrame_b2
  refine sj_lp (G := fun s : (Int32 × Dy) => J 2 [(0, .ref p0), (1, .int p1), (2, .int s.1)] [] β σ s.2) (fun s => ?_) (p2, δ)
  refine sj (j_iload_n hJ dX12_pushFrame_2 rfl 2 rfl) ?_
  refine sj (j_bipush hJ (v := 12) dX12_pushFrame_3 ib_12) ?_
  refine sj_if (j_icmp_ge hJ (tgt := 29) dX12_pushFrame_5 (by decide)) (fun _ => ?_) (fun _ => ?_)
  · refine sj (j_aload_n hJ dX12_pushFrame_29 rfl 0 rfl) ?_
    refine sj_gR hJ fl_X12_91 rfl dX12_pushFrame_30 (fun v1 => ?_)
    refine sj (j_bipush hJ (v := 12) dX12_pushFrame_33 ib_12) ?_
    refine sj (j_aload_n hJ dX12_pushFrame_35 rfl 0 rfl) ?_
    refine sj_gI hJ fl_X12_156 (Or.inl rfl) dX12_pushFrame_36 (fun v2 => ?_)
    refine sj (j_imul hJ dX12_pushFrame_39) ?_
    refine sj (j_iload_n hJ dX12_pushFrame_40 rfl 1 rfl) ?_
    refine sj_wI hJ dX12_pushFrame_41 (fun d3 => ?_)
    refine sj (j_aload_n hJ dX12_pushFrame_42 rfl 0 rfl) ?_
    refine sj (j_dup hJ dX12_pushFrame_43 rfl) ?_
    refine sj_gI hJ fl_X12_156 (Or.inl rfl) dX12_pushFrame_44 (fun v4 => ?_)
    refine sj (j_iconst hJ (v := 1) dX12_pushFrame_47 ic_1) ?_
    refine sj (j_iadd hJ dX12_pushFrame_48) ?_
    refine sj_pI hJ fl_X12_156 rfl dX12_pushFrame_49 (fun d5 => ?_)
    exact sj_vret hI dX12_pushFrame_52 (fun h => h)
  · refine sj (j_aload_n hJ dX12_pushFrame_8 rfl 0 rfl) ?_
    refine sj_gR hJ fl_X12_91 rfl dX12_pushFrame_9 (fun v6 => ?_)
    refine sj (j_bipush hJ (v := 12) dX12_pushFrame_12 ib_12) ?_
    refine sj (j_aload_n hJ dX12_pushFrame_14 rfl 0 rfl) ?_
    refine sj_gI hJ fl_X12_156 (Or.inl rfl) dX12_pushFrame_15 (fun v7 => ?_)
    refine sj (j_imul hJ dX12_pushFrame_18) ?_
    refine sj (j_iload_n hJ dX12_pushFrame_19 rfl 2 rfl) ?_
    refine sj (j_iadd hJ dX12_pushFrame_20) ?_
    refine sj (j_iconst hJ (v := 0) dX12_pushFrame_21 ic_0) ?_
    refine sj_wI hJ dX12_pushFrame_22 (fun d8 => ?_)
    refine sj (j_iinc hJ (L' := [(2, .int (s.1 + (1 : Int32))), (0, .ref p0), (1, .int p1)]) dX12_pushFrame_23 2 rfl (congrArg (fun z => s.1 + z) ic_1) (by decide) rfl) ?_
    refine sj (j_goto hJ (tgt := 2) dX12_pushFrame_26 (by decide)) ?_
    refine sj (j_sub hJ (L' := [(0, .ref p0), (1, .int p1), (2, .int (s.1 + (1 : Int32)))]) [1, 2, 0] rfl) ?_
    exact sj_end (fun h => h)
set_option maxHeartbeats 4000000 in
set_option maxRecDepth 100000 in
theorem w_X12_pushFrame {J : JT} {an : Option Value × St × Dy} (hI : Isj cX12_pushFrame 3 RX12 "pushFrame" 0 0 none an J) {β : Bu} (σ : St) (p0 : Nat) (p1 : Int32) (δ : Dy) : SJ (m_X12_pushFrame σ p0 p1 δ) (PV σ an) (J 0 [(0, .ref p0), (1, .int p1)] [] β σ δ) := by
  have hJ := hI.cor
  unfold m_X12_pushFrame
  refine sj (j_iconst hJ (v := 0) dX12_pushFrame_0 ic_0) ?_
  refine sj (j_istore_n hJ (L' := [(2, .int (0 : Int32)), (0, .ref p0), (1, .int p1)]) dX12_pushFrame_1 rfl (by decide) rfl) ?_
  refine sj (j_sub hJ (L' := [(0, .ref p0), (1, .int p1), (2, .int (0 : Int32))]) [1, 2, 0] rfl) ?_
  exact w_X12_pushFrame_b2 hI σ p0 p1 (0 : Int32) δ
theorem ct_X12_pushFrame {σ : St} {p0 : Nat} {p1 : Int32} {δ : Dy} {r : Dy} (h : m_X12_pushFrame σ p0 p1 δ = some r) : CT yX12_pushFrame cX12_pushFrame 3 none 0 0 0 0 [.ref p0, .int p1] σ δ (none, σ, r) := CT_of (by decide +kernel) (Nat.le_of_ble_eq_true rfl) (fun J hI => w_X12_pushFrame hI σ p0 p1 δ r h rfl)
def m_X12_pushActive (σ : St) (p0 : Nat) (p1 : Int32) (δ : Dy) : Option Dy :=
  (chk σ 12 p0).bind fun _ => (m_X12_pushFrame σ p0 (0 : Int32) δ).bind fun v1 =>
  (gR σ 12 p0 36).bind fun v2 =>
  (gI σ v1 12 p0 37).bind fun v3 =>
  (wI σ v1 v2 (((12 : Int32) * v3) - (11 : Int32)) p1).bind fun d4 =>
  some d4
set_option maxHeartbeats 4000000 in
set_option maxRecDepth 100000 in
theorem w_X12_pushActive {J : JT} {an : Option Value × St × Dy} (hI : Isj cX12_pushActive 2 RX12 "pushActive" 1 22 none an J) {β : Bu} (σ : St) (p0 : Nat) (p1 : Int32) (δ : Dy) : SJ (m_X12_pushActive σ p0 p1 δ) (PV σ an) (J 0 [(0, .ref p0), (1, .int p1)] [] β σ δ) := by
  have hJ := hI.cor
  unfold m_X12_pushActive
  refine sj (j_aload_n hJ dX12_pushActive_0 rfl 0 rfl) ?_
  refine sj (j_iconst hJ (v := 0) dX12_pushActive_1 ic_0) ?_
  refine sj_callVv hJ [.int (0 : Int32)] (st := []) (fr' := 0) (lo' := 0) ml_X12_159 hc_12 (by decide) (by decide) (Nat.le_of_ble_eq_true rfl) dX12_pushActive_2 rfl (fun _ h9 => ct_X12_pushFrame h9) (fun v1 => ?_)
  refine sj (j_aload_n hJ dX12_pushActive_5 rfl 0 rfl) ?_
  refine sj_gR hJ fl_X12_91 rfl dX12_pushActive_6 (fun v2 => ?_)
  refine sj (j_bipush hJ (v := 12) dX12_pushActive_9 ib_12) ?_
  refine sj (j_aload_n hJ dX12_pushActive_11 rfl 0 rfl) ?_
  refine sj_gI hJ fl_X12_156 (Or.inl rfl) dX12_pushActive_12 (fun v3 => ?_)
  refine sj (j_imul hJ dX12_pushActive_15) ?_
  refine sj (j_bipush hJ (v := 11) dX12_pushActive_16 ib_11) ?_
  refine sj (j_isub hJ dX12_pushActive_18) ?_
  refine sj (j_iload_n hJ dX12_pushActive_19 rfl 1 rfl) ?_
  refine sj_wI hJ dX12_pushActive_20 (fun d4 => ?_)
  exact sj_vret hI dX12_pushActive_21 (fun h => h)
theorem ct_X12_pushActive {σ : St} {p0 : Nat} {p1 : Int32} {δ : Dy} {r : Dy} (h : m_X12_pushActive σ p0 p1 δ = some r) : CT yX12_pushActive cX12_pushActive 2 none 1 22 0 0 [.ref p0, .int p1] σ δ (none, σ, r) := CT_of (by decide +kernel) (Nat.le_of_ble_eq_true rfl) (fun J hI => w_X12_pushActive hI σ p0 p1 δ r h rfl)
def m_X12_tellToken_b93 (σ : St) (p0 : Nat) (p5 : Int32) (p6 : Int32) (δ : Dy) : Option Dy := lp (fun (s : (Int32 × Dy)) =>
  if (4 : Int32) ≤ s.1 then
    (gR σ 12 p0 0).bind fun v14 =>
    (rI σ s.2 v14 (121 : Int32)).bind fun v15 =>
    (wI σ s.2 v14 (121 : Int32) (v15 + (1 : Int32))).bind fun d16 =>
    (chk σ 12 p0).bind fun _ => (m_X12_pushActive σ p0 p5 d16).bind fun v17 =>
    some (Sum.inr v17)
  else
    (gR σ 12 p0 0).bind fun v18 =>
    (gR σ 12 p0 39).bind fun v19 =>
    (rI σ s.2 v19 s.1).bind fun v20 =>
    (wI σ s.2 v18 (((622 : Int32) + ((4 : Int32) * p5)) + s.1) v20).bind fun d21 =>
    some (Sum.inl ((s.1 + (1 : Int32)), d21))) (p6, δ)
def m_X12_tellToken_b89 (σ : St) (p0 : Nat) (p5 : Int32) (q0 : Nat) (q1 : Int32) (q2 : Int32) (δ : Dy) : Option Dy :=
  (wI σ δ q0 q1 q2).bind fun d13 =>
  m_X12_tellToken_b93 σ p0 p5 (0 : Int32) d13
def m_X12_tellToken (σ : St) (p0 : Nat) (p1 : Int32) (p2 : Int32) (p3 : Int32) (p4 : Int32) (δ : Dy) : Option Dy :=
  (gR σ 12 p0 0).bind fun v1 =>
  (rI σ δ v1 (121 : Int32)).bind fun v2 =>
  if v2 = (100 : Int32) then
    (pZ σ δ 12 p0 35 (1 : Int32)).bind fun d3 =>
    some d3
  else
    (gR σ 12 p0 0).bind fun v4 =>
    (wI σ δ v4 ((122 : Int32) + v2) p1).bind fun d5 =>
    (gR σ 12 p0 0).bind fun v6 =>
    (wI σ d5 v6 ((222 : Int32) + v2) p2).bind fun d7 =>
    (gR σ 12 p0 0).bind fun v8 =>
    (wI σ d7 v8 ((322 : Int32) + v2) p3).bind fun d9 =>
    (gR σ 12 p0 0).bind fun v10 =>
    (wI σ d9 v10 ((422 : Int32) + v2) (1 : Int32)).bind fun d11 =>
    (gR σ 12 p0 0).bind fun v12 =>
    if p4 = 0 then
      m_X12_tellToken_b89 σ p0 v2 v12 ((522 : Int32) + v2) (0 : Int32) d11
    else
      m_X12_tellToken_b89 σ p0 v2 v12 ((522 : Int32) + v2) (1 : Int32) d11
set_option maxHeartbeats 4000000 in
set_option maxRecDepth 100000 in
theorem w_X12_tellToken_b93 {J : JT} {an : Option Value × St × Dy} (hI : Isj cX12_tellToken 7 RX12 "tellToken" 2 43 none an J) {β : Bu} (σ : St) (p0 : Nat) (p5 : Int32) (p6 : Int32) (δ : Dy) : SJ (m_X12_tellToken_b93 σ p0 p5 p6 δ) (PV σ an) (J 93 [(0, .ref p0), (5, .int p5), (6, .int p6)] [] β σ δ) := by
  have hJ := hI.cor
  unfold m_X12_tellToken_b93
  refine sj_lp (G := fun s : (Int32 × Dy) => J 93 [(0, .ref p0), (5, .int p5), (6, .int s.1)] [] β σ s.2) (fun s => ?_) (p6, δ)
  refine sj (j_iload hJ dX12_tellToken_93 2 rfl) ?_
  refine sj (j_iconst hJ (v := 4) dX12_tellToken_95 ic_4) ?_
  refine sj_if (j_icmp_ge hJ (tgt := 128) dX12_tellToken_96 (by decide)) (fun _ => ?_) (fun _ => ?_)
  · refine sj (j_aload_n hJ dX12_tellToken_128 rfl 0 rfl) ?_
    refine sj_gR hJ fl_X12_7 rfl dX12_tellToken_129 (fun v14 => ?_)
    refine sj (j_bipush hJ (v := 121) dX12_tellToken_132 ib_121) ?_
    refine sj (j_dup2 hJ dX12_tellToken_134 rfl rfl) ?_
    refine sj_rI hJ dX12_tellToken_135 (fun v15 => ?_)
    refine sj (j_iconst hJ (v := 1) dX12_tellToken_136 ic_1) ?_
    refine sj (j_iadd hJ dX12_tellToken_137) ?_
    refine sj_wI hJ dX12_tellToken_138 (fun d16 => ?_)
    refine sj (j_aload_n hJ dX12_tellToken_139 rfl 0 rfl) ?_
    refine sj (j_iload hJ dX12_tellToken_140 1 rfl) ?_
    refine sj_callVv hJ [.int p5] (st := []) (fr' := 1) (lo' := 22) ml_X12_163 hc_12 (by decide) (by decide) (Nat.le_of_ble_eq_true rfl) dX12_tellToken_142 rfl (fun _ h9 => ct_X12_pushActive h9) (fun v17 => ?_)
    exact sj_vret hI dX12_tellToken_145 (fun h => h)
  · refine sj (j_aload_n hJ dX12_tellToken_99 rfl 0 rfl) ?_
    refine sj_gR hJ fl_X12_7 rfl dX12_tellToken_100 (fun v18 => ?_)
    refine sj (j_sipush hJ (v := 622) dX12_tellToken_103 is_622) ?_
    refine sj (j_iconst hJ (v := 4) dX12_tellToken_106 ic_4) ?_
    refine sj (j_iload hJ dX12_tellToken_107 1 rfl) ?_
    refine sj (j_imul hJ dX12_tellToken_109) ?_
    refine sj (j_iadd hJ dX12_tellToken_110) ?_
    refine sj (j_iload hJ dX12_tellToken_111 2 rfl) ?_
    refine sj (j_iadd hJ dX12_tellToken_113) ?_
    refine sj (j_aload_n hJ dX12_tellToken_114 rfl 0 rfl) ?_
    refine sj_gR hJ fl_X12_97 rfl dX12_tellToken_115 (fun v19 => ?_)
    refine sj (j_iload hJ dX12_tellToken_118 2 rfl) ?_
    refine sj_rI hJ dX12_tellToken_120 (fun v20 => ?_)
    refine sj_wI hJ dX12_tellToken_121 (fun d21 => ?_)
    refine sj (j_iinc hJ (L' := [(6, .int (s.1 + (1 : Int32))), (0, .ref p0), (5, .int p5)]) dX12_tellToken_122 2 rfl (congrArg (fun z => s.1 + z) ic_1) (by decide) rfl) ?_
    refine sj (j_goto hJ (tgt := 93) dX12_tellToken_125 (by decide)) ?_
    refine sj (j_sub hJ (L' := [(0, .ref p0), (5, .int p5), (6, .int (s.1 + (1 : Int32)))]) [1, 2, 0] rfl) ?_
    exact sj_end (fun h => h)
set_option maxHeartbeats 4000000 in
set_option maxRecDepth 100000 in
theorem w_X12_tellToken_b89 {J : JT} {an : Option Value × St × Dy} (hI : Isj cX12_tellToken 7 RX12 "tellToken" 2 43 none an J) {β : Bu} (σ : St) (p0 : Nat) (p5 : Int32) (q0 : Nat) (q1 : Int32) (q2 : Int32) (δ : Dy) : SJ (m_X12_tellToken_b89 σ p0 p5 q0 q1 q2 δ) (PV σ an) (J 89 [(0, .ref p0), (5, .int p5)] [.int q2, .int q1, .ref q0] β σ δ) := by
  have hJ := hI.cor
  unfold m_X12_tellToken_b89
  refine sj_wI hJ dX12_tellToken_89 (fun d13 => ?_)
  refine sj (j_iconst hJ (v := 0) dX12_tellToken_90 ic_0) ?_
  refine sj (j_istore hJ (L' := [(6, .int (0 : Int32)), (0, .ref p0), (5, .int p5)]) dX12_tellToken_91 (by decide) rfl) ?_
  refine sj (j_sub hJ (L' := [(0, .ref p0), (5, .int p5), (6, .int (0 : Int32))]) [1, 2, 0] rfl) ?_
  exact w_X12_tellToken_b93 hI σ p0 p5 (0 : Int32) d13
set_option maxHeartbeats 4000000 in
set_option maxRecDepth 100000 in
theorem w_X12_tellToken {J : JT} {an : Option Value × St × Dy} (hI : Isj cX12_tellToken 7 RX12 "tellToken" 2 43 none an J) {β : Bu} (σ : St) (p0 : Nat) (p1 : Int32) (p2 : Int32) (p3 : Int32) (p4 : Int32) (δ : Dy) : SJ (m_X12_tellToken σ p0 p1 p2 p3 p4 δ) (PV σ an) (J 0 [(0, .ref p0), (1, .int p1), (2, .int p2), (3, .int p3), (4, .int p4)] [] β σ δ) := by
  have hJ := hI.cor
  unfold m_X12_tellToken
  refine sj (j_aload_n hJ dX12_tellToken_0 rfl 0 rfl) ?_
  refine sj_gR hJ fl_X12_7 rfl dX12_tellToken_1 (fun v1 => ?_)
  refine sj (j_bipush hJ (v := 121) dX12_tellToken_4 ib_121) ?_
  refine sj_rI hJ dX12_tellToken_6 (fun v2 => ?_)
  refine sj (j_istore hJ (L' := [(5, .int v2), (0, .ref p0), (1, .int p1), (2, .int p2), (3, .int p3), (4, .int p4)]) dX12_tellToken_7 (by decide) rfl) ?_
  refine sj (j_iload hJ dX12_tellToken_9 0 rfl) ?_
  refine sj (j_bipush hJ (v := 100) dX12_tellToken_11 ib_100) ?_
  refine sj_if (j_icmp_ne hJ (tgt := 22) dX12_tellToken_13 (by decide)) (fun _ => ?_) (fun _ => ?_)
  · refine sj (j_aload_n hJ dX12_tellToken_16 rfl 1 rfl) ?_
    refine sj (j_iconst hJ (v := 1) dX12_tellToken_17 ic_1) ?_
    refine sj_pZ hJ fl_X12_133 rfl dX12_tellToken_18 (fun d3 => ?_)
    exact sj_vret hI dX12_tellToken_21 (fun h => h)
  · refine sj (j_aload_n hJ dX12_tellToken_22 rfl 1 rfl) ?_
    refine sj_gR hJ fl_X12_7 rfl dX12_tellToken_23 (fun v4 => ?_)
    refine sj (j_bipush hJ (v := 122) dX12_tellToken_26 ib_122) ?_
    refine sj (j_iload hJ dX12_tellToken_28 0 rfl) ?_
    refine sj (j_iadd hJ dX12_tellToken_30) ?_
    refine sj (j_iload_n hJ dX12_tellToken_31 rfl 2 rfl) ?_
    refine sj_wI hJ dX12_tellToken_32 (fun d5 => ?_)
    refine sj (j_aload_n hJ dX12_tellToken_33 rfl 1 rfl) ?_
    refine sj_gR hJ fl_X12_7 rfl dX12_tellToken_34 (fun v6 => ?_)
    refine sj (j_sipush hJ (v := 222) dX12_tellToken_37 is_222) ?_
    refine sj (j_iload hJ dX12_tellToken_40 0 rfl) ?_
    refine sj (j_iadd hJ dX12_tellToken_42) ?_
    refine sj (j_iload_n hJ dX12_tellToken_43 rfl 3 rfl) ?_
    refine sj_wI hJ dX12_tellToken_44 (fun d7 => ?_)
    refine sj (j_aload_n hJ dX12_tellToken_45 rfl 1 rfl) ?_
    refine sj_gR hJ fl_X12_7 rfl dX12_tellToken_46 (fun v8 => ?_)
    refine sj (j_sipush hJ (v := 322) dX12_tellToken_49 is_322) ?_
    refine sj (j_iload hJ dX12_tellToken_52 0 rfl) ?_
    refine sj (j_iadd hJ dX12_tellToken_54) ?_
    refine sj (j_iload_n hJ dX12_tellToken_55 rfl 4 rfl) ?_
    refine sj_wI hJ dX12_tellToken_56 (fun d9 => ?_)
    refine sj (j_aload_n hJ dX12_tellToken_57 rfl 1 rfl) ?_
    refine sj_gR hJ fl_X12_7 rfl dX12_tellToken_58 (fun v10 => ?_)
    refine sj (j_sipush hJ (v := 422) dX12_tellToken_61 is_422) ?_
    refine sj (j_iload hJ dX12_tellToken_64 0 rfl) ?_
    refine sj (j_iadd hJ dX12_tellToken_66) ?_
    refine sj (j_iconst hJ (v := 1) dX12_tellToken_67 ic_1) ?_
    refine sj_wI hJ dX12_tellToken_68 (fun d11 => ?_)
    refine sj (j_aload_n hJ dX12_tellToken_69 rfl 1 rfl) ?_
    refine sj_gR hJ fl_X12_7 rfl dX12_tellToken_70 (fun v12 => ?_)
    refine sj (j_sipush hJ (v := 522) dX12_tellToken_73 is_522) ?_
    refine sj (j_iload hJ dX12_tellToken_76 0 rfl) ?_
    refine sj (j_iadd hJ dX12_tellToken_78) ?_
    refine sj (j_iload hJ dX12_tellToken_79 5 rfl) ?_
    refine sj_if (j_if_eq hJ (tgt := 88) dX12_tellToken_81 (by decide)) (fun _ => ?_) (fun _ => ?_)
    · refine sj (j_iconst hJ (v := 0) dX12_tellToken_88 ic_0) ?_
      refine sj (j_sub hJ (L' := [(0, .ref p0), (5, .int v2)]) [1, 0] rfl) ?_
      exact w_X12_tellToken_b89 hI σ p0 v2 v12 ((522 : Int32) + v2) (0 : Int32) d11
    · refine sj (j_iconst hJ (v := 1) dX12_tellToken_84 ic_1) ?_
      refine sj (j_goto hJ (tgt := 89) dX12_tellToken_85 (by decide)) ?_
      refine sj (j_sub hJ (L' := [(0, .ref p0), (5, .int v2)]) [1, 0] rfl) ?_
      exact w_X12_tellToken_b89 hI σ p0 v2 v12 ((522 : Int32) + v2) (1 : Int32) d11
theorem ct_X12_tellToken {σ : St} {p0 : Nat} {p1 : Int32} {p2 : Int32} {p3 : Int32} {p4 : Int32} {δ : Dy} {r : Dy} (h : m_X12_tellToken σ p0 p1 p2 p3 p4 δ = some r) : CT yX12_tellToken cX12_tellToken 7 none 2 43 0 0 [.ref p0, .int p1, .int p2, .int p3, .int p4] σ δ (none, σ, r) := CT_of (by decide +kernel) (Nat.le_of_ble_eq_true rfl) (fun J hI => w_X12_tellToken hI σ p0 p1 p2 p3 p4 δ r h rfl)
def m_X12_againFor_b150 (σ : St) (p0 : Nat) (p1 : Int32) (p2 : Int32) (p3 : Int32) (δ : Dy) : Option ((Int32 × Dy) ⊕ Dy) :=
  some (Sum.inl ((p3 + (1 : Int32)), δ))
def m_X12_againFor_b107 (σ : St) (p0 : Nat) (p1 : Int32) (p2 : Int32) (p3 : Int32) (q0 : Int32) (δ : Dy) : Option ((Int32 × Dy) ⊕ Dy) :=
  if q0 = 0 then
    m_X12_againFor_b150 σ p0 p1 p2 p3 δ
  else
    (gR σ 12 p0 0).bind fun v9 =>
    (rI σ δ v9 ((422 : Int32) + p3)).bind fun v10 =>
    if v10 = (1 : Int32) then
      (gR σ 12 p0 36).bind fun v11 =>
      (dvI p3 (32 : Int32)).bind fun v12 =>
      (rI σ δ v11 ((p2 + (2 : Int32)) + v12)).bind fun v13 =>
      (rmI p3 (32 : Int32)).bind fun v14 =>
      (wI σ δ v11 ((p2 + (2 : Int32)) + v12) (v13 ||| ((1 : Int32) <<< (v14 &&& 31)))).bind fun d15 =>
      m_X12_againFor_b150 σ p0 p1 p2 p3 d15
    else
      m_X12_againFor_b150 σ p0 p1 p2 p3 δ
def m_X12_againFor_b106 (σ : St) (p0 : Nat) (p1 : Int32) (p2 : Int32) (p3 : Int32) (δ : Dy) : Option ((Int32 × Dy) ⊕ Dy) :=
  m_X12_againFor_b107 σ p0 p1 p2 p3 (0 : Int32) δ
def m_X12_againFor_b102 (σ : St) (p0 : Nat) (p1 : Int32) (p2 : Int32) (p3 : Int32) (δ : Dy) : Option ((Int32 × Dy) ⊕ Dy) :=
  m_X12_againFor_b107 σ p0 p1 p2 p3 (1 : Int32) δ
def m_X12_againFor_b77 (σ : St) (p0 : Nat) (p1 : Int32) (p2 : Int32) (p3 : Int32) (p5 : Int32) (δ : Dy) : Option ((Int32 × Dy) ⊕ Dy) :=
  if p5 < (400 : Int32) then
    m_X12_againFor_b106 σ p0 p1 p2 p3 δ
  else
    (gR σ 12 p0 0).bind fun v16 =>
    (rI σ δ v16 (((1 : Int32) + p5) - (400 : Int32))).bind fun v17 =>
    if v17 = p1 then
      m_X12_againFor_b102 σ p0 p1 p2 p3 δ
    else
      m_X12_againFor_b106 σ p0 p1 p2 p3 δ
def m_X12_againFor_b17 (σ : St) (p0 : Nat) (p1 : Int32) (p2 : Int32) (p3 : Int32) (δ : Dy) : Option Dy := lp (fun (s : (Int32 × Dy)) =>
  (gR σ 12 p0 0).bind fun v3 =>
  (rI σ s.2 v3 (121 : Int32)).bind fun v4 =>
  if v4 ≤ s.1 then
    some (Sum.inr s.2)
  else
    (gR σ 12 p0 0).bind fun v5 =>
    (rI σ s.2 v5 ((222 : Int32) + s.1)).bind fun v6 =>
    (gR σ 12 p0 0).bind fun v7 =>
    (rI σ s.2 v7 ((322 : Int32) + s.1)).bind fun v8 =>
    if v6 < (400 : Int32) then
      m_X12_againFor_b77 σ p0 p1 p2 s.1 v8 s.2
    else
      (gR σ 12 p0 0).bind fun v18 =>
      (rI σ s.2 v18 (((1 : Int32) + v6) - (400 : Int32))).bind fun v19 =>
      if v19 = p1 then
        m_X12_againFor_b102 σ p0 p1 p2 s.1 s.2
      else
        m_X12_againFor_b77 σ p0 p1 p2 s.1 v8 s.2) (p3, δ)
def m_X12_againFor (σ : St) (p0 : Nat) (p1 : Int32) (δ : Dy) : Option Dy :=
  (chk σ 12 p0).bind fun _ => (m_X12_pushFrame σ p0 (2 : Int32) δ).bind fun v1 =>
  (gI σ v1 12 p0 37).bind fun v2 =>
  m_X12_againFor_b17 σ p0 p1 ((12 : Int32) * (v2 - (1 : Int32))) (0 : Int32) v1
set_option maxHeartbeats 4000000 in
set_option maxRecDepth 100000 in
theorem w_X12_againFor_b150 {J : JT} {an : Option Value × St × Dy} (hI : Isj cX12_againFor 7 RX12 "againFor" 1 22 none an J) {β : Bu} (σ : St) (p0 : Nat) (p1 : Int32) (p2 : Int32) (p3 : Int32) (δ : Dy) : SJ (m_X12_againFor_b150 σ p0 p1 p2 p3 δ) (PL (fun s : (Int32 × Dy) => J 17 [(0, .ref p0), (1, .int p1), (2, .int p2), (3, .int s.1)] [] β σ s.2) (PV σ an)) (J 150 [(0, .ref p0), (1, .int p1), (2, .int p2), (3, .int p3)] [] β σ δ) := by
  have hJ := hI.cor
  unfold m_X12_againFor_b150
  refine sj (j_iinc hJ (L' := [(3, .int (p3 + (1 : Int32))), (0, .ref p0), (1, .int p1), (2, .int p2)]) dX12_againFor_150 3 rfl (congrArg (fun z => p3 + z) ic_1) (by decide) rfl) ?_
  refine sj (j_goto hJ (tgt := 17) dX12_againFor_153 (by decide)) ?_
  refine sj (j_sub hJ (L' := [(0, .ref p0), (1, .int p1), (2, .int p2), (3, .int (p3 + (1 : Int32)))]) [1, 2, 3, 0] rfl) ?_
  exact sj_end (fun h => h)
set_option maxHeartbeats 4000000 in
set_option maxRecDepth 100000 in
theorem w_X12_againFor_b107 {J : JT} {an : Option Value × St × Dy} (hI : Isj cX12_againFor 7 RX12 "againFor" 1 22 none an J) {β : Bu} (σ : St) (p0 : Nat) (p1 : Int32) (p2 : Int32) (p3 : Int32) (q0 : Int32) (δ : Dy) : SJ (m_X12_againFor_b107 σ p0 p1 p2 p3 q0 δ) (PL (fun s : (Int32 × Dy) => J 17 [(0, .ref p0), (1, .int p1), (2, .int p2), (3, .int s.1)] [] β σ s.2) (PV σ an)) (J 107 [(0, .ref p0), (1, .int p1), (2, .int p2), (3, .int p3)] [.int q0] β σ δ) := by
  have hJ := hI.cor
  unfold m_X12_againFor_b107
  refine sj (j_istore hJ (L' := [(6, .int q0), (0, .ref p0), (1, .int p1), (2, .int p2), (3, .int p3)]) dX12_againFor_107 (by decide) rfl) ?_
  refine sj (j_iload hJ dX12_againFor_109 0 rfl) ?_
  refine sj_if (j_if_eq hJ (tgt := 150) dX12_againFor_111 (by decide)) (fun _ => ?_) (fun _ => ?_)
  · refine sj (j_sub hJ (L' := [(0, .ref p0), (1, .int p1), (2, .int p2), (3, .int p3)]) [1, 2, 3, 4] rfl) ?_
    exact w_X12_againFor_b150 hI σ p0 p1 p2 p3 δ
  · refine sj (j_aload_n hJ dX12_againFor_114 rfl 1 rfl) ?_
    refine sj_gR hJ fl_X12_7 rfl dX12_againFor_115 (fun v9 => ?_)
    refine sj (j_sipush hJ (v := 422) dX12_againFor_118 is_422) ?_
    refine sj (j_iload_n hJ dX12_againFor_121 rfl 4 rfl) ?_
    refine sj (j_iadd hJ dX12_againFor_122) ?_
    refine sj_rI hJ dX12_againFor_123 (fun v10 => ?_)
    refine sj (j_iconst hJ (v := 1) dX12_againFor_124 ic_1) ?_
    refine sj_if (j_icmp_ne hJ (tgt := 150) dX12_againFor_125 (by decide)) (fun _ => ?_) (fun _ => ?_)
    · refine sj (j_aload_n hJ dX12_againFor_128 rfl 1 rfl) ?_
      refine sj_gR hJ fl_X12_91 rfl dX12_againFor_129 (fun v11 => ?_)
      refine sj (j_iload_n hJ dX12_againFor_132 rfl 3 rfl) ?_
      refine sj (j_iconst hJ (v := 2) dX12_againFor_133 ic_2) ?_
      refine sj (j_iadd hJ dX12_againFor_134) ?_
      refine sj (j_iload_n hJ dX12_againFor_135 rfl 4 rfl) ?_
      refine sj (j_bipush hJ (v := 32) dX12_againFor_136 ib_32) ?_
      refine sj_dvI hJ dX12_againFor_138 (fun v12 => ?_)
      refine sj (j_iadd hJ dX12_againFor_139) ?_
      refine sj (j_dup2 hJ dX12_againFor_140 rfl rfl) ?_
      refine sj_rI hJ dX12_againFor_141 (fun v13 => ?_)
      refine sj (j_iconst hJ (v := 1) dX12_againFor_142 ic_1) ?_
      refine sj (j_iload_n hJ dX12_againFor_143 rfl 4 rfl) ?_
      refine sj (j_bipush hJ (v := 32) dX12_againFor_144 ib_32) ?_
      refine sj_rmI hJ dX12_againFor_146 (fun v14 => ?_)
      refine sj (j_ishl hJ dX12_againFor_147) ?_
      refine sj (j_ior hJ dX12_againFor_148) ?_
      refine sj_wI hJ dX12_againFor_149 (fun d15 => ?_)
      refine sj (j_sub hJ (L' := [(0, .ref p0), (1, .int p1), (2, .int p2), (3, .int p3)]) [1, 2, 3, 4] rfl) ?_
      exact w_X12_againFor_b150 hI σ p0 p1 p2 p3 d15
    · refine sj (j_sub hJ (L' := [(0, .ref p0), (1, .int p1), (2, .int p2), (3, .int p3)]) [1, 2, 3, 4] rfl) ?_
      exact w_X12_againFor_b150 hI σ p0 p1 p2 p3 δ
set_option maxHeartbeats 4000000 in
set_option maxRecDepth 100000 in
theorem w_X12_againFor_b106 {J : JT} {an : Option Value × St × Dy} (hI : Isj cX12_againFor 7 RX12 "againFor" 1 22 none an J) {β : Bu} (σ : St) (p0 : Nat) (p1 : Int32) (p2 : Int32) (p3 : Int32) (δ : Dy) : SJ (m_X12_againFor_b106 σ p0 p1 p2 p3 δ) (PL (fun s : (Int32 × Dy) => J 17 [(0, .ref p0), (1, .int p1), (2, .int p2), (3, .int s.1)] [] β σ s.2) (PV σ an)) (J 106 [(0, .ref p0), (1, .int p1), (2, .int p2), (3, .int p3)] [] β σ δ) := by
  have hJ := hI.cor
  unfold m_X12_againFor_b106
  refine sj (j_iconst hJ (v := 0) dX12_againFor_106 ic_0) ?_
  exact w_X12_againFor_b107 hI σ p0 p1 p2 p3 (0 : Int32) δ
set_option maxHeartbeats 4000000 in
set_option maxRecDepth 100000 in
theorem w_X12_againFor_b102 {J : JT} {an : Option Value × St × Dy} (hI : Isj cX12_againFor 7 RX12 "againFor" 1 22 none an J) {β : Bu} (σ : St) (p0 : Nat) (p1 : Int32) (p2 : Int32) (p3 : Int32) (δ : Dy) : SJ (m_X12_againFor_b102 σ p0 p1 p2 p3 δ) (PL (fun s : (Int32 × Dy) => J 17 [(0, .ref p0), (1, .int p1), (2, .int p2), (3, .int s.1)] [] β σ s.2) (PV σ an)) (J 102 [(0, .ref p0), (1, .int p1), (2, .int p2), (3, .int p3)] [] β σ δ) := by
  have hJ := hI.cor
  unfold m_X12_againFor_b102
  refine sj (j_iconst hJ (v := 1) dX12_againFor_102 ic_1) ?_
  refine sj (j_goto hJ (tgt := 107) dX12_againFor_103 (by decide)) ?_
  exact w_X12_againFor_b107 hI σ p0 p1 p2 p3 (1 : Int32) δ
set_option maxHeartbeats 4000000 in
set_option maxRecDepth 100000 in
theorem w_X12_againFor_b77 {J : JT} {an : Option Value × St × Dy} (hI : Isj cX12_againFor 7 RX12 "againFor" 1 22 none an J) {β : Bu} (σ : St) (p0 : Nat) (p1 : Int32) (p2 : Int32) (p3 : Int32) (p5 : Int32) (δ : Dy) : SJ (m_X12_againFor_b77 σ p0 p1 p2 p3 p5 δ) (PL (fun s : (Int32 × Dy) => J 17 [(0, .ref p0), (1, .int p1), (2, .int p2), (3, .int s.1)] [] β σ s.2) (PV σ an)) (J 77 [(0, .ref p0), (1, .int p1), (2, .int p2), (3, .int p3), (5, .int p5)] [] β σ δ) := by
  have hJ := hI.cor
  unfold m_X12_againFor_b77
  refine sj (j_iload hJ dX12_againFor_77 4 rfl) ?_
  refine sj (j_sipush hJ (v := 400) dX12_againFor_79 is_400) ?_
  refine sj_if (j_icmp_lt hJ (tgt := 106) dX12_againFor_82 (by decide)) (fun _ => ?_) (fun _ => ?_)
  · refine sj (j_sub hJ (L' := [(0, .ref p0), (1, .int p1), (2, .int p2), (3, .int p3)]) [0, 1, 2, 3] rfl) ?_
    exact w_X12_againFor_b106 hI σ p0 p1 p2 p3 δ
  · refine sj (j_aload_n hJ dX12_againFor_85 rfl 0 rfl) ?_
    refine sj_gR hJ fl_X12_7 rfl dX12_againFor_86 (fun v16 => ?_)
    refine sj (j_iconst hJ (v := 1) dX12_againFor_89 ic_1) ?_
    refine sj (j_iload hJ dX12_againFor_90 4 rfl) ?_
    refine sj (j_iadd hJ dX12_againFor_92) ?_
    refine sj (j_sipush hJ (v := 400) dX12_againFor_93 is_400) ?_
    refine sj (j_isub hJ dX12_againFor_96) ?_
    refine sj_rI hJ dX12_againFor_97 (fun v17 => ?_)
    refine sj (j_iload_n hJ dX12_againFor_98 rfl 1 rfl) ?_
    refine sj_if (j_icmp_ne hJ (tgt := 106) dX12_againFor_99 (by decide)) (fun _ => ?_) (fun _ => ?_)
    · refine sj (j_sub hJ (L' := [(0, .ref p0), (1, .int p1), (2, .int p2), (3, .int p3)]) [0, 1, 2, 3] rfl) ?_
      exact w_X12_againFor_b102 hI σ p0 p1 p2 p3 δ
    · refine sj (j_sub hJ (L' := [(0, .ref p0), (1, .int p1), (2, .int p2), (3, .int p3)]) [0, 1, 2, 3] rfl) ?_
      exact w_X12_againFor_b106 hI σ p0 p1 p2 p3 δ
set_option maxHeartbeats 4000000 in
set_option maxRecDepth 100000 in
theorem w_X12_againFor_b17 {J : JT} {an : Option Value × St × Dy} (hI : Isj cX12_againFor 7 RX12 "againFor" 1 22 none an J) {β : Bu} (σ : St) (p0 : Nat) (p1 : Int32) (p2 : Int32) (p3 : Int32) (δ : Dy) : SJ (m_X12_againFor_b17 σ p0 p1 p2 p3 δ) (PV σ an) (J 17 [(0, .ref p0), (1, .int p1), (2, .int p2), (3, .int p3)] [] β σ δ) := by
  have hJ := hI.cor
  unfold m_X12_againFor_b17
  refine sj_lp (G := fun s : (Int32 × Dy) => J 17 [(0, .ref p0), (1, .int p1), (2, .int p2), (3, .int s.1)] [] β σ s.2) (fun s => ?_) (p3, δ)
  refine sj (j_iload_n hJ dX12_againFor_17 rfl 3 rfl) ?_
  refine sj (j_aload_n hJ dX12_againFor_18 rfl 0 rfl) ?_
  refine sj_gR hJ fl_X12_7 rfl dX12_againFor_19 (fun v3 => ?_)
  refine sj (j_bipush hJ (v := 121) dX12_againFor_22 ib_121) ?_
  refine sj_rI hJ dX12_againFor_24 (fun v4 => ?_)
  refine sj_if (j_icmp_ge hJ (tgt := 156) dX12_againFor_25 (by decide)) (fun _ => ?_) (fun _ => ?_)
  · exact sj_vret hI dX12_againFor_156 (fun h => h)
  · refine sj (j_aload_n hJ dX12_againFor_28 rfl 0 rfl) ?_
    refine sj_gR hJ fl_X12_7 rfl dX12_againFor_29 (fun v5 => ?_)
    refine sj (j_sipush hJ (v := 222) dX12_againFor_32 is_222) ?_
    refine sj (j_iload_n hJ dX12_againFor_35 rfl 3 rfl) ?_
    refine sj (j_iadd hJ dX12_againFor_36) ?_
    refine sj_rI hJ dX12_againFor_37 (fun v6 => ?_)
    refine sj (j_istore hJ (L' := [(4, .int v6), (0, .ref p0), (1, .int p1), (2, .int p2), (3, .int s.1)]) dX12_againFor_38 (by decide) rfl) ?_
    refine sj (j_aload_n hJ dX12_againFor_40 rfl 1 rfl) ?_
    refine sj_gR hJ fl_X12_7 rfl dX12_againFor_41 (fun v7 => ?_)
    refine sj (j_sipush hJ (v := 322) dX12_againFor_44 is_322) ?_
    refine sj (j_iload_n hJ dX12_againFor_47 rfl 4 rfl) ?_
    refine sj (j_iadd hJ dX12_againFor_48) ?_
    refine sj_rI hJ dX12_againFor_49 (fun v8 => ?_)
    refine sj (j_istore hJ (L' := [(5, .int v8), (4, .int v6), (0, .ref p0), (1, .int p1), (2, .int p2), (3, .int s.1)]) dX12_againFor_50 (by decide) rfl) ?_
    refine sj (j_iload hJ dX12_againFor_52 1 rfl) ?_
    refine sj (j_sipush hJ (v := 400) dX12_againFor_54 is_400) ?_
    refine sj_if (j_icmp_lt hJ (tgt := 77) dX12_againFor_57 (by decide)) (fun _ => ?_) (fun _ => ?_)
    · refine sj (j_sub hJ (L' := [(0, .ref p0), (1, .int p1), (2, .int p2), (3, .int s.1), (5, .int v8)]) [2, 3, 4, 5, 0] rfl) ?_
      exact w_X12_againFor_b77 hI σ p0 p1 p2 s.1 v8 s.2
    · refine sj (j_aload_n hJ dX12_againFor_60 rfl 2 rfl) ?_
      refine sj_gR hJ fl_X12_7 rfl dX12_againFor_61 (fun v18 => ?_)
      refine sj (j_iconst hJ (v := 1) dX12_againFor_64 ic_1) ?_
      refine sj (j_iload hJ dX12_againFor_65 1 rfl) ?_
      refine sj (j_iadd hJ dX12_againFor_67) ?_
      refine sj (j_sipush hJ (v := 400) dX12_againFor_68 is_400) ?_
      refine sj (j_isub hJ dX12_againFor_71) ?_
      refine sj_rI hJ dX12_againFor_72 (fun v19 => ?_)
      refine sj (j_iload_n hJ dX12_againFor_73 rfl 3 rfl) ?_
      refine sj_if (j_icmp_eq hJ (tgt := 102) dX12_againFor_74 (by decide)) (fun _ => ?_) (fun _ => ?_)
      · refine sj (j_sub hJ (L' := [(0, .ref p0), (1, .int p1), (2, .int p2), (3, .int s.1)]) [2, 3, 4, 5] rfl) ?_
        exact w_X12_againFor_b102 hI σ p0 p1 p2 s.1 s.2
      · refine sj (j_sub hJ (L' := [(0, .ref p0), (1, .int p1), (2, .int p2), (3, .int s.1), (5, .int v8)]) [2, 3, 4, 5, 0] rfl) ?_
        exact w_X12_againFor_b77 hI σ p0 p1 p2 s.1 v8 s.2
set_option maxHeartbeats 4000000 in
set_option maxRecDepth 100000 in
theorem w_X12_againFor {J : JT} {an : Option Value × St × Dy} (hI : Isj cX12_againFor 7 RX12 "againFor" 1 22 none an J) {β : Bu} (σ : St) (p0 : Nat) (p1 : Int32) (δ : Dy) : SJ (m_X12_againFor σ p0 p1 δ) (PV σ an) (J 0 [(0, .ref p0), (1, .int p1)] [] β σ δ) := by
  have hJ := hI.cor
  unfold m_X12_againFor
  refine sj (j_aload_n hJ dX12_againFor_0 rfl 0 rfl) ?_
  refine sj (j_iconst hJ (v := 2) dX12_againFor_1 ic_2) ?_
  refine sj_callVv hJ [.int (2 : Int32)] (st := []) (fr' := 0) (lo' := 0) ml_X12_159 hc_12 (by decide) (by decide) (Nat.le_of_ble_eq_true rfl) dX12_againFor_2 rfl (fun _ h9 => ct_X12_pushFrame h9) (fun v1 => ?_)
  refine sj (j_bipush hJ (v := 12) dX12_againFor_5 ib_12) ?_
  refine sj (j_aload_n hJ dX12_againFor_7 rfl 0 rfl) ?_
  refine sj_gI hJ fl_X12_156 (Or.inl rfl) dX12_againFor_8 (fun v2 => ?_)
  refine sj (j_iconst hJ (v := 1) dX12_againFor_11 ic_1) ?_
  refine sj (j_isub hJ dX12_againFor_12) ?_
  refine sj (j_imul hJ dX12_againFor_13) ?_
  refine sj (j_istore_n hJ (L' := [(2, .int ((12 : Int32) * (v2 - (1 : Int32)))), (0, .ref p0), (1, .int p1)]) dX12_againFor_14 rfl (by decide) rfl) ?_
  refine sj (j_iconst hJ (v := 0) dX12_againFor_15 ic_0) ?_
  refine sj (j_istore_n hJ (L' := [(3, .int (0 : Int32)), (2, .int ((12 : Int32) * (v2 - (1 : Int32)))), (0, .ref p0), (1, .int p1)]) dX12_againFor_16 rfl (by decide) rfl) ?_
  refine sj (j_sub hJ (L' := [(0, .ref p0), (1, .int p1), (2, .int ((12 : Int32) * (v2 - (1 : Int32)))), (3, .int (0 : Int32))]) [2, 3, 1, 0] rfl) ?_
  exact w_X12_againFor_b17 hI σ p0 p1 ((12 : Int32) * (v2 - (1 : Int32))) (0 : Int32) v1
theorem ct_X12_againFor {σ : St} {p0 : Nat} {p1 : Int32} {δ : Dy} {r : Dy} (h : m_X12_againFor σ p0 p1 δ = some r) : CT yX12_againFor cX12_againFor 7 none 1 22 0 0 [.ref p0, .int p1] σ δ (none, σ, r) := CT_of (by decide +kernel) (Nat.le_of_ble_eq_true rfl) (fun J hI => w_X12_againFor hI σ p0 p1 δ r h rfl)
def m_X12_tellEqual_b143 (σ : St) (q0 : Nat) (q1 : Int32) (q2 : Int32) (δ : Dy) : Option Dy :=
  (pZ σ δ 12 q0 35 (q1 ||| q2)).bind fun d11 =>
  some d11
def m_X12_tellEqual_b84 (σ : St) (p0 : Nat) (p3 : Int32) (q0 : Int32) (δ : Dy) : Option Dy :=
  (gR σ 12 p0 0).bind fun v3 =>
  (rI σ δ v3 ((61 : Int32) + p3)).bind fun v4 =>
  if v4 = (100 : Int32) then
    (gR σ 12 p0 0).bind fun v5 =>
    (wI σ δ v5 ((61 : Int32) + p3) q0).bind fun d6 =>
    (chk σ 12 p0).bind fun _ => (m_X12_againFor σ p0 p3 d6).bind fun v7 =>
    some v7
  else
    (gI σ δ 12 p0 35).bind fun v8 =>
    (gR σ 12 p0 0).bind fun v9 =>
    (rI σ δ v9 ((61 : Int32) + p3)).bind fun v10 =>
    if v10 = q0 then
      m_X12_tellEqual_b143 σ p0 v8 (0 : Int32) δ
    else
      m_X12_tellEqual_b143 σ p0 v8 (1 : Int32) δ
def m_X12_tellEqual_b65 (σ : St) (p0 : Nat) (p1 : Int32) (p2 : Int32) (q0 : Nat) (q1 : Int32) (q2 : Int32) (δ : Dy) : Option Dy :=
  (rI σ δ q0 ((q1 + q2) - (400 : Int32))).bind fun v2 =>
  if (400 : Int32) ≤ p1 then
    m_X12_tellEqual_b84 σ p0 v2 p2 δ
  else
    m_X12_tellEqual_b84 σ p0 v2 p1 δ
def m_X12_tellEqual_b48 (σ : St) (p0 : Nat) (p1 : Int32) (p2 : Int32) (δ : Dy) : Option Dy :=
  (gR σ 12 p0 0).bind fun v1 =>
  if (400 : Int32) ≤ p1 then
    m_X12_tellEqual_b65 σ p0 p1 p2 v1 (1 : Int32) p1 δ
  else
    m_X12_tellEqual_b65 σ p0 p1 p2 v1 (1 : Int32) p2 δ
def m_X12_tellEqual_b334 (σ : St) (p0 : Nat) (p7 : Int32) (p8 : Int32) (p9 : Int32) (q0 : Nat) (q1 : Int32) (q2 : Int32) (δ : Dy) : Option ((Int32 × Dy) ⊕ Dy) :=
  (wI σ δ q0 q1 q2).bind fun d28 =>
  some (Sum.inl ((p9 + (1 : Int32)), d28))
def m_X12_tellEqual_b287 (σ : St) (p0 : Nat) (p7 : Int32) (p8 : Int32) (p9 : Int32) (δ : Dy) : Option Dy := lp (fun (s : (Int32 × Dy)) =>
  (gR σ 12 p0 0).bind fun v22 =>
  (rI σ s.2 v22 (0 : Int32)).bind fun v23 =>
  if v23 ≤ s.1 then
    (chk σ 12 p0).bind fun _ => (m_X12_againFor σ p0 p7 s.2).bind fun v24 =>
    some (Sum.inr v24)
  else
    (gR σ 12 p0 0).bind fun v25 =>
    (gR σ 12 p0 0).bind fun v26 =>
    (rI σ s.2 v26 ((1 : Int32) + s.1)).bind fun v27 =>
    if v27 = p8 then
      m_X12_tellEqual_b334 σ p0 p7 p8 s.1 v25 ((1 : Int32) + s.1) p7 s.2
    else
      (gR σ 12 p0 0).bind fun v29 =>
      (rI σ s.2 v29 ((1 : Int32) + s.1)).bind fun v30 =>
      m_X12_tellEqual_b334 σ p0 p7 p8 s.1 v25 ((1 : Int32) + s.1) v30 s.2) (p9, δ)
def m_X12_tellEqual_b283 (σ : St) (p0 : Nat) (p7 : Int32) (p8 : Int32) (q0 : Nat) (q1 : Int32) (q2 : Int32) (δ : Dy) : Option Dy :=
  (wI σ δ q0 q1 q2).bind fun d21 =>
  m_X12_tellEqual_b287 σ p0 p7 p8 (0 : Int32) d21
def m_X12_tellEqual_b258 (σ : St) (p0 : Nat) (p5 : Int32) (p6 : Int32) (p7 : Int32) (q0 : Int32) (δ : Dy) : Option Dy :=
  (gR σ 12 p0 0).bind fun v20 =>
  if p5 = (100 : Int32) then
    m_X12_tellEqual_b283 σ p0 p7 q0 v20 ((61 : Int32) + p7) p6 δ
  else
    m_X12_tellEqual_b283 σ p0 p7 q0 v20 ((61 : Int32) + p7) p5 δ
def m_X12_tellEqual_b244 (σ : St) (p0 : Nat) (p3 : Int32) (p4 : Int32) (p5 : Int32) (p6 : Int32) (q0 : Int32) (δ : Dy) : Option Dy :=
  if p4 ≤ p3 then
    m_X12_tellEqual_b258 σ p0 p5 p6 q0 p3 δ
  else
    m_X12_tellEqual_b258 σ p0 p5 p6 q0 p4 δ
def m_X12_tellEqual_b232 (σ : St) (p0 : Nat) (p3 : Int32) (p4 : Int32) (p5 : Int32) (p6 : Int32) (δ : Dy) : Option Dy :=
  if p4 ≤ p3 then
    m_X12_tellEqual_b244 σ p0 p3 p4 p5 p6 p4 δ
  else
    m_X12_tellEqual_b244 σ p0 p3 p4 p5 p6 p3 δ
def m_X12_tellEqual_b34 (σ : St) (p0 : Nat) (p1 : Int32) (p2 : Int32) (δ : Dy) : Option Dy :=
  if p1 < (400 : Int32) then
    m_X12_tellEqual_b48 σ p0 p1 p2 δ
  else
    if (400 : Int32) ≤ p2 then
      (gR σ 12 p0 0).bind fun v12 =>
      (rI σ δ v12 (((1 : Int32) + p1) - (400 : Int32))).bind fun v13 =>
      (gR σ 12 p0 0).bind fun v14 =>
      (rI σ δ v14 (((1 : Int32) + p2) - (400 : Int32))).bind fun v15 =>
      if v13 = v15 then
        some δ
      else
        (gR σ 12 p0 0).bind fun v16 =>
        (rI σ δ v16 ((61 : Int32) + v13)).bind fun v17 =>
        (gR σ 12 p0 0).bind fun v18 =>
        (rI σ δ v18 ((61 : Int32) + v15)).bind fun v19 =>
        if v17 = (100 : Int32) then
          m_X12_tellEqual_b232 σ p0 v13 v15 v17 v19 δ
        else
          if v19 = (100 : Int32) then
            m_X12_tellEqual_b232 σ p0 v13 v15 v17 v19 δ
          else
            if v17 = v19 then
              m_X12_tellEqual_b232 σ p0 v13 v15 v17 v19 δ
            else
              (pZ σ δ 12 p0 35 (1 : Int32)).bind fun d31 =>
              some d31
    else
      m_X12_tellEqual_b48 σ p0 p1 p2 δ
def m_X12_tellEqual_b29 (σ : St) (q0 : Nat) (q1 : Int32) (q2 : Int32) (δ : Dy) : Option Dy :=
  (pZ σ δ 12 q0 35 (q1 ||| q2)).bind fun d33 =>
  some d33
def m_X12_tellEqual (σ : St) (p0 : Nat) (p1 : Int32) (p2 : Int32) (δ : Dy) : Option Dy :=
  if (400 : Int32) ≤ p1 then
    m_X12_tellEqual_b34 σ p0 p1 p2 δ
  else
    if (400 : Int32) ≤ p2 then
      m_X12_tellEqual_b34 σ p0 p1 p2 δ
    else
      (gI σ δ 12 p0 35).bind fun v32 =>
      if p1 = p2 then
        m_X12_tellEqual_b29 σ p0 v32 (0 : Int32) δ
      else
        m_X12_tellEqual_b29 σ p0 v32 (1 : Int32) δ
set_option maxHeartbeats 4000000 in
set_option maxRecDepth 100000 in
theorem w_X12_tellEqual_b143 {J : JT} {an : Option Value × St × Dy} (hI : Isj cX12_tellEqual 10 RX12 "tellEqual" 2 48 none an J) {β : Bu} (σ : St) (q0 : Nat) (q1 : Int32) (q2 : Int32) (δ : Dy) : SJ (m_X12_tellEqual_b143 σ q0 q1 q2 δ) (PV σ an) (J 143 [] [.int q2, .int q1, .ref q0] β σ δ) := by
  have hJ := hI.cor
  unfold m_X12_tellEqual_b143
  refine sj (j_ior hJ dX12_tellEqual_143) ?_
  refine sj_pZ hJ fl_X12_133 rfl dX12_tellEqual_144 (fun d11 => ?_)
  exact sj_vret hI dX12_tellEqual_147 (fun h => h)
set_option maxHeartbeats 4000000 in
set_option maxRecDepth 100000 in
theorem w_X12_tellEqual_b84 {J : JT} {an : Option Value × St × Dy} (hI : Isj cX12_tellEqual 10 RX12 "tellEqual" 2 48 none an J) {β : Bu} (σ : St) (p0 : Nat) (p3 : Int32) (q0 : Int32) (δ : Dy) : SJ (m_X12_tellEqual_b84 σ p0 p3 q0 δ) (PV σ an) (J 84 [(0, .ref p0), (3, .int p3)] [.int q0] β σ δ) := by
  have hJ := hI.cor
  unfold m_X12_tellEqual_b84
  refine sj (j_istore hJ (L' := [(4, .int q0), (0, .ref p0), (3, .int p3)]) dX12_tellEqual_84 (by decide) rfl) ?_
  refine sj (j_aload_n hJ dX12_tellEqual_86 rfl 1 rfl) ?_
  refine sj_gR hJ fl_X12_7 rfl dX12_tellEqual_87 (fun v3 => ?_)
  refine sj (j_bipush hJ (v := 61) dX12_tellEqual_90 ib_61) ?_
  refine sj (j_iload_n hJ dX12_tellEqual_92 rfl 2 rfl) ?_
  refine sj (j_iadd hJ dX12_tellEqual_93) ?_
  refine sj_rI hJ dX12_tellEqual_94 (fun v4 => ?_)
  refine sj (j_bipush hJ (v := 100) dX12_tellEqual_95 ib_100) ?_
  refine sj_if (j_icmp_ne hJ (tgt := 119) dX12_tellEqual_97 (by decide)) (fun _ => ?_) (fun _ => ?_)
  · refine sj (j_aload_n hJ dX12_tellEqual_100 rfl 1 rfl) ?_
    refine sj_gR hJ fl_X12_7 rfl dX12_tellEqual_101 (fun v5 => ?_)
    refine sj (j_bipush hJ (v := 61) dX12_tellEqual_104 ib_61) ?_
    refine sj (j_iload_n hJ dX12_tellEqual_106 rfl 2 rfl) ?_
    refine sj (j_iadd hJ dX12_tellEqual_107) ?_
    refine sj (j_iload hJ dX12_tellEqual_108 0 rfl) ?_
    refine sj_wI hJ dX12_tellEqual_110 (fun d6 => ?_)
    refine sj (j_aload_n hJ dX12_tellEqual_111 rfl 1 rfl) ?_
    refine sj (j_iload_n hJ dX12_tellEqual_112 rfl 2 rfl) ?_
    refine sj_callVv hJ [.int p3] (st := []) (fr' := 1) (lo' := 22) ml_X12_166 hc_12 (by decide) (by decide) (Nat.le_of_ble_eq_true rfl) dX12_tellEqual_113 rfl (fun _ h9 => ct_X12_againFor h9) (fun v7 => ?_)
    refine sj (j_goto hJ (tgt := 147) dX12_tellEqual_116 (by decide)) ?_
    exact sj_vret hI dX12_tellEqual_147 (fun h => h)
  · refine sj (j_aload_n hJ dX12_tellEqual_119 rfl 1 rfl) ?_
    refine sj (j_dup hJ dX12_tellEqual_120 rfl) ?_
    refine sj_gI hJ fl_X12_133 (Or.inr rfl) dX12_tellEqual_121 (fun v8 => ?_)
    refine sj (j_aload_n hJ dX12_tellEqual_124 rfl 1 rfl) ?_
    refine sj_gR hJ fl_X12_7 rfl dX12_tellEqual_125 (fun v9 => ?_)
    refine sj (j_bipush hJ (v := 61) dX12_tellEqual_128 ib_61) ?_
    refine sj (j_iload_n hJ dX12_tellEqual_130 rfl 2 rfl) ?_
    refine sj (j_iadd hJ dX12_tellEqual_131) ?_
    refine sj_rI hJ dX12_tellEqual_132 (fun v10 => ?_)
    refine sj (j_iload hJ dX12_tellEqual_133 0 rfl) ?_
    refine sj_if (j_icmp_eq hJ (tgt := 142) dX12_tellEqual_135 (by decide)) (fun _ => ?_) (fun _ => ?_)
    · refine sj (j_iconst hJ (v := 0) dX12_tellEqual_142 ic_0) ?_
      refine sj (j_sub hJ (L' := []) [] rfl) ?_
      exact w_X12_tellEqual_b143 hI σ p0 v8 (0 : Int32) δ
    · refine sj (j_iconst hJ (v := 1) dX12_tellEqual_138 ic_1) ?_
      refine sj (j_goto hJ (tgt := 143) dX12_tellEqual_139 (by decide)) ?_
      refine sj (j_sub hJ (L' := []) [] rfl) ?_
      exact w_X12_tellEqual_b143 hI σ p0 v8 (1 : Int32) δ
set_option maxHeartbeats 4000000 in
set_option maxRecDepth 100000 in
theorem w_X12_tellEqual_b65 {J : JT} {an : Option Value × St × Dy} (hI : Isj cX12_tellEqual 10 RX12 "tellEqual" 2 48 none an J) {β : Bu} (σ : St) (p0 : Nat) (p1 : Int32) (p2 : Int32) (q0 : Nat) (q1 : Int32) (q2 : Int32) (δ : Dy) : SJ (m_X12_tellEqual_b65 σ p0 p1 p2 q0 q1 q2 δ) (PV σ an) (J 65 [(0, .ref p0), (1, .int p1), (2, .int p2)] [.int q2, .int q1, .ref q0] β σ δ) := by
  have hJ := hI.cor
  unfold m_X12_tellEqual_b65
  refine sj (j_iadd hJ dX12_tellEqual_65) ?_
  refine sj (j_sipush hJ (v := 400) dX12_tellEqual_66 is_400) ?_
  refine sj (j_isub hJ dX12_tellEqual_69) ?_
  refine sj_rI hJ dX12_tellEqual_70 (fun v2 => ?_)
  refine sj (j_istore_n hJ (L' := [(3, .int v2), (0, .ref p0), (1, .int p1), (2, .int p2)]) dX12_tellEqual_71 rfl (by decide) rfl) ?_
  refine sj (j_iload_n hJ dX12_tellEqual_72 rfl 2 rfl) ?_
  refine sj (j_sipush hJ (v := 400) dX12_tellEqual_73 is_400) ?_
  refine sj_if (j_icmp_ge hJ (tgt := 83) dX12_tellEqual_76 (by decide)) (fun _ => ?_) (fun _ => ?_)
  · refine sj (j_iload_n hJ dX12_tellEqual_83 rfl 3 rfl) ?_
    refine sj (j_sub hJ (L' := [(0, .ref p0), (3, .int v2)]) [1, 0] rfl) ?_
    exact w_X12_tellEqual_b84 hI σ p0 v2 p2 δ
  · refine sj (j_iload_n hJ dX12_tellEqual_79 rfl 2 rfl) ?_
    refine sj (j_goto hJ (tgt := 84) dX12_tellEqual_80 (by decide)) ?_
    refine sj (j_sub hJ (L' := [(0, .ref p0), (3, .int v2)]) [1, 0] rfl) ?_
    exact w_X12_tellEqual_b84 hI σ p0 v2 p1 δ
set_option maxHeartbeats 4000000 in
set_option maxRecDepth 100000 in
theorem w_X12_tellEqual_b48 {J : JT} {an : Option Value × St × Dy} (hI : Isj cX12_tellEqual 10 RX12 "tellEqual" 2 48 none an J) {β : Bu} (σ : St) (p0 : Nat) (p1 : Int32) (p2 : Int32) (δ : Dy) : SJ (m_X12_tellEqual_b48 σ p0 p1 p2 δ) (PV σ an) (J 48 [(0, .ref p0), (1, .int p1), (2, .int p2)] [] β σ δ) := by
  have hJ := hI.cor
  unfold m_X12_tellEqual_b48
  refine sj (j_aload_n hJ dX12_tellEqual_48 rfl 0 rfl) ?_
  refine sj_gR hJ fl_X12_7 rfl dX12_tellEqual_49 (fun v1 => ?_)
  refine sj (j_iconst hJ (v := 1) dX12_tellEqual_52 ic_1) ?_
  refine sj (j_iload_n hJ dX12_tellEqual_53 rfl 1 rfl) ?_
  refine sj (j_sipush hJ (v := 400) dX12_tellEqual_54 is_400) ?_
  refine sj_if (j_icmp_ge hJ (tgt := 64) dX12_tellEqual_57 (by decide)) (fun _ => ?_) (fun _ => ?_)
  · refine sj (j_iload_n hJ dX12_tellEqual_64 rfl 1 rfl) ?_
    exact w_X12_tellEqual_b65 hI σ p0 p1 p2 v1 (1 : Int32) p1 δ
  · refine sj (j_iload_n hJ dX12_tellEqual_60 rfl 2 rfl) ?_
    refine sj (j_goto hJ (tgt := 65) dX12_tellEqual_61 (by decide)) ?_
    exact w_X12_tellEqual_b65 hI σ p0 p1 p2 v1 (1 : Int32) p2 δ
set_option maxHeartbeats 4000000 in
set_option maxRecDepth 100000 in
theorem w_X12_tellEqual_b334 {J : JT} {an : Option Value × St × Dy} (hI : Isj cX12_tellEqual 10 RX12 "tellEqual" 2 48 none an J) {β : Bu} (σ : St) (p0 : Nat) (p7 : Int32) (p8 : Int32) (p9 : Int32) (q0 : Nat) (q1 : Int32) (q2 : Int32) (δ : Dy) : SJ (m_X12_tellEqual_b334 σ p0 p7 p8 p9 q0 q1 q2 δ) (PL (fun s : (Int32 × Dy) => J 287 [(0, .ref p0), (7, .int p7), (8, .int p8), (9, .int s.1)] [] β σ s.2) (PV σ an)) (J 334 [(0, .ref p0), (7, .int p7), (8, .int p8), (9, .int p9)] [.int q2, .int q1, .ref q0] β σ δ) := by
  have hJ := hI.cor
  unfold m_X12_tellEqual_b334
  refine sj_wI hJ dX12_tellEqual_334 (fun d28 => ?_)
  refine sj (j_iinc hJ (L' := [(9, .int (p9 + (1 : Int32))), (0, .ref p0), (7, .int p7), (8, .int p8)]) dX12_tellEqual_335 3 rfl (congrArg (fun z => p9 + z) ic_1) (by decide) rfl) ?_
  refine sj (j_goto hJ (tgt := 287) dX12_tellEqual_338 (by decide)) ?_
  refine sj (j_sub hJ (L' := [(0, .ref p0), (7, .int p7), (8, .int p8), (9, .int (p9 + (1 : Int32)))]) [1, 2, 3, 0] rfl) ?_
  exact sj_end (fun h => h)
set_option maxHeartbeats 4000000 in
set_option maxRecDepth 100000 in
theorem w_X12_tellEqual_b287 {J : JT} {an : Option Value × St × Dy} (hI : Isj cX12_tellEqual 10 RX12 "tellEqual" 2 48 none an J) {β : Bu} (σ : St) (p0 : Nat) (p7 : Int32) (p8 : Int32) (p9 : Int32) (δ : Dy) : SJ (m_X12_tellEqual_b287 σ p0 p7 p8 p9 δ) (PV σ an) (J 287 [(0, .ref p0), (7, .int p7), (8, .int p8), (9, .int p9)] [] β σ δ) := by
  have hJ := hI.cor
  unfold m_X12_tellEqual_b287
  refine sj_lp (G := fun s : (Int32 × Dy) => J 287 [(0, .ref p0), (7, .int p7), (8, .int p8), (9, .int s.1)] [] β σ s.2) (fun s => ?_) (p9, δ)
  refine sj (j_iload hJ dX12_tellEqual_287 3 rfl) ?_
  refine sj (j_aload_n hJ dX12_tellEqual_289 rfl 0 rfl) ?_
  refine sj_gR hJ fl_X12_7 rfl dX12_tellEqual_290 (fun v22 => ?_)
  refine sj (j_iconst hJ (v := 0) dX12_tellEqual_293 ic_0) ?_
  refine sj_rI hJ dX12_tellEqual_294 (fun v23 => ?_)
  refine sj_if (j_icmp_ge hJ (tgt := 341) dX12_tellEqual_295 (by decide)) (fun _ => ?_) (fun _ => ?_)
  · refine sj (j_aload_n hJ dX12_tellEqual_341 rfl 0 rfl) ?_
    refine sj (j_iload hJ dX12_tellEqual_342 1 rfl) ?_
    refine sj_callVv hJ [.int p7] (st := []) (fr' := 1) (lo' := 22) ml_X12_166 hc_12 (by decide) (by decide) (Nat.le_of_ble_eq_true rfl) dX12_tellEqual_344 rfl (fun _ h9 => ct_X12_againFor h9) (fun v24 => ?_)
    exact sj_vret hI dX12_tellEqual_347 (fun h => h)
  · refine sj (j_aload_n hJ dX12_tellEqual_298 rfl 0 rfl) ?_
    refine sj_gR hJ fl_X12_7 rfl dX12_tellEqual_299 (fun v25 => ?_)
    refine sj (j_iconst hJ (v := 1) dX12_tellEqual_302 ic_1) ?_
    refine sj (j_iload hJ dX12_tellEqual_303 3 rfl) ?_
    refine sj (j_iadd hJ dX12_tellEqual_305) ?_
    refine sj (j_aload_n hJ dX12_tellEqual_306 rfl 0 rfl) ?_
    refine sj_gR hJ fl_X12_7 rfl dX12_tellEqual_307 (fun v26 => ?_)
    refine sj (j_iconst hJ (v := 1) dX12_tellEqual_310 ic_1) ?_
    refine sj (j_iload hJ dX12_tellEqual_311 3 rfl) ?_
    refine sj (j_iadd hJ dX12_tellEqual_313) ?_
    refine sj_rI hJ dX12_tellEqual_314 (fun v27 => ?_)
    refine sj (j_iload hJ dX12_tellEqual_315 2 rfl) ?_
    refine sj_if (j_icmp_ne hJ (tgt := 325) dX12_tellEqual_317 (by decide)) (fun _ => ?_) (fun _ => ?_)
    · refine sj (j_iload hJ dX12_tellEqual_320 1 rfl) ?_
      refine sj (j_goto hJ (tgt := 334) dX12_tellEqual_322 (by decide)) ?_
      exact w_X12_tellEqual_b334 hI σ p0 p7 p8 s.1 v25 ((1 : Int32) + s.1) p7 s.2
    · refine sj (j_aload_n hJ dX12_tellEqual_325 rfl 0 rfl) ?_
      refine sj_gR hJ fl_X12_7 rfl dX12_tellEqual_326 (fun v29 => ?_)
      refine sj (j_iconst hJ (v := 1) dX12_tellEqual_329 ic_1) ?_
      refine sj (j_iload hJ dX12_tellEqual_330 3 rfl) ?_
      refine sj (j_iadd hJ dX12_tellEqual_332) ?_
      refine sj_rI hJ dX12_tellEqual_333 (fun v30 => ?_)
      exact w_X12_tellEqual_b334 hI σ p0 p7 p8 s.1 v25 ((1 : Int32) + s.1) v30 s.2
set_option maxHeartbeats 4000000 in
set_option maxRecDepth 100000 in
theorem w_X12_tellEqual_b283 {J : JT} {an : Option Value × St × Dy} (hI : Isj cX12_tellEqual 10 RX12 "tellEqual" 2 48 none an J) {β : Bu} (σ : St) (p0 : Nat) (p7 : Int32) (p8 : Int32) (q0 : Nat) (q1 : Int32) (q2 : Int32) (δ : Dy) : SJ (m_X12_tellEqual_b283 σ p0 p7 p8 q0 q1 q2 δ) (PV σ an) (J 283 [(0, .ref p0), (7, .int p7), (8, .int p8)] [.int q2, .int q1, .ref q0] β σ δ) := by
  have hJ := hI.cor
  unfold m_X12_tellEqual_b283
  refine sj_wI hJ dX12_tellEqual_283 (fun d21 => ?_)
  refine sj (j_iconst hJ (v := 0) dX12_tellEqual_284 ic_0) ?_
  refine sj (j_istore hJ (L' := [(9, .int (0 : Int32)), (0, .ref p0), (7, .int p7), (8, .int p8)]) dX12_tellEqual_285 (by decide) rfl) ?_
  refine sj (j_sub hJ (L' := [(0, .ref p0), (7, .int p7), (8, .int p8), (9, .int (0 : Int32))]) [1, 2, 3, 0] rfl) ?_
  exact w_X12_tellEqual_b287 hI σ p0 p7 p8 (0 : Int32) d21
set_option maxHeartbeats 4000000 in
set_option maxRecDepth 100000 in
theorem w_X12_tellEqual_b258 {J : JT} {an : Option Value × St × Dy} (hI : Isj cX12_tellEqual 10 RX12 "tellEqual" 2 48 none an J) {β : Bu} (σ : St) (p0 : Nat) (p5 : Int32) (p6 : Int32) (p7 : Int32) (q0 : Int32) (δ : Dy) : SJ (m_X12_tellEqual_b258 σ p0 p5 p6 p7 q0 δ) (PV σ an) (J 258 [(0, .ref p0), (5, .int p5), (6, .int p6), (7, .int p7)] [.int q0] β σ δ) := by
  have hJ := hI.cor
  unfold m_X12_tellEqual_b258
  refine sj (j_istore hJ (L' := [(8, .int q0), (0, .ref p0), (5, .int p5), (6, .int p6), (7, .int p7)]) dX12_tellEqual_258 (by decide) rfl) ?_
  refine sj (j_aload_n hJ dX12_tellEqual_260 rfl 1 rfl) ?_
  refine sj_gR hJ fl_X12_7 rfl dX12_tellEqual_261 (fun v20 => ?_)
  refine sj (j_bipush hJ (v := 61) dX12_tellEqual_264 ib_61) ?_
  refine sj (j_iload hJ dX12_tellEqual_266 4 rfl) ?_
  refine sj (j_iadd hJ dX12_tellEqual_268) ?_
  refine sj (j_iload hJ dX12_tellEqual_269 2 rfl) ?_
  refine sj (j_bipush hJ (v := 100) dX12_tellEqual_271 ib_100) ?_
  refine sj_if (j_icmp_ne hJ (tgt := 281) dX12_tellEqual_273 (by decide)) (fun _ => ?_) (fun _ => ?_)
  · refine sj (j_iload hJ dX12_tellEqual_276 3 rfl) ?_
    refine sj (j_goto hJ (tgt := 283) dX12_tellEqual_278 (by decide)) ?_
    refine sj (j_sub hJ (L' := [(0, .ref p0), (7, .int p7), (8, .int q0)]) [1, 4, 0] rfl) ?_
    exact w_X12_tellEqual_b283 hI σ p0 p7 q0 v20 ((61 : Int32) + p7) p6 δ
  · refine sj (j_iload hJ dX12_tellEqual_281 2 rfl) ?_
    refine sj (j_sub hJ (L' := [(0, .ref p0), (7, .int p7), (8, .int q0)]) [1, 4, 0] rfl) ?_
    exact w_X12_tellEqual_b283 hI σ p0 p7 q0 v20 ((61 : Int32) + p7) p5 δ
set_option maxHeartbeats 4000000 in
set_option maxRecDepth 100000 in
theorem w_X12_tellEqual_b244 {J : JT} {an : Option Value × St × Dy} (hI : Isj cX12_tellEqual 10 RX12 "tellEqual" 2 48 none an J) {β : Bu} (σ : St) (p0 : Nat) (p3 : Int32) (p4 : Int32) (p5 : Int32) (p6 : Int32) (q0 : Int32) (δ : Dy) : SJ (m_X12_tellEqual_b244 σ p0 p3 p4 p5 p6 q0 δ) (PV σ an) (J 244 [(0, .ref p0), (3, .int p3), (4, .int p4), (5, .int p5), (6, .int p6)] [.int q0] β σ δ) := by
  have hJ := hI.cor
  unfold m_X12_tellEqual_b244
  refine sj (j_istore hJ (L' := [(7, .int q0), (0, .ref p0), (3, .int p3), (4, .int p4), (5, .int p5), (6, .int p6)]) dX12_tellEqual_244 (by decide) rfl) ?_
  refine sj (j_iload_n hJ dX12_tellEqual_246 rfl 2 rfl) ?_
  refine sj (j_iload hJ dX12_tellEqual_247 3 rfl) ?_
  refine sj_if (j_icmp_ge hJ (tgt := 257) dX12_tellEqual_249 (by decide)) (fun _ => ?_) (fun _ => ?_)
  · refine sj (j_iload_n hJ dX12_tellEqual_257 rfl 2 rfl) ?_
    refine sj (j_sub hJ (L' := [(0, .ref p0), (5, .int p5), (6, .int p6), (7, .int q0)]) [1, 4, 5, 0] rfl) ?_
    exact w_X12_tellEqual_b258 hI σ p0 p5 p6 q0 p3 δ
  · refine sj (j_iload hJ dX12_tellEqual_252 3 rfl) ?_
    refine sj (j_goto hJ (tgt := 258) dX12_tellEqual_254 (by decide)) ?_
    refine sj (j_sub hJ (L' := [(0, .ref p0), (5, .int p5), (6, .int p6), (7, .int q0)]) [1, 4, 5, 0] rfl) ?_
    exact w_X12_tellEqual_b258 hI σ p0 p5 p6 q0 p4 δ
set_option maxHeartbeats 4000000 in
set_option maxRecDepth 100000 in
theorem w_X12_tellEqual_b232 {J : JT} {an : Option Value × St × Dy} (hI : Isj cX12_tellEqual 10 RX12 "tellEqual" 2 48 none an J) {β : Bu} (σ : St) (p0 : Nat) (p3 : Int32) (p4 : Int32) (p5 : Int32) (p6 : Int32) (δ : Dy) : SJ (m_X12_tellEqual_b232 σ p0 p3 p4 p5 p6 δ) (PV σ an) (J 232 [(0, .ref p0), (3, .int p3), (4, .int p4), (5, .int p5), (6, .int p6)] [] β σ δ) := by
  have hJ := hI.cor
  unfold m_X12_tellEqual_b232
  refine sj (j_iload_n hJ dX12_tellEqual_232 rfl 1 rfl) ?_
  refine sj (j_iload hJ dX12_tellEqual_233 2 rfl) ?_
  refine sj_if (j_icmp_ge hJ (tgt := 242) dX12_tellEqual_235 (by decide)) (fun _ => ?_) (fun _ => ?_)
  · refine sj (j_iload hJ dX12_tellEqual_242 2 rfl) ?_
    exact w_X12_tellEqual_b244 hI σ p0 p3 p4 p5 p6 p4 δ
  · refine sj (j_iload_n hJ dX12_tellEqual_238 rfl 1 rfl) ?_
    refine sj (j_goto hJ (tgt := 244) dX12_tellEqual_239 (by decide)) ?_
    exact w_X12_tellEqual_b244 hI σ p0 p3 p4 p5 p6 p3 δ
set_option maxHeartbeats 4000000 in
set_option maxRecDepth 100000 in
theorem w_X12_tellEqual_b34 {J : JT} {an : Option Value × St × Dy} (hI : Isj cX12_tellEqual 10 RX12 "tellEqual" 2 48 none an J) {β : Bu} (σ : St) (p0 : Nat) (p1 : Int32) (p2 : Int32) (δ : Dy) : SJ (m_X12_tellEqual_b34 σ p0 p1 p2 δ) (PV σ an) (J 34 [(0, .ref p0), (1, .int p1), (2, .int p2)] [] β σ δ) := by
  have hJ := hI.cor
  unfold m_X12_tellEqual_b34
  refine sj (j_iload_n hJ dX12_tellEqual_34 rfl 1 rfl) ?_
  refine sj (j_sipush hJ (v := 400) dX12_tellEqual_35 is_400) ?_
  refine sj_if (j_icmp_lt hJ (tgt := 48) dX12_tellEqual_38 (by decide)) (fun _ => ?_) (fun _ => ?_)
  · exact w_X12_tellEqual_b48 hI σ p0 p1 p2 δ
  · refine sj (j_iload_n hJ dX12_tellEqual_41 rfl 2 rfl) ?_
    refine sj (j_sipush hJ (v := 400) dX12_tellEqual_42 is_400) ?_
    refine sj_if (j_icmp_ge hJ (tgt := 148) dX12_tellEqual_45 (by decide)) (fun _ => ?_) (fun _ => ?_)
    · refine sj (j_aload_n hJ dX12_tellEqual_148 rfl 0 rfl) ?_
      refine sj_gR hJ fl_X12_7 rfl dX12_tellEqual_149 (fun v12 => ?_)
      refine sj (j_iconst hJ (v := 1) dX12_tellEqual_152 ic_1) ?_
      refine sj (j_iload_n hJ dX12_tellEqual_153 rfl 1 rfl) ?_
      refine sj (j_iadd hJ dX12_tellEqual_154) ?_
      refine sj (j_sipush hJ (v := 400) dX12_tellEqual_155 is_400) ?_
      refine sj (j_isub hJ dX12_tellEqual_158) ?_
      refine sj_rI hJ dX12_tellEqual_159 (fun v13 => ?_)
      refine sj (j_istore_n hJ (L' := [(3, .int v13), (0, .ref p0), (1, .int p1), (2, .int p2)]) dX12_tellEqual_160 rfl (by decide) rfl) ?_
      refine sj (j_aload_n hJ dX12_tellEqual_161 rfl 1 rfl) ?_
      refine sj_gR hJ fl_X12_7 rfl dX12_tellEqual_162 (fun v14 => ?_)
      refine sj (j_iconst hJ (v := 1) dX12_tellEqual_165 ic_1) ?_
      refine sj (j_iload_n hJ dX12_tellEqual_166 rfl 3 rfl) ?_
      refine sj (j_iadd hJ dX12_tellEqual_167) ?_
      refine sj (j_sipush hJ (v := 400) dX12_tellEqual_168 is_400) ?_
      refine sj (j_isub hJ dX12_tellEqual_171) ?_
      refine sj_rI hJ dX12_tellEqual_172 (fun v15 => ?_)
      refine sj (j_istore hJ (L' := [(4, .int v15), (3, .int v13), (0, .ref p0), (1, .int p1), (2, .int p2)]) dX12_tellEqual_173 (by decide) rfl) ?_
      refine sj (j_iload_n hJ dX12_tellEqual_175 rfl 1 rfl) ?_
      refine sj (j_iload hJ dX12_tellEqual_176 0 rfl) ?_
      refine sj_if (j_icmp_ne hJ (tgt := 182) dX12_tellEqual_178 (by decide)) (fun _ => ?_) (fun _ => ?_)
      · exact sj_vret hI dX12_tellEqual_181 (fun h => h)
      · refine sj (j_aload_n hJ dX12_tellEqual_182 rfl 2 rfl) ?_
        refine sj_gR hJ fl_X12_7 rfl dX12_tellEqual_183 (fun v16 => ?_)
        refine sj (j_bipush hJ (v := 61) dX12_tellEqual_186 ib_61) ?_
        refine sj (j_iload_n hJ dX12_tellEqual_188 rfl 1 rfl) ?_
        refine sj (j_iadd hJ dX12_tellEqual_189) ?_
        refine sj_rI hJ dX12_tellEqual_190 (fun v17 => ?_)
        refine sj (j_istore hJ (L' := [(5, .int v17), (4, .int v15), (3, .int v13), (0, .ref p0), (1, .int p1), (2, .int p2)]) dX12_tellEqual_191 (by decide) rfl) ?_
        refine sj (j_aload_n hJ dX12_tellEqual_193 rfl 3 rfl) ?_
        refine sj_gR hJ fl_X12_7 rfl dX12_tellEqual_194 (fun v18 => ?_)
        refine sj (j_bipush hJ (v := 61) dX12_tellEqual_197 ib_61) ?_
        refine sj (j_iload hJ dX12_tellEqual_199 1 rfl) ?_
        refine sj (j_iadd hJ dX12_tellEqual_201) ?_
        refine sj_rI hJ dX12_tellEqual_202 (fun v19 => ?_)
        refine sj (j_istore hJ (L' := [(6, .int v19), (5, .int v17), (4, .int v15), (3, .int v13), (0, .ref p0), (1, .int p1), (2, .int p2)]) dX12_tellEqual_203 (by decide) rfl) ?_
        refine sj (j_iload hJ dX12_tellEqual_205 1 rfl) ?_
        refine sj (j_bipush hJ (v := 100) dX12_tellEqual_207 ib_100) ?_
        refine sj_if (j_icmp_eq hJ (tgt := 232) dX12_tellEqual_209 (by decide)) (fun _ => ?_) (fun _ => ?_)
        · refine sj (j_sub hJ (L' := [(0, .ref p0), (3, .int v13), (4, .int v15), (5, .int v17), (6, .int v19)]) [4, 3, 2, 1, 0] rfl) ?_
          exact w_X12_tellEqual_b232 hI σ p0 v13 v15 v17 v19 δ
        · refine sj (j_iload hJ dX12_tellEqual_212 0 rfl) ?_
          refine sj (j_bipush hJ (v := 100) dX12_tellEqual_214 ib_100) ?_
          refine sj_if (j_icmp_eq hJ (tgt := 232) dX12_tellEqual_216 (by decide)) (fun _ => ?_) (fun _ => ?_)
          · refine sj (j_sub hJ (L' := [(0, .ref p0), (3, .int v13), (4, .int v15), (5, .int v17), (6, .int v19)]) [4, 3, 2, 1, 0] rfl) ?_
            exact w_X12_tellEqual_b232 hI σ p0 v13 v15 v17 v19 δ
          · refine sj (j_iload hJ dX12_tellEqual_219 1 rfl) ?_
            refine sj (j_iload hJ dX12_tellEqual_221 0 rfl) ?_
            refine sj_if (j_icmp_eq hJ (tgt := 232) dX12_tellEqual_223 (by decide)) (fun _ => ?_) (fun _ => ?_)
            · refine sj (j_sub hJ (L' := [(0, .ref p0), (3, .int v13), (4, .int v15), (5, .int v17), (6, .int v19)]) [4, 3, 2, 1, 0] rfl) ?_
              exact w_X12_tellEqual_b232 hI σ p0 v13 v15 v17 v19 δ
            · refine sj (j_aload_n hJ dX12_tellEqual_226 rfl 4 rfl) ?_
              refine sj (j_iconst hJ (v := 1) dX12_tellEqual_227 ic_1) ?_
              refine sj_pZ hJ fl_X12_133 rfl dX12_tellEqual_228 (fun d31 => ?_)
              exact sj_vret hI dX12_tellEqual_231 (fun h => h)
    · exact w_X12_tellEqual_b48 hI σ p0 p1 p2 δ
set_option maxHeartbeats 4000000 in
set_option maxRecDepth 100000 in
theorem w_X12_tellEqual_b29 {J : JT} {an : Option Value × St × Dy} (hI : Isj cX12_tellEqual 10 RX12 "tellEqual" 2 48 none an J) {β : Bu} (σ : St) (q0 : Nat) (q1 : Int32) (q2 : Int32) (δ : Dy) : SJ (m_X12_tellEqual_b29 σ q0 q1 q2 δ) (PV σ an) (J 29 [] [.int q2, .int q1, .ref q0] β σ δ) := by
  have hJ := hI.cor
  unfold m_X12_tellEqual_b29
  refine sj (j_ior hJ dX12_tellEqual_29) ?_
  refine sj_pZ hJ fl_X12_133 rfl dX12_tellEqual_30 (fun d33 => ?_)
  exact sj_vret hI dX12_tellEqual_33 (fun h => h)
set_option maxHeartbeats 4000000 in
set_option maxRecDepth 100000 in
theorem w_X12_tellEqual {J : JT} {an : Option Value × St × Dy} (hI : Isj cX12_tellEqual 10 RX12 "tellEqual" 2 48 none an J) {β : Bu} (σ : St) (p0 : Nat) (p1 : Int32) (p2 : Int32) (δ : Dy) : SJ (m_X12_tellEqual σ p0 p1 p2 δ) (PV σ an) (J 0 [(0, .ref p0), (1, .int p1), (2, .int p2)] [] β σ δ) := by
  have hJ := hI.cor
  unfold m_X12_tellEqual
  refine sj (j_iload_n hJ dX12_tellEqual_0 rfl 1 rfl) ?_
  refine sj (j_sipush hJ (v := 400) dX12_tellEqual_1 is_400) ?_
  refine sj_if (j_icmp_ge hJ (tgt := 34) dX12_tellEqual_4 (by decide)) (fun _ => ?_) (fun _ => ?_)
  · exact w_X12_tellEqual_b34 hI σ p0 p1 p2 δ
  · refine sj (j_iload_n hJ dX12_tellEqual_7 rfl 2 rfl) ?_
    refine sj (j_sipush hJ (v := 400) dX12_tellEqual_8 is_400) ?_
    refine sj_if (j_icmp_ge hJ (tgt := 34) dX12_tellEqual_11 (by decide)) (fun _ => ?_) (fun _ => ?_)
    · exact w_X12_tellEqual_b34 hI σ p0 p1 p2 δ
    · refine sj (j_aload_n hJ dX12_tellEqual_14 rfl 0 rfl) ?_
      refine sj (j_dup hJ dX12_tellEqual_15 rfl) ?_
      refine sj_gI hJ fl_X12_133 (Or.inr rfl) dX12_tellEqual_16 (fun v32 => ?_)
      refine sj (j_iload_n hJ dX12_tellEqual_19 rfl 1 rfl) ?_
      refine sj (j_iload_n hJ dX12_tellEqual_20 rfl 2 rfl) ?_
      refine sj_if (j_icmp_eq hJ (tgt := 28) dX12_tellEqual_21 (by decide)) (fun _ => ?_) (fun _ => ?_)
      · refine sj (j_iconst hJ (v := 0) dX12_tellEqual_28 ic_0) ?_
        refine sj (j_sub hJ (L' := []) [] rfl) ?_
        exact w_X12_tellEqual_b29 hI σ p0 v32 (0 : Int32) δ
      · refine sj (j_iconst hJ (v := 1) dX12_tellEqual_24 ic_1) ?_
        refine sj (j_goto hJ (tgt := 29) dX12_tellEqual_25 (by decide)) ?_
        refine sj (j_sub hJ (L' := []) [] rfl) ?_
        exact w_X12_tellEqual_b29 hI σ p0 v32 (1 : Int32) δ
theorem ct_X12_tellEqual {σ : St} {p0 : Nat} {p1 : Int32} {p2 : Int32} {δ : Dy} {r : Dy} (h : m_X12_tellEqual σ p0 p1 p2 δ = some r) : CT yX12_tellEqual cX12_tellEqual 10 none 2 48 0 0 [.ref p0, .int p1, .int p2] σ δ (none, σ, r) := CT_of (by decide +kernel) (Nat.le_of_ble_eq_true rfl) (fun J hI => w_X12_tellEqual hI σ p0 p1 p2 δ r h rfl)
def m_X12_fits (σ : St) (p0 : Nat) (p1 : Int32) (p2 : Int32) (δ : Dy) : Option (Int32 × Dy) :=
  if p1 = (300 : Int32) then
    some ((1 : Int32), δ)
  else
    if (200 : Int32) ≤ p1 then
      (gR σ 12 p0 38).bind fun v1 =>
      (rI σ δ v1 (p1 - (200 : Int32))).bind fun v2 =>
      if v2 = (300 : Int32) then
        (gR σ 12 p0 38).bind fun v3 =>
        (wI σ δ v3 (p1 - (200 : Int32)) p2).bind fun d4 =>
        some ((1 : Int32), d4)
      else
        (gR σ 12 p0 38).bind fun v5 =>
        (rI σ δ v5 (p1 - (200 : Int32))).bind fun v6 =>
        (chk σ 12 p0).bind fun _ => (m_X12_areEqual σ p0 v6 p2 δ).bind fun v7 =>
        (zo v7).bind fun _ => some (v7, δ)
    else
      (chk σ 12 p0).bind fun _ => (m_X12_areEqual σ p0 p2 p1 δ).bind fun v8 =>
      (zo v8).bind fun _ => some (v8, δ)
set_option maxHeartbeats 4000000 in
set_option maxRecDepth 100000 in
theorem w_X12_fits {J : JT} {an : Option Value × St × Dy} (hI : Isj cX12_fits 4 RX12 "fits" 2 44 (some .boolean) an J) {β : Bu} (σ : St) (p0 : Nat) (p1 : Int32) (p2 : Int32) (δ : Dy) : SJ (m_X12_fits σ p0 p1 p2 δ) (PI σ an) (J 0 [(0, .ref p0), (1, .int p1), (2, .int p2)] [] β σ δ) := by
  have hJ := hI.cor
  unfold m_X12_fits
  refine sj (j_iload_n hJ dX12_fits_0 rfl 1 rfl) ?_
  refine sj (j_sipush hJ (v := 300) dX12_fits_1 is_300) ?_
  refine sj_if (j_icmp_ne hJ (tgt := 9) dX12_fits_4 (by decide)) (fun _ => ?_) (fun _ => ?_)
  · refine sj (j_iconst hJ (v := 1) dX12_fits_7 ic_1) ?_
    exact sj_zret hI (by decide) dX12_fits_8 (fun h => h)
  · refine sj (j_iload_n hJ dX12_fits_9 rfl 1 rfl) ?_
    refine sj (j_sipush hJ (v := 200) dX12_fits_10 is_200) ?_
    refine sj_if (j_icmp_ge hJ (tgt := 23) dX12_fits_13 (by decide)) (fun _ => ?_) (fun _ => ?_)
    · refine sj (j_iload_n hJ dX12_fits_23 rfl 1 rfl) ?_
      refine sj (j_sipush hJ (v := 200) dX12_fits_24 is_200) ?_
      refine sj (j_isub hJ dX12_fits_27) ?_
      refine sj (j_istore_n hJ (L' := [(3, .int (p1 - (200 : Int32))), (0, .ref p0), (1, .int p1), (2, .int p2)]) dX12_fits_28 rfl (by decide) rfl) ?_
      refine sj (j_aload_n hJ dX12_fits_29 rfl 1 rfl) ?_
      refine sj_gR hJ fl_X12_94 rfl dX12_fits_30 (fun v1 => ?_)
      refine sj (j_iload_n hJ dX12_fits_33 rfl 0 rfl) ?_
      refine sj_rI hJ dX12_fits_34 (fun v2 => ?_)
      refine sj (j_sipush hJ (v := 300) dX12_fits_35 is_300) ?_
      refine sj_if (j_icmp_ne hJ (tgt := 50) dX12_fits_38 (by decide)) (fun _ => ?_) (fun _ => ?_)
      · refine sj (j_aload_n hJ dX12_fits_41 rfl 1 rfl) ?_
        refine sj_gR hJ fl_X12_94 rfl dX12_fits_42 (fun v3 => ?_)
        refine sj (j_iload_n hJ dX12_fits_45 rfl 0 rfl) ?_
        refine sj (j_iload_n hJ dX12_fits_46 rfl 3 rfl) ?_
        refine sj_wI hJ dX12_fits_47 (fun d4 => ?_)
        refine sj (j_iconst hJ (v := 1) dX12_fits_48 ic_1) ?_
        exact sj_zret hI (by decide) dX12_fits_49 (fun h => h)
      · refine sj (j_aload_n hJ dX12_fits_50 rfl 1 rfl) ?_
        refine sj (j_aload_n hJ dX12_fits_51 rfl 1 rfl) ?_
        refine sj_gR hJ fl_X12_94 rfl dX12_fits_52 (fun v5 => ?_)
        refine sj (j_iload_n hJ dX12_fits_55 rfl 0 rfl) ?_
        refine sj_rI hJ dX12_fits_56 (fun v6 => ?_)
        refine sj (j_iload_n hJ dX12_fits_57 rfl 3 rfl) ?_
        refine sj_callVip hJ [.int v6, .int p2] (st := []) (fr' := 1) (lo' := 21) ml_X12_148 hc_12 (by decide) (by decide) (Nat.le_of_ble_eq_true rfl) dX12_fits_58 rfl (fun _ h9 => ct_X12_areEqual h9) (fun v7 => ?_)
        exact sj_zretG hI dX12_fits_61 (fun h => h)
    · refine sj (j_aload_n hJ dX12_fits_16 rfl 0 rfl) ?_
      refine sj (j_iload_n hJ dX12_fits_17 rfl 2 rfl) ?_
      refine sj (j_iload_n hJ dX12_fits_18 rfl 1 rfl) ?_
      refine sj_callVip hJ [.int p2, .int p1] (st := []) (fr' := 1) (lo' := 21) ml_X12_148 hc_12 (by decide) (by decide) (Nat.le_of_ble_eq_true rfl) dX12_fits_19 rfl (fun _ h9 => ct_X12_areEqual h9) (fun v8 => ?_)
      exact sj_zretG hI dX12_fits_22 (fun h => h)
theorem ct_X12_fits {σ : St} {p0 : Nat} {p1 : Int32} {p2 : Int32} {δ : Dy} {r : (Int32 × Dy)} (h : m_X12_fits σ p0 p1 p2 δ = some r) : CT yX12_fits cX12_fits 4 (some .boolean) 2 44 0 0 [.ref p0, .int p1, .int p2] σ δ ((some (.int r.1)), σ, r.2) := CT_of (by decide +kernel) (Nat.le_of_ble_eq_true rfl) (fun J hI => w_X12_fits hI σ p0 p1 p2 δ r h rfl)
def m_X12_termOf (σ : St) (p0 : Nat) (p1 : Int32) (δ : Dy) : Option Int32 :=
  (m_X12_in σ p1 (200 : Int32) (203 : Int32) δ).bind fun v1 =>
  if v1 = 0 then
    some p1
  else
    (gR σ 12 p0 38).bind fun v2 =>
    (rI σ δ v2 (p1 - (200 : Int32))).bind fun v3 =>
    some v3
set_option maxHeartbeats 4000000 in
set_option maxRecDepth 100000 in
theorem w_X12_termOf {J : JT} {an : Option Value × St × Dy} (hI : Isj cX12_termOf 2 RX12 "termOf" 1 22 (some .int) an J) {β : Bu} (σ : St) (p0 : Nat) (p1 : Int32) (δ : Dy) : SJ (m_X12_termOf σ p0 p1 δ) (PIp σ δ an) (J 0 [(0, .ref p0), (1, .int p1)] [] β σ δ) := by
  have hJ := hI.cor
  unfold m_X12_termOf
  refine sj (j_iload_n hJ dX12_termOf_0 rfl 1 rfl) ?_
  refine sj (j_sipush hJ (v := 200) dX12_termOf_1 is_200) ?_
  refine sj (j_sipush hJ (v := 203) dX12_termOf_4 is_203) ?_
  refine sj_callSip hJ [.int p1, .int (200 : Int32), .int (203 : Int32)] (st := []) (fr' := 0) (lo' := 0) ml_X12_122 (by decide) (by decide) (Nat.le_of_ble_eq_true rfl) dX12_termOf_7 rfl (fun _ h9 => ct_X12_in h9) (fun v1 => ?_)
  refine sj_if (j_if_eq hJ (tgt := 26) dX12_termOf_10 (by decide)) (fun _ => ?_) (fun _ => ?_)
  · refine sj (j_iload_n hJ dX12_termOf_26 rfl 1 rfl) ?_
    exact sj_iret hI dX12_termOf_27 (fun h => h)
  · refine sj (j_aload_n hJ dX12_termOf_13 rfl 0 rfl) ?_
    refine sj_gR hJ fl_X12_94 rfl dX12_termOf_14 (fun v2 => ?_)
    refine sj (j_iload_n hJ dX12_termOf_17 rfl 1 rfl) ?_
    refine sj (j_sipush hJ (v := 200) dX12_termOf_18 is_200) ?_
    refine sj (j_isub hJ dX12_termOf_21) ?_
    refine sj_rI hJ dX12_termOf_22 (fun v3 => ?_)
    refine sj (j_goto hJ (tgt := 27) dX12_termOf_23 (by decide)) ?_
    exact sj_iret hI dX12_termOf_27 (fun h => h)
theorem ct_X12_termOf {σ : St} {p0 : Nat} {p1 : Int32} {δ : Dy} {r : Int32} (h : m_X12_termOf σ p0 p1 δ = some r) : CT yX12_termOf cX12_termOf 2 (some .int) 1 22 0 0 [.ref p0, .int p1] σ δ ((some (.int r)), σ, δ) := CT_of (by decide +kernel) (Nat.le_of_ble_eq_true rfl) (fun J hI => w_X12_termOf hI σ p0 p1 δ r h rfl)
def m_X12_removes (σ : St) (p0 : Nat) (p1 : Int32) (δ : Dy) : Option Int32 :=
  (gR σ 12 p0 10).bind fun v1 =>
  (rI σ δ v1 (((8 : Int32) * p1) + (3 : Int32))).bind fun v2 =>
  if v2 = 0 then
    some (1 : Int32)
  else
    (gR σ 12 p0 9).bind fun v3 =>
    (rI σ δ v3 p1).bind fun v4 =>
    if v4 = (2 : Int32) then
      (gR σ 12 p0 10).bind fun v5 =>
      (rI σ δ v5 (((8 : Int32) * p1) + (7 : Int32))).bind fun v6 =>
      if v6 = 0 then
        some (1 : Int32)
      else
        some (0 : Int32)
    else
      some (0 : Int32)
set_option maxHeartbeats 4000000 in
set_option maxRecDepth 100000 in
theorem w_X12_removes {J : JT} {an : Option Value × St × Dy} (hI : Isj cX12_removes 2 RX12 "removes" 0 0 (some .boolean) an J) {β : Bu} (σ : St) (p0 : Nat) (p1 : Int32) (δ : Dy) : SJ (m_X12_removes σ p0 p1 δ) (PIp σ δ an) (J 0 [(0, .ref p0), (1, .int p1)] [] β σ δ) := by
  have hJ := hI.cor
  unfold m_X12_removes
  refine sj (j_aload_n hJ dX12_removes_0 rfl 0 rfl) ?_
  refine sj_gR hJ fl_X12_37 rfl dX12_removes_1 (fun v1 => ?_)
  refine sj (j_bipush hJ (v := 8) dX12_removes_4 ib_8) ?_
  refine sj (j_iload_n hJ dX12_removes_6 rfl 1 rfl) ?_
  refine sj (j_imul hJ dX12_removes_7) ?_
  refine sj (j_iconst hJ (v := 3) dX12_removes_8 ic_3) ?_
  refine sj (j_iadd hJ dX12_removes_9) ?_
  refine sj_rI hJ dX12_removes_10 (fun v2 => ?_)
  refine sj_if (j_if_eq hJ (tgt := 39) dX12_removes_11 (by decide)) (fun _ => ?_) (fun _ => ?_)
  · refine sj (j_iconst hJ (v := 1) dX12_removes_39 ic_1) ?_
    refine sj (j_goto hJ (tgt := 44) dX12_removes_40 (by decide)) ?_
    exact sj_zret hI (by decide) dX12_removes_44 (fun h => h)
  · refine sj (j_aload_n hJ dX12_removes_14 rfl 0 rfl) ?_
    refine sj_gR hJ fl_X12_34 rfl dX12_removes_15 (fun v3 => ?_)
    refine sj (j_iload_n hJ dX12_removes_18 rfl 1 rfl) ?_
    refine sj_rI hJ dX12_removes_19 (fun v4 => ?_)
    refine sj (j_iconst hJ (v := 2) dX12_removes_20 ic_2) ?_
    refine sj_if (j_icmp_ne hJ (tgt := 43) dX12_removes_21 (by decide)) (fun _ => ?_) (fun _ => ?_)
    · refine sj (j_aload_n hJ dX12_removes_24 rfl 0 rfl) ?_
      refine sj_gR hJ fl_X12_37 rfl dX12_removes_25 (fun v5 => ?_)
      refine sj (j_bipush hJ (v := 8) dX12_removes_28 ib_8) ?_
      refine sj (j_iload_n hJ dX12_removes_30 rfl 1 rfl) ?_
      refine sj (j_imul hJ dX12_removes_31) ?_
      refine sj (j_bipush hJ (v := 7) dX12_removes_32 ib_7) ?_
      refine sj (j_iadd hJ dX12_removes_34) ?_
      refine sj_rI hJ dX12_removes_35 (fun v6 => ?_)
      refine sj_if (j_if_ne hJ (tgt := 43) dX12_removes_36 (by decide)) (fun _ => ?_) (fun _ => ?_)
      · refine sj (j_iconst hJ (v := 1) dX12_removes_39 ic_1) ?_
        refine sj (j_goto hJ (tgt := 44) dX12_removes_40 (by decide)) ?_
        exact sj_zret hI (by decide) dX12_removes_44 (fun h => h)
      · refine sj (j_iconst hJ (v := 0) dX12_removes_43 ic_0) ?_
        exact sj_zret hI (by decide) dX12_removes_44 (fun h => h)
    · refine sj (j_iconst hJ (v := 0) dX12_removes_43 ic_0) ?_
      exact sj_zret hI (by decide) dX12_removes_44 (fun h => h)
theorem ct_X12_removes {σ : St} {p0 : Nat} {p1 : Int32} {δ : Dy} {r : Int32} (h : m_X12_removes σ p0 p1 δ = some r) : CT yX12_removes cX12_removes 2 (some .boolean) 0 0 0 0 [.ref p0, .int p1] σ δ ((some (.int r)), σ, δ) := CT_of (by decide +kernel) (Nat.le_of_ble_eq_true rfl) (fun J hI => w_X12_removes hI σ p0 p1 δ r h rfl)
def m_X12_canFire_b302 (σ : St) (p0 : Nat) (p1 : Int32) (p2 : Int32) (p3 : Int32) (p5 : Int32) (p6 : Int32) (δ : Dy) : Option ((Int32) ⊕ (Int32 × Dy)) :=
  some (Sum.inl (p6 + (1 : Int32)))
def m_X12_canFire_b227 (σ : St) (p0 : Nat) (p1 : Int32) (p2 : Int32) (p3 : Int32) (p5 : Int32) (p6 : Int32) (δ : Dy) : Option (Int32 × Dy) := lp (fun (s : (Int32)) =>
  (gR σ 12 p0 0).bind fun v6 =>
  (rI σ δ v6 (1022 : Int32)).bind fun v7 =>
  if v7 ≤ s then
    some (Sum.inr ((1 : Int32), δ))
  else
    if p5 = 0 then
      (gR σ 12 p0 0).bind fun v8 =>
      (rI σ δ v8 ((1023 : Int32) + ((3 : Int32) * s))).bind fun v9 =>
      if v9 = p1 then
        (gR σ 12 p0 0).bind fun v10 =>
        (rI σ δ v10 (((1023 : Int32) + ((3 : Int32) * s)) + (1 : Int32))).bind fun v11 =>
        if v11 = p2 then
          (gR σ 12 p0 0).bind fun v12 =>
          (rI σ δ v12 (((1023 : Int32) + ((3 : Int32) * s)) + (2 : Int32))).bind fun v13 =>
          if v13 = p3 then
            some (Sum.inr ((0 : Int32), δ))
          else
            m_X12_canFire_b302 σ p0 p1 p2 p3 p5 s δ
        else
          m_X12_canFire_b302 σ p0 p1 p2 p3 p5 s δ
      else
        m_X12_canFire_b302 σ p0 p1 p2 p3 p5 s δ
    else
      some (Sum.inr ((1 : Int32), δ))) (p6)
def m_X12_canFire_b217 (σ : St) (p0 : Nat) (p1 : Int32) (p2 : Int32) (p3 : Int32) (δ : Dy) : Option (Int32 × Dy) :=
  (chk σ 12 p0).bind fun _ => (m_X12_removes σ p0 p1 δ).bind fun v5 =>
  m_X12_canFire_b227 σ p0 p1 p2 p3 v5 (0 : Int32) δ
def m_X12_canFire_b209 (σ : St) (p0 : Nat) (p1 : Int32) (p2 : Int32) (p3 : Int32) (q0 : Nat) (q1 : Int32) (q2 : Int32) (q3 : Int32) (δ : Dy) : Option (Int32 × Dy) :=
  (chk σ 12 q0).bind fun _ => (m_X12_entails σ q0 q1 q2 q3 δ).bind fun v21 =>
  if v21 = 0 then
    some ((0 : Int32), δ)
  else
    m_X12_canFire_b217 σ p0 p1 p2 p3 δ
def m_X12_canFire_b60 (σ : St) (p0 : Nat) (p1 : Int32) (p2 : Int32) (p3 : Int32) (p4 : Int32) (p5 : Int32) (q0 : Int32) (δ : Dy) : Option ((Int32 × Dy) ⊕ (Int32 × Dy)) :=
  (gR σ 12 p0 0).bind fun v25 =>
  (rI σ δ v25 ((122 : Int32) + q0)).bind fun v26 =>
  (gR σ 12 p0 10).bind fun v27 =>
  (rI σ δ v27 p5).bind fun v28 =>
  if v26 = v28 then
    (gR σ 12 p0 10).bind fun v29 =>
    (rI σ δ v29 (p5 + (1 : Int32))).bind fun v30 =>
    (gR σ 12 p0 0).bind fun v31 =>
    (rI σ δ v31 ((222 : Int32) + q0)).bind fun v32 =>
    (chk σ 12 p0).bind fun _ => (m_X12_fits σ p0 v30 v32 δ).bind fun v33 =>
    if v33.1 = 0 then
      some (Sum.inr ((0 : Int32), v33.2))
    else
      (gR σ 12 p0 10).bind fun v34 =>
      (rI σ v33.2 v34 (p5 + (2 : Int32))).bind fun v35 =>
      (gR σ 12 p0 0).bind fun v36 =>
      (rI σ v33.2 v36 ((322 : Int32) + q0)).bind fun v37 =>
      (chk σ 12 p0).bind fun _ => (m_X12_fits σ p0 v35 v37 v33.2).bind fun v38 =>
      if v38.1 = 0 then
        some (Sum.inr ((0 : Int32), v38.2))
      else
        some (Sum.inl ((p4 + (1 : Int32)), v38.2))
  else
    some (Sum.inr ((0 : Int32), δ))
def m_X12_canFire_b28 (σ : St) (p0 : Nat) (p1 : Int32) (p2 : Int32) (p3 : Int32) (p4 : Int32) (δ : Dy) : Option (Int32 × Dy) := lp (fun (s : (Int32 × Dy)) =>
  (gR σ 12 p0 9).bind fun v1 =>
  (rI σ s.2 v1 p1).bind fun v2 =>
  if v2 ≤ s.1 then
    (gR σ 12 p0 11).bind fun v3 =>
    (rI σ s.2 v3 ((3 : Int32) * p1)).bind fun v4 =>
    if v4 = (-1 : Int32) then
      (m_X12_canFire_b217 σ p0 p1 p2 p3 s.2).bind fun r => some (Sum.inr r)
    else
      (gR σ 12 p0 11).bind fun v14 =>
      (rI σ s.2 v14 ((3 : Int32) * p1)).bind fun v15 =>
      (gR σ 12 p0 11).bind fun v16 =>
      (rI σ s.2 v16 (((3 : Int32) * p1) + (1 : Int32))).bind fun v17 =>
      (chk σ 12 p0).bind fun _ => (m_X12_termOf σ p0 v17 s.2).bind fun v18 =>
      (gR σ 12 p0 11).bind fun v19 =>
      (rI σ s.2 v19 ((3 : Int32) * p1)).bind fun v20 =>
      if v20 = (3 : Int32) then
        (m_X12_canFire_b209 σ p0 p1 p2 p3 p0 v15 v18 (0 : Int32) s.2).bind fun r => some (Sum.inr r)
      else
        (gR σ 12 p0 11).bind fun v22 =>
        (rI σ s.2 v22 (((3 : Int32) * p1) + (2 : Int32))).bind fun v23 =>
        (chk σ 12 p0).bind fun _ => (m_X12_termOf σ p0 v23 s.2).bind fun v24 =>
        (m_X12_canFire_b209 σ p0 p1 p2 p3 p0 v15 v18 v24 s.2).bind fun r => some (Sum.inr r)
  else
    if s.1 = 0 then
      m_X12_canFire_b60 σ p0 p1 p2 p3 s.1 (((8 : Int32) * p1) + ((4 : Int32) * s.1)) p2 s.2
    else
      m_X12_canFire_b60 σ p0 p1 p2 p3 s.1 (((8 : Int32) * p1) + ((4 : Int32) * s.1)) p3 s.2) (p4, δ)
def m_X12_canFire_b3 (σ : St) (p0 : Nat) (p1 : Int32) (p2 : Int32) (p3 : Int32) (p4 : Int32) (δ : Dy) : Option (Int32 × Dy) := lp (fun (s : (Int32 × Dy)) =>
  if (4 : Int32) ≤ s.1 then
    (m_X12_canFire_b28 σ p0 p1 p2 p3 (0 : Int32) s.2).bind fun r => some (Sum.inr r)
  else
    (gR σ 12 p0 38).bind fun v39 =>
    (wI σ s.2 v39 s.1 (300 : Int32)).bind fun d40 =>
    some (Sum.inl ((s.1 + (1 : Int32)), d40))) (p4, δ)
def m_X12_canFire (σ : St) (p0 : Nat) (p1 : Int32) (p2 : Int32) (p3 : Int32) (δ : Dy) : Option (Int32 × Dy) :=
  m_X12_canFire_b3 σ p0 p1 p2 p3 (0 : Int32) δ
set_option maxHeartbeats 4000000 in
set_option maxRecDepth 100000 in
theorem w_X12_canFire_b302 {J : JT} {an : Option Value × St × Dy} (hI : Isj cX12_canFire 7 RX12 "canFire" 4 94 (some .boolean) an J) {β : Bu} (σ : St) (p0 : Nat) (p1 : Int32) (p2 : Int32) (p3 : Int32) (p5 : Int32) (p6 : Int32) (δ : Dy) : SJ (m_X12_canFire_b302 σ p0 p1 p2 p3 p5 p6 δ) (PL (fun s : (Int32) => J 227 [(0, .ref p0), (1, .int p1), (2, .int p2), (3, .int p3), (5, .int p5), (6, .int s)] [] β σ δ) (PI σ an)) (J 302 [(0, .ref p0), (1, .int p1), (2, .int p2), (3, .int p3), (5, .int p5), (6, .int p6)] [] β σ δ) := by
  have hJ := hI.cor
  unfold m_X12_canFire_b302
  refine sj (j_iinc hJ (L' := [(6, .int (p6 + (1 : Int32))), (0, .ref p0), (1, .int p1), (2, .int p2), (3, .int p3), (5, .int p5)]) dX12_canFire_302 5 rfl (congrArg (fun z => p6 + z) ic_1) (by decide) rfl) ?_
  refine sj (j_goto hJ (tgt := 227) dX12_canFire_305 (by decide)) ?_
  refine sj (j_sub hJ (L' := [(0, .ref p0), (1, .int p1), (2, .int p2), (3, .int p3), (5, .int p5), (6, .int (p6 + (1 : Int32)))]) [1, 2, 3, 4, 5, 0] rfl) ?_
  exact sj_end (fun h => h)
set_option maxHeartbeats 4000000 in
set_option maxRecDepth 100000 in
theorem w_X12_canFire_b227 {J : JT} {an : Option Value × St × Dy} (hI : Isj cX12_canFire 7 RX12 "canFire" 4 94 (some .boolean) an J) {β : Bu} (σ : St) (p0 : Nat) (p1 : Int32) (p2 : Int32) (p3 : Int32) (p5 : Int32) (p6 : Int32) (δ : Dy) : SJ (m_X12_canFire_b227 σ p0 p1 p2 p3 p5 p6 δ) (PI σ an) (J 227 [(0, .ref p0), (1, .int p1), (2, .int p2), (3, .int p3), (5, .int p5), (6, .int p6)] [] β σ δ) := by
  have hJ := hI.cor
  unfold m_X12_canFire_b227
  refine sj_lp (G := fun s : (Int32) => J 227 [(0, .ref p0), (1, .int p1), (2, .int p2), (3, .int p3), (5, .int p5), (6, .int s)] [] β σ δ) (fun s => ?_) (p6)
  refine sj (j_iload hJ dX12_canFire_227 5 rfl) ?_
  refine sj (j_aload_n hJ dX12_canFire_229 rfl 0 rfl) ?_
  refine sj_gR hJ fl_X12_7 rfl dX12_canFire_230 (fun v6 => ?_)
  refine sj (j_sipush hJ (v := 1022) dX12_canFire_233 is_1022) ?_
  refine sj_rI hJ dX12_canFire_236 (fun v7 => ?_)
  refine sj_if (j_icmp_ge hJ (tgt := 308) dX12_canFire_237 (by decide)) (fun _ => ?_) (fun _ => ?_)
  · refine sj (j_iconst hJ (v := 1) dX12_canFire_308 ic_1) ?_
    exact sj_zret hI (by decide) dX12_canFire_309 (fun h => h)
  · refine sj (j_iload hJ dX12_canFire_240 4 rfl) ?_
    refine sj_if (j_if_ne hJ (tgt := 308) dX12_canFire_242 (by decide)) (fun _ => ?_) (fun _ => ?_)
    · refine sj (j_aload_n hJ dX12_canFire_245 rfl 0 rfl) ?_
      refine sj_gR hJ fl_X12_7 rfl dX12_canFire_246 (fun v8 => ?_)
      refine sj (j_sipush hJ (v := 1023) dX12_canFire_249 is_1023) ?_
      refine sj (j_iconst hJ (v := 3) dX12_canFire_252 ic_3) ?_
      refine sj (j_iload hJ dX12_canFire_253 5 rfl) ?_
      refine sj (j_imul hJ dX12_canFire_255) ?_
      refine sj (j_iadd hJ dX12_canFire_256) ?_
      refine sj_rI hJ dX12_canFire_257 (fun v9 => ?_)
      refine sj (j_iload_n hJ dX12_canFire_258 rfl 1 rfl) ?_
      refine sj_if (j_icmp_ne hJ (tgt := 302) dX12_canFire_259 (by decide)) (fun _ => ?_) (fun _ => ?_)
      · refine sj (j_aload_n hJ dX12_canFire_262 rfl 0 rfl) ?_
        refine sj_gR hJ fl_X12_7 rfl dX12_canFire_263 (fun v10 => ?_)
        refine sj (j_sipush hJ (v := 1023) dX12_canFire_266 is_1023) ?_
        refine sj (j_iconst hJ (v := 3) dX12_canFire_269 ic_3) ?_
        refine sj (j_iload hJ dX12_canFire_270 5 rfl) ?_
        refine sj (j_imul hJ dX12_canFire_272) ?_
        refine sj (j_iadd hJ dX12_canFire_273) ?_
        refine sj (j_iconst hJ (v := 1) dX12_canFire_274 ic_1) ?_
        refine sj (j_iadd hJ dX12_canFire_275) ?_
        refine sj_rI hJ dX12_canFire_276 (fun v11 => ?_)
        refine sj (j_iload_n hJ dX12_canFire_277 rfl 2 rfl) ?_
        refine sj_if (j_icmp_ne hJ (tgt := 302) dX12_canFire_278 (by decide)) (fun _ => ?_) (fun _ => ?_)
        · refine sj (j_aload_n hJ dX12_canFire_281 rfl 0 rfl) ?_
          refine sj_gR hJ fl_X12_7 rfl dX12_canFire_282 (fun v12 => ?_)
          refine sj (j_sipush hJ (v := 1023) dX12_canFire_285 is_1023) ?_
          refine sj (j_iconst hJ (v := 3) dX12_canFire_288 ic_3) ?_
          refine sj (j_iload hJ dX12_canFire_289 5 rfl) ?_
          refine sj (j_imul hJ dX12_canFire_291) ?_
          refine sj (j_iadd hJ dX12_canFire_292) ?_
          refine sj (j_iconst hJ (v := 2) dX12_canFire_293 ic_2) ?_
          refine sj (j_iadd hJ dX12_canFire_294) ?_
          refine sj_rI hJ dX12_canFire_295 (fun v13 => ?_)
          refine sj (j_iload_n hJ dX12_canFire_296 rfl 3 rfl) ?_
          refine sj_if (j_icmp_ne hJ (tgt := 302) dX12_canFire_297 (by decide)) (fun _ => ?_) (fun _ => ?_)
          · refine sj (j_iconst hJ (v := 0) dX12_canFire_300 ic_0) ?_
            exact sj_zret hI (by decide) dX12_canFire_301 (fun h => h)
          · exact w_X12_canFire_b302 hI σ p0 p1 p2 p3 p5 s δ
        · exact w_X12_canFire_b302 hI σ p0 p1 p2 p3 p5 s δ
      · exact w_X12_canFire_b302 hI σ p0 p1 p2 p3 p5 s δ
    · refine sj (j_iconst hJ (v := 1) dX12_canFire_308 ic_1) ?_
      exact sj_zret hI (by decide) dX12_canFire_309 (fun h => h)
set_option maxHeartbeats 4000000 in
set_option maxRecDepth 100000 in
theorem w_X12_canFire_b217 {J : JT} {an : Option Value × St × Dy} (hI : Isj cX12_canFire 7 RX12 "canFire" 4 94 (some .boolean) an J) {β : Bu} (σ : St) (p0 : Nat) (p1 : Int32) (p2 : Int32) (p3 : Int32) (δ : Dy) : SJ (m_X12_canFire_b217 σ p0 p1 p2 p3 δ) (PI σ an) (J 217 [(0, .ref p0), (1, .int p1), (2, .int p2), (3, .int p3)] [] β σ δ) := by
  have hJ := hI.cor
  unfold m_X12_canFire_b217
  refine sj (j_aload_n hJ dX12_canFire_217 rfl 0 rfl) ?_
  refine sj (j_iload_n hJ dX12_canFire_218 rfl 1 rfl) ?_
  refine sj_callVip hJ [.int p1] (st := []) (fr' := 0) (lo' := 0) ml_X12_178 hc_12 (by decide) (by decide) (Nat.le_of_ble_eq_true rfl) dX12_canFire_219 rfl (fun _ h9 => ct_X12_removes h9) (fun v5 => ?_)
  refine sj (j_istore hJ (L' := [(5, .int v5), (0, .ref p0), (1, .int p1), (2, .int p2), (3, .int p3)]) dX12_canFire_222 (by decide) rfl) ?_
  refine sj (j_iconst hJ (v := 0) dX12_canFire_224 ic_0) ?_
  refine sj (j_istore hJ (L' := [(6, .int (0 : Int32)), (5, .int v5), (0, .ref p0), (1, .int p1), (2, .int p2), (3, .int p3)]) dX12_canFire_225 (by decide) rfl) ?_
  refine sj (j_sub hJ (L' := [(0, .ref p0), (1, .int p1), (2, .int p2), (3, .int p3), (5, .int v5), (6, .int (0 : Int32))]) [2, 3, 4, 5, 1, 0] rfl) ?_
  exact w_X12_canFire_b227 hI σ p0 p1 p2 p3 v5 (0 : Int32) δ
set_option maxHeartbeats 4000000 in
set_option maxRecDepth 100000 in
theorem w_X12_canFire_b209 {J : JT} {an : Option Value × St × Dy} (hI : Isj cX12_canFire 7 RX12 "canFire" 4 94 (some .boolean) an J) {β : Bu} (σ : St) (p0 : Nat) (p1 : Int32) (p2 : Int32) (p3 : Int32) (q0 : Nat) (q1 : Int32) (q2 : Int32) (q3 : Int32) (δ : Dy) : SJ (m_X12_canFire_b209 σ p0 p1 p2 p3 q0 q1 q2 q3 δ) (PI σ an) (J 209 [(0, .ref p0), (1, .int p1), (2, .int p2), (3, .int p3)] [.int q3, .int q2, .int q1, .ref q0] β σ δ) := by
  have hJ := hI.cor
  unfold m_X12_canFire_b209
  refine sj_callVip hJ [.int q1, .int q2, .int q3] (st := []) (fr' := 3) (lo' := 68) ml_X12_175 hc_12 (by decide) (by decide) (Nat.le_of_ble_eq_true rfl) dX12_canFire_209 rfl (fun _ h9 => ct_X12_entails h9) (fun v21 => ?_)
  refine sj_if (j_if_ne hJ (tgt := 217) dX12_canFire_212 (by decide)) (fun _ => ?_) (fun _ => ?_)
  · refine sj (j_iconst hJ (v := 0) dX12_canFire_215 ic_0) ?_
    exact sj_zret hI (by decide) dX12_canFire_216 (fun h => h)
  · exact w_X12_canFire_b217 hI σ p0 p1 p2 p3 δ
set_option maxHeartbeats 4000000 in
set_option maxRecDepth 100000 in
theorem w_X12_canFire_b60 {J : JT} {an : Option Value × St × Dy} (hI : Isj cX12_canFire 7 RX12 "canFire" 4 94 (some .boolean) an J) {β : Bu} (σ : St) (p0 : Nat) (p1 : Int32) (p2 : Int32) (p3 : Int32) (p4 : Int32) (p5 : Int32) (q0 : Int32) (δ : Dy) : SJ (m_X12_canFire_b60 σ p0 p1 p2 p3 p4 p5 q0 δ) (PL (fun s : (Int32 × Dy) => J 28 [(0, .ref p0), (1, .int p1), (2, .int p2), (3, .int p3), (4, .int s.1)] [] β σ s.2) (PI σ an)) (J 60 [(0, .ref p0), (1, .int p1), (2, .int p2), (3, .int p3), (4, .int p4), (5, .int p5)] [.int q0] β σ δ) := by
  have hJ := hI.cor
  unfold m_X12_canFire_b60
  refine sj (j_istore hJ (L' := [(6, .int q0), (0, .ref p0), (1, .int p1), (2, .int p2), (3, .int p3), (4, .int p4), (5, .int p5)]) dX12_canFire_60 (by decide) rfl) ?_
  refine sj (j_aload_n hJ dX12_canFire_62 rfl 1 rfl) ?_
  refine sj_gR hJ fl_X12_7 rfl dX12_canFire_63 (fun v25 => ?_)
  refine sj (j_bipush hJ (v := 122) dX12_canFire_66 ib_122) ?_
  refine sj (j_iload hJ dX12_canFire_68 0 rfl) ?_
  refine sj (j_iadd hJ dX12_canFire_70) ?_
  refine sj_rI hJ dX12_canFire_71 (fun v26 => ?_)
  refine sj (j_aload_n hJ dX12_canFire_72 rfl 1 rfl) ?_
  refine sj_gR hJ fl_X12_37 rfl dX12_canFire_73 (fun v27 => ?_)
  refine sj (j_iload hJ dX12_canFire_76 6 rfl) ?_
  refine sj_rI hJ dX12_canFire_78 (fun v28 => ?_)
  refine sj_if (j_icmp_ne hJ (tgt := 136) dX12_canFire_79 (by decide)) (fun _ => ?_) (fun _ => ?_)
  · refine sj (j_aload_n hJ dX12_canFire_82 rfl 1 rfl) ?_
    refine sj (j_aload_n hJ dX12_canFire_83 rfl 1 rfl) ?_
    refine sj_gR hJ fl_X12_37 rfl dX12_canFire_84 (fun v29 => ?_)
    refine sj (j_iload hJ dX12_canFire_87 6 rfl) ?_
    refine sj (j_iconst hJ (v := 1) dX12_canFire_89 ic_1) ?_
    refine sj (j_iadd hJ dX12_canFire_90) ?_
    refine sj_rI hJ dX12_canFire_91 (fun v30 => ?_)
    refine sj (j_aload_n hJ dX12_canFire_92 rfl 1 rfl) ?_
    refine sj_gR hJ fl_X12_7 rfl dX12_canFire_93 (fun v31 => ?_)
    refine sj (j_sipush hJ (v := 222) dX12_canFire_96 is_222) ?_
    refine sj (j_iload hJ dX12_canFire_99 0 rfl) ?_
    refine sj (j_iadd hJ dX12_canFire_101) ?_
    refine sj_rI hJ dX12_canFire_102 (fun v32 => ?_)
    refine sj_callVi hJ [.int v30, .int v32] (st := []) (fr' := 2) (lo' := 44) ml_X12_169 hc_12 (by decide) (by decide) (Nat.le_of_ble_eq_true rfl) dX12_canFire_103 rfl (fun _ h9 => ct_X12_fits h9) (fun v33 => ?_)
    refine sj_if (j_if_eq hJ (tgt := 136) dX12_canFire_106 (by decide)) (fun _ => ?_) (fun _ => ?_)
    · refine sj (j_iconst hJ (v := 0) dX12_canFire_136 ic_0) ?_
      exact sj_zret hI (by decide) dX12_canFire_137 (fun h => h)
    · refine sj (j_aload_n hJ dX12_canFire_109 rfl 1 rfl) ?_
      refine sj (j_aload_n hJ dX12_canFire_110 rfl 1 rfl) ?_
      refine sj_gR hJ fl_X12_37 rfl dX12_canFire_111 (fun v34 => ?_)
      refine sj (j_iload hJ dX12_canFire_114 6 rfl) ?_
      refine sj (j_iconst hJ (v := 2) dX12_canFire_116 ic_2) ?_
      refine sj (j_iadd hJ dX12_canFire_117) ?_
      refine sj_rI hJ dX12_canFire_118 (fun v35 => ?_)
      refine sj (j_aload_n hJ dX12_canFire_119 rfl 1 rfl) ?_
      refine sj_gR hJ fl_X12_7 rfl dX12_canFire_120 (fun v36 => ?_)
      refine sj (j_sipush hJ (v := 322) dX12_canFire_123 is_322) ?_
      refine sj (j_iload hJ dX12_canFire_126 0 rfl) ?_
      refine sj (j_iadd hJ dX12_canFire_128) ?_
      refine sj_rI hJ dX12_canFire_129 (fun v37 => ?_)
      refine sj_callVi hJ [.int v35, .int v37] (st := []) (fr' := 2) (lo' := 44) ml_X12_169 hc_12 (by decide) (by decide) (Nat.le_of_ble_eq_true rfl) dX12_canFire_130 rfl (fun _ h9 => ct_X12_fits h9) (fun v38 => ?_)
      refine sj_if (j_if_ne hJ (tgt := 138) dX12_canFire_133 (by decide)) (fun _ => ?_) (fun _ => ?_)
      · refine sj (j_iconst hJ (v := 0) dX12_canFire_136 ic_0) ?_
        exact sj_zret hI (by decide) dX12_canFire_137 (fun h => h)
      · refine sj (j_iinc hJ (L' := [(4, .int (p4 + (1 : Int32))), (6, .int q0), (0, .ref p0), (1, .int p1), (2, .int p2), (3, .int p3), (5, .int p5)]) dX12_canFire_138 5 rfl (congrArg (fun z => p4 + z) ic_1) (by decide) rfl) ?_
        refine sj (j_goto hJ (tgt := 28) dX12_canFire_141 (by decide)) ?_
        refine sj (j_sub hJ (L' := [(0, .ref p0), (1, .int p1), (2, .int p2), (3, .int p3), (4, .int (p4 + (1 : Int32)))]) [2, 3, 4, 5, 0] rfl) ?_
        exact sj_end (fun h => h)
  · refine sj (j_iconst hJ (v := 0) dX12_canFire_136 ic_0) ?_
    exact sj_zret hI (by decide) dX12_canFire_137 (fun h => h)
set_option maxHeartbeats 4000000 in
set_option maxRecDepth 100000 in
theorem w_X12_canFire_b28 {J : JT} {an : Option Value × St × Dy} (hI : Isj cX12_canFire 7 RX12 "canFire" 4 94 (some .boolean) an J) {β : Bu} (σ : St) (p0 : Nat) (p1 : Int32) (p2 : Int32) (p3 : Int32) (p4 : Int32) (δ : Dy) : SJ (m_X12_canFire_b28 σ p0 p1 p2 p3 p4 δ) (PI σ an) (J 28 [(0, .ref p0), (1, .int p1), (2, .int p2), (3, .int p3), (4, .int p4)] [] β σ δ) := by
  have hJ := hI.cor
  unfold m_X12_canFire_b28
  refine sj_lp (G := fun s : (Int32 × Dy) => J 28 [(0, .ref p0), (1, .int p1), (2, .int p2), (3, .int p3), (4, .int s.1)] [] β σ s.2) (fun s => ?_) (p4, δ)
  refine sj (j_iload hJ dX12_canFire_28 4 rfl) ?_
  refine sj (j_aload_n hJ dX12_canFire_30 rfl 0 rfl) ?_
  refine sj_gR hJ fl_X12_34 rfl dX12_canFire_31 (fun v1 => ?_)
  refine sj (j_iload_n hJ dX12_canFire_34 rfl 1 rfl) ?_
  refine sj_rI hJ dX12_canFire_35 (fun v2 => ?_)
  refine sj_if (j_icmp_ge hJ (tgt := 144) dX12_canFire_36 (by decide)) (fun _ => ?_) (fun _ => ?_)
  · refine sj (j_iconst hJ (v := 3) dX12_canFire_144 ic_3) ?_
    refine sj (j_iload_n hJ dX12_canFire_145 rfl 1 rfl) ?_
    refine sj (j_imul hJ dX12_canFire_146) ?_
    refine sj (j_istore hJ (L' := [(4, .int ((3 : Int32) * p1)), (0, .ref p0), (1, .int p1), (2, .int p2), (3, .int p3)]) dX12_canFire_147 (by decide) rfl) ?_
    refine sj (j_aload_n hJ dX12_canFire_149 rfl 1 rfl) ?_
    refine sj_gR hJ fl_X12_40 rfl dX12_canFire_150 (fun v3 => ?_)
    refine sj (j_iload hJ dX12_canFire_153 0 rfl) ?_
    refine sj_rI hJ dX12_canFire_155 (fun v4 => ?_)
    refine sj (j_iconst hJ (v := -1) dX12_canFire_156 ic_m1) ?_
    refine sj_if (j_icmp_eq hJ (tgt := 217) dX12_canFire_157 (by decide)) (fun _ => ?_) (fun _ => ?_)
    · refine sj (j_sub hJ (L' := [(0, .ref p0), (1, .int p1), (2, .int p2), (3, .int p3)]) [1, 2, 3, 4] rfl) ?_
      refine sj_map ?_
      exact w_X12_canFire_b217 hI σ p0 p1 p2 p3 s.2
    · refine sj (j_aload_n hJ dX12_canFire_160 rfl 1 rfl) ?_
      refine sj (j_aload_n hJ dX12_canFire_161 rfl 1 rfl) ?_
      refine sj_gR hJ fl_X12_40 rfl dX12_canFire_162 (fun v14 => ?_)
      refine sj (j_iload hJ dX12_canFire_165 0 rfl) ?_
      refine sj_rI hJ dX12_canFire_167 (fun v15 => ?_)
      refine sj (j_aload_n hJ dX12_canFire_168 rfl 1 rfl) ?_
      refine sj (j_aload_n hJ dX12_canFire_169 rfl 1 rfl) ?_
      refine sj_gR hJ fl_X12_40 rfl dX12_canFire_170 (fun v16 => ?_)
      refine sj (j_iload hJ dX12_canFire_173 0 rfl) ?_
      refine sj (j_iconst hJ (v := 1) dX12_canFire_175 ic_1) ?_
      refine sj (j_iadd hJ dX12_canFire_176) ?_
      refine sj_rI hJ dX12_canFire_177 (fun v17 => ?_)
      refine sj_callVip hJ [.int v17] (st := [.int v15, .ref p0]) (fr' := 1) (lo' := 22) ml_X12_172 hc_12 (by decide) (by decide) (Nat.le_of_ble_eq_true rfl) dX12_canFire_178 rfl (fun _ h9 => ct_X12_termOf h9) (fun v18 => ?_)
      refine sj (j_aload_n hJ dX12_canFire_181 rfl 1 rfl) ?_
      refine sj_gR hJ fl_X12_40 rfl dX12_canFire_182 (fun v19 => ?_)
      refine sj (j_iload hJ dX12_canFire_185 0 rfl) ?_
      refine sj_rI hJ dX12_canFire_187 (fun v20 => ?_)
      refine sj (j_iconst hJ (v := 3) dX12_canFire_188 ic_3) ?_
      refine sj_if (j_icmp_ne hJ (tgt := 196) dX12_canFire_189 (by decide)) (fun _ => ?_) (fun _ => ?_)
      · refine sj (j_iconst hJ (v := 0) dX12_canFire_192 ic_0) ?_
        refine sj (j_goto hJ (tgt := 209) dX12_canFire_193 (by decide)) ?_
        refine sj (j_sub hJ (L' := [(0, .ref p0), (1, .int p1), (2, .int p2), (3, .int p3)]) [1, 2, 3, 4] rfl) ?_
        refine sj_map ?_
        exact w_X12_canFire_b209 hI σ p0 p1 p2 p3 p0 v15 v18 (0 : Int32) s.2
      · refine sj (j_aload_n hJ dX12_canFire_196 rfl 1 rfl) ?_
        refine sj (j_aload_n hJ dX12_canFire_197 rfl 1 rfl) ?_
        refine sj_gR hJ fl_X12_40 rfl dX12_canFire_198 (fun v22 => ?_)
        refine sj (j_iload hJ dX12_canFire_201 0 rfl) ?_
        refine sj (j_iconst hJ (v := 2) dX12_canFire_203 ic_2) ?_
        refine sj (j_iadd hJ dX12_canFire_204) ?_
        refine sj_rI hJ dX12_canFire_205 (fun v23 => ?_)
        refine sj_callVip hJ [.int v23] (st := [.int v18, .int v15, .ref p0]) (fr' := 1) (lo' := 22) ml_X12_172 hc_12 (by decide) (by decide) (Nat.le_of_ble_eq_true rfl) dX12_canFire_206 rfl (fun _ h9 => ct_X12_termOf h9) (fun v24 => ?_)
        refine sj (j_sub hJ (L' := [(0, .ref p0), (1, .int p1), (2, .int p2), (3, .int p3)]) [1, 2, 3, 4] rfl) ?_
        refine sj_map ?_
        exact w_X12_canFire_b209 hI σ p0 p1 p2 p3 p0 v15 v18 v24 s.2
  · refine sj (j_bipush hJ (v := 8) dX12_canFire_39 ib_8) ?_
    refine sj (j_iload_n hJ dX12_canFire_41 rfl 1 rfl) ?_
    refine sj (j_imul hJ dX12_canFire_42) ?_
    refine sj (j_iconst hJ (v := 4) dX12_canFire_43 ic_4) ?_
    refine sj (j_iload hJ dX12_canFire_44 4 rfl) ?_
    refine sj (j_imul hJ dX12_canFire_46) ?_
    refine sj (j_iadd hJ dX12_canFire_47) ?_
    refine sj (j_istore hJ (L' := [(5, .int (((8 : Int32) * p1) + ((4 : Int32) * s.1))), (0, .ref p0), (1, .int p1), (2, .int p2), (3, .int p3), (4, .int s.1)]) dX12_canFire_48 (by decide) rfl) ?_
    refine sj (j_iload hJ dX12_canFire_50 5 rfl) ?_
    refine sj_if (j_if_ne hJ (tgt := 59) dX12_canFire_52 (by decide)) (fun _ => ?_) (fun _ => ?_)
    · refine sj (j_iload_n hJ dX12_canFire_55 rfl 3 rfl) ?_
      refine sj (j_goto hJ (tgt := 60) dX12_canFire_56 (by decide)) ?_
      refine sj (j_sub hJ (L' := [(0, .ref p0), (1, .int p1), (2, .int p2), (3, .int p3), (4, .int s.1), (5, .int (((8 : Int32) * p1) + ((4 : Int32) * s.1)))]) [1, 2, 3, 4, 5, 0] rfl) ?_
      exact w_X12_canFire_b60 hI σ p0 p1 p2 p3 s.1 (((8 : Int32) * p1) + ((4 : Int32) * s.1)) p2 s.2
    · refine sj (j_iload_n hJ dX12_canFire_59 rfl 4 rfl) ?_
      refine sj (j_sub hJ (L' := [(0, .ref p0), (1, .int p1), (2, .int p2), (3, .int p3), (4, .int s.1), (5, .int (((8 : Int32) * p1) + ((4 : Int32) * s.1)))]) [1, 2, 3, 4, 5, 0] rfl) ?_
      exact w_X12_canFire_b60 hI σ p0 p1 p2 p3 s.1 (((8 : Int32) * p1) + ((4 : Int32) * s.1)) p3 s.2
set_option maxHeartbeats 4000000 in
set_option maxRecDepth 100000 in
theorem w_X12_canFire_b3 {J : JT} {an : Option Value × St × Dy} (hI : Isj cX12_canFire 7 RX12 "canFire" 4 94 (some .boolean) an J) {β : Bu} (σ : St) (p0 : Nat) (p1 : Int32) (p2 : Int32) (p3 : Int32) (p4 : Int32) (δ : Dy) : SJ (m_X12_canFire_b3 σ p0 p1 p2 p3 p4 δ) (PI σ an) (J 3 [(0, .ref p0), (1, .int p1), (2, .int p2), (3, .int p3), (4, .int p4)] [] β σ δ) := by
  have hJ := hI.cor
  unfold m_X12_canFire_b3
  refine sj_lp (G := fun s : (Int32 × Dy) => J 3 [(0, .ref p0), (1, .int p1), (2, .int p2), (3, .int p3), (4, .int s.1)] [] β σ s.2) (fun s => ?_) (p4, δ)
  refine sj (j_iload hJ dX12_canFire_3 4 rfl) ?_
  refine sj (j_iconst hJ (v := 4) dX12_canFire_5 ic_4) ?_
  refine sj_if (j_icmp_ge hJ (tgt := 25) dX12_canFire_6 (by decide)) (fun _ => ?_) (fun _ => ?_)
  · refine sj (j_iconst hJ (v := 0) dX12_canFire_25 ic_0) ?_
    refine sj (j_istore hJ (L' := [(4, .int (0 : Int32)), (0, .ref p0), (1, .int p1), (2, .int p2), (3, .int p3)]) dX12_canFire_26 (by decide) rfl) ?_
    refine sj (j_sub hJ (L' := [(0, .ref p0), (1, .int p1), (2, .int p2), (3, .int p3), (4, .int (0 : Int32))]) [1, 2, 3, 4, 0] rfl) ?_
    refine sj_map ?_
    exact w_X12_canFire_b28 hI σ p0 p1 p2 p3 (0 : Int32) s.2
  · refine sj (j_aload_n hJ dX12_canFire_9 rfl 0 rfl) ?_
    refine sj_gR hJ fl_X12_94 rfl dX12_canFire_10 (fun v39 => ?_)
    refine sj (j_iload hJ dX12_canFire_13 4 rfl) ?_
    refine sj (j_sipush hJ (v := 300) dX12_canFire_15 is_300) ?_
    refine sj_wI hJ dX12_canFire_18 (fun d40 => ?_)
    refine sj (j_iinc hJ (L' := [(4, .int (s.1 + (1 : Int32))), (0, .ref p0), (1, .int p1), (2, .int p2), (3, .int p3)]) dX12_canFire_19 4 rfl (congrArg (fun z => s.1 + z) ic_1) (by decide) rfl) ?_
    refine sj (j_goto hJ (tgt := 3) dX12_canFire_22 (by decide)) ?_
    refine sj (j_sub hJ (L' := [(0, .ref p0), (1, .int p1), (2, .int p2), (3, .int p3), (4, .int (s.1 + (1 : Int32)))]) [1, 2, 3, 4, 0] rfl) ?_
    exact sj_end (fun h => h)
set_option maxHeartbeats 4000000 in
set_option maxRecDepth 100000 in
theorem w_X12_canFire {J : JT} {an : Option Value × St × Dy} (hI : Isj cX12_canFire 7 RX12 "canFire" 4 94 (some .boolean) an J) {β : Bu} (σ : St) (p0 : Nat) (p1 : Int32) (p2 : Int32) (p3 : Int32) (δ : Dy) : SJ (m_X12_canFire σ p0 p1 p2 p3 δ) (PI σ an) (J 0 [(0, .ref p0), (1, .int p1), (2, .int p2), (3, .int p3)] [] β σ δ) := by
  have hJ := hI.cor
  unfold m_X12_canFire
  refine sj (j_iconst hJ (v := 0) dX12_canFire_0 ic_0) ?_
  refine sj (j_istore hJ (L' := [(4, .int (0 : Int32)), (0, .ref p0), (1, .int p1), (2, .int p2), (3, .int p3)]) dX12_canFire_1 (by decide) rfl) ?_
  refine sj (j_sub hJ (L' := [(0, .ref p0), (1, .int p1), (2, .int p2), (3, .int p3), (4, .int (0 : Int32))]) [1, 2, 3, 4, 0] rfl) ?_
  exact w_X12_canFire_b3 hI σ p0 p1 p2 p3 (0 : Int32) δ
theorem ct_X12_canFire {σ : St} {p0 : Nat} {p1 : Int32} {p2 : Int32} {p3 : Int32} {δ : Dy} {r : (Int32 × Dy)} (h : m_X12_canFire σ p0 p1 p2 p3 δ = some r) : CT yX12_canFire cX12_canFire 7 (some .boolean) 4 94 0 0 [.ref p0, .int p1, .int p2, .int p3] σ δ ((some (.int r.1)), σ, r.2) := CT_of (by decide +kernel) (Nat.le_of_ble_eq_true rfl) (fun J hI => w_X12_canFire hI σ p0 p1 p2 p3 δ r h rfl)
def m_X12_addSlice_b2 (σ : St) (p0 : Nat) (p1 : Int32) (p2 : Int32) (δ : Dy) : Option Dy := lp (fun (s : (Int32 × Dy)) =>
  if (4 : Int32) ≤ s.1 then
    (gR σ 12 p0 39).bind fun v1 =>
    (dvI p1 (32 : Int32)).bind fun v2 =>
    (rI σ s.2 v1 v2).bind fun v3 =>
    (rmI p1 (32 : Int32)).bind fun v4 =>
    (wI σ s.2 v1 v2 (v3 ||| ((1 : Int32) <<< (v4 &&& 31)))).bind fun d5 =>
    some (Sum.inr d5)
  else
    (gR σ 12 p0 39).bind fun v6 =>
    (rI σ s.2 v6 s.1).bind fun v7 =>
    (gR σ 12 p0 0).bind fun v8 =>
    (rI σ s.2 v8 (((622 : Int32) + ((4 : Int32) * p1)) + s.1)).bind fun v9 =>
    (wI σ s.2 v6 s.1 (v7 ||| v9)).bind fun d10 =>
    some (Sum.inl ((s.1 + (1 : Int32)), d10))) (p2, δ)
def m_X12_addSlice (σ : St) (p0 : Nat) (p1 : Int32) (δ : Dy) : Option Dy :=
  m_X12_addSlice_b2 σ p0 p1 (0 : Int32) δ
set_option maxHeartbeats 4000000 in
set_option maxRecDepth 100000 in
theorem w_X12_addSlice_b2 {J : JT} {an : Option Value × St × Dy} (hI : Isj cX12_addSlice 3 RX12 "addSlice" 0 0 none an J) {β : Bu} (σ : St) (p0 : Nat) (p1 : Int32) (p2 : Int32) (δ : Dy) : SJ (m_X12_addSlice_b2 σ p0 p1 p2 δ) (PV σ an) (J 2 [(0, .ref p0), (1, .int p1), (2, .int p2)] [] β σ δ) := by
  have hJ := hI.cor
  unfold m_X12_addSlice_b2
  refine sj_lp (G := fun s : (Int32 × Dy) => J 2 [(0, .ref p0), (1, .int p1), (2, .int s.1)] [] β σ s.2) (fun s => ?_) (p2, δ)
  refine sj (j_iload_n hJ dX12_addSlice_2 rfl 2 rfl) ?_
  refine sj (j_iconst hJ (v := 4) dX12_addSlice_3 ic_4) ?_
  refine sj_if (j_icmp_ge hJ (tgt := 36) dX12_addSlice_4 (by decide)) (fun _ => ?_) (fun _ => ?_)
  · refine sj (j_aload_n hJ dX12_addSlice_36 rfl 0 rfl) ?_
    refine sj_gR hJ fl_X12_97 rfl dX12_addSlice_37 (fun v1 => ?_)
    refine sj (j_iload_n hJ dX12_addSlice_40 rfl 1 rfl) ?_
    refine sj (j_bipush hJ (v := 32) dX12_addSlice_41 ib_32) ?_
    refine sj_dvI hJ dX12_addSlice_43 (fun v2 => ?_)
    refine sj (j_dup2 hJ dX12_addSlice_44 rfl rfl) ?_
    refine sj_rI hJ dX12_addSlice_45 (fun v3 => ?_)
    refine sj (j_iconst hJ (v := 1) dX12_addSlice_46 ic_1) ?_
    refine sj (j_iload_n hJ dX12_addSlice_47 rfl 1 rfl) ?_
    refine sj (j_bipush hJ (v := 32) dX12_addSlice_48 ib_32) ?_
    refine sj_rmI hJ dX12_addSlice_50 (fun v4 => ?_)
    refine sj (j_ishl hJ dX12_addSlice_51) ?_
    refine sj (j_ior hJ dX12_addSlice_52) ?_
    refine sj_wI hJ dX12_addSlice_53 (fun d5 => ?_)
    exact sj_vret hI dX12_addSlice_54 (fun h => h)
  · refine sj (j_aload_n hJ dX12_addSlice_7 rfl 0 rfl) ?_
    refine sj_gR hJ fl_X12_97 rfl dX12_addSlice_8 (fun v6 => ?_)
    refine sj (j_iload_n hJ dX12_addSlice_11 rfl 2 rfl) ?_
    refine sj (j_dup2 hJ dX12_addSlice_12 rfl rfl) ?_
    refine sj_rI hJ dX12_addSlice_13 (fun v7 => ?_)
    refine sj (j_aload_n hJ dX12_addSlice_14 rfl 0 rfl) ?_
    refine sj_gR hJ fl_X12_7 rfl dX12_addSlice_15 (fun v8 => ?_)
    refine sj (j_sipush hJ (v := 622) dX12_addSlice_18 is_622) ?_
    refine sj (j_iconst hJ (v := 4) dX12_addSlice_21 ic_4) ?_
    refine sj (j_iload_n hJ dX12_addSlice_22 rfl 1 rfl) ?_
    refine sj (j_imul hJ dX12_addSlice_23) ?_
    refine sj (j_iadd hJ dX12_addSlice_24) ?_
    refine sj (j_iload_n hJ dX12_addSlice_25 rfl 2 rfl) ?_
    refine sj (j_iadd hJ dX12_addSlice_26) ?_
    refine sj_rI hJ dX12_addSlice_27 (fun v9 => ?_)
    refine sj (j_ior hJ dX12_addSlice_28) ?_
    refine sj_wI hJ dX12_addSlice_29 (fun d10 => ?_)
    refine sj (j_iinc hJ (L' := [(2, .int (s.1 + (1 : Int32))), (0, .ref p0), (1, .int p1)]) dX12_addSlice_30 2 rfl (congrArg (fun z => s.1 + z) ic_1) (by decide) rfl) ?_
    refine sj (j_goto hJ (tgt := 2) dX12_addSlice_33 (by decide)) ?_
    refine sj (j_sub hJ (L' := [(0, .ref p0), (1, .int p1), (2, .int (s.1 + (1 : Int32)))]) [1, 2, 0] rfl) ?_
    exact sj_end (fun h => h)
set_option maxHeartbeats 4000000 in
set_option maxRecDepth 100000 in
theorem w_X12_addSlice {J : JT} {an : Option Value × St × Dy} (hI : Isj cX12_addSlice 3 RX12 "addSlice" 0 0 none an J) {β : Bu} (σ : St) (p0 : Nat) (p1 : Int32) (δ : Dy) : SJ (m_X12_addSlice σ p0 p1 δ) (PV σ an) (J 0 [(0, .ref p0), (1, .int p1)] [] β σ δ) := by
  have hJ := hI.cor
  unfold m_X12_addSlice
  refine sj (j_iconst hJ (v := 0) dX12_addSlice_0 ic_0) ?_
  refine sj (j_istore_n hJ (L' := [(2, .int (0 : Int32)), (0, .ref p0), (1, .int p1)]) dX12_addSlice_1 rfl (by decide) rfl) ?_
  refine sj (j_sub hJ (L' := [(0, .ref p0), (1, .int p1), (2, .int (0 : Int32))]) [1, 2, 0] rfl) ?_
  exact w_X12_addSlice_b2 hI σ p0 p1 (0 : Int32) δ
theorem ct_X12_addSlice {σ : St} {p0 : Nat} {p1 : Int32} {δ : Dy} {r : Dy} (h : m_X12_addSlice σ p0 p1 δ = some r) : CT yX12_addSlice cX12_addSlice 3 none 0 0 0 0 [.ref p0, .int p1] σ δ (none, σ, r) := CT_of (by decide +kernel) (Nat.le_of_ble_eq_true rfl) (fun J hI => w_X12_addSlice hI σ p0 p1 δ r h rfl)
def m_X12_fire_b362 (σ : St) (q0 : Nat) (q1 : Int32) (q2 : Int32) (δ : Dy) : Option Dy :=
  (wI σ δ q0 q1 q2).bind fun d32 =>
  some d32
def m_X12_fire_b292 (σ : St) (p0 : Nat) (p4 : Int32) (p5 : Int32) (p6 : Int32) (δ : Dy) : Option Dy := lp (fun (s : (Int32 × Dy)) =>
  if (4 : Int32) ≤ s.1 then
    (gR σ 12 p0 36).bind fun v31 =>
    if p4 = 0 then
      (m_X12_fire_b362 σ v31 (p5 + (11 : Int32)) (0 : Int32) s.2).bind fun r => some (Sum.inr r)
    else
      (m_X12_fire_b362 σ v31 (p5 + (11 : Int32)) (1 : Int32) s.2).bind fun r => some (Sum.inr r)
  else
    (gR σ 12 p0 36).bind fun v33 =>
    (gR σ 12 p0 38).bind fun v34 =>
    (rI σ s.2 v34 s.1).bind fun v35 =>
    (wI σ s.2 v33 ((p5 + (3 : Int32)) + s.1) v35).bind fun d36 =>
    (gR σ 12 p0 36).bind fun v37 =>
    (gR σ 12 p0 39).bind fun v38 =>
    (rI σ d36 v38 s.1).bind fun v39 =>
    (wI σ d36 v37 ((p5 + (7 : Int32)) + s.1) v39).bind fun d40 =>
    some (Sum.inl ((s.1 + (1 : Int32)), d40))) (p6, δ)
def m_X12_fire_b262 (σ : St) (p0 : Nat) (p1 : Int32) (p4 : Int32) (q0 : Nat) (q1 : Int32) (q2 : Int32) (δ : Dy) : Option Dy :=
  (wI σ δ q0 q1 q2).bind fun d26 =>
  (chk σ 12 p0).bind fun _ => (m_X12_pushFrame σ p0 (1 : Int32) d26).bind fun v27 =>
  (gI σ v27 12 p0 37).bind fun v28 =>
  (gR σ 12 p0 36).bind fun v29 =>
  (wI σ v27 v29 (((12 : Int32) * (v28 - (1 : Int32))) + (1 : Int32)) p1).bind fun d30 =>
  m_X12_fire_b292 σ p0 p4 ((12 : Int32) * (v28 - (1 : Int32))) (0 : Int32) d30
def m_X12_fire_b225 (σ : St) (p0 : Nat) (p1 : Int32) (p2 : Int32) (p4 : Int32) (δ : Dy) : Option Dy :=
  (gR σ 12 p0 0).bind fun v23 =>
  (gR σ 12 p0 10).bind fun v24 =>
  (rI σ δ v24 (((8 : Int32) * p1) + (3 : Int32))).bind fun v25 =>
  if v25 = 0 then
    m_X12_fire_b262 σ p0 p1 p4 v23 ((422 : Int32) + p2) (0 : Int32) δ
  else
    (gR σ 12 p0 0).bind fun v41 =>
    (rI σ δ v41 ((422 : Int32) + p2)).bind fun v42 =>
    m_X12_fire_b262 σ p0 p1 p4 v23 ((422 : Int32) + p2) v42 δ
def m_X12_fire_b224 (σ : St) (p0 : Nat) (p1 : Int32) (p2 : Int32) (p4 : Int32) (q0 : Nat) (q1 : Int32) (q2 : Int32) (δ : Dy) : Option Dy :=
  (wI σ δ q0 q1 q2).bind fun d49 =>
  m_X12_fire_b225 σ p0 p1 p2 p4 d49
def m_X12_fire_b183 (σ : St) (p0 : Nat) (p1 : Int32) (p2 : Int32) (p3 : Int32) (q0 : Int32) (q1 : Int32) (δ : Dy) : Option Dy :=
  (gR σ 12 p0 0).bind fun v46 =>
  (gR σ 12 p0 10).bind fun v47 =>
  (rI σ δ v47 (((8 : Int32) * p1) + (7 : Int32))).bind fun v48 =>
  if v48 = 0 then
    m_X12_fire_b224 σ p0 p1 p2 (q0 &&& q1) v46 ((422 : Int32) + p3) (0 : Int32) δ
  else
    (gR σ 12 p0 0).bind fun v50 =>
    (rI σ δ v50 ((422 : Int32) + p3)).bind fun v51 =>
    m_X12_fire_b224 σ p0 p1 p2 (q0 &&& q1) v46 ((422 : Int32) + p3) v51 δ
def m_X12_fire_b145 (σ : St) (p0 : Nat) (p1 : Int32) (p2 : Int32) (p3 : Int32) (q0 : Int32) (δ : Dy) : Option Dy :=
  (chk σ 12 p0).bind fun _ => (m_X12_addSlice σ p0 p2 δ).bind fun v22 =>
  if p3 = (-1 : Int32) then
    m_X12_fire_b225 σ p0 p1 p2 q0 v22
  else
    (chk σ 12 p0).bind fun _ => (m_X12_addSlice σ p0 p3 v22).bind fun v43 =>
    (gR σ 12 p0 0).bind fun v44 =>
    (rI σ v43 v44 ((522 : Int32) + p3)).bind fun v45 =>
    if v45 = (1 : Int32) then
      m_X12_fire_b183 σ p0 p1 p2 p3 q0 (1 : Int32) v43
    else
      m_X12_fire_b183 σ p0 p1 p2 p3 q0 (0 : Int32) v43
def m_X12_fire_b106 (σ : St) (p0 : Nat) (p1 : Int32) (p2 : Int32) (p3 : Int32) (p4 : Int32) (δ : Dy) : Option Dy := lp (fun (s : (Int32 × Dy)) =>
  if (4 : Int32) ≤ s.1 then
    (gR σ 12 p0 0).bind fun v20 =>
    (rI σ s.2 v20 ((522 : Int32) + p2)).bind fun v21 =>
    if v21 = (1 : Int32) then
      (m_X12_fire_b145 σ p0 p1 p2 p3 (1 : Int32) s.2).bind fun r => some (Sum.inr r)
    else
      (m_X12_fire_b145 σ p0 p1 p2 p3 (0 : Int32) s.2).bind fun r => some (Sum.inr r)
  else
    (gR σ 12 p0 39).bind fun v52 =>
    (wI σ s.2 v52 s.1 (0 : Int32)).bind fun d53 =>
    some (Sum.inl ((s.1 + (1 : Int32)), d53))) (p4, δ)
def m_X12_fire_b103 (σ : St) (p0 : Nat) (p1 : Int32) (p2 : Int32) (p3 : Int32) (δ : Dy) : Option Dy :=
  m_X12_fire_b106 σ p0 p1 p2 p3 (0 : Int32) δ
def m_X12_fire (σ : St) (p0 : Nat) (p1 : Int32) (p2 : Int32) (p3 : Int32) (δ : Dy) : Option Dy :=
  (gI σ δ 12 p0 34).bind fun v1 =>
  if v1 = (60 : Int32) then
    (pZ σ δ 12 p0 35 (1 : Int32)).bind fun d2 =>
    some d2
  else
    (gI σ δ 12 p0 34).bind fun v3 =>
    (pI σ δ 12 p0 34 (v3 + (1 : Int32))).bind fun d4 =>
    (gR σ 12 p0 0).bind fun v5 =>
    (rI σ d4 v5 ((7023 : Int32) + p1)).bind fun v6 =>
    (wI σ d4 v5 ((7023 : Int32) + p1) (v6 + (1 : Int32))).bind fun d7 =>
    (chk σ 12 p0).bind fun _ => (m_X12_removes σ p0 p1 d7).bind fun v8 =>
    if v8 = 0 then
      (gR σ 12 p0 0).bind fun v9 =>
      (rI σ d7 v9 (1022 : Int32)).bind fun v10 =>
      (gR σ 12 p0 0).bind fun v11 =>
      (wI σ d7 v11 ((1023 : Int32) + ((3 : Int32) * v10)) p1).bind fun d12 =>
      (gR σ 12 p0 0).bind fun v13 =>
      (wI σ d12 v13 (((1023 : Int32) + ((3 : Int32) * v10)) + (1 : Int32)) p2).bind fun d14 =>
      (gR σ 12 p0 0).bind fun v15 =>
      (wI σ d14 v15 (((1023 : Int32) + ((3 : Int32) * v10)) + (2 : Int32)) p3).bind fun d16 =>
      (gR σ 12 p0 0).bind fun v17 =>
      (rI σ d16 v17 (1022 : Int32)).bind fun v18 =>
      (wI σ d16 v17 (1022 : Int32) (v18 + (1 : Int32))).bind fun d19 =>
      m_X12_fire_b103 σ p0 p1 p2 p3 d19
    else
      m_X12_fire_b103 σ p0 p1 p2 p3 d7
set_option maxHeartbeats 4000000 in
set_option maxRecDepth 100000 in
theorem w_X12_fire_b362 {J : JT} {an : Option Value × St × Dy} (hI : Isj cX12_fire 7 RX12 "fire" 1 22 none an J) {β : Bu} (σ : St) (q0 : Nat) (q1 : Int32) (q2 : Int32) (δ : Dy) : SJ (m_X12_fire_b362 σ q0 q1 q2 δ) (PV σ an) (J 362 [] [.int q2, .int q1, .ref q0] β σ δ) := by
  have hJ := hI.cor
  unfold m_X12_fire_b362
  refine sj_wI hJ dX12_fire_362 (fun d32 => ?_)
  exact sj_vret hI dX12_fire_363 (fun h => h)
set_option maxHeartbeats 4000000 in
set_option maxRecDepth 100000 in
theorem w_X12_fire_b292 {J : JT} {an : Option Value × St × Dy} (hI : Isj cX12_fire 7 RX12 "fire" 1 22 none an J) {β : Bu} (σ : St) (p0 : Nat) (p4 : Int32) (p5 : Int32) (p6 : Int32) (δ : Dy) : SJ (m_X12_fire_b292 σ p0 p4 p5 p6 δ) (PV σ an) (J 292 [(0, .ref p0), (4, .int p4), (5, .int p5), (6, .int p6)] [] β σ δ) := by
  have hJ := hI.cor
  unfold m_X12_fire_b292
  refine sj_lp (G := fun s : (Int32 × Dy) => J 292 [(0, .ref p0), (4, .int p4), (5, .int p5), (6, .int s.1)] [] β σ s.2) (fun s => ?_) (p6, δ)
  refine sj (j_iload hJ dX12_fire_292 3 rfl) ?_
  refine sj (j_iconst hJ (v := 4) dX12_fire_294 ic_4) ?_
  refine sj_if (j_icmp_ge hJ (tgt := 343) dX12_fire_295 (by decide)) (fun _ => ?_) (fun _ => ?_)
  · refine sj (j_aload_n hJ dX12_fire_343 rfl 0 rfl) ?_
    refine sj_gR hJ fl_X12_91 rfl dX12_fire_344 (fun v31 => ?_)
    refine sj (j_iload hJ dX12_fire_347 2 rfl) ?_
    refine sj (j_bipush hJ (v := 11) dX12_fire_349 ib_11) ?_
    refine sj (j_iadd hJ dX12_fire_351) ?_
    refine sj (j_iload hJ dX12_fire_352 1 rfl) ?_
    refine sj_if (j_if_eq hJ (tgt := 361) dX12_fire_354 (by decide)) (fun _ => ?_) (fun _ => ?_)
    · refine sj (j_iconst hJ (v := 0) dX12_fire_361 ic_0) ?_
      refine sj (j_sub hJ (L' := []) [] rfl) ?_
      refine sj_map ?_
      exact w_X12_fire_b362 hI σ v31 (p5 + (11 : Int32)) (0 : Int32) s.2
    · refine sj (j_iconst hJ (v := 1) dX12_fire_357 ic_1) ?_
      refine sj (j_goto hJ (tgt := 362) dX12_fire_358 (by decide)) ?_
      refine sj (j_sub hJ (L' := []) [] rfl) ?_
      refine sj_map ?_
      exact w_X12_fire_b362 hI σ v31 (p5 + (11 : Int32)) (1 : Int32) s.2
  · refine sj (j_aload_n hJ dX12_fire_298 rfl 0 rfl) ?_
    refine sj_gR hJ fl_X12_91 rfl dX12_fire_299 (fun v33 => ?_)
    refine sj (j_iload hJ dX12_fire_302 2 rfl) ?_
    refine sj (j_iconst hJ (v := 3) dX12_fire_304 ic_3) ?_
    refine sj (j_iadd hJ dX12_fire_305) ?_
    refine sj (j_iload hJ dX12_fire_306 3 rfl) ?_
    refine sj (j_iadd hJ dX12_fire_308) ?_
    refine sj (j_aload_n hJ dX12_fire_309 rfl 0 rfl) ?_
    refine sj_gR hJ fl_X12_94 rfl dX12_fire_310 (fun v34 => ?_)
    refine sj (j_iload hJ dX12_fire_313 3 rfl) ?_
    refine sj_rI hJ dX12_fire_315 (fun v35 => ?_)
    refine sj_wI hJ dX12_fire_316 (fun d36 => ?_)
    refine sj (j_aload_n hJ dX12_fire_317 rfl 0 rfl) ?_
    refine sj_gR hJ fl_X12_91 rfl dX12_fire_318 (fun v37 => ?_)
    refine sj (j_iload hJ dX12_fire_321 2 rfl) ?_
    refine sj (j_bipush hJ (v := 7) dX12_fire_323 ib_7) ?_
    refine sj (j_iadd hJ dX12_fire_325) ?_
    refine sj (j_iload hJ dX12_fire_326 3 rfl) ?_
    refine sj (j_iadd hJ dX12_fire_328) ?_
    refine sj (j_aload_n hJ dX12_fire_329 rfl 0 rfl) ?_
    refine sj_gR hJ fl_X12_97 rfl dX12_fire_330 (fun v38 => ?_)
    refine sj (j_iload hJ dX12_fire_333 3 rfl) ?_
    refine sj_rI hJ dX12_fire_335 (fun v39 => ?_)
    refine sj_wI hJ dX12_fire_336 (fun d40 => ?_)
    refine sj (j_iinc hJ (L' := [(6, .int (s.1 + (1 : Int32))), (0, .ref p0), (4, .int p4), (5, .int p5)]) dX12_fire_337 3 rfl (congrArg (fun z => s.1 + z) ic_1) (by decide) rfl) ?_
    refine sj (j_goto hJ (tgt := 292) dX12_fire_340 (by decide)) ?_
    refine sj (j_sub hJ (L' := [(0, .ref p0), (4, .int p4), (5, .int p5), (6, .int (s.1 + (1 : Int32)))]) [1, 2, 3, 0] rfl) ?_
    exact sj_end (fun h => h)
set_option maxHeartbeats 4000000 in
set_option maxRecDepth 100000 in
theorem w_X12_fire_b262 {J : JT} {an : Option Value × St × Dy} (hI : Isj cX12_fire 7 RX12 "fire" 1 22 none an J) {β : Bu} (σ : St) (p0 : Nat) (p1 : Int32) (p4 : Int32) (q0 : Nat) (q1 : Int32) (q2 : Int32) (δ : Dy) : SJ (m_X12_fire_b262 σ p0 p1 p4 q0 q1 q2 δ) (PV σ an) (J 262 [(0, .ref p0), (1, .int p1), (4, .int p4)] [.int q2, .int q1, .ref q0] β σ δ) := by
  have hJ := hI.cor
  unfold m_X12_fire_b262
  refine sj_wI hJ dX12_fire_262 (fun d26 => ?_)
  refine sj (j_aload_n hJ dX12_fire_263 rfl 0 rfl) ?_
  refine sj (j_iconst hJ (v := 1) dX12_fire_264 ic_1) ?_
  refine sj_callVv hJ [.int (1 : Int32)] (st := []) (fr' := 0) (lo' := 0) ml_X12_159 hc_12 (by decide) (by decide) (Nat.le_of_ble_eq_true rfl) dX12_fire_265 rfl (fun _ h9 => ct_X12_pushFrame h9) (fun v27 => ?_)
  refine sj (j_bipush hJ (v := 12) dX12_fire_268 ib_12) ?_
  refine sj (j_aload_n hJ dX12_fire_270 rfl 0 rfl) ?_
  refine sj_gI hJ fl_X12_156 (Or.inl rfl) dX12_fire_271 (fun v28 => ?_)
  refine sj (j_iconst hJ (v := 1) dX12_fire_274 ic_1) ?_
  refine sj (j_isub hJ dX12_fire_275) ?_
  refine sj (j_imul hJ dX12_fire_276) ?_
  refine sj (j_istore hJ (L' := [(5, .int ((12 : Int32) * (v28 - (1 : Int32)))), (0, .ref p0), (1, .int p1), (4, .int p4)]) dX12_fire_277 (by decide) rfl) ?_
  refine sj (j_aload_n hJ dX12_fire_279 rfl 1 rfl) ?_
  refine sj_gR hJ fl_X12_91 rfl dX12_fire_280 (fun v29 => ?_)
  refine sj (j_iload hJ dX12_fire_283 0 rfl) ?_
  refine sj (j_iconst hJ (v := 1) dX12_fire_285 ic_1) ?_
  refine sj (j_iadd hJ dX12_fire_286) ?_
  refine sj (j_iload_n hJ dX12_fire_287 rfl 2 rfl) ?_
  refine sj_wI hJ dX12_fire_288 (fun d30 => ?_)
  refine sj (j_iconst hJ (v := 0) dX12_fire_289 ic_0) ?_
  refine sj (j_istore hJ (L' := [(6, .int (0 : Int32)), (5, .int ((12 : Int32) * (v28 - (1 : Int32)))), (0, .ref p0), (1, .int p1), (4, .int p4)]) dX12_fire_290 (by decide) rfl) ?_
  refine sj (j_sub hJ (L' := [(0, .ref p0), (4, .int p4), (5, .int ((12 : Int32) * (v28 - (1 : Int32)))), (6, .int (0 : Int32))]) [2, 4, 1, 0] rfl) ?_
  exact w_X12_fire_b292 hI σ p0 p4 ((12 : Int32) * (v28 - (1 : Int32))) (0 : Int32) d30
set_option maxHeartbeats 4000000 in
set_option maxRecDepth 100000 in
theorem w_X12_fire_b225 {J : JT} {an : Option Value × St × Dy} (hI : Isj cX12_fire 7 RX12 "fire" 1 22 none an J) {β : Bu} (σ : St) (p0 : Nat) (p1 : Int32) (p2 : Int32) (p4 : Int32) (δ : Dy) : SJ (m_X12_fire_b225 σ p0 p1 p2 p4 δ) (PV σ an) (J 225 [(0, .ref p0), (1, .int p1), (2, .int p2), (4, .int p4)] [] β σ δ) := by
  have hJ := hI.cor
  unfold m_X12_fire_b225
  refine sj (j_aload_n hJ dX12_fire_225 rfl 0 rfl) ?_
  refine sj_gR hJ fl_X12_7 rfl dX12_fire_226 (fun v23 => ?_)
  refine sj (j_sipush hJ (v := 422) dX12_fire_229 is_422) ?_
  refine sj (j_iload_n hJ dX12_fire_232 rfl 2 rfl) ?_
  refine sj (j_iadd hJ dX12_fire_233) ?_
  refine sj (j_aload_n hJ dX12_fire_234 rfl 0 rfl) ?_
  refine sj_gR hJ fl_X12_37 rfl dX12_fire_235 (fun v24 => ?_)
  refine sj (j_bipush hJ (v := 8) dX12_fire_238 ib_8) ?_
  refine sj (j_iload_n hJ dX12_fire_240 rfl 1 rfl) ?_
  refine sj (j_imul hJ dX12_fire_241) ?_
  refine sj (j_iconst hJ (v := 3) dX12_fire_242 ic_3) ?_
  refine sj (j_iadd hJ dX12_fire_243) ?_
  refine sj_rI hJ dX12_fire_244 (fun v25 => ?_)
  refine sj_if (j_if_ne hJ (tgt := 252) dX12_fire_245 (by decide)) (fun _ => ?_) (fun _ => ?_)
  · refine sj (j_iconst hJ (v := 0) dX12_fire_248 ic_0) ?_
    refine sj (j_goto hJ (tgt := 262) dX12_fire_249 (by decide)) ?_
    refine sj (j_sub hJ (L' := [(0, .ref p0), (1, .int p1), (4, .int p4)]) [0, 1, 3] rfl) ?_
    exact w_X12_fire_b262 hI σ p0 p1 p4 v23 ((422 : Int32) + p2) (0 : Int32) δ
  · refine sj (j_aload_n hJ dX12_fire_252 rfl 0 rfl) ?_
    refine sj_gR hJ fl_X12_7 rfl dX12_fire_253 (fun v41 => ?_)
    refine sj (j_sipush hJ (v := 422) dX12_fire_256 is_422) ?_
    refine sj (j_iload_n hJ dX12_fire_259 rfl 2 rfl) ?_
    refine sj (j_iadd hJ dX12_fire_260) ?_
    refine sj_rI hJ dX12_fire_261 (fun v42 => ?_)
    refine sj (j_sub hJ (L' := [(0, .ref p0), (1, .int p1), (4, .int p4)]) [0, 1, 3] rfl) ?_
    exact w_X12_fire_b262 hI σ p0 p1 p4 v23 ((422 : Int32) + p2) v42 δ
set_option maxHeartbeats 4000000 in
set_option maxRecDepth 100000 in
theorem w_X12_fire_b224 {J : JT} {an : Option Value × St × Dy} (hI : Isj cX12_fire 7 RX12 "fire" 1 22 none an J) {β : Bu} (σ : St) (p0 : Nat) (p1 : Int32) (p2 : Int32) (p4 : Int32) (q0 : Nat) (q1 : Int32) (q2 : Int32) (δ : Dy) : SJ (m_X12_fire_b224 σ p0 p1 p2 p4 q0 q1 q2 δ) (PV σ an) (J 224 [(0, .ref p0), (1, .int p1), (2, .int p2), (4, .int p4)] [.int q2, .int q1, .ref q0] β σ δ) := by
  have hJ := hI.cor
  unfold m_X12_fire_b224
  refine sj_wI hJ dX12_fire_224 (fun d49 => ?_)
  exact w_X12_fire_b225 hI σ p0 p1 p2 p4 d49
set_option maxHeartbeats 4000000 in
set_option maxRecDepth 100000 in
theorem w_X12_fire_b183 {J : JT} {an : Option Value × St × Dy} (hI : Isj cX12_fire 7 RX12 "fire" 1 22 none an J) {β : Bu} (σ : St) (p0 : Nat) (p1 : Int32) (p2 : Int32) (p3 : Int32) (q0 : Int32) (q1 : Int32) (δ : Dy) : SJ (m_X12_fire_b183 σ p0 p1 p2 p3 q0 q1 δ) (PV σ an) (J 183 [(0, .ref p0), (1, .int p1), (2, .int p2), (3, .int p3)] [.int q1, .int q0] β σ δ) := by
  have hJ := hI.cor
  unfold m_X12_fire_b183
  refine sj (j_iand hJ dX12_fire_183) ?_
  refine sj (j_istore hJ (L' := [(4, .int (q0 &&& q1)), (0, .ref p0), (1, .int p1), (2, .int p2), (3, .int p3)]) dX12_fire_184 (by decide) rfl) ?_
  refine sj (j_aload_n hJ dX12_fire_186 rfl 1 rfl) ?_
  refine sj_gR hJ fl_X12_7 rfl dX12_fire_187 (fun v46 => ?_)
  refine sj (j_sipush hJ (v := 422) dX12_fire_190 is_422) ?_
  refine sj (j_iload_n hJ dX12_fire_193 rfl 4 rfl) ?_
  refine sj (j_iadd hJ dX12_fire_194) ?_
  refine sj (j_aload_n hJ dX12_fire_195 rfl 1 rfl) ?_
  refine sj_gR hJ fl_X12_37 rfl dX12_fire_196 (fun v47 => ?_)
  refine sj (j_bipush hJ (v := 8) dX12_fire_199 ib_8) ?_
  refine sj (j_iload_n hJ dX12_fire_201 rfl 2 rfl) ?_
  refine sj (j_imul hJ dX12_fire_202) ?_
  refine sj (j_bipush hJ (v := 7) dX12_fire_203 ib_7) ?_
  refine sj (j_iadd hJ dX12_fire_205) ?_
  refine sj_rI hJ dX12_fire_206 (fun v48 => ?_)
  refine sj_if (j_if_ne hJ (tgt := 214) dX12_fire_207 (by decide)) (fun _ => ?_) (fun _ => ?_)
  · refine sj (j_iconst hJ (v := 0) dX12_fire_210 ic_0) ?_
    refine sj (j_goto hJ (tgt := 224) dX12_fire_211 (by decide)) ?_
    refine sj (j_sub hJ (L' := [(0, .ref p0), (1, .int p1), (2, .int p2), (4, .int (q0 &&& q1))]) [1, 2, 3, 0] rfl) ?_
    exact w_X12_fire_b224 hI σ p0 p1 p2 (q0 &&& q1) v46 ((422 : Int32) + p3) (0 : Int32) δ
  · refine sj (j_aload_n hJ dX12_fire_214 rfl 1 rfl) ?_
    refine sj_gR hJ fl_X12_7 rfl dX12_fire_215 (fun v50 => ?_)
    refine sj (j_sipush hJ (v := 422) dX12_fire_218 is_422) ?_
    refine sj (j_iload_n hJ dX12_fire_221 rfl 4 rfl) ?_
    refine sj (j_iadd hJ dX12_fire_222) ?_
    refine sj_rI hJ dX12_fire_223 (fun v51 => ?_)
    refine sj (j_sub hJ (L' := [(0, .ref p0), (1, .int p1), (2, .int p2), (4, .int (q0 &&& q1))]) [1, 2, 3, 0] rfl) ?_
    exact w_X12_fire_b224 hI σ p0 p1 p2 (q0 &&& q1) v46 ((422 : Int32) + p3) v51 δ
set_option maxHeartbeats 4000000 in
set_option maxRecDepth 100000 in
theorem w_X12_fire_b145 {J : JT} {an : Option Value × St × Dy} (hI : Isj cX12_fire 7 RX12 "fire" 1 22 none an J) {β : Bu} (σ : St) (p0 : Nat) (p1 : Int32) (p2 : Int32) (p3 : Int32) (q0 : Int32) (δ : Dy) : SJ (m_X12_fire_b145 σ p0 p1 p2 p3 q0 δ) (PV σ an) (J 145 [(0, .ref p0), (1, .int p1), (2, .int p2), (3, .int p3)] [.int q0] β σ δ) := by
  have hJ := hI.cor
  unfold m_X12_fire_b145
  refine sj (j_istore hJ (L' := [(4, .int q0), (0, .ref p0), (1, .int p1), (2, .int p2), (3, .int p3)]) dX12_fire_145 (by decide) rfl) ?_
  refine sj (j_aload_n hJ dX12_fire_147 rfl 1 rfl) ?_
  refine sj (j_iload_n hJ dX12_fire_148 rfl 3 rfl) ?_
  refine sj_callVv hJ [.int p2] (st := []) (fr' := 0) (lo' := 0) ml_X12_184 hc_12 (by decide) (by decide) (Nat.le_of_ble_eq_true rfl) dX12_fire_149 rfl (fun _ h9 => ct_X12_addSlice h9) (fun v22 => ?_)
  refine sj (j_iload_n hJ dX12_fire_152 rfl 4 rfl) ?_
  refine sj (j_iconst hJ (v := -1) dX12_fire_153 ic_m1) ?_
  refine sj_if (j_icmp_eq hJ (tgt := 225) dX12_fire_154 (by decide)) (fun _ => ?_) (fun _ => ?_)
  · refine sj (j_sub hJ (L' := [(0, .ref p0), (1, .int p1), (2, .int p2), (4, .int q0)]) [1, 2, 3, 0] rfl) ?_
    exact w_X12_fire_b225 hI σ p0 p1 p2 q0 v22
  · refine sj (j_aload_n hJ dX12_fire_157 rfl 1 rfl) ?_
    refine sj (j_iload_n hJ dX12_fire_158 rfl 4 rfl) ?_
    refine sj_callVv hJ [.int p3] (st := []) (fr' := 0) (lo' := 0) ml_X12_184 hc_12 (by decide) (by decide) (Nat.le_of_ble_eq_true rfl) dX12_fire_159 rfl (fun _ h9 => ct_X12_addSlice h9) (fun v43 => ?_)
    refine sj (j_iload hJ dX12_fire_162 0 rfl) ?_
    refine sj (j_aload_n hJ dX12_fire_164 rfl 1 rfl) ?_
    refine sj_gR hJ fl_X12_7 rfl dX12_fire_165 (fun v44 => ?_)
    refine sj (j_sipush hJ (v := 522) dX12_fire_168 is_522) ?_
    refine sj (j_iload_n hJ dX12_fire_171 rfl 4 rfl) ?_
    refine sj (j_iadd hJ dX12_fire_172) ?_
    refine sj_rI hJ dX12_fire_173 (fun v45 => ?_)
    refine sj (j_iconst hJ (v := 1) dX12_fire_174 ic_1) ?_
    refine sj_if (j_icmp_ne hJ (tgt := 182) dX12_fire_175 (by decide)) (fun _ => ?_) (fun _ => ?_)
    · refine sj (j_iconst hJ (v := 1) dX12_fire_178 ic_1) ?_
      refine sj (j_goto hJ (tgt := 183) dX12_fire_179 (by decide)) ?_
      refine sj (j_sub hJ (L' := [(0, .ref p0), (1, .int p1), (2, .int p2), (3, .int p3)]) [1, 2, 3, 4] rfl) ?_
      exact w_X12_fire_b183 hI σ p0 p1 p2 p3 q0 (1 : Int32) v43
    · refine sj (j_iconst hJ (v := 0) dX12_fire_182 ic_0) ?_
      refine sj (j_sub hJ (L' := [(0, .ref p0), (1, .int p1), (2, .int p2), (3, .int p3)]) [1, 2, 3, 4] rfl) ?_
      exact w_X12_fire_b183 hI σ p0 p1 p2 p3 q0 (0 : Int32) v43
set_option maxHeartbeats 4000000 in
set_option maxRecDepth 100000 in
theorem w_X12_fire_b106 {J : JT} {an : Option Value × St × Dy} (hI : Isj cX12_fire 7 RX12 "fire" 1 22 none an J) {β : Bu} (σ : St) (p0 : Nat) (p1 : Int32) (p2 : Int32) (p3 : Int32) (p4 : Int32) (δ : Dy) : SJ (m_X12_fire_b106 σ p0 p1 p2 p3 p4 δ) (PV σ an) (J 106 [(0, .ref p0), (1, .int p1), (2, .int p2), (3, .int p3), (4, .int p4)] [] β σ δ) := by
  have hJ := hI.cor
  unfold m_X12_fire_b106
  refine sj_lp (G := fun s : (Int32 × Dy) => J 106 [(0, .ref p0), (1, .int p1), (2, .int p2), (3, .int p3), (4, .int s.1)] [] β σ s.2) (fun s => ?_) (p4, δ)
  refine sj (j_iload hJ dX12_fire_106 4 rfl) ?_
  refine sj (j_iconst hJ (v := 4) dX12_fire_108 ic_4) ?_
  refine sj_if (j_icmp_ge hJ (tgt := 126) dX12_fire_109 (by decide)) (fun _ => ?_) (fun _ => ?_)
  · refine sj (j_aload_n hJ dX12_fire_126 rfl 0 rfl) ?_
    refine sj_gR hJ fl_X12_7 rfl dX12_fire_127 (fun v20 => ?_)
    refine sj (j_sipush hJ (v := 522) dX12_fire_130 is_522) ?_
    refine sj (j_iload_n hJ dX12_fire_133 rfl 2 rfl) ?_
    refine sj (j_iadd hJ dX12_fire_134) ?_
    refine sj_rI hJ dX12_fire_135 (fun v21 => ?_)
    refine sj (j_iconst hJ (v := 1) dX12_fire_136 ic_1) ?_
    refine sj_if (j_icmp_ne hJ (tgt := 144) dX12_fire_137 (by decide)) (fun _ => ?_) (fun _ => ?_)
    · refine sj (j_iconst hJ (v := 1) dX12_fire_140 ic_1) ?_
      refine sj (j_goto hJ (tgt := 145) dX12_fire_141 (by decide)) ?_
      refine sj (j_sub hJ (L' := [(0, .ref p0), (1, .int p1), (2, .int p2), (3, .int p3)]) [0, 1, 2, 3] rfl) ?_
      refine sj_map ?_
      exact w_X12_fire_b145 hI σ p0 p1 p2 p3 (1 : Int32) s.2
    · refine sj (j_iconst hJ (v := 0) dX12_fire_144 ic_0) ?_
      refine sj (j_sub hJ (L' := [(0, .ref p0), (1, .int p1), (2, .int p2), (3, .int p3)]) [0, 1, 2, 3] rfl) ?_
      refine sj_map ?_
      exact w_X12_fire_b145 hI σ p0 p1 p2 p3 (0 : Int32) s.2
  · refine sj (j_aload_n hJ dX12_fire_112 rfl 0 rfl) ?_
    refine sj_gR hJ fl_X12_97 rfl dX12_fire_113 (fun v52 => ?_)
    refine sj (j_iload hJ dX12_fire_116 4 rfl) ?_
    refine sj (j_iconst hJ (v := 0) dX12_fire_118 ic_0) ?_
    refine sj_wI hJ dX12_fire_119 (fun d53 => ?_)
    refine sj (j_iinc hJ (L' := [(4, .int (s.1 + (1 : Int32))), (0, .ref p0), (1, .int p1), (2, .int p2), (3, .int p3)]) dX12_fire_120 4 rfl (congrArg (fun z => s.1 + z) ic_1) (by decide) rfl) ?_
    refine sj (j_goto hJ (tgt := 106) dX12_fire_123 (by decide)) ?_
    refine sj (j_sub hJ (L' := [(0, .ref p0), (1, .int p1), (2, .int p2), (3, .int p3), (4, .int (s.1 + (1 : Int32)))]) [1, 2, 3, 4, 0] rfl) ?_
    exact sj_end (fun h => h)
set_option maxHeartbeats 4000000 in
set_option maxRecDepth 100000 in
theorem w_X12_fire_b103 {J : JT} {an : Option Value × St × Dy} (hI : Isj cX12_fire 7 RX12 "fire" 1 22 none an J) {β : Bu} (σ : St) (p0 : Nat) (p1 : Int32) (p2 : Int32) (p3 : Int32) (δ : Dy) : SJ (m_X12_fire_b103 σ p0 p1 p2 p3 δ) (PV σ an) (J 103 [(0, .ref p0), (1, .int p1), (2, .int p2), (3, .int p3)] [] β σ δ) := by
  have hJ := hI.cor
  unfold m_X12_fire_b103
  refine sj (j_iconst hJ (v := 0) dX12_fire_103 ic_0) ?_
  refine sj (j_istore hJ (L' := [(4, .int (0 : Int32)), (0, .ref p0), (1, .int p1), (2, .int p2), (3, .int p3)]) dX12_fire_104 (by decide) rfl) ?_
  refine sj (j_sub hJ (L' := [(0, .ref p0), (1, .int p1), (2, .int p2), (3, .int p3), (4, .int (0 : Int32))]) [1, 2, 3, 4, 0] rfl) ?_
  exact w_X12_fire_b106 hI σ p0 p1 p2 p3 (0 : Int32) δ
set_option maxHeartbeats 4000000 in
set_option maxRecDepth 100000 in
theorem w_X12_fire {J : JT} {an : Option Value × St × Dy} (hI : Isj cX12_fire 7 RX12 "fire" 1 22 none an J) {β : Bu} (σ : St) (p0 : Nat) (p1 : Int32) (p2 : Int32) (p3 : Int32) (δ : Dy) : SJ (m_X12_fire σ p0 p1 p2 p3 δ) (PV σ an) (J 0 [(0, .ref p0), (1, .int p1), (2, .int p2), (3, .int p3)] [] β σ δ) := by
  have hJ := hI.cor
  unfold m_X12_fire
  refine sj (j_aload_n hJ dX12_fire_0 rfl 0 rfl) ?_
  refine sj_gI hJ fl_X12_181 (Or.inl rfl) dX12_fire_1 (fun v1 => ?_)
  refine sj (j_bipush hJ (v := 60) dX12_fire_4 ib_60) ?_
  refine sj_if (j_icmp_ne hJ (tgt := 15) dX12_fire_6 (by decide)) (fun _ => ?_) (fun _ => ?_)
  · refine sj (j_aload_n hJ dX12_fire_9 rfl 0 rfl) ?_
    refine sj (j_iconst hJ (v := 1) dX12_fire_10 ic_1) ?_
    refine sj_pZ hJ fl_X12_133 rfl dX12_fire_11 (fun d2 => ?_)
    exact sj_vret hI dX12_fire_14 (fun h => h)
  · refine sj (j_aload_n hJ dX12_fire_15 rfl 0 rfl) ?_
    refine sj (j_dup hJ dX12_fire_16 rfl) ?_
    refine sj_gI hJ fl_X12_181 (Or.inl rfl) dX12_fire_17 (fun v3 => ?_)
    refine sj (j_iconst hJ (v := 1) dX12_fire_20 ic_1) ?_
    refine sj (j_iadd hJ dX12_fire_21) ?_
    refine sj_pI hJ fl_X12_181 rfl dX12_fire_22 (fun d4 => ?_)
    refine sj (j_aload_n hJ dX12_fire_25 rfl 0 rfl) ?_
    refine sj_gR hJ fl_X12_7 rfl dX12_fire_26 (fun v5 => ?_)
    refine sj (j_sipush hJ (v := 7023) dX12_fire_29 is_7023) ?_
    refine sj (j_iload_n hJ dX12_fire_32 rfl 1 rfl) ?_
    refine sj (j_iadd hJ dX12_fire_33) ?_
    refine sj (j_dup2 hJ dX12_fire_34 rfl rfl) ?_
    refine sj_rI hJ dX12_fire_35 (fun v6 => ?_)
    refine sj (j_iconst hJ (v := 1) dX12_fire_36 ic_1) ?_
    refine sj (j_iadd hJ dX12_fire_37) ?_
    refine sj_wI hJ dX12_fire_38 (fun d7 => ?_)
    refine sj (j_aload_n hJ dX12_fire_39 rfl 0 rfl) ?_
    refine sj (j_iload_n hJ dX12_fire_40 rfl 1 rfl) ?_
    refine sj_callVip hJ [.int p1] (st := []) (fr' := 0) (lo' := 0) ml_X12_178 hc_12 (by decide) (by decide) (Nat.le_of_ble_eq_true rfl) dX12_fire_41 rfl (fun _ h9 => ct_X12_removes h9) (fun v8 => ?_)
    refine sj_if (j_if_ne hJ (tgt := 103) dX12_fire_44 (by decide)) (fun _ => ?_) (fun _ => ?_)
    · refine sj (j_sipush hJ (v := 1023) dX12_fire_47 is_1023) ?_
      refine sj (j_iconst hJ (v := 3) dX12_fire_50 ic_3) ?_
      refine sj (j_aload_n hJ dX12_fire_51 rfl 0 rfl) ?_
      refine sj_gR hJ fl_X12_7 rfl dX12_fire_52 (fun v9 => ?_)
      refine sj (j_sipush hJ (v := 1022) dX12_fire_55 is_1022) ?_
      refine sj_rI hJ dX12_fire_58 (fun v10 => ?_)
      refine sj (j_imul hJ dX12_fire_59) ?_
      refine sj (j_iadd hJ dX12_fire_60) ?_
      refine sj (j_istore hJ (L' := [(4, .int ((1023 : Int32) + ((3 : Int32) * v10))), (0, .ref p0), (1, .int p1), (2, .int p2), (3, .int p3)]) dX12_fire_61 (by decide) rfl) ?_
      refine sj (j_aload_n hJ dX12_fire_63 rfl 1 rfl) ?_
      refine sj_gR hJ fl_X12_7 rfl dX12_fire_64 (fun v11 => ?_)
      refine sj (j_iload hJ dX12_fire_67 0 rfl) ?_
      refine sj (j_iload_n hJ dX12_fire_69 rfl 2 rfl) ?_
      refine sj_wI hJ dX12_fire_70 (fun d12 => ?_)
      refine sj (j_aload_n hJ dX12_fire_71 rfl 1 rfl) ?_
      refine sj_gR hJ fl_X12_7 rfl dX12_fire_72 (fun v13 => ?_)
      refine sj (j_iload hJ dX12_fire_75 0 rfl) ?_
      refine sj (j_iconst hJ (v := 1) dX12_fire_77 ic_1) ?_
      refine sj (j_iadd hJ dX12_fire_78) ?_
      refine sj (j_iload_n hJ dX12_fire_79 rfl 3 rfl) ?_
      refine sj_wI hJ dX12_fire_80 (fun d14 => ?_)
      refine sj (j_aload_n hJ dX12_fire_81 rfl 1 rfl) ?_
      refine sj_gR hJ fl_X12_7 rfl dX12_fire_82 (fun v15 => ?_)
      refine sj (j_iload hJ dX12_fire_85 0 rfl) ?_
      refine sj (j_iconst hJ (v := 2) dX12_fire_87 ic_2) ?_
      refine sj (j_iadd hJ dX12_fire_88) ?_
      refine sj (j_iload_n hJ dX12_fire_89 rfl 4 rfl) ?_
      refine sj_wI hJ dX12_fire_90 (fun d16 => ?_)
      refine sj (j_aload_n hJ dX12_fire_91 rfl 1 rfl) ?_
      refine sj_gR hJ fl_X12_7 rfl dX12_fire_92 (fun v17 => ?_)
      refine sj (j_sipush hJ (v := 1022) dX12_fire_95 is_1022) ?_
      refine sj (j_dup2 hJ dX12_fire_98 rfl rfl) ?_
      refine sj_rI hJ dX12_fire_99 (fun v18 => ?_)
      refine sj (j_iconst hJ (v := 1) dX12_fire_100 ic_1) ?_
      refine sj (j_iadd hJ dX12_fire_101) ?_
      refine sj_wI hJ dX12_fire_102 (fun d19 => ?_)
      refine sj (j_sub hJ (L' := [(0, .ref p0), (1, .int p1), (2, .int p2), (3, .int p3)]) [1, 2, 3, 4] rfl) ?_
      exact w_X12_fire_b103 hI σ p0 p1 p2 p3 d19
    · exact w_X12_fire_b103 hI σ p0 p1 p2 p3 d7
theorem ct_X12_fire {σ : St} {p0 : Nat} {p1 : Int32} {p2 : Int32} {p3 : Int32} {δ : Dy} {r : Dy} (h : m_X12_fire σ p0 p1 p2 p3 δ = some r) : CT yX12_fire cX12_fire 7 none 1 22 0 0 [.ref p0, .int p1, .int p2, .int p3] σ δ (none, σ, r) := CT_of (by decide +kernel) (Nat.le_of_ble_eq_true rfl) (fun J hI => w_X12_fire hI σ p0 p1 p2 p3 δ r h rfl)
def m_X12_goActive_b59 (σ : St) (p0 : Nat) (δ : Dy) : Option Dy :=
  (gI σ δ 12 p0 37).bind fun v11 =>
  (pI σ δ 12 p0 37 (v11 - (1 : Int32))).bind fun d12 =>
  some d12
def m_X12_goActive_b268 (σ : St) (p0 : Nat) (p3 : Int32) (p7 : Int32) (q0 : Int32) (δ : Dy) : Option Dy :=
  (chk σ 12 p0).bind fun _ => (m_X12_canFire σ p0 p3 p7 q0 δ).bind fun v34 =>
  if v34.1 = 0 then
    some v34.2
  else
    (chk σ 12 p0).bind fun _ => (m_X12_fire σ p0 p3 p7 q0 v34.2).bind fun v35 =>
    some v35
def m_X12_goActive_b255 (σ : St) (p0 : Nat) (p2 : Int32) (p3 : Int32) (p4 : Int32) (p5 : Int32) (q0 : Int32) (δ : Dy) : Option Dy :=
  if p4 = 0 then
    m_X12_goActive_b268 σ p0 p3 q0 p5 δ
  else
    m_X12_goActive_b268 σ p0 p3 q0 p2 δ
def m_X12_goActive_b152 (σ : St) (p0 : Nat) (p1 : Int32) (p2 : Int32) (p3 : Int32) (p4 : Int32) (p5 : Int32) (q0 : Int32) (δ : Dy) : Option Dy :=
  if q0 = 0 then
    (gR σ 12 p0 36).bind fun v25 =>
    (rI σ δ v25 (p1 + (4 : Int32))).bind fun v26 =>
    (wI σ δ v25 (p1 + (4 : Int32)) (v26 + (1 : Int32))).bind fun d27 =>
    (gR σ 12 p0 9).bind fun v28 =>
    (rI σ d27 v28 p3).bind fun v29 =>
    if v29 = (1 : Int32) then
      (chk σ 12 p0).bind fun _ => (m_X12_canFire σ p0 p3 p2 (-1 : Int32) d27).bind fun v30 =>
      if v30.1 = 0 then
        some v30.2
      else
        (chk σ 12 p0).bind fun _ => (m_X12_fire σ p0 p3 p2 (-1 : Int32) v30.2).bind fun v31 =>
        some v31
    else
      if p5 = p2 then
        some d27
      else
        (gR σ 12 p0 0).bind fun v32 =>
        (rI σ d27 v32 ((422 : Int32) + p5)).bind fun v33 =>
        if v33 = (1 : Int32) then
          if p4 = 0 then
            m_X12_goActive_b255 σ p0 p2 p3 p4 p5 p2 d27
          else
            m_X12_goActive_b255 σ p0 p2 p3 p4 p5 p5 d27
        else
          some d27
  else
    (gR σ 12 p0 36).bind fun v36 =>
    (rI σ δ v36 (p1 + (3 : Int32))).bind fun v37 =>
    (wI σ δ v36 (p1 + (3 : Int32)) (v37 + (1 : Int32))).bind fun d38 =>
    (gR σ 12 p0 36).bind fun v39 =>
    (wI σ d38 v39 (p1 + (4 : Int32)) (0 : Int32)).bind fun d40 =>
    some d40
def m_X12_goActive (σ : St) (p0 : Nat) (p1 : Int32) (δ : Dy) : Option Dy :=
  (gR σ 12 p0 36).bind fun v1 =>
  (rI σ δ v1 (p1 + (1 : Int32))).bind fun v2 =>
  (gR σ 12 p0 36).bind fun v3 =>
  (rI σ δ v3 (p1 + (2 : Int32))).bind fun v4 =>
  (gR σ 12 p0 36).bind fun v5 =>
  (rI σ δ v5 (p1 + (3 : Int32))).bind fun v6 =>
  (gR σ 12 p0 36).bind fun v7 =>
  (rI σ δ v7 (p1 + (4 : Int32))).bind fun v8 =>
  (gR σ 12 p0 0).bind fun v9 =>
  (rI σ δ v9 ((422 : Int32) + v2)).bind fun v10 =>
  if v10 = 0 then
    m_X12_goActive_b59 σ p0 δ
  else
    (gI σ δ 12 p0 14).bind fun v13 =>
    if v4 = v13 then
      m_X12_goActive_b59 σ p0 δ
    else
      (gR σ 12 p0 9).bind fun v14 =>
      (rI σ δ v14 v4).bind fun v15 =>
      if v6 = v15 then
        (gR σ 12 p0 36).bind fun v16 =>
        (rI σ δ v16 (p1 + (2 : Int32))).bind fun v17 =>
        (wI σ δ v16 (p1 + (2 : Int32)) (v17 + (1 : Int32))).bind fun d18 =>
        (gR σ 12 p0 36).bind fun v19 =>
        (wI σ d18 v19 (p1 + (3 : Int32)) (0 : Int32)).bind fun d20 =>
        (gR σ 12 p0 36).bind fun v21 =>
        (wI σ d20 v21 (p1 + (4 : Int32)) (0 : Int32)).bind fun d22 =>
        some d22
      else
        (gR σ 12 p0 9).bind fun v23 =>
        (rI σ δ v23 v4).bind fun v24 =>
        if v24 = (1 : Int32) then
          if v8 ≤ 0 then
            m_X12_goActive_b152 σ p0 p1 v2 v4 v6 v8 (0 : Int32) δ
          else
            m_X12_goActive_b152 σ p0 p1 v2 v4 v6 v8 (1 : Int32) δ
        else
          (gR σ 12 p0 0).bind fun v41 =>
          (rI σ δ v41 (121 : Int32)).bind fun v42 =>
          if v8 < v42 then
            m_X12_goActive_b152 σ p0 p1 v2 v4 v6 v8 (0 : Int32) δ
          else
            m_X12_goActive_b152 σ p0 p1 v2 v4 v6 v8 (1 : Int32) δ
set_option maxHeartbeats 4000000 in
set_option maxRecDepth 100000 in
theorem w_X12_goActive_b59 {J : JT} {an : Option Value × St × Dy} (hI : Isj cX12_goActive 9 RX12 "goActive" 5 120 none an J) {β : Bu} (σ : St) (p0 : Nat) (δ : Dy) : SJ (m_X12_goActive_b59 σ p0 δ) (PV σ an) (J 59 [(0, .ref p0)] [] β σ δ) := by
  have hJ := hI.cor
  unfold m_X12_goActive_b59
  refine sj (j_aload_n hJ dX12_goActive_59 rfl 0 rfl) ?_
  refine sj (j_dup hJ dX12_goActive_60 rfl) ?_
  refine sj_gI hJ fl_X12_156 (Or.inl rfl) dX12_goActive_61 (fun v11 => ?_)
  refine sj (j_iconst hJ (v := 1) dX12_goActive_64 ic_1) ?_
  refine sj (j_isub hJ dX12_goActive_65) ?_
  refine sj_pI hJ fl_X12_156 rfl dX12_goActive_66 (fun d12 => ?_)
  exact sj_vret hI dX12_goActive_69 (fun h => h)
set_option maxHeartbeats 4000000 in
set_option maxRecDepth 100000 in
theorem w_X12_goActive_b268 {J : JT} {an : Option Value × St × Dy} (hI : Isj cX12_goActive 9 RX12 "goActive" 5 120 none an J) {β : Bu} (σ : St) (p0 : Nat) (p3 : Int32) (p7 : Int32) (q0 : Int32) (δ : Dy) : SJ (m_X12_goActive_b268 σ p0 p3 p7 q0 δ) (PV σ an) (J 268 [(0, .ref p0), (3, .int p3), (7, .int p7)] [.int q0] β σ δ) := by
  have hJ := hI.cor
  unfold m_X12_goActive_b268
  refine sj (j_istore hJ (L' := [(8, .int q0), (0, .ref p0), (3, .int p3), (7, .int p7)]) dX12_goActive_268 (by decide) rfl) ?_
  refine sj (j_aload_n hJ dX12_goActive_270 rfl 1 rfl) ?_
  refine sj (j_iload_n hJ dX12_goActive_271 rfl 2 rfl) ?_
  refine sj (j_iload hJ dX12_goActive_272 3 rfl) ?_
  refine sj (j_iload hJ dX12_goActive_274 0 rfl) ?_
  refine sj_callVi hJ [.int p3, .int p7, .int q0] (st := []) (fr' := 4) (lo' := 94) ml_X12_190 hc_12 (by decide) (by decide) (Nat.le_of_ble_eq_true rfl) dX12_goActive_276 rfl (fun _ h9 => ct_X12_canFire h9) (fun v34 => ?_)
  refine sj_if (j_if_eq hJ (tgt := 291) dX12_goActive_279 (by decide)) (fun _ => ?_) (fun _ => ?_)
  · exact sj_vret hI dX12_goActive_291 (fun h => h)
  · refine sj (j_aload_n hJ dX12_goActive_282 rfl 1 rfl) ?_
    refine sj (j_iload_n hJ dX12_goActive_283 rfl 2 rfl) ?_
    refine sj (j_iload hJ dX12_goActive_284 3 rfl) ?_
    refine sj (j_iload hJ dX12_goActive_286 0 rfl) ?_
    refine sj_callVv hJ [.int p3, .int p7, .int q0] (st := []) (fr' := 1) (lo' := 22) ml_X12_193 hc_12 (by decide) (by decide) (Nat.le_of_ble_eq_true rfl) dX12_goActive_288 rfl (fun _ h9 => ct_X12_fire h9) (fun v35 => ?_)
    exact sj_vret hI dX12_goActive_291 (fun h => h)
set_option maxHeartbeats 4000000 in
set_option maxRecDepth 100000 in
theorem w_X12_goActive_b255 {J : JT} {an : Option Value × St × Dy} (hI : Isj cX12_goActive 9 RX12 "goActive" 5 120 none an J) {β : Bu} (σ : St) (p0 : Nat) (p2 : Int32) (p3 : Int32) (p4 : Int32) (p5 : Int32) (q0 : Int32) (δ : Dy) : SJ (m_X12_goActive_b255 σ p0 p2 p3 p4 p5 q0 δ) (PV σ an) (J 255 [(0, .ref p0), (2, .int p2), (3, .int p3), (4, .int p4), (5, .int p5)] [.int q0] β σ δ) := by
  have hJ := hI.cor
  unfold m_X12_goActive_b255
  refine sj (j_istore hJ (L' := [(7, .int q0), (0, .ref p0), (2, .int p2), (3, .int p3), (4, .int p4), (5, .int p5)]) dX12_goActive_255 (by decide) rfl) ?_
  refine sj (j_iload hJ dX12_goActive_257 4 rfl) ?_
  refine sj_if (j_if_ne hJ (tgt := 267) dX12_goActive_259 (by decide)) (fun _ => ?_) (fun _ => ?_)
  · refine sj (j_iload hJ dX12_goActive_262 5 rfl) ?_
    refine sj (j_goto hJ (tgt := 268) dX12_goActive_264 (by decide)) ?_
    refine sj (j_sub hJ (L' := [(0, .ref p0), (3, .int p3), (7, .int q0)]) [1, 3, 0] rfl) ?_
    exact w_X12_goActive_b268 hI σ p0 p3 q0 p5 δ
  · refine sj (j_iload_n hJ dX12_goActive_267 rfl 2 rfl) ?_
    refine sj (j_sub hJ (L' := [(0, .ref p0), (3, .int p3), (7, .int q0)]) [1, 3, 0] rfl) ?_
    exact w_X12_goActive_b268 hI σ p0 p3 q0 p2 δ
set_option maxHeartbeats 4000000 in
set_option maxRecDepth 100000 in
theorem w_X12_goActive_b152 {J : JT} {an : Option Value × St × Dy} (hI : Isj cX12_goActive 9 RX12 "goActive" 5 120 none an J) {β : Bu} (σ : St) (p0 : Nat) (p1 : Int32) (p2 : Int32) (p3 : Int32) (p4 : Int32) (p5 : Int32) (q0 : Int32) (δ : Dy) : SJ (m_X12_goActive_b152 σ p0 p1 p2 p3 p4 p5 q0 δ) (PV σ an) (J 152 [(0, .ref p0), (1, .int p1), (2, .int p2), (3, .int p3), (4, .int p4), (5, .int p5)] [.int q0] β σ δ) := by
  have hJ := hI.cor
  unfold m_X12_goActive_b152
  refine sj (j_istore hJ (L' := [(6, .int q0), (0, .ref p0), (1, .int p1), (2, .int p2), (3, .int p3), (4, .int p4), (5, .int p5)]) dX12_goActive_152 (by decide) rfl) ?_
  refine sj (j_iload hJ dX12_goActive_154 0 rfl) ?_
  refine sj_if (j_if_eq hJ (tgt := 181) dX12_goActive_156 (by decide)) (fun _ => ?_) (fun _ => ?_)
  · refine sj (j_aload_n hJ dX12_goActive_181 rfl 1 rfl) ?_
    refine sj_gR hJ fl_X12_91 rfl dX12_goActive_182 (fun v25 => ?_)
    refine sj (j_iload_n hJ dX12_goActive_185 rfl 2 rfl) ?_
    refine sj (j_iconst hJ (v := 4) dX12_goActive_186 ic_4) ?_
    refine sj (j_iadd hJ dX12_goActive_187) ?_
    refine sj (j_dup2 hJ dX12_goActive_188 rfl rfl) ?_
    refine sj_rI hJ dX12_goActive_189 (fun v26 => ?_)
    refine sj (j_iconst hJ (v := 1) dX12_goActive_190 ic_1) ?_
    refine sj (j_iadd hJ dX12_goActive_191) ?_
    refine sj_wI hJ dX12_goActive_192 (fun d27 => ?_)
    refine sj (j_aload_n hJ dX12_goActive_193 rfl 1 rfl) ?_
    refine sj_gR hJ fl_X12_34 rfl dX12_goActive_194 (fun v28 => ?_)
    refine sj (j_iload_n hJ dX12_goActive_197 rfl 4 rfl) ?_
    refine sj_rI hJ dX12_goActive_198 (fun v29 => ?_)
    refine sj (j_iconst hJ (v := 1) dX12_goActive_199 ic_1) ?_
    refine sj_if (j_icmp_ne hJ (tgt := 223) dX12_goActive_200 (by decide)) (fun _ => ?_) (fun _ => ?_)
    · refine sj (j_aload_n hJ dX12_goActive_203 rfl 1 rfl) ?_
      refine sj (j_iload_n hJ dX12_goActive_204 rfl 4 rfl) ?_
      refine sj (j_iload_n hJ dX12_goActive_205 rfl 3 rfl) ?_
      refine sj (j_iconst hJ (v := -1) dX12_goActive_206 ic_m1) ?_
      refine sj_callVi hJ [.int p3, .int p2, .int (-1 : Int32)] (st := []) (fr' := 4) (lo' := 94) ml_X12_190 hc_12 (by decide) (by decide) (Nat.le_of_ble_eq_true rfl) dX12_goActive_207 rfl (fun _ h9 => ct_X12_canFire h9) (fun v30 => ?_)
      refine sj_if (j_if_eq hJ (tgt := 291) dX12_goActive_210 (by decide)) (fun _ => ?_) (fun _ => ?_)
      · exact sj_vret hI dX12_goActive_291 (fun h => h)
      · refine sj (j_aload_n hJ dX12_goActive_213 rfl 1 rfl) ?_
        refine sj (j_iload_n hJ dX12_goActive_214 rfl 4 rfl) ?_
        refine sj (j_iload_n hJ dX12_goActive_215 rfl 3 rfl) ?_
        refine sj (j_iconst hJ (v := -1) dX12_goActive_216 ic_m1) ?_
        refine sj_callVv hJ [.int p3, .int p2, .int (-1 : Int32)] (st := []) (fr' := 1) (lo' := 22) ml_X12_193 hc_12 (by decide) (by decide) (Nat.le_of_ble_eq_true rfl) dX12_goActive_217 rfl (fun _ h9 => ct_X12_fire h9) (fun v31 => ?_)
        refine sj (j_goto hJ (tgt := 291) dX12_goActive_220 (by decide)) ?_
        exact sj_vret hI dX12_goActive_291 (fun h => h)
    · refine sj (j_iload hJ dX12_goActive_223 6 rfl) ?_
      refine sj (j_iload_n hJ dX12_goActive_225 rfl 3 rfl) ?_
      refine sj_if (j_icmp_eq hJ (tgt := 291) dX12_goActive_226 (by decide)) (fun _ => ?_) (fun _ => ?_)
      · exact sj_vret hI dX12_goActive_291 (fun h => h)
      · refine sj (j_aload_n hJ dX12_goActive_229 rfl 1 rfl) ?_
        refine sj_gR hJ fl_X12_7 rfl dX12_goActive_230 (fun v32 => ?_)
        refine sj (j_sipush hJ (v := 422) dX12_goActive_233 is_422) ?_
        refine sj (j_iload hJ dX12_goActive_236 6 rfl) ?_
        refine sj (j_iadd hJ dX12_goActive_238) ?_
        refine sj_rI hJ dX12_goActive_239 (fun v33 => ?_)
        refine sj (j_iconst hJ (v := 1) dX12_goActive_240 ic_1) ?_
        refine sj_if (j_icmp_ne hJ (tgt := 291) dX12_goActive_241 (by decide)) (fun _ => ?_) (fun _ => ?_)
        · refine sj (j_iload hJ dX12_goActive_244 5 rfl) ?_
          refine sj_if (j_if_ne hJ (tgt := 253) dX12_goActive_246 (by decide)) (fun _ => ?_) (fun _ => ?_)
          · refine sj (j_iload_n hJ dX12_goActive_249 rfl 3 rfl) ?_
            refine sj (j_goto hJ (tgt := 255) dX12_goActive_250 (by decide)) ?_
            refine sj (j_sub hJ (L' := [(0, .ref p0), (2, .int p2), (3, .int p3), (4, .int p4), (5, .int p5)]) [1, 3, 4, 5, 6] rfl) ?_
            exact w_X12_goActive_b255 hI σ p0 p2 p3 p4 p5 p2 d27
          · refine sj (j_iload hJ dX12_goActive_253 6 rfl) ?_
            refine sj (j_sub hJ (L' := [(0, .ref p0), (2, .int p2), (3, .int p3), (4, .int p4), (5, .int p5)]) [1, 3, 4, 5, 6] rfl) ?_
            exact w_X12_goActive_b255 hI σ p0 p2 p3 p4 p5 p5 d27
        · exact sj_vret hI dX12_goActive_291 (fun h => h)
  · refine sj (j_aload_n hJ dX12_goActive_159 rfl 1 rfl) ?_
    refine sj_gR hJ fl_X12_91 rfl dX12_goActive_160 (fun v36 => ?_)
    refine sj (j_iload_n hJ dX12_goActive_163 rfl 2 rfl) ?_
    refine sj (j_iconst hJ (v := 3) dX12_goActive_164 ic_3) ?_
    refine sj (j_iadd hJ dX12_goActive_165) ?_
    refine sj (j_dup2 hJ dX12_goActive_166 rfl rfl) ?_
    refine sj_rI hJ dX12_goActive_167 (fun v37 => ?_)
    refine sj (j_iconst hJ (v := 1) dX12_goActive_168 ic_1) ?_
    refine sj (j_iadd hJ dX12_goActive_169) ?_
    refine sj_wI hJ dX12_goActive_170 (fun d38 => ?_)
    refine sj (j_aload_n hJ dX12_goActive_171 rfl 1 rfl) ?_
    refine sj_gR hJ fl_X12_91 rfl dX12_goActive_172 (fun v39 => ?_)
    refine sj (j_iload_n hJ dX12_goActive_175 rfl 2 rfl) ?_
    refine sj (j_iconst hJ (v := 4) dX12_goActive_176 ic_4) ?_
    refine sj (j_iadd hJ dX12_goActive_177) ?_
    refine sj (j_iconst hJ (v := 0) dX12_goActive_178 ic_0) ?_
    refine sj_wI hJ dX12_goActive_179 (fun d40 => ?_)
    exact sj_vret hI dX12_goActive_180 (fun h => h)
set_option maxHeartbeats 4000000 in
set_option maxRecDepth 100000 in
theorem w_X12_goActive {J : JT} {an : Option Value × St × Dy} (hI : Isj cX12_goActive 9 RX12 "goActive" 5 120 none an J) {β : Bu} (σ : St) (p0 : Nat) (p1 : Int32) (δ : Dy) : SJ (m_X12_goActive σ p0 p1 δ) (PV σ an) (J 0 [(0, .ref p0), (1, .int p1)] [] β σ δ) := by
  have hJ := hI.cor
  unfold m_X12_goActive
  refine sj (j_aload_n hJ dX12_goActive_0 rfl 0 rfl) ?_
  refine sj_gR hJ fl_X12_91 rfl dX12_goActive_1 (fun v1 => ?_)
  refine sj (j_iload_n hJ dX12_goActive_4 rfl 1 rfl) ?_
  refine sj (j_iconst hJ (v := 1) dX12_goActive_5 ic_1) ?_
  refine sj (j_iadd hJ dX12_goActive_6) ?_
  refine sj_rI hJ dX12_goActive_7 (fun v2 => ?_)
  refine sj (j_istore_n hJ (L' := [(2, .int v2), (0, .ref p0), (1, .int p1)]) dX12_goActive_8 rfl (by decide) rfl) ?_
  refine sj (j_aload_n hJ dX12_goActive_9 rfl 1 rfl) ?_
  refine sj_gR hJ fl_X12_91 rfl dX12_goActive_10 (fun v3 => ?_)
  refine sj (j_iload_n hJ dX12_goActive_13 rfl 2 rfl) ?_
  refine sj (j_iconst hJ (v := 2) dX12_goActive_14 ic_2) ?_
  refine sj (j_iadd hJ dX12_goActive_15) ?_
  refine sj_rI hJ dX12_goActive_16 (fun v4 => ?_)
  refine sj (j_istore_n hJ (L' := [(3, .int v4), (2, .int v2), (0, .ref p0), (1, .int p1)]) dX12_goActive_17 rfl (by decide) rfl) ?_
  refine sj (j_aload_n hJ dX12_goActive_18 rfl 2 rfl) ?_
  refine sj_gR hJ fl_X12_91 rfl dX12_goActive_19 (fun v5 => ?_)
  refine sj (j_iload_n hJ dX12_goActive_22 rfl 3 rfl) ?_
  refine sj (j_iconst hJ (v := 3) dX12_goActive_23 ic_3) ?_
  refine sj (j_iadd hJ dX12_goActive_24) ?_
  refine sj_rI hJ dX12_goActive_25 (fun v6 => ?_)
  refine sj (j_istore hJ (L' := [(4, .int v6), (3, .int v4), (2, .int v2), (0, .ref p0), (1, .int p1)]) dX12_goActive_26 (by decide) rfl) ?_
  refine sj (j_aload_n hJ dX12_goActive_28 rfl 3 rfl) ?_
  refine sj_gR hJ fl_X12_91 rfl dX12_goActive_29 (fun v7 => ?_)
  refine sj (j_iload_n hJ dX12_goActive_32 rfl 4 rfl) ?_
  refine sj (j_iconst hJ (v := 4) dX12_goActive_33 ic_4) ?_
  refine sj (j_iadd hJ dX12_goActive_34) ?_
  refine sj_rI hJ dX12_goActive_35 (fun v8 => ?_)
  refine sj (j_istore hJ (L' := [(5, .int v8), (4, .int v6), (3, .int v4), (2, .int v2), (0, .ref p0), (1, .int p1)]) dX12_goActive_36 (by decide) rfl) ?_
  refine sj (j_aload_n hJ dX12_goActive_38 rfl 4 rfl) ?_
  refine sj_gR hJ fl_X12_7 rfl dX12_goActive_39 (fun v9 => ?_)
  refine sj (j_sipush hJ (v := 422) dX12_goActive_42 is_422) ?_
  refine sj (j_iload_n hJ dX12_goActive_45 rfl 3 rfl) ?_
  refine sj (j_iadd hJ dX12_goActive_46) ?_
  refine sj_rI hJ dX12_goActive_47 (fun v10 => ?_)
  refine sj_if (j_if_eq hJ (tgt := 59) dX12_goActive_48 (by decide)) (fun _ => ?_) (fun _ => ?_)
  · refine sj (j_sub hJ (L' := [(0, .ref p0)]) [4] rfl) ?_
    exact w_X12_goActive_b59 hI σ p0 δ
  · refine sj (j_iload_n hJ dX12_goActive_51 rfl 2 rfl) ?_
    refine sj (j_aload_n hJ dX12_goActive_52 rfl 4 rfl) ?_
    refine sj_gI hJ fl_X12_187 (Or.inl rfl) dX12_goActive_53 (fun v13 => ?_)
    refine sj_if (j_icmp_ne hJ (tgt := 70) dX12_goActive_56 (by decide)) (fun _ => ?_) (fun _ => ?_)
    · refine sj (j_sub hJ (L' := [(0, .ref p0)]) [4] rfl) ?_
      exact w_X12_goActive_b59 hI σ p0 δ
    · refine sj (j_iload hJ dX12_goActive_70 1 rfl) ?_
      refine sj (j_aload_n hJ dX12_goActive_72 rfl 4 rfl) ?_
      refine sj_gR hJ fl_X12_34 rfl dX12_goActive_73 (fun v14 => ?_)
      refine sj (j_iload_n hJ dX12_goActive_76 rfl 2 rfl) ?_
      refine sj_rI hJ dX12_goActive_77 (fun v15 => ?_)
      refine sj_if (j_icmp_ne hJ (tgt := 112) dX12_goActive_78 (by decide)) (fun _ => ?_) (fun _ => ?_)
      · refine sj (j_aload_n hJ dX12_goActive_81 rfl 4 rfl) ?_
        refine sj_gR hJ fl_X12_91 rfl dX12_goActive_82 (fun v16 => ?_)
        refine sj (j_iload_n hJ dX12_goActive_85 rfl 5 rfl) ?_
        refine sj (j_iconst hJ (v := 2) dX12_goActive_86 ic_2) ?_
        refine sj (j_iadd hJ dX12_goActive_87) ?_
        refine sj (j_dup2 hJ dX12_goActive_88 rfl rfl) ?_
        refine sj_rI hJ dX12_goActive_89 (fun v17 => ?_)
        refine sj (j_iconst hJ (v := 1) dX12_goActive_90 ic_1) ?_
        refine sj (j_iadd hJ dX12_goActive_91) ?_
        refine sj_wI hJ dX12_goActive_92 (fun d18 => ?_)
        refine sj (j_aload_n hJ dX12_goActive_93 rfl 4 rfl) ?_
        refine sj_gR hJ fl_X12_91 rfl dX12_goActive_94 (fun v19 => ?_)
        refine sj (j_iload_n hJ dX12_goActive_97 rfl 5 rfl) ?_
        refine sj (j_iconst hJ (v := 3) dX12_goActive_98 ic_3) ?_
        refine sj (j_iadd hJ dX12_goActive_99) ?_
        refine sj (j_iconst hJ (v := 0) dX12_goActive_100 ic_0) ?_
        refine sj_wI hJ dX12_goActive_101 (fun d20 => ?_)
        refine sj (j_aload_n hJ dX12_goActive_102 rfl 4 rfl) ?_
        refine sj_gR hJ fl_X12_91 rfl dX12_goActive_103 (fun v21 => ?_)
        refine sj (j_iload_n hJ dX12_goActive_106 rfl 5 rfl) ?_
        refine sj (j_iconst hJ (v := 4) dX12_goActive_107 ic_4) ?_
        refine sj (j_iadd hJ dX12_goActive_108) ?_
        refine sj (j_iconst hJ (v := 0) dX12_goActive_109 ic_0) ?_
        refine sj_wI hJ dX12_goActive_110 (fun d22 => ?_)
        exact sj_vret hI dX12_goActive_111 (fun h => h)
      · refine sj (j_aload_n hJ dX12_goActive_112 rfl 4 rfl) ?_
        refine sj_gR hJ fl_X12_34 rfl dX12_goActive_113 (fun v23 => ?_)
        refine sj (j_iload_n hJ dX12_goActive_116 rfl 2 rfl) ?_
        refine sj_rI hJ dX12_goActive_117 (fun v24 => ?_)
        refine sj (j_iconst hJ (v := 1) dX12_goActive_118 ic_1) ?_
        refine sj_if (j_icmp_ne hJ (tgt := 135) dX12_goActive_119 (by decide)) (fun _ => ?_) (fun _ => ?_)
        · refine sj (j_iload hJ dX12_goActive_122 0 rfl) ?_
          refine sj_if (j_if_le hJ (tgt := 131) dX12_goActive_124 (by decide)) (fun _ => ?_) (fun _ => ?_)
          · refine sj (j_iconst hJ (v := 0) dX12_goActive_131 ic_0) ?_
            refine sj (j_goto hJ (tgt := 152) dX12_goActive_132 (by decide)) ?_
            refine sj (j_sub hJ (L' := [(0, .ref p0), (1, .int p1), (2, .int v2), (3, .int v4), (4, .int v6), (5, .int v8)]) [4, 5, 3, 2, 1, 0] rfl) ?_
            exact w_X12_goActive_b152 hI σ p0 p1 v2 v4 v6 v8 (0 : Int32) δ
          · refine sj (j_iconst hJ (v := 1) dX12_goActive_127 ic_1) ?_
            refine sj (j_goto hJ (tgt := 152) dX12_goActive_128 (by decide)) ?_
            refine sj (j_sub hJ (L' := [(0, .ref p0), (1, .int p1), (2, .int v2), (3, .int v4), (4, .int v6), (5, .int v8)]) [4, 5, 3, 2, 1, 0] rfl) ?_
            exact w_X12_goActive_b152 hI σ p0 p1 v2 v4 v6 v8 (1 : Int32) δ
        · refine sj (j_iload hJ dX12_goActive_135 0 rfl) ?_
          refine sj (j_aload_n hJ dX12_goActive_137 rfl 4 rfl) ?_
          refine sj_gR hJ fl_X12_7 rfl dX12_goActive_138 (fun v41 => ?_)
          refine sj (j_bipush hJ (v := 121) dX12_goActive_141 ib_121) ?_
          refine sj_rI hJ dX12_goActive_143 (fun v42 => ?_)
          refine sj_if (j_icmp_lt hJ (tgt := 151) dX12_goActive_144 (by decide)) (fun _ => ?_) (fun _ => ?_)
          · refine sj (j_iconst hJ (v := 0) dX12_goActive_151 ic_0) ?_
            refine sj (j_sub hJ (L' := [(0, .ref p0), (1, .int p1), (2, .int v2), (3, .int v4), (4, .int v6), (5, .int v8)]) [4, 5, 3, 2, 1, 0] rfl) ?_
            exact w_X12_goActive_b152 hI σ p0 p1 v2 v4 v6 v8 (0 : Int32) δ
          · refine sj (j_iconst hJ (v := 1) dX12_goActive_147 ic_1) ?_
            refine sj (j_goto hJ (tgt := 152) dX12_goActive_148 (by decide)) ?_
            refine sj (j_sub hJ (L' := [(0, .ref p0), (1, .int p1), (2, .int v2), (3, .int v4), (4, .int v6), (5, .int v8)]) [4, 5, 3, 2, 1, 0] rfl) ?_
            exact w_X12_goActive_b152 hI σ p0 p1 v2 v4 v6 v8 (1 : Int32) δ
theorem ct_X12_goActive {σ : St} {p0 : Nat} {p1 : Int32} {δ : Dy} {r : Dy} (h : m_X12_goActive σ p0 p1 δ = some r) : CT yX12_goActive cX12_goActive 9 none 5 120 0 0 [.ref p0, .int p1] σ δ (none, σ, r) := CT_of (by decide +kernel) (Nat.le_of_ble_eq_true rfl) (fun J hI => w_X12_goActive hI σ p0 p1 δ r h rfl)
def m_X12_goBodies_b195 (σ : St) (q0 : Nat) (q1 : Int32) (q2 : Int32) (q3 : Int32) (q4 : Int32) (δ : Dy) : Option Dy :=
  (chk σ 12 q0).bind fun _ => (m_X12_tellToken σ q0 q1 q2 q3 q4 δ).bind fun v25 =>
  some v25
def m_X12_goBodies_b54 (σ : St) (p0 : Nat) (p1 : Int32) (p2 : Int32) (p3 : Int32) (p4 : Int32) (δ : Dy) : Option Dy := lp (fun (s : (Int32 × Dy)) =>
  if (4 : Int32) ≤ s.1 then
    (gR σ 12 p0 13).bind fun v12 =>
    (rI σ s.2 v12 ((((6 : Int32) * p2) + ((3 : Int32) * p3)) + (1 : Int32))).bind fun v13 =>
    (chk σ 12 p0).bind fun _ => (m_X12_termOf σ p0 v13 s.2).bind fun v14 =>
    (gR σ 12 p0 13).bind fun v15 =>
    (rI σ s.2 v15 ((((6 : Int32) * p2) + ((3 : Int32) * p3)) + (2 : Int32))).bind fun v16 =>
    (chk σ 12 p0).bind fun _ => (m_X12_termOf σ p0 v16 s.2).bind fun v17 =>
    (gR σ 12 p0 13).bind fun v18 =>
    (rI σ s.2 v18 (((6 : Int32) * p2) + ((3 : Int32) * p3))).bind fun v19 =>
    if v19 = (-1 : Int32) then
      (chk σ 12 p0).bind fun _ => (m_X12_tellEqual σ p0 v14 v17 s.2).bind fun v20 =>
      some (Sum.inr v20)
    else
      (gR σ 12 p0 13).bind fun v21 =>
      (rI σ s.2 v21 (((6 : Int32) * p2) + ((3 : Int32) * p3))).bind fun v22 =>
      (gR σ 12 p0 36).bind fun v23 =>
      (rI σ s.2 v23 (p1 + (11 : Int32))).bind fun v24 =>
      if v24 = (1 : Int32) then
        (m_X12_goBodies_b195 σ p0 v22 v14 v17 (1 : Int32) s.2).bind fun r => some (Sum.inr r)
      else
        (m_X12_goBodies_b195 σ p0 v22 v14 v17 (0 : Int32) s.2).bind fun r => some (Sum.inr r)
  else
    (gR σ 12 p0 38).bind fun v26 =>
    (gR σ 12 p0 36).bind fun v27 =>
    (rI σ s.2 v27 ((p1 + (3 : Int32)) + s.1)).bind fun v28 =>
    (wI σ s.2 v26 s.1 v28).bind fun d29 =>
    (gR σ 12 p0 39).bind fun v30 =>
    (gR σ 12 p0 36).bind fun v31 =>
    (rI σ d29 v31 ((p1 + (7 : Int32)) + s.1)).bind fun v32 =>
    (wI σ d29 v30 s.1 v32).bind fun d33 =>
    some (Sum.inl ((s.1 + (1 : Int32)), d33))) (p4, δ)
def m_X12_goBodies (σ : St) (p0 : Nat) (p1 : Int32) (δ : Dy) : Option Dy :=
  (gR σ 12 p0 36).bind fun v1 =>
  (rI σ δ v1 (p1 + (1 : Int32))).bind fun v2 =>
  (gR σ 12 p0 36).bind fun v3 =>
  (rI σ δ v3 (p1 + (2 : Int32))).bind fun v4 =>
  (gR σ 12 p0 12).bind fun v5 =>
  (rI σ δ v5 v2).bind fun v6 =>
  if v4 = v6 then
    (gI σ δ 12 p0 37).bind fun v7 =>
    (pI σ δ 12 p0 37 (v7 - (1 : Int32))).bind fun d8 =>
    some d8
  else
    (gR σ 12 p0 36).bind fun v9 =>
    (rI σ δ v9 (p1 + (2 : Int32))).bind fun v10 =>
    (wI σ δ v9 (p1 + (2 : Int32)) (v10 + (1 : Int32))).bind fun d11 =>
    m_X12_goBodies_b54 σ p0 p1 v2 v4 (0 : Int32) d11
set_option maxHeartbeats 4000000 in
set_option maxRecDepth 100000 in
theorem w_X12_goBodies_b195 {J : JT} {an : Option Value × St × Dy} (hI : Isj cX12_goBodies 7 RX12 "goBodies" 3 77 none an J) {β : Bu} (σ : St) (q0 : Nat) (q1 : Int32) (q2 : Int32) (q3 : Int32) (q4 : Int32) (δ : Dy) : SJ (m_X12_goBodies_b195 σ q0 q1 q2 q3 q4 δ) (PV σ an) (J 195 [] [.int q4, .int q3, .int q2, .int q1, .ref q0] β σ δ) := by
  have hJ := hI.cor
  unfold m_X12_goBodies_b195
  refine sj_callVv hJ [.int q1, .int q2, .int q3, .int q4] (st := []) (fr' := 2) (lo' := 43) ml_X12_201 hc_12 (by decide) (by decide) (Nat.le_of_ble_eq_true rfl) dX12_goBodies_195 rfl (fun _ h9 => ct_X12_tellToken h9) (fun v25 => ?_)
  exact sj_vret hI dX12_goBodies_198 (fun h => h)
set_option maxHeartbeats 4000000 in
set_option maxRecDepth 100000 in
theorem w_X12_goBodies_b54 {J : JT} {an : Option Value × St × Dy} (hI : Isj cX12_goBodies 7 RX12 "goBodies" 3 77 none an J) {β : Bu} (σ : St) (p0 : Nat) (p1 : Int32) (p2 : Int32) (p3 : Int32) (p4 : Int32) (δ : Dy) : SJ (m_X12_goBodies_b54 σ p0 p1 p2 p3 p4 δ) (PV σ an) (J 54 [(0, .ref p0), (1, .int p1), (2, .int p2), (3, .int p3), (4, .int p4)] [] β σ δ) := by
  have hJ := hI.cor
  unfold m_X12_goBodies_b54
  refine sj_lp (G := fun s : (Int32 × Dy) => J 54 [(0, .ref p0), (1, .int p1), (2, .int p2), (3, .int p3), (4, .int s.1)] [] β σ s.2) (fun s => ?_) (p4, δ)
  refine sj (j_iload hJ dX12_goBodies_54 4 rfl) ?_
  refine sj (j_iconst hJ (v := 4) dX12_goBodies_56 ic_4) ?_
  refine sj_if (j_icmp_ge hJ (tgt := 103) dX12_goBodies_57 (by decide)) (fun _ => ?_) (fun _ => ?_)
  · refine sj (j_bipush hJ (v := 6) dX12_goBodies_103 ib_6) ?_
    refine sj (j_iload_n hJ dX12_goBodies_105 rfl 2 rfl) ?_
    refine sj (j_imul hJ dX12_goBodies_106) ?_
    refine sj (j_iconst hJ (v := 3) dX12_goBodies_107 ic_3) ?_
    refine sj (j_iload_n hJ dX12_goBodies_108 rfl 3 rfl) ?_
    refine sj (j_imul hJ dX12_goBodies_109) ?_
    refine sj (j_iadd hJ dX12_goBodies_110) ?_
    refine sj (j_istore hJ (L' := [(4, .int (((6 : Int32) * p2) + ((3 : Int32) * p3))), (0, .ref p0), (1, .int p1), (2, .int p2), (3, .int p3)]) dX12_goBodies_111 (by decide) rfl) ?_
    refine sj (j_aload_n hJ dX12_goBodies_113 rfl 1 rfl) ?_
    refine sj (j_aload_n hJ dX12_goBodies_114 rfl 1 rfl) ?_
    refine sj_gR hJ fl_X12_46 rfl dX12_goBodies_115 (fun v12 => ?_)
    refine sj (j_iload hJ dX12_goBodies_118 0 rfl) ?_
    refine sj (j_iconst hJ (v := 1) dX12_goBodies_120 ic_1) ?_
    refine sj (j_iadd hJ dX12_goBodies_121) ?_
    refine sj_rI hJ dX12_goBodies_122 (fun v13 => ?_)
    refine sj_callVip hJ [.int v13] (st := []) (fr' := 1) (lo' := 22) ml_X12_172 hc_12 (by decide) (by decide) (Nat.le_of_ble_eq_true rfl) dX12_goBodies_123 rfl (fun _ h9 => ct_X12_termOf h9) (fun v14 => ?_)
    refine sj (j_istore hJ (L' := [(5, .int v14), (4, .int (((6 : Int32) * p2) + ((3 : Int32) * p3))), (0, .ref p0), (1, .int p1), (2, .int p2), (3, .int p3)]) dX12_goBodies_126 (by decide) rfl) ?_
    refine sj (j_aload_n hJ dX12_goBodies_128 rfl 2 rfl) ?_
    refine sj (j_aload_n hJ dX12_goBodies_129 rfl 2 rfl) ?_
    refine sj_gR hJ fl_X12_46 rfl dX12_goBodies_130 (fun v15 => ?_)
    refine sj (j_iload hJ dX12_goBodies_133 1 rfl) ?_
    refine sj (j_iconst hJ (v := 2) dX12_goBodies_135 ic_2) ?_
    refine sj (j_iadd hJ dX12_goBodies_136) ?_
    refine sj_rI hJ dX12_goBodies_137 (fun v16 => ?_)
    refine sj_callVip hJ [.int v16] (st := []) (fr' := 1) (lo' := 22) ml_X12_172 hc_12 (by decide) (by decide) (Nat.le_of_ble_eq_true rfl) dX12_goBodies_138 rfl (fun _ h9 => ct_X12_termOf h9) (fun v17 => ?_)
    refine sj (j_istore hJ (L' := [(6, .int v17), (5, .int v14), (4, .int (((6 : Int32) * p2) + ((3 : Int32) * p3))), (0, .ref p0), (1, .int p1), (2, .int p2), (3, .int p3)]) dX12_goBodies_141 (by decide) rfl) ?_
    refine sj (j_aload_n hJ dX12_goBodies_143 rfl 3 rfl) ?_
    refine sj_gR hJ fl_X12_46 rfl dX12_goBodies_144 (fun v18 => ?_)
    refine sj (j_iload hJ dX12_goBodies_147 2 rfl) ?_
    refine sj_rI hJ dX12_goBodies_149 (fun v19 => ?_)
    refine sj (j_iconst hJ (v := -1) dX12_goBodies_150 ic_m1) ?_
    refine sj_if (j_icmp_ne hJ (tgt := 165) dX12_goBodies_151 (by decide)) (fun _ => ?_) (fun _ => ?_)
    · refine sj (j_aload_n hJ dX12_goBodies_154 rfl 3 rfl) ?_
      refine sj (j_iload hJ dX12_goBodies_155 1 rfl) ?_
      refine sj (j_iload hJ dX12_goBodies_157 0 rfl) ?_
      refine sj_callVv hJ [.int v14, .int v17] (st := []) (fr' := 2) (lo' := 48) ml_X12_197 hc_12 (by decide) (by decide) (Nat.le_of_ble_eq_true rfl) dX12_goBodies_159 rfl (fun _ h9 => ct_X12_tellEqual h9) (fun v20 => ?_)
      refine sj (j_goto hJ (tgt := 198) dX12_goBodies_162 (by decide)) ?_
      exact sj_vret hI dX12_goBodies_198 (fun h => h)
    · refine sj (j_aload_n hJ dX12_goBodies_165 rfl 3 rfl) ?_
      refine sj (j_aload_n hJ dX12_goBodies_166 rfl 3 rfl) ?_
      refine sj_gR hJ fl_X12_46 rfl dX12_goBodies_167 (fun v21 => ?_)
      refine sj (j_iload hJ dX12_goBodies_170 2 rfl) ?_
      refine sj_rI hJ dX12_goBodies_172 (fun v22 => ?_)
      refine sj (j_iload hJ dX12_goBodies_173 1 rfl) ?_
      refine sj (j_iload hJ dX12_goBodies_175 0 rfl) ?_
      refine sj (j_aload_n hJ dX12_goBodies_177 rfl 3 rfl) ?_
      refine sj_gR hJ fl_X12_91 rfl dX12_goBodies_178 (fun v23 => ?_)
      refine sj (j_iload_n hJ dX12_goBodies_181 rfl 4 rfl) ?_
      refine sj (j_bipush hJ (v := 11) dX12_goBodies_182 ib_11) ?_
      refine sj (j_iadd hJ dX12_goBodies_184) ?_
      refine sj_rI hJ dX12_goBodies_185 (fun v24 => ?_)
      refine sj (j_iconst hJ (v := 1) dX12_goBodies_186 ic_1) ?_
      refine sj_if (j_icmp_ne hJ (tgt := 194) dX12_goBodies_187 (by decide)) (fun _ => ?_) (fun _ => ?_)
      · refine sj (j_iconst hJ (v := 1) dX12_goBodies_190 ic_1) ?_
        refine sj (j_goto hJ (tgt := 195) dX12_goBodies_191 (by decide)) ?_
        refine sj (j_sub hJ (L' := []) [] rfl) ?_
        refine sj_map ?_
        exact w_X12_goBodies_b195 hI σ p0 v22 v14 v17 (1 : Int32) s.2
      · refine sj (j_iconst hJ (v := 0) dX12_goBodies_194 ic_0) ?_
        refine sj (j_sub hJ (L' := []) [] rfl) ?_
        refine sj_map ?_
        exact w_X12_goBodies_b195 hI σ p0 v22 v14 v17 (0 : Int32) s.2
  · refine sj (j_aload_n hJ dX12_goBodies_60 rfl 0 rfl) ?_
    refine sj_gR hJ fl_X12_94 rfl dX12_goBodies_61 (fun v26 => ?_)
    refine sj (j_iload hJ dX12_goBodies_64 4 rfl) ?_
    refine sj (j_aload_n hJ dX12_goBodies_66 rfl 0 rfl) ?_
    refine sj_gR hJ fl_X12_91 rfl dX12_goBodies_67 (fun v27 => ?_)
    refine sj (j_iload_n hJ dX12_goBodies_70 rfl 1 rfl) ?_
    refine sj (j_iconst hJ (v := 3) dX12_goBodies_71 ic_3) ?_
    refine sj (j_iadd hJ dX12_goBodies_72) ?_
    refine sj (j_iload hJ dX12_goBodies_73 4 rfl) ?_
    refine sj (j_iadd hJ dX12_goBodies_75) ?_
    refine sj_rI hJ dX12_goBodies_76 (fun v28 => ?_)
    refine sj_wI hJ dX12_goBodies_77 (fun d29 => ?_)
    refine sj (j_aload_n hJ dX12_goBodies_78 rfl 0 rfl) ?_
    refine sj_gR hJ fl_X12_97 rfl dX12_goBodies_79 (fun v30 => ?_)
    refine sj (j_iload hJ dX12_goBodies_82 4 rfl) ?_
    refine sj (j_aload_n hJ dX12_goBodies_84 rfl 0 rfl) ?_
    refine sj_gR hJ fl_X12_91 rfl dX12_goBodies_85 (fun v31 => ?_)
    refine sj (j_iload_n hJ dX12_goBodies_88 rfl 1 rfl) ?_
    refine sj (j_bipush hJ (v := 7) dX12_goBodies_89 ib_7) ?_
    refine sj (j_iadd hJ dX12_goBodies_91) ?_
    refine sj (j_iload hJ dX12_goBodies_92 4 rfl) ?_
    refine sj (j_iadd hJ dX12_goBodies_94) ?_
    refine sj_rI hJ dX12_goBodies_95 (fun v32 => ?_)
    refine sj_wI hJ dX12_goBodies_96 (fun d33 => ?_)
    refine sj (j_iinc hJ (L' := [(4, .int (s.1 + (1 : Int32))), (0, .ref p0), (1, .int p1), (2, .int p2), (3, .int p3)]) dX12_goBodies_97 4 rfl (congrArg (fun z => s.1 + z) ic_1) (by decide) rfl) ?_
    refine sj (j_goto hJ (tgt := 54) dX12_goBodies_100 (by decide)) ?_
    refine sj (j_sub hJ (L' := [(0, .ref p0), (1, .int p1), (2, .int p2), (3, .int p3), (4, .int (s.1 + (1 : Int32)))]) [1, 2, 3, 4, 0] rfl) ?_
    exact sj_end (fun h => h)
set_option maxHeartbeats 4000000 in
set_option maxRecDepth 100000 in
theorem w_X12_goBodies {J : JT} {an : Option Value × St × Dy} (hI : Isj cX12_goBodies 7 RX12 "goBodies" 3 77 none an J) {β : Bu} (σ : St) (p0 : Nat) (p1 : Int32) (δ : Dy) : SJ (m_X12_goBodies σ p0 p1 δ) (PV σ an) (J 0 [(0, .ref p0), (1, .int p1)] [] β σ δ) := by
  have hJ := hI.cor
  unfold m_X12_goBodies
  refine sj (j_aload_n hJ dX12_goBodies_0 rfl 0 rfl) ?_
  refine sj_gR hJ fl_X12_91 rfl dX12_goBodies_1 (fun v1 => ?_)
  refine sj (j_iload_n hJ dX12_goBodies_4 rfl 1 rfl) ?_
  refine sj (j_iconst hJ (v := 1) dX12_goBodies_5 ic_1) ?_
  refine sj (j_iadd hJ dX12_goBodies_6) ?_
  refine sj_rI hJ dX12_goBodies_7 (fun v2 => ?_)
  refine sj (j_istore_n hJ (L' := [(2, .int v2), (0, .ref p0), (1, .int p1)]) dX12_goBodies_8 rfl (by decide) rfl) ?_
  refine sj (j_aload_n hJ dX12_goBodies_9 rfl 1 rfl) ?_
  refine sj_gR hJ fl_X12_91 rfl dX12_goBodies_10 (fun v3 => ?_)
  refine sj (j_iload_n hJ dX12_goBodies_13 rfl 2 rfl) ?_
  refine sj (j_iconst hJ (v := 2) dX12_goBodies_14 ic_2) ?_
  refine sj (j_iadd hJ dX12_goBodies_15) ?_
  refine sj_rI hJ dX12_goBodies_16 (fun v4 => ?_)
  refine sj (j_istore_n hJ (L' := [(3, .int v4), (2, .int v2), (0, .ref p0), (1, .int p1)]) dX12_goBodies_17 rfl (by decide) rfl) ?_
  refine sj (j_iload_n hJ dX12_goBodies_18 rfl 0 rfl) ?_
  refine sj (j_aload_n hJ dX12_goBodies_19 rfl 2 rfl) ?_
  refine sj_gR hJ fl_X12_43 rfl dX12_goBodies_20 (fun v5 => ?_)
  refine sj (j_iload_n hJ dX12_goBodies_23 rfl 1 rfl) ?_
  refine sj_rI hJ dX12_goBodies_24 (fun v6 => ?_)
  refine sj_if (j_icmp_ne hJ (tgt := 39) dX12_goBodies_25 (by decide)) (fun _ => ?_) (fun _ => ?_)
  · refine sj (j_aload_n hJ dX12_goBodies_28 rfl 2 rfl) ?_
    refine sj (j_dup hJ dX12_goBodies_29 rfl) ?_
    refine sj_gI hJ fl_X12_156 (Or.inl rfl) dX12_goBodies_30 (fun v7 => ?_)
    refine sj (j_iconst hJ (v := 1) dX12_goBodies_33 ic_1) ?_
    refine sj (j_isub hJ dX12_goBodies_34) ?_
    refine sj_pI hJ fl_X12_156 rfl dX12_goBodies_35 (fun d8 => ?_)
    exact sj_vret hI dX12_goBodies_38 (fun h => h)
  · refine sj (j_aload_n hJ dX12_goBodies_39 rfl 2 rfl) ?_
    refine sj_gR hJ fl_X12_91 rfl dX12_goBodies_40 (fun v9 => ?_)
    refine sj (j_iload_n hJ dX12_goBodies_43 rfl 3 rfl) ?_
    refine sj (j_iconst hJ (v := 2) dX12_goBodies_44 ic_2) ?_
    refine sj (j_iadd hJ dX12_goBodies_45) ?_
    refine sj (j_dup2 hJ dX12_goBodies_46 rfl rfl) ?_
    refine sj_rI hJ dX12_goBodies_47 (fun v10 => ?_)
    refine sj (j_iconst hJ (v := 1) dX12_goBodies_48 ic_1) ?_
    refine sj (j_iadd hJ dX12_goBodies_49) ?_
    refine sj_wI hJ dX12_goBodies_50 (fun d11 => ?_)
    refine sj (j_iconst hJ (v := 0) dX12_goBodies_51 ic_0) ?_
    refine sj (j_istore hJ (L' := [(4, .int (0 : Int32)), (3, .int v4), (2, .int v2), (0, .ref p0), (1, .int p1)]) dX12_goBodies_52 (by decide) rfl) ?_
    refine sj (j_sub hJ (L' := [(0, .ref p0), (1, .int p1), (2, .int v2), (3, .int v4), (4, .int (0 : Int32))]) [3, 4, 2, 1, 0] rfl) ?_
    exact w_X12_goBodies_b54 hI σ p0 p1 v2 v4 (0 : Int32) d11
theorem ct_X12_goBodies {σ : St} {p0 : Nat} {p1 : Int32} {δ : Dy} {r : Dy} (h : m_X12_goBodies σ p0 p1 δ = some r) : CT yX12_goBodies cX12_goBodies 7 none 3 77 0 0 [.ref p0, .int p1] σ δ (none, σ, r) := CT_of (by decide +kernel) (Nat.le_of_ble_eq_true rfl) (fun J hI => w_X12_goBodies hI σ p0 p1 δ r h rfl)
