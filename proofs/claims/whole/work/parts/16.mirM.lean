def m_X12_goAgain_b44 (σ : St) (p0 : Nat) (p1 : Int32) (p2 : Int32) (δ : Dy) : Option Dy :=
  if p2 = (100 : Int32) then
    (gI σ δ 12 p0 37).bind fun v3 =>
    (pI σ δ 12 p0 37 (v3 - (1 : Int32))).bind fun d4 =>
    some d4
  else
    (gR σ 12 p0 36).bind fun v5 =>
    (wI σ δ v5 (p1 + (1 : Int32)) (p2 + (1 : Int32))).bind fun d6 =>
    (gR σ 12 p0 0).bind fun v7 =>
    (rI σ d6 v7 ((422 : Int32) + p2)).bind fun v8 =>
    if v8 = (1 : Int32) then
      (chk σ 12 p0).bind fun _ => (m_X12_pushActive σ p0 p2 d6).bind fun v9 =>
      some v9
    else
      some d6
def m_X12_goAgain_b9 (σ : St) (p0 : Nat) (p1 : Int32) (p2 : Int32) (δ : Dy) : Option Dy := lp (fun (s : (Int32)) =>
  if (100 : Int32) ≤ s then
    (m_X12_goAgain_b44 σ p0 p1 s δ).bind fun r => some (Sum.inr r)
  else
    (gR σ 12 p0 36).bind fun v10 =>
    (dvI s (32 : Int32)).bind fun v11 =>
    (rI σ δ v10 ((p1 + (2 : Int32)) + v11)).bind fun v12 =>
    (rmI s (32 : Int32)).bind fun v13 =>
    if ((v12 >>> (v13 &&& 31)) &&& (1 : Int32)) = 0 then
      some (Sum.inl (s + (1 : Int32)))
    else
      (m_X12_goAgain_b44 σ p0 p1 s δ).bind fun r => some (Sum.inr r)) (p2)
def m_X12_goAgain (σ : St) (p0 : Nat) (p1 : Int32) (δ : Dy) : Option Dy :=
  (gR σ 12 p0 36).bind fun v1 =>
  (rI σ δ v1 (p1 + (1 : Int32))).bind fun v2 =>
  m_X12_goAgain_b9 σ p0 p1 v2 δ
set_option maxHeartbeats 4000000 in
set_option maxRecDepth 100000 in
theorem w_X12_goAgain_b44 {J : JT} {an : Option Value × St × Dy} (hI : Isj cX12_goAgain 3 RX12 "goAgain" 2 43 none an J) {β : Bu} (σ : St) (p0 : Nat) (p1 : Int32) (p2 : Int32) (δ : Dy) : SJ (m_X12_goAgain_b44 σ p0 p1 p2 δ) (PV σ an) (J 44 [(0, .ref p0), (1, .int p1), (2, .int p2)] [] β σ δ) := by
  have hJ := hI.cor
  unfold m_X12_goAgain_b44
  refine sj (j_iload_n hJ dX12_goAgain_44 rfl 2 rfl) ?_
  refine sj (j_bipush hJ (v := 100) dX12_goAgain_45 ib_100) ?_
  refine sj_if (j_icmp_ne hJ (tgt := 61) dX12_goAgain_47 (by decide)) (fun _ => ?_) (fun _ => ?_)
  · refine sj (j_aload_n hJ dX12_goAgain_50 rfl 0 rfl) ?_
    refine sj (j_dup hJ dX12_goAgain_51 rfl) ?_
    refine sj_gI hJ fl_X12_156 (Or.inl rfl) dX12_goAgain_52 (fun v3 => ?_)
    refine sj (j_iconst hJ (v := 1) dX12_goAgain_55 ic_1) ?_
    refine sj (j_isub hJ dX12_goAgain_56) ?_
    refine sj_pI hJ fl_X12_156 rfl dX12_goAgain_57 (fun d4 => ?_)
    exact sj_vret hI dX12_goAgain_60 (fun h => h)
  · refine sj (j_aload_n hJ dX12_goAgain_61 rfl 0 rfl) ?_
    refine sj_gR hJ fl_X12_91 rfl dX12_goAgain_62 (fun v5 => ?_)
    refine sj (j_iload_n hJ dX12_goAgain_65 rfl 1 rfl) ?_
    refine sj (j_iconst hJ (v := 1) dX12_goAgain_66 ic_1) ?_
    refine sj (j_iadd hJ dX12_goAgain_67) ?_
    refine sj (j_iload_n hJ dX12_goAgain_68 rfl 2 rfl) ?_
    refine sj (j_iconst hJ (v := 1) dX12_goAgain_69 ic_1) ?_
    refine sj (j_iadd hJ dX12_goAgain_70) ?_
    refine sj_wI hJ dX12_goAgain_71 (fun d6 => ?_)
    refine sj (j_aload_n hJ dX12_goAgain_72 rfl 0 rfl) ?_
    refine sj_gR hJ fl_X12_7 rfl dX12_goAgain_73 (fun v7 => ?_)
    refine sj (j_sipush hJ (v := 422) dX12_goAgain_76 is_422) ?_
    refine sj (j_iload_n hJ dX12_goAgain_79 rfl 2 rfl) ?_
    refine sj (j_iadd hJ dX12_goAgain_80) ?_
    refine sj_rI hJ dX12_goAgain_81 (fun v8 => ?_)
    refine sj (j_iconst hJ (v := 1) dX12_goAgain_82 ic_1) ?_
    refine sj_if (j_icmp_ne hJ (tgt := 91) dX12_goAgain_83 (by decide)) (fun _ => ?_) (fun _ => ?_)
    · refine sj (j_aload_n hJ dX12_goAgain_86 rfl 0 rfl) ?_
      refine sj (j_iload_n hJ dX12_goAgain_87 rfl 2 rfl) ?_
      refine sj_callVv hJ [.int p2] (st := []) (fr' := 1) (lo' := 22) ml_X12_163 hc_12 (by decide) (by decide) (Nat.le_of_ble_eq_true rfl) dX12_goAgain_88 rfl (fun _ h9 => ct_X12_pushActive h9) (fun v9 => ?_)
      exact sj_vret hI dX12_goAgain_91 (fun h => h)
    · exact sj_vret hI dX12_goAgain_91 (fun h => h)
set_option maxHeartbeats 4000000 in
set_option maxRecDepth 100000 in
theorem w_X12_goAgain_b9 {J : JT} {an : Option Value × St × Dy} (hI : Isj cX12_goAgain 3 RX12 "goAgain" 2 43 none an J) {β : Bu} (σ : St) (p0 : Nat) (p1 : Int32) (p2 : Int32) (δ : Dy) : SJ (m_X12_goAgain_b9 σ p0 p1 p2 δ) (PV σ an) (J 9 [(0, .ref p0), (1, .int p1), (2, .int p2)] [] β σ δ) := by
  have hJ := hI.cor
  unfold m_X12_goAgain_b9
  refine sj_lp (G := fun s : (Int32) => J 9 [(0, .ref p0), (1, .int p1), (2, .int s)] [] β σ δ) (fun s => ?_) (p2)
  refine sj (j_iload_n hJ dX12_goAgain_9 rfl 2 rfl) ?_
  refine sj (j_bipush hJ (v := 100) dX12_goAgain_10 ib_100) ?_
  refine sj_if (j_icmp_ge hJ (tgt := 44) dX12_goAgain_12 (by decide)) (fun _ => ?_) (fun _ => ?_)
  · refine sj_map ?_
    exact w_X12_goAgain_b44 hI σ p0 p1 s δ
  · refine sj (j_aload_n hJ dX12_goAgain_15 rfl 0 rfl) ?_
    refine sj_gR hJ fl_X12_91 rfl dX12_goAgain_16 (fun v10 => ?_)
    refine sj (j_iload_n hJ dX12_goAgain_19 rfl 1 rfl) ?_
    refine sj (j_iconst hJ (v := 2) dX12_goAgain_20 ic_2) ?_
    refine sj (j_iadd hJ dX12_goAgain_21) ?_
    refine sj (j_iload_n hJ dX12_goAgain_22 rfl 2 rfl) ?_
    refine sj (j_bipush hJ (v := 32) dX12_goAgain_23 ib_32) ?_
    refine sj_dvI hJ dX12_goAgain_25 (fun v11 => ?_)
    refine sj (j_iadd hJ dX12_goAgain_26) ?_
    refine sj_rI hJ dX12_goAgain_27 (fun v12 => ?_)
    refine sj (j_iload_n hJ dX12_goAgain_28 rfl 2 rfl) ?_
    refine sj (j_bipush hJ (v := 32) dX12_goAgain_29 ib_32) ?_
    refine sj_rmI hJ dX12_goAgain_31 (fun v13 => ?_)
    refine sj (j_ishr hJ dX12_goAgain_32) ?_
    refine sj (j_iconst hJ (v := 1) dX12_goAgain_33 ic_1) ?_
    refine sj (j_iand hJ dX12_goAgain_34) ?_
    refine sj_if (j_if_ne hJ (tgt := 44) dX12_goAgain_35 (by decide)) (fun _ => ?_) (fun _ => ?_)
    · refine sj (j_iinc hJ (L' := [(2, .int (s + (1 : Int32))), (0, .ref p0), (1, .int p1)]) dX12_goAgain_38 2 rfl (congrArg (fun z => s + z) ic_1) (by decide) rfl) ?_
      refine sj (j_goto hJ (tgt := 9) dX12_goAgain_41 (by decide)) ?_
      refine sj (j_sub hJ (L' := [(0, .ref p0), (1, .int p1), (2, .int (s + (1 : Int32)))]) [1, 2, 0] rfl) ?_
      exact sj_end (fun h => h)
    · refine sj_map ?_
      exact w_X12_goAgain_b44 hI σ p0 p1 s δ
set_option maxHeartbeats 4000000 in
set_option maxRecDepth 100000 in
theorem w_X12_goAgain {J : JT} {an : Option Value × St × Dy} (hI : Isj cX12_goAgain 3 RX12 "goAgain" 2 43 none an J) {β : Bu} (σ : St) (p0 : Nat) (p1 : Int32) (δ : Dy) : SJ (m_X12_goAgain σ p0 p1 δ) (PV σ an) (J 0 [(0, .ref p0), (1, .int p1)] [] β σ δ) := by
  have hJ := hI.cor
  unfold m_X12_goAgain
  refine sj (j_aload_n hJ dX12_goAgain_0 rfl 0 rfl) ?_
  refine sj_gR hJ fl_X12_91 rfl dX12_goAgain_1 (fun v1 => ?_)
  refine sj (j_iload_n hJ dX12_goAgain_4 rfl 1 rfl) ?_
  refine sj (j_iconst hJ (v := 1) dX12_goAgain_5 ic_1) ?_
  refine sj (j_iadd hJ dX12_goAgain_6) ?_
  refine sj_rI hJ dX12_goAgain_7 (fun v2 => ?_)
  refine sj (j_istore_n hJ (L' := [(2, .int v2), (0, .ref p0), (1, .int p1)]) dX12_goAgain_8 rfl (by decide) rfl) ?_
  refine sj (j_sub hJ (L' := [(0, .ref p0), (1, .int p1), (2, .int v2)]) [1, 2, 0] rfl) ?_
  exact w_X12_goAgain_b9 hI σ p0 p1 v2 δ
theorem ct_X12_goAgain {σ : St} {p0 : Nat} {p1 : Int32} {δ : Dy} {r : Dy} (h : m_X12_goAgain σ p0 p1 δ = some r) : CT yX12_goAgain cX12_goAgain 3 none 2 43 0 0 [.ref p0, .int p1] σ δ (none, σ, r) := CT_of (by decide +kernel) (Nat.le_of_ble_eq_true rfl) (fun J hI => w_X12_goAgain hI σ p0 p1 δ r h rfl)
def m_X12_settle_b67 (σ : St) (p0 : Nat) (δ : Dy) : Option Dy :=
  (pI σ δ 12 p0 37 (0 : Int32)).bind fun d2 =>
  some d2
def m_X12_settle_b64 (σ : St) (p0 : Nat) (δ : Dy) : Option ((Dy) ⊕ Dy) :=
  some (Sum.inl δ)
def m_X12_settle_b0 (σ : St) (p0 : Nat) (δ : Dy) : Option Dy := lp (fun (s : (Dy)) =>
  (gI σ s 12 p0 37).bind fun v1 =>
  if v1 ≤ 0 then
    (m_X12_settle_b67 σ p0 s).bind fun r => some (Sum.inr r)
  else
    (gI σ s 12 p0 35).bind fun v3 =>
    if v3 = 0 then
      (gI σ s 12 p0 37).bind fun v4 =>
      (gR σ 12 p0 36).bind fun v5 =>
      (rI σ s v5 ((12 : Int32) * (v4 - (1 : Int32)))).bind fun v6 =>
      if v6 = 0 then
        (chk σ 12 p0).bind fun _ => (m_X12_goActive σ p0 ((12 : Int32) * (v4 - (1 : Int32))) s).bind fun v7 =>
        m_X12_settle_b64 σ p0 v7
      else
        (gR σ 12 p0 36).bind fun v8 =>
        (rI σ s v8 ((12 : Int32) * (v4 - (1 : Int32)))).bind fun v9 =>
        if v9 = (1 : Int32) then
          (chk σ 12 p0).bind fun _ => (m_X12_goBodies σ p0 ((12 : Int32) * (v4 - (1 : Int32))) s).bind fun v10 =>
          m_X12_settle_b64 σ p0 v10
        else
          (chk σ 12 p0).bind fun _ => (m_X12_goAgain σ p0 ((12 : Int32) * (v4 - (1 : Int32))) s).bind fun v11 =>
          m_X12_settle_b64 σ p0 v11
    else
      (m_X12_settle_b67 σ p0 s).bind fun r => some (Sum.inr r)) (δ)
def m_X12_settle (σ : St) (p0 : Nat) (δ : Dy) : Option Dy :=
  m_X12_settle_b0 σ p0 δ
set_option maxHeartbeats 4000000 in
set_option maxRecDepth 100000 in
theorem w_X12_settle_b67 {J : JT} {an : Option Value × St × Dy} (hI : Isj cX12_settle 2 RX12 "settle" 6 148 none an J) {β : Bu} (σ : St) (p0 : Nat) (δ : Dy) : SJ (m_X12_settle_b67 σ p0 δ) (PV σ an) (J 67 [(0, .ref p0)] [] β σ δ) := by
  have hJ := hI.cor
  unfold m_X12_settle_b67
  refine sj (j_aload_n hJ dX12_settle_67 rfl 0 rfl) ?_
  refine sj (j_iconst hJ (v := 0) dX12_settle_68 ic_0) ?_
  refine sj_pI hJ fl_X12_156 rfl dX12_settle_69 (fun d2 => ?_)
  exact sj_vret hI dX12_settle_72 (fun h => h)
set_option maxHeartbeats 4000000 in
set_option maxRecDepth 100000 in
theorem w_X12_settle_b64 {J : JT} {an : Option Value × St × Dy} (hI : Isj cX12_settle 2 RX12 "settle" 6 148 none an J) {β : Bu} (σ : St) (p0 : Nat) (δ : Dy) : SJ (m_X12_settle_b64 σ p0 δ) (PL (fun s : (Dy) => J 0 [(0, .ref p0)] [] β σ s) (PV σ an)) (J 64 [(0, .ref p0)] [] β σ δ) := by
  have hJ := hI.cor
  unfold m_X12_settle_b64
  refine sj (j_goto hJ (tgt := 0) dX12_settle_64 (by decide)) ?_
  exact sj_end (fun h => h)
set_option maxHeartbeats 4000000 in
set_option maxRecDepth 100000 in
theorem w_X12_settle_b0 {J : JT} {an : Option Value × St × Dy} (hI : Isj cX12_settle 2 RX12 "settle" 6 148 none an J) {β : Bu} (σ : St) (p0 : Nat) (δ : Dy) : SJ (m_X12_settle_b0 σ p0 δ) (PV σ an) (J 0 [(0, .ref p0)] [] β σ δ) := by
  have hJ := hI.cor
  unfold m_X12_settle_b0
  refine sj_lp (G := fun s : (Dy) => J 0 [(0, .ref p0)] [] β σ s) (fun s => ?_) (δ)
  refine sj (j_aload_n hJ dX12_settle_0 rfl 0 rfl) ?_
  refine sj_gI hJ fl_X12_156 (Or.inl rfl) dX12_settle_1 (fun v1 => ?_)
  refine sj_if (j_if_le hJ (tgt := 67) dX12_settle_4 (by decide)) (fun _ => ?_) (fun _ => ?_)
  · refine sj_map ?_
    exact w_X12_settle_b67 hI σ p0 s
  · refine sj (j_aload_n hJ dX12_settle_7 rfl 0 rfl) ?_
    refine sj_gI hJ fl_X12_133 (Or.inr rfl) dX12_settle_8 (fun v3 => ?_)
    refine sj_if (j_if_ne hJ (tgt := 67) dX12_settle_11 (by decide)) (fun _ => ?_) (fun _ => ?_)
    · refine sj (j_bipush hJ (v := 12) dX12_settle_14 ib_12) ?_
      refine sj (j_aload_n hJ dX12_settle_16 rfl 0 rfl) ?_
      refine sj_gI hJ fl_X12_156 (Or.inl rfl) dX12_settle_17 (fun v4 => ?_)
      refine sj (j_iconst hJ (v := 1) dX12_settle_20 ic_1) ?_
      refine sj (j_isub hJ dX12_settle_21) ?_
      refine sj (j_imul hJ dX12_settle_22) ?_
      refine sj (j_istore_n hJ (L' := [(1, .int ((12 : Int32) * (v4 - (1 : Int32)))), (0, .ref p0)]) dX12_settle_23 rfl (by decide) rfl) ?_
      refine sj (j_aload_n hJ dX12_settle_24 rfl 1 rfl) ?_
      refine sj_gR hJ fl_X12_91 rfl dX12_settle_25 (fun v5 => ?_)
      refine sj (j_iload_n hJ dX12_settle_28 rfl 0 rfl) ?_
      refine sj_rI hJ dX12_settle_29 (fun v6 => ?_)
      refine sj_if (j_if_ne hJ (tgt := 41) dX12_settle_30 (by decide)) (fun _ => ?_) (fun _ => ?_)
      · refine sj (j_aload_n hJ dX12_settle_33 rfl 1 rfl) ?_
        refine sj (j_iload_n hJ dX12_settle_34 rfl 0 rfl) ?_
        refine sj_callVv hJ [.int ((12 : Int32) * (v4 - (1 : Int32)))] (st := []) (fr' := 5) (lo' := 120) ml_X12_205 hc_12 (by decide) (by decide) (Nat.le_of_ble_eq_true rfl) dX12_settle_35 rfl (fun _ h9 => ct_X12_goActive h9) (fun v7 => ?_)
        refine sj (j_goto hJ (tgt := 64) dX12_settle_38 (by decide)) ?_
        refine sj (j_sub hJ (L' := [(0, .ref p0)]) [1] rfl) ?_
        exact w_X12_settle_b64 hI σ p0 v7
      · refine sj (j_aload_n hJ dX12_settle_41 rfl 1 rfl) ?_
        refine sj_gR hJ fl_X12_91 rfl dX12_settle_42 (fun v8 => ?_)
        refine sj (j_iload_n hJ dX12_settle_45 rfl 0 rfl) ?_
        refine sj_rI hJ dX12_settle_46 (fun v9 => ?_)
        refine sj (j_iconst hJ (v := 1) dX12_settle_47 ic_1) ?_
        refine sj_if (j_icmp_ne hJ (tgt := 59) dX12_settle_48 (by decide)) (fun _ => ?_) (fun _ => ?_)
        · refine sj (j_aload_n hJ dX12_settle_51 rfl 1 rfl) ?_
          refine sj (j_iload_n hJ dX12_settle_52 rfl 0 rfl) ?_
          refine sj_callVv hJ [.int ((12 : Int32) * (v4 - (1 : Int32)))] (st := []) (fr' := 3) (lo' := 77) ml_X12_208 hc_12 (by decide) (by decide) (Nat.le_of_ble_eq_true rfl) dX12_settle_53 rfl (fun _ h9 => ct_X12_goBodies h9) (fun v10 => ?_)
          refine sj (j_goto hJ (tgt := 64) dX12_settle_56 (by decide)) ?_
          refine sj (j_sub hJ (L' := [(0, .ref p0)]) [1] rfl) ?_
          exact w_X12_settle_b64 hI σ p0 v10
        · refine sj (j_aload_n hJ dX12_settle_59 rfl 1 rfl) ?_
          refine sj (j_iload_n hJ dX12_settle_60 rfl 0 rfl) ?_
          refine sj_callVv hJ [.int ((12 : Int32) * (v4 - (1 : Int32)))] (st := []) (fr' := 2) (lo' := 43) ml_X12_211 hc_12 (by decide) (by decide) (Nat.le_of_ble_eq_true rfl) dX12_settle_61 rfl (fun _ h9 => ct_X12_goAgain h9) (fun v11 => ?_)
          refine sj (j_sub hJ (L' := [(0, .ref p0)]) [1] rfl) ?_
          exact w_X12_settle_b64 hI σ p0 v11
    · refine sj_map ?_
      exact w_X12_settle_b67 hI σ p0 s
set_option maxHeartbeats 4000000 in
set_option maxRecDepth 100000 in
theorem w_X12_settle {J : JT} {an : Option Value × St × Dy} (hI : Isj cX12_settle 2 RX12 "settle" 6 148 none an J) {β : Bu} (σ : St) (p0 : Nat) (δ : Dy) : SJ (m_X12_settle σ p0 δ) (PV σ an) (J 0 [(0, .ref p0)] [] β σ δ) := by
  have hJ := hI.cor
  unfold m_X12_settle
  exact w_X12_settle_b0 hI σ p0 δ
theorem ct_X12_settle {σ : St} {p0 : Nat} {δ : Dy} {r : Dy} (h : m_X12_settle σ p0 δ = some r) : CT yX12_settle cX12_settle 2 none 6 148 0 0 [.ref p0] σ δ (none, σ, r) := CT_of (by decide +kernel) (Nat.le_of_ble_eq_true rfl) (fun J hI => w_X12_settle hI σ p0 δ r h rfl)
def m_X12_makeNode (σ : St) (p0 : Nat) (p1 : Int32) (p2 : Int32) (p3 : Int32) (p4 : Int32) (p5 : Int32) (δ : Dy) : Option (Int32 × Dy) :=
  (gI σ δ 12 p0 7).bind fun v1 =>
  if v1 = (60 : Int32) then
    some ((-1 : Int32), δ)
  else
    (gR σ 12 p0 2).bind fun v2 =>
    (gI σ δ 12 p0 7).bind fun v3 =>
    (wI σ δ v2 v3 p1).bind fun d4 =>
    (gR σ 12 p0 3).bind fun v5 =>
    (gI σ d4 12 p0 7).bind fun v6 =>
    (wI σ d4 v5 v6 p2).bind fun d7 =>
    (gR σ 12 p0 4).bind fun v8 =>
    (gI σ d7 12 p0 7).bind fun v9 =>
    (wI σ d7 v8 v9 p3).bind fun d10 =>
    (gR σ 12 p0 5).bind fun v11 =>
    (gI σ d10 12 p0 7).bind fun v12 =>
    (wI σ d10 v11 v12 p4).bind fun d13 =>
    (gR σ 12 p0 6).bind fun v14 =>
    (gI σ d13 12 p0 7).bind fun v15 =>
    (wI σ d13 v14 v15 p5).bind fun d16 =>
    (gI σ d16 12 p0 7).bind fun v17 =>
    (pI σ d16 12 p0 7 (v17 + (1 : Int32))).bind fun d18 =>
    (gI σ d18 12 p0 7).bind fun v19 =>
    some ((v19 - (1 : Int32)), d18)
set_option maxHeartbeats 4000000 in
set_option maxRecDepth 100000 in
theorem w_X12_makeNode {J : JT} {an : Option Value × St × Dy} (hI : Isj cX12_makeNode 6 RX12 "makeNode" 0 0 (some .int) an J) {β : Bu} (σ : St) (p0 : Nat) (p1 : Int32) (p2 : Int32) (p3 : Int32) (p4 : Int32) (p5 : Int32) (δ : Dy) : SJ (m_X12_makeNode σ p0 p1 p2 p3 p4 p5 δ) (PI σ an) (J 0 [(0, .ref p0), (1, .int p1), (2, .int p2), (3, .int p3), (4, .int p4), (5, .int p5)] [] β σ δ) := by
  have hJ := hI.cor
  unfold m_X12_makeNode
  refine sj (j_aload_n hJ dX12_makeNode_0 rfl 0 rfl) ?_
  refine sj_gI hJ fl_X12_130 (Or.inl rfl) dX12_makeNode_1 (fun v1 => ?_)
  refine sj (j_bipush hJ (v := 60) dX12_makeNode_4 ib_60) ?_
  refine sj_if (j_icmp_ne hJ (tgt := 11) dX12_makeNode_6 (by decide)) (fun _ => ?_) (fun _ => ?_)
  · refine sj (j_iconst hJ (v := -1) dX12_makeNode_9 ic_m1) ?_
    exact sj_iret hI dX12_makeNode_10 (fun h => h)
  · refine sj (j_aload_n hJ dX12_makeNode_11 rfl 0 rfl) ?_
    refine sj_gR hJ fl_X12_16 rfl dX12_makeNode_12 (fun v2 => ?_)
    refine sj (j_aload_n hJ dX12_makeNode_15 rfl 0 rfl) ?_
    refine sj_gI hJ fl_X12_130 (Or.inl rfl) dX12_makeNode_16 (fun v3 => ?_)
    refine sj (j_iload_n hJ dX12_makeNode_19 rfl 1 rfl) ?_
    refine sj_wI hJ dX12_makeNode_20 (fun d4 => ?_)
    refine sj (j_aload_n hJ dX12_makeNode_21 rfl 0 rfl) ?_
    refine sj_gR hJ fl_X12_19 rfl dX12_makeNode_22 (fun v5 => ?_)
    refine sj (j_aload_n hJ dX12_makeNode_25 rfl 0 rfl) ?_
    refine sj_gI hJ fl_X12_130 (Or.inl rfl) dX12_makeNode_26 (fun v6 => ?_)
    refine sj (j_iload_n hJ dX12_makeNode_29 rfl 2 rfl) ?_
    refine sj_wI hJ dX12_makeNode_30 (fun d7 => ?_)
    refine sj (j_aload_n hJ dX12_makeNode_31 rfl 0 rfl) ?_
    refine sj_gR hJ fl_X12_22 rfl dX12_makeNode_32 (fun v8 => ?_)
    refine sj (j_aload_n hJ dX12_makeNode_35 rfl 0 rfl) ?_
    refine sj_gI hJ fl_X12_130 (Or.inl rfl) dX12_makeNode_36 (fun v9 => ?_)
    refine sj (j_iload_n hJ dX12_makeNode_39 rfl 3 rfl) ?_
    refine sj_wI hJ dX12_makeNode_40 (fun d10 => ?_)
    refine sj (j_aload_n hJ dX12_makeNode_41 rfl 0 rfl) ?_
    refine sj_gR hJ fl_X12_25 rfl dX12_makeNode_42 (fun v11 => ?_)
    refine sj (j_aload_n hJ dX12_makeNode_45 rfl 0 rfl) ?_
    refine sj_gI hJ fl_X12_130 (Or.inl rfl) dX12_makeNode_46 (fun v12 => ?_)
    refine sj (j_iload hJ dX12_makeNode_49 4 rfl) ?_
    refine sj_wI hJ dX12_makeNode_51 (fun d13 => ?_)
    refine sj (j_aload_n hJ dX12_makeNode_52 rfl 0 rfl) ?_
    refine sj_gR hJ fl_X12_28 rfl dX12_makeNode_53 (fun v14 => ?_)
    refine sj (j_aload_n hJ dX12_makeNode_56 rfl 0 rfl) ?_
    refine sj_gI hJ fl_X12_130 (Or.inl rfl) dX12_makeNode_57 (fun v15 => ?_)
    refine sj (j_iload hJ dX12_makeNode_60 5 rfl) ?_
    refine sj_wI hJ dX12_makeNode_62 (fun d16 => ?_)
    refine sj (j_aload_n hJ dX12_makeNode_63 rfl 0 rfl) ?_
    refine sj (j_dup hJ dX12_makeNode_64 rfl) ?_
    refine sj_gI hJ fl_X12_130 (Or.inl rfl) dX12_makeNode_65 (fun v17 => ?_)
    refine sj (j_iconst hJ (v := 1) dX12_makeNode_68 ic_1) ?_
    refine sj (j_iadd hJ dX12_makeNode_69) ?_
    refine sj_pI hJ fl_X12_130 rfl dX12_makeNode_70 (fun d18 => ?_)
    refine sj (j_aload_n hJ dX12_makeNode_73 rfl 0 rfl) ?_
    refine sj_gI hJ fl_X12_130 (Or.inl rfl) dX12_makeNode_74 (fun v19 => ?_)
    refine sj (j_iconst hJ (v := 1) dX12_makeNode_77 ic_1) ?_
    refine sj (j_isub hJ dX12_makeNode_78) ?_
    exact sj_iret hI dX12_makeNode_79 (fun h => h)
theorem ct_X12_makeNode {σ : St} {p0 : Nat} {p1 : Int32} {p2 : Int32} {p3 : Int32} {p4 : Int32} {p5 : Int32} {δ : Dy} {r : (Int32 × Dy)} (h : m_X12_makeNode σ p0 p1 p2 p3 p4 p5 δ = some r) : CT yX12_makeNode cX12_makeNode 6 (some .int) 0 0 0 0 [.ref p0, .int p1, .int p2, .int p3, .int p4, .int p5] σ δ ((some (.int r.1)), σ, r.2) := CT_of (by decide +kernel) (Nat.le_of_ble_eq_true rfl) (fun J hI => w_X12_makeNode hI σ p0 p1 p2 p3 p4 p5 δ r h rfl)
def m_X12_toldNode (σ : St) (p0 : Nat) (p1 : Int32) (p2 : Int32) (δ : Dy) : Option (Int32 × Dy) :=
  if p1 = (-1 : Int32) then
    (chk σ 12 p0).bind fun _ => (m_X12_stop σ p0 p2 δ).bind fun v1 =>
    some (v1.1, v1.2)
  else
    some (p1, δ)
set_option maxHeartbeats 4000000 in
set_option maxRecDepth 100000 in
theorem w_X12_toldNode {J : JT} {an : Option Value × St × Dy} (hI : Isj cX12_toldNode 3 RX12 "toldNode" 1 21 (some .int) an J) {β : Bu} (σ : St) (p0 : Nat) (p1 : Int32) (p2 : Int32) (δ : Dy) : SJ (m_X12_toldNode σ p0 p1 p2 δ) (PI σ an) (J 0 [(0, .ref p0), (1, .int p1), (2, .int p2)] [] β σ δ) := by
  have hJ := hI.cor
  unfold m_X12_toldNode
  refine sj (j_iload_n hJ dX12_toldNode_0 rfl 1 rfl) ?_
  refine sj (j_iconst hJ (v := -1) dX12_toldNode_1 ic_m1) ?_
  refine sj_if (j_icmp_ne hJ (tgt := 13) dX12_toldNode_2 (by decide)) (fun _ => ?_) (fun _ => ?_)
  · refine sj (j_aload_n hJ dX12_toldNode_5 rfl 0 rfl) ?_
    refine sj (j_iload_n hJ dX12_toldNode_6 rfl 2 rfl) ?_
    refine sj_callVi hJ [.int p2] (st := []) (fr' := 0) (lo' := 0) ml_X12_137 hc_12 (by decide) (by decide) (Nat.le_of_ble_eq_true rfl) dX12_toldNode_7 rfl (fun _ h9 => ct_X12_stop h9) (fun v1 => ?_)
    refine sj (j_goto hJ (tgt := 14) dX12_toldNode_10 (by decide)) ?_
    exact sj_iret hI dX12_toldNode_14 (fun h => h)
  · refine sj (j_iload_n hJ dX12_toldNode_13 rfl 1 rfl) ?_
    exact sj_iret hI dX12_toldNode_14 (fun h => h)
theorem ct_X12_toldNode {σ : St} {p0 : Nat} {p1 : Int32} {p2 : Int32} {δ : Dy} {r : (Int32 × Dy)} (h : m_X12_toldNode σ p0 p1 p2 δ = some r) : CT yX12_toldNode cX12_toldNode 3 (some .int) 1 21 0 0 [.ref p0, .int p1, .int p2] σ δ ((some (.int r.1)), σ, r.2) := CT_of (by decide +kernel) (Nat.le_of_ble_eq_true rfl) (fun J hI => w_X12_toldNode hI σ p0 p1 p2 δ r h rfl)
def m_X12_equate_b19 (σ : St) (p0 : Nat) (δ : Dy) : Option (Int32 × Dy) :=
  (chk σ 12 p0).bind fun _ => (m_X12_stop σ p0 (1 : Int32) δ).bind fun v3 =>
  some (v3.1, v3.2)
def m_X12_equate (σ : St) (p0 : Nat) (p1 : Int32) (p2 : Int32) (δ : Dy) : Option (Int32 × Dy) :=
  (pI σ δ 12 p0 50 (0 : Int32)).bind fun d1 =>
  (m_X12_isTerm σ p1 d1).bind fun v2 =>
  if v2 = 0 then
    m_X12_equate_b19 σ p0 d1
  else
    (m_X12_isTerm σ p2 d1).bind fun v4 =>
    if v4 = 0 then
      m_X12_equate_b19 σ p0 d1
    else
      (chk σ 12 p0).bind fun _ => (m_X12_makeNode σ p0 (0 : Int32) p1 p2 (0 : Int32) (0 : Int32) d1).bind fun v5 =>
      (chk σ 12 p0).bind fun _ => (m_X12_toldNode σ p0 v5.1 (2 : Int32) v5.2).bind fun v6 =>
      some (v6.1, v6.2)
set_option maxHeartbeats 4000000 in
set_option maxRecDepth 100000 in
theorem w_X12_equate_b19 {J : JT} {an : Option Value × St × Dy} (hI : Isj cX12_equate 3 RX12 "equate" 3 62 (some .int) an J) {β : Bu} (σ : St) (p0 : Nat) (δ : Dy) : SJ (m_X12_equate_b19 σ p0 δ) (PI σ an) (J 19 [(0, .ref p0)] [] β σ δ) := by
  have hJ := hI.cor
  unfold m_X12_equate_b19
  refine sj (j_aload_n hJ dX12_equate_19 rfl 0 rfl) ?_
  refine sj (j_iconst hJ (v := 1) dX12_equate_20 ic_1) ?_
  refine sj_callVi hJ [.int (1 : Int32)] (st := []) (fr' := 0) (lo' := 0) ml_X12_137 hc_12 (by decide) (by decide) (Nat.le_of_ble_eq_true rfl) dX12_equate_21 rfl (fun _ h9 => ct_X12_stop h9) (fun v3 => ?_)
  exact sj_iret hI dX12_equate_24 (fun h => h)
set_option maxHeartbeats 4000000 in
set_option maxRecDepth 100000 in
theorem w_X12_equate {J : JT} {an : Option Value × St × Dy} (hI : Isj cX12_equate 3 RX12 "equate" 3 62 (some .int) an J) {β : Bu} (σ : St) (p0 : Nat) (p1 : Int32) (p2 : Int32) (δ : Dy) : SJ (m_X12_equate σ p0 p1 p2 δ) (PI σ an) (J 0 [(0, .ref p0), (1, .int p1), (2, .int p2)] [] β σ δ) := by
  have hJ := hI.cor
  unfold m_X12_equate
  refine sj (j_aload_n hJ dX12_equate_0 rfl 0 rfl) ?_
  refine sj (j_iconst hJ (v := 0) dX12_equate_1 ic_0) ?_
  refine sj_pI hJ fl_X12_118 rfl dX12_equate_2 (fun d1 => ?_)
  refine sj (j_iload_n hJ dX12_equate_5 rfl 1 rfl) ?_
  refine sj_callSip hJ [.int p1] (st := []) (fr' := 2) (lo' := 42) ml_X12_214 (by decide) (by decide) (Nat.le_of_ble_eq_true rfl) dX12_equate_6 rfl (fun _ h9 => ct_X12_isTerm h9) (fun v2 => ?_)
  refine sj_if (j_if_eq hJ (tgt := 19) dX12_equate_9 (by decide)) (fun _ => ?_) (fun _ => ?_)
  · refine sj (j_sub hJ (L' := [(0, .ref p0)]) [0] rfl) ?_
    exact w_X12_equate_b19 hI σ p0 d1
  · refine sj (j_iload_n hJ dX12_equate_12 rfl 2 rfl) ?_
    refine sj_callSip hJ [.int p2] (st := []) (fr' := 2) (lo' := 42) ml_X12_214 (by decide) (by decide) (Nat.le_of_ble_eq_true rfl) dX12_equate_13 rfl (fun _ h9 => ct_X12_isTerm h9) (fun v4 => ?_)
    refine sj_if (j_if_ne hJ (tgt := 25) dX12_equate_16 (by decide)) (fun _ => ?_) (fun _ => ?_)
    · refine sj (j_sub hJ (L' := [(0, .ref p0)]) [0] rfl) ?_
      exact w_X12_equate_b19 hI σ p0 d1
    · refine sj (j_aload_n hJ dX12_equate_25 rfl 0 rfl) ?_
      refine sj (j_aload_n hJ dX12_equate_26 rfl 0 rfl) ?_
      refine sj (j_iconst hJ (v := 0) dX12_equate_27 ic_0) ?_
      refine sj (j_iload_n hJ dX12_equate_28 rfl 1 rfl) ?_
      refine sj (j_iload_n hJ dX12_equate_29 rfl 2 rfl) ?_
      refine sj (j_iconst hJ (v := 0) dX12_equate_30 ic_0) ?_
      refine sj (j_iconst hJ (v := 0) dX12_equate_31 ic_0) ?_
      refine sj_callVi hJ [.int (0 : Int32), .int p1, .int p2, .int (0 : Int32), .int (0 : Int32)] (st := [.ref p0]) (fr' := 0) (lo' := 0) ml_X12_217 hc_12 (by decide) (by decide) (Nat.le_of_ble_eq_true rfl) dX12_equate_32 rfl (fun _ h9 => ct_X12_makeNode h9) (fun v5 => ?_)
      refine sj (j_iconst hJ (v := 2) dX12_equate_35 ic_2) ?_
      refine sj_callVi hJ [.int v5.1, .int (2 : Int32)] (st := []) (fr' := 1) (lo' := 21) ml_X12_221 hc_12 (by decide) (by decide) (Nat.le_of_ble_eq_true rfl) dX12_equate_36 rfl (fun _ h9 => ct_X12_toldNode h9) (fun v6 => ?_)
      exact sj_iret hI dX12_equate_39 (fun h => h)
theorem ct_X12_equate {σ : St} {p0 : Nat} {p1 : Int32} {p2 : Int32} {δ : Dy} {r : (Int32 × Dy)} (h : m_X12_equate σ p0 p1 p2 δ = some r) : CT yX12_equate cX12_equate 3 (some .int) 3 62 0 0 [.ref p0, .int p1, .int p2] σ δ ((some (.int r.1)), σ, r.2) := CT_of (by decide +kernel) (Nat.le_of_ble_eq_true rfl) (fun J hI => w_X12_equate hI σ p0 p1 p2 δ r h rfl)
def m_X12_token_b28 (σ : St) (p0 : Nat) (δ : Dy) : Option (Int32 × Dy) :=
  (chk σ 12 p0).bind fun _ => (m_X12_stop σ p0 (1 : Int32) δ).bind fun v3 =>
  some (v3.1, v3.2)
def m_X12_token_b50 (σ : St) (q0 : Nat) (q1 : Nat) (q2 : Int32) (q3 : Int32) (q4 : Int32) (q5 : Int32) (q6 : Int32) (δ : Dy) : Option (Int32 × Dy) :=
  (chk σ 12 q1).bind fun _ => (m_X12_makeNode σ q1 q2 q3 q4 q5 q6 δ).bind fun v6 =>
  (chk σ 12 q0).bind fun _ => (m_X12_toldNode σ q0 v6.1 (2 : Int32) v6.2).bind fun v7 =>
  some (v7.1, v7.2)
def m_X12_token (σ : St) (p0 : Nat) (p1 : Int32) (p2 : Int32) (p3 : Int32) (p4 : Int32) (δ : Dy) : Option (Int32 × Dy) :=
  (pI σ δ 12 p0 50 (0 : Int32)).bind fun d1 =>
  (m_X12_in σ p1 (0 : Int32) (5 : Int32) d1).bind fun v2 =>
  if v2 = 0 then
    m_X12_token_b28 σ p0 d1
  else
    (m_X12_isTerm σ p2 d1).bind fun v4 =>
    if v4 = 0 then
      m_X12_token_b28 σ p0 d1
    else
      (m_X12_isTerm σ p3 d1).bind fun v5 =>
      if v5 = 0 then
        m_X12_token_b28 σ p0 d1
      else
        if p4 = 0 then
          m_X12_token_b50 σ p0 p0 (1 : Int32) p1 p2 p3 (0 : Int32) d1
        else
          m_X12_token_b50 σ p0 p0 (1 : Int32) p1 p2 p3 (1 : Int32) d1
set_option maxHeartbeats 4000000 in
set_option maxRecDepth 100000 in
theorem w_X12_token_b28 {J : JT} {an : Option Value × St × Dy} (hI : Isj cX12_token 5 RX12 "token" 3 62 (some .int) an J) {β : Bu} (σ : St) (p0 : Nat) (δ : Dy) : SJ (m_X12_token_b28 σ p0 δ) (PI σ an) (J 28 [(0, .ref p0)] [] β σ δ) := by
  have hJ := hI.cor
  unfold m_X12_token_b28
  refine sj (j_aload_n hJ dX12_token_28 rfl 0 rfl) ?_
  refine sj (j_iconst hJ (v := 1) dX12_token_29 ic_1) ?_
  refine sj_callVi hJ [.int (1 : Int32)] (st := []) (fr' := 0) (lo' := 0) ml_X12_137 hc_12 (by decide) (by decide) (Nat.le_of_ble_eq_true rfl) dX12_token_30 rfl (fun _ h9 => ct_X12_stop h9) (fun v3 => ?_)
  exact sj_iret hI dX12_token_33 (fun h => h)
set_option maxHeartbeats 4000000 in
set_option maxRecDepth 100000 in
theorem w_X12_token_b50 {J : JT} {an : Option Value × St × Dy} (hI : Isj cX12_token 5 RX12 "token" 3 62 (some .int) an J) {β : Bu} (σ : St) (q0 : Nat) (q1 : Nat) (q2 : Int32) (q3 : Int32) (q4 : Int32) (q5 : Int32) (q6 : Int32) (δ : Dy) : SJ (m_X12_token_b50 σ q0 q1 q2 q3 q4 q5 q6 δ) (PI σ an) (J 50 [] [.int q6, .int q5, .int q4, .int q3, .int q2, .ref q1, .ref q0] β σ δ) := by
  have hJ := hI.cor
  unfold m_X12_token_b50
  refine sj_callVi hJ [.int q2, .int q3, .int q4, .int q5, .int q6] (st := [.ref q0]) (fr' := 0) (lo' := 0) ml_X12_217 hc_12 (by decide) (by decide) (Nat.le_of_ble_eq_true rfl) dX12_token_50 rfl (fun _ h9 => ct_X12_makeNode h9) (fun v6 => ?_)
  refine sj (j_iconst hJ (v := 2) dX12_token_53 ic_2) ?_
  refine sj_callVi hJ [.int v6.1, .int (2 : Int32)] (st := []) (fr' := 1) (lo' := 21) ml_X12_221 hc_12 (by decide) (by decide) (Nat.le_of_ble_eq_true rfl) dX12_token_54 rfl (fun _ h9 => ct_X12_toldNode h9) (fun v7 => ?_)
  exact sj_iret hI dX12_token_57 (fun h => h)
set_option maxHeartbeats 4000000 in
set_option maxRecDepth 100000 in
theorem w_X12_token {J : JT} {an : Option Value × St × Dy} (hI : Isj cX12_token 5 RX12 "token" 3 62 (some .int) an J) {β : Bu} (σ : St) (p0 : Nat) (p1 : Int32) (p2 : Int32) (p3 : Int32) (p4 : Int32) (δ : Dy) : SJ (m_X12_token σ p0 p1 p2 p3 p4 δ) (PI σ an) (J 0 [(0, .ref p0), (1, .int p1), (2, .int p2), (3, .int p3), (4, .int p4)] [] β σ δ) := by
  have hJ := hI.cor
  unfold m_X12_token
  refine sj (j_aload_n hJ dX12_token_0 rfl 0 rfl) ?_
  refine sj (j_iconst hJ (v := 0) dX12_token_1 ic_0) ?_
  refine sj_pI hJ fl_X12_118 rfl dX12_token_2 (fun d1 => ?_)
  refine sj (j_iload_n hJ dX12_token_5 rfl 1 rfl) ?_
  refine sj (j_iconst hJ (v := 0) dX12_token_6 ic_0) ?_
  refine sj (j_iconst hJ (v := 5) dX12_token_7 ic_5) ?_
  refine sj_callSip hJ [.int p1, .int (0 : Int32), .int (5 : Int32)] (st := []) (fr' := 0) (lo' := 0) ml_X12_122 (by decide) (by decide) (Nat.le_of_ble_eq_true rfl) dX12_token_8 rfl (fun _ h9 => ct_X12_in h9) (fun v2 => ?_)
  refine sj_if (j_if_eq hJ (tgt := 28) dX12_token_11 (by decide)) (fun _ => ?_) (fun _ => ?_)
  · refine sj (j_sub hJ (L' := [(0, .ref p0)]) [0] rfl) ?_
    exact w_X12_token_b28 hI σ p0 d1
  · refine sj (j_iload_n hJ dX12_token_14 rfl 2 rfl) ?_
    refine sj_callSip hJ [.int p2] (st := []) (fr' := 2) (lo' := 42) ml_X12_214 (by decide) (by decide) (Nat.le_of_ble_eq_true rfl) dX12_token_15 rfl (fun _ h9 => ct_X12_isTerm h9) (fun v4 => ?_)
    refine sj_if (j_if_eq hJ (tgt := 28) dX12_token_18 (by decide)) (fun _ => ?_) (fun _ => ?_)
    · refine sj (j_sub hJ (L' := [(0, .ref p0)]) [0] rfl) ?_
      exact w_X12_token_b28 hI σ p0 d1
    · refine sj (j_iload_n hJ dX12_token_21 rfl 3 rfl) ?_
      refine sj_callSip hJ [.int p3] (st := []) (fr' := 2) (lo' := 42) ml_X12_214 (by decide) (by decide) (Nat.le_of_ble_eq_true rfl) dX12_token_22 rfl (fun _ h9 => ct_X12_isTerm h9) (fun v5 => ?_)
      refine sj_if (j_if_ne hJ (tgt := 34) dX12_token_25 (by decide)) (fun _ => ?_) (fun _ => ?_)
      · refine sj (j_sub hJ (L' := [(0, .ref p0)]) [0] rfl) ?_
        exact w_X12_token_b28 hI σ p0 d1
      · refine sj (j_aload_n hJ dX12_token_34 rfl 0 rfl) ?_
        refine sj (j_aload_n hJ dX12_token_35 rfl 0 rfl) ?_
        refine sj (j_iconst hJ (v := 1) dX12_token_36 ic_1) ?_
        refine sj (j_iload_n hJ dX12_token_37 rfl 1 rfl) ?_
        refine sj (j_iload_n hJ dX12_token_38 rfl 2 rfl) ?_
        refine sj (j_iload_n hJ dX12_token_39 rfl 3 rfl) ?_
        refine sj (j_iload hJ dX12_token_40 4 rfl) ?_
        refine sj_if (j_if_eq hJ (tgt := 49) dX12_token_42 (by decide)) (fun _ => ?_) (fun _ => ?_)
        · refine sj (j_iconst hJ (v := 0) dX12_token_49 ic_0) ?_
          refine sj (j_sub hJ (L' := []) [] rfl) ?_
          exact w_X12_token_b50 hI σ p0 p0 (1 : Int32) p1 p2 p3 (0 : Int32) d1
        · refine sj (j_iconst hJ (v := 1) dX12_token_45 ic_1) ?_
          refine sj (j_goto hJ (tgt := 50) dX12_token_46 (by decide)) ?_
          refine sj (j_sub hJ (L' := []) [] rfl) ?_
          exact w_X12_token_b50 hI σ p0 p0 (1 : Int32) p1 p2 p3 (1 : Int32) d1
theorem ct_X12_token {σ : St} {p0 : Nat} {p1 : Int32} {p2 : Int32} {p3 : Int32} {p4 : Int32} {δ : Dy} {r : (Int32 × Dy)} (h : m_X12_token σ p0 p1 p2 p3 p4 δ = some r) : CT yX12_token cX12_token 5 (some .int) 3 62 0 0 [.ref p0, .int p1, .int p2, .int p3, .int p4] σ δ ((some (.int r.1)), σ, r.2) := CT_of (by decide +kernel) (Nat.le_of_ble_eq_true rfl) (fun J hI => w_X12_token hI σ p0 p1 p2 p3 p4 δ r h rfl)
def m_X12_both_b21 (σ : St) (p0 : Nat) (δ : Dy) : Option (Int32 × Dy) :=
  (chk σ 12 p0).bind fun _ => (m_X12_stop σ p0 (1 : Int32) δ).bind fun v3 =>
  some (v3.1, v3.2)
def m_X12_both (σ : St) (p0 : Nat) (p1 : Int32) (p2 : Int32) (δ : Dy) : Option (Int32 × Dy) :=
  (pI σ δ 12 p0 50 (0 : Int32)).bind fun d1 =>
  (chk σ 12 p0).bind fun _ => (m_X12_isNode σ p0 p1 d1).bind fun v2 =>
  if v2 = 0 then
    m_X12_both_b21 σ p0 d1
  else
    (chk σ 12 p0).bind fun _ => (m_X12_isNode σ p0 p2 d1).bind fun v4 =>
    if v4 = 0 then
      m_X12_both_b21 σ p0 d1
    else
      (chk σ 12 p0).bind fun _ => (m_X12_makeNode σ p0 (2 : Int32) p1 p2 (0 : Int32) (0 : Int32) d1).bind fun v5 =>
      (chk σ 12 p0).bind fun _ => (m_X12_toldNode σ p0 v5.1 (2 : Int32) v5.2).bind fun v6 =>
      some (v6.1, v6.2)
set_option maxHeartbeats 4000000 in
set_option maxRecDepth 100000 in
theorem w_X12_both_b21 {J : JT} {an : Option Value × St × Dy} (hI : Isj cX12_both 3 RX12 "both" 2 43 (some .int) an J) {β : Bu} (σ : St) (p0 : Nat) (δ : Dy) : SJ (m_X12_both_b21 σ p0 δ) (PI σ an) (J 21 [(0, .ref p0)] [] β σ δ) := by
  have hJ := hI.cor
  unfold m_X12_both_b21
  refine sj (j_aload_n hJ dX12_both_21 rfl 0 rfl) ?_
  refine sj (j_iconst hJ (v := 1) dX12_both_22 ic_1) ?_
  refine sj_callVi hJ [.int (1 : Int32)] (st := []) (fr' := 0) (lo' := 0) ml_X12_137 hc_12 (by decide) (by decide) (Nat.le_of_ble_eq_true rfl) dX12_both_23 rfl (fun _ h9 => ct_X12_stop h9) (fun v3 => ?_)
  exact sj_iret hI dX12_both_26 (fun h => h)
set_option maxHeartbeats 4000000 in
set_option maxRecDepth 100000 in
theorem w_X12_both {J : JT} {an : Option Value × St × Dy} (hI : Isj cX12_both 3 RX12 "both" 2 43 (some .int) an J) {β : Bu} (σ : St) (p0 : Nat) (p1 : Int32) (p2 : Int32) (δ : Dy) : SJ (m_X12_both σ p0 p1 p2 δ) (PI σ an) (J 0 [(0, .ref p0), (1, .int p1), (2, .int p2)] [] β σ δ) := by
  have hJ := hI.cor
  unfold m_X12_both
  refine sj (j_aload_n hJ dX12_both_0 rfl 0 rfl) ?_
  refine sj (j_iconst hJ (v := 0) dX12_both_1 ic_0) ?_
  refine sj_pI hJ fl_X12_118 rfl dX12_both_2 (fun d1 => ?_)
  refine sj (j_aload_n hJ dX12_both_5 rfl 0 rfl) ?_
  refine sj (j_iload_n hJ dX12_both_6 rfl 1 rfl) ?_
  refine sj_callVip hJ [.int p1] (st := []) (fr' := 1) (lo' := 22) ml_X12_225 hc_12 (by decide) (by decide) (Nat.le_of_ble_eq_true rfl) dX12_both_7 rfl (fun _ h9 => ct_X12_isNode h9) (fun v2 => ?_)
  refine sj_if (j_if_eq hJ (tgt := 21) dX12_both_10 (by decide)) (fun _ => ?_) (fun _ => ?_)
  · refine sj (j_sub hJ (L' := [(0, .ref p0)]) [0] rfl) ?_
    exact w_X12_both_b21 hI σ p0 d1
  · refine sj (j_aload_n hJ dX12_both_13 rfl 0 rfl) ?_
    refine sj (j_iload_n hJ dX12_both_14 rfl 2 rfl) ?_
    refine sj_callVip hJ [.int p2] (st := []) (fr' := 1) (lo' := 22) ml_X12_225 hc_12 (by decide) (by decide) (Nat.le_of_ble_eq_true rfl) dX12_both_15 rfl (fun _ h9 => ct_X12_isNode h9) (fun v4 => ?_)
    refine sj_if (j_if_ne hJ (tgt := 27) dX12_both_18 (by decide)) (fun _ => ?_) (fun _ => ?_)
    · refine sj (j_sub hJ (L' := [(0, .ref p0)]) [0] rfl) ?_
      exact w_X12_both_b21 hI σ p0 d1
    · refine sj (j_aload_n hJ dX12_both_27 rfl 0 rfl) ?_
      refine sj (j_aload_n hJ dX12_both_28 rfl 0 rfl) ?_
      refine sj (j_iconst hJ (v := 2) dX12_both_29 ic_2) ?_
      refine sj (j_iload_n hJ dX12_both_30 rfl 1 rfl) ?_
      refine sj (j_iload_n hJ dX12_both_31 rfl 2 rfl) ?_
      refine sj (j_iconst hJ (v := 0) dX12_both_32 ic_0) ?_
      refine sj (j_iconst hJ (v := 0) dX12_both_33 ic_0) ?_
      refine sj_callVi hJ [.int (2 : Int32), .int p1, .int p2, .int (0 : Int32), .int (0 : Int32)] (st := [.ref p0]) (fr' := 0) (lo' := 0) ml_X12_217 hc_12 (by decide) (by decide) (Nat.le_of_ble_eq_true rfl) dX12_both_34 rfl (fun _ h9 => ct_X12_makeNode h9) (fun v5 => ?_)
      refine sj (j_iconst hJ (v := 2) dX12_both_37 ic_2) ?_
      refine sj_callVi hJ [.int v5.1, .int (2 : Int32)] (st := []) (fr' := 1) (lo' := 21) ml_X12_221 hc_12 (by decide) (by decide) (Nat.le_of_ble_eq_true rfl) dX12_both_38 rfl (fun _ h9 => ct_X12_toldNode h9) (fun v6 => ?_)
      exact sj_iret hI dX12_both_41 (fun h => h)
theorem ct_X12_both {σ : St} {p0 : Nat} {p1 : Int32} {p2 : Int32} {δ : Dy} {r : (Int32 × Dy)} (h : m_X12_both σ p0 p1 p2 δ = some r) : CT yX12_both cX12_both 3 (some .int) 2 43 0 0 [.ref p0, .int p1, .int p2] σ δ ((some (.int r.1)), σ, r.2) := CT_of (by decide +kernel) (Nat.le_of_ble_eq_true rfl) (fun J hI => w_X12_both hI σ p0 p1 p2 δ r h rfl)
def m_X12_areTold (σ : St) (p0 : Int32) (p1 : Int32) (p2 : Int32) (δ : Dy) : Option Int32 :=
  (m_X12_isCondition σ p0 δ).bind fun v1 =>
  if v1 = 0 then
    some (0 : Int32)
  else
    (m_X12_isTerm σ p1 δ).bind fun v2 =>
    if v2 = 0 then
      some (0 : Int32)
    else
      if p0 = (3 : Int32) then
        some (1 : Int32)
      else
        (m_X12_isTerm σ p2 δ).bind fun v3 =>
        if v3 = 0 then
          some (0 : Int32)
        else
          some (1 : Int32)
set_option maxHeartbeats 4000000 in
set_option maxRecDepth 100000 in
theorem w_X12_areTold {J : JT} {an : Option Value × St × Dy} (hI : Isj cX12_areTold 3 RX12 "areTold" 3 62 (some .boolean) an J) {β : Bu} (σ : St) (p0 : Int32) (p1 : Int32) (p2 : Int32) (δ : Dy) : SJ (m_X12_areTold σ p0 p1 p2 δ) (PIp σ δ an) (J 0 [(0, .int p0), (1, .int p1), (2, .int p2)] [] β σ δ) := by
  have hJ := hI.cor
  unfold m_X12_areTold
  refine sj (j_iload_n hJ dX12_areTold_0 rfl 0 rfl) ?_
  refine sj_callSip hJ [.int p0] (st := []) (fr' := 1) (lo' := 22) ml_X12_228 (by decide) (by decide) (Nat.le_of_ble_eq_true rfl) dX12_areTold_1 rfl (fun _ h9 => ct_X12_isCondition h9) (fun v1 => ?_)
  refine sj_if (j_if_eq hJ (tgt := 30) dX12_areTold_4 (by decide)) (fun _ => ?_) (fun _ => ?_)
  · refine sj (j_iconst hJ (v := 0) dX12_areTold_30 ic_0) ?_
    exact sj_zret hI (by decide) dX12_areTold_31 (fun h => h)
  · refine sj (j_iload_n hJ dX12_areTold_7 rfl 1 rfl) ?_
    refine sj_callSip hJ [.int p1] (st := []) (fr' := 2) (lo' := 42) ml_X12_214 (by decide) (by decide) (Nat.le_of_ble_eq_true rfl) dX12_areTold_8 rfl (fun _ h9 => ct_X12_isTerm h9) (fun v2 => ?_)
    refine sj_if (j_if_eq hJ (tgt := 30) dX12_areTold_11 (by decide)) (fun _ => ?_) (fun _ => ?_)
    · refine sj (j_iconst hJ (v := 0) dX12_areTold_30 ic_0) ?_
      exact sj_zret hI (by decide) dX12_areTold_31 (fun h => h)
    · refine sj (j_iload_n hJ dX12_areTold_14 rfl 0 rfl) ?_
      refine sj (j_iconst hJ (v := 3) dX12_areTold_15 ic_3) ?_
      refine sj_if (j_icmp_eq hJ (tgt := 26) dX12_areTold_16 (by decide)) (fun _ => ?_) (fun _ => ?_)
      · refine sj (j_iconst hJ (v := 1) dX12_areTold_26 ic_1) ?_
        refine sj (j_goto hJ (tgt := 31) dX12_areTold_27 (by decide)) ?_
        exact sj_zret hI (by decide) dX12_areTold_31 (fun h => h)
      · refine sj (j_iload_n hJ dX12_areTold_19 rfl 2 rfl) ?_
        refine sj_callSip hJ [.int p2] (st := []) (fr' := 2) (lo' := 42) ml_X12_214 (by decide) (by decide) (Nat.le_of_ble_eq_true rfl) dX12_areTold_20 rfl (fun _ h9 => ct_X12_isTerm h9) (fun v3 => ?_)
        refine sj_if (j_if_eq hJ (tgt := 30) dX12_areTold_23 (by decide)) (fun _ => ?_) (fun _ => ?_)
        · refine sj (j_iconst hJ (v := 0) dX12_areTold_30 ic_0) ?_
          exact sj_zret hI (by decide) dX12_areTold_31 (fun h => h)
        · refine sj (j_iconst hJ (v := 1) dX12_areTold_26 ic_1) ?_
          refine sj (j_goto hJ (tgt := 31) dX12_areTold_27 (by decide)) ?_
          exact sj_zret hI (by decide) dX12_areTold_31 (fun h => h)
theorem ct_X12_areTold {σ : St} {p0 : Int32} {p1 : Int32} {p2 : Int32} {δ : Dy} {r : Int32} (h : m_X12_areTold σ p0 p1 p2 δ = some r) : CT yX12_areTold cX12_areTold 3 (some .boolean) 3 62 0 0 [.int p0, .int p1, .int p2] σ δ ((some (.int r)), σ, δ) := CT_of (by decide +kernel) (Nat.le_of_ble_eq_true rfl) (fun J hI => w_X12_areTold hI σ p0 p1 p2 δ r h rfl)
def m_X12_when (σ : St) (p0 : Nat) (p1 : Int32) (p2 : Int32) (p3 : Int32) (p4 : Int32) (δ : Dy) : Option (Int32 × Dy) :=
  (pI σ δ 12 p0 50 (0 : Int32)).bind fun d1 =>
  (chk σ 12 p0).bind fun _ => (m_X12_isNode σ p0 p4 d1).bind fun v2 =>
  if v2 = 0 then
    (chk σ 12 p0).bind fun _ => (m_X12_stop σ p0 (1 : Int32) d1).bind fun v3 =>
    some (v3.1, v3.2)
  else
    (m_X12_areTold σ p1 p2 p3 d1).bind fun v4 =>
    if v4 = 0 then
      (chk σ 12 p0).bind fun _ => (m_X12_stop σ p0 (2 : Int32) d1).bind fun v5 =>
      some (v5.1, v5.2)
    else
      (chk σ 12 p0).bind fun _ => (m_X12_makeNode σ p0 (3 : Int32) p1 p2 p3 p4 d1).bind fun v6 =>
      (chk σ 12 p0).bind fun _ => (m_X12_toldNode σ p0 v6.1 (3 : Int32) v6.2).bind fun v7 =>
      some (v7.1, v7.2)
set_option maxHeartbeats 4000000 in
set_option maxRecDepth 100000 in
theorem w_X12_when {J : JT} {an : Option Value × St × Dy} (hI : Isj cX12_when 5 RX12 "when" 4 84 (some .int) an J) {β : Bu} (σ : St) (p0 : Nat) (p1 : Int32) (p2 : Int32) (p3 : Int32) (p4 : Int32) (δ : Dy) : SJ (m_X12_when σ p0 p1 p2 p3 p4 δ) (PI σ an) (J 0 [(0, .ref p0), (1, .int p1), (2, .int p2), (3, .int p3), (4, .int p4)] [] β σ δ) := by
  have hJ := hI.cor
  unfold m_X12_when
  refine sj (j_aload_n hJ dX12_when_0 rfl 0 rfl) ?_
  refine sj (j_iconst hJ (v := 0) dX12_when_1 ic_0) ?_
  refine sj_pI hJ fl_X12_118 rfl dX12_when_2 (fun d1 => ?_)
  refine sj (j_aload_n hJ dX12_when_5 rfl 0 rfl) ?_
  refine sj (j_iload hJ dX12_when_6 4 rfl) ?_
  refine sj_callVip hJ [.int p4] (st := []) (fr' := 1) (lo' := 22) ml_X12_225 hc_12 (by decide) (by decide) (Nat.le_of_ble_eq_true rfl) dX12_when_8 rfl (fun _ h9 => ct_X12_isNode h9) (fun v2 => ?_)
  refine sj_if (j_if_ne hJ (tgt := 20) dX12_when_11 (by decide)) (fun _ => ?_) (fun _ => ?_)
  · refine sj (j_aload_n hJ dX12_when_14 rfl 0 rfl) ?_
    refine sj (j_iconst hJ (v := 1) dX12_when_15 ic_1) ?_
    refine sj_callVi hJ [.int (1 : Int32)] (st := []) (fr' := 0) (lo' := 0) ml_X12_137 hc_12 (by decide) (by decide) (Nat.le_of_ble_eq_true rfl) dX12_when_16 rfl (fun _ h9 => ct_X12_stop h9) (fun v3 => ?_)
    exact sj_iret hI dX12_when_19 (fun h => h)
  · refine sj (j_iload_n hJ dX12_when_20 rfl 1 rfl) ?_
    refine sj (j_iload_n hJ dX12_when_21 rfl 2 rfl) ?_
    refine sj (j_iload_n hJ dX12_when_22 rfl 3 rfl) ?_
    refine sj_callSip hJ [.int p1, .int p2, .int p3] (st := []) (fr' := 3) (lo' := 62) ml_X12_231 (by decide) (by decide) (Nat.le_of_ble_eq_true rfl) dX12_when_23 rfl (fun _ h9 => ct_X12_areTold h9) (fun v4 => ?_)
    refine sj_if (j_if_ne hJ (tgt := 35) dX12_when_26 (by decide)) (fun _ => ?_) (fun _ => ?_)
    · refine sj (j_aload_n hJ dX12_when_29 rfl 0 rfl) ?_
      refine sj (j_iconst hJ (v := 2) dX12_when_30 ic_2) ?_
      refine sj_callVi hJ [.int (2 : Int32)] (st := []) (fr' := 0) (lo' := 0) ml_X12_137 hc_12 (by decide) (by decide) (Nat.le_of_ble_eq_true rfl) dX12_when_31 rfl (fun _ h9 => ct_X12_stop h9) (fun v5 => ?_)
      exact sj_iret hI dX12_when_34 (fun h => h)
    · refine sj (j_aload_n hJ dX12_when_35 rfl 0 rfl) ?_
      refine sj (j_aload_n hJ dX12_when_36 rfl 0 rfl) ?_
      refine sj (j_iconst hJ (v := 3) dX12_when_37 ic_3) ?_
      refine sj (j_iload_n hJ dX12_when_38 rfl 1 rfl) ?_
      refine sj (j_iload_n hJ dX12_when_39 rfl 2 rfl) ?_
      refine sj (j_iload_n hJ dX12_when_40 rfl 3 rfl) ?_
      refine sj (j_iload hJ dX12_when_41 4 rfl) ?_
      refine sj_callVi hJ [.int (3 : Int32), .int p1, .int p2, .int p3, .int p4] (st := [.ref p0]) (fr' := 0) (lo' := 0) ml_X12_217 hc_12 (by decide) (by decide) (Nat.le_of_ble_eq_true rfl) dX12_when_43 rfl (fun _ h9 => ct_X12_makeNode h9) (fun v6 => ?_)
      refine sj (j_iconst hJ (v := 3) dX12_when_46 ic_3) ?_
      refine sj_callVi hJ [.int v6.1, .int (3 : Int32)] (st := []) (fr' := 1) (lo' := 21) ml_X12_221 hc_12 (by decide) (by decide) (Nat.le_of_ble_eq_true rfl) dX12_when_47 rfl (fun _ h9 => ct_X12_toldNode h9) (fun v7 => ?_)
      exact sj_iret hI dX12_when_50 (fun h => h)
theorem ct_X12_when {σ : St} {p0 : Nat} {p1 : Int32} {p2 : Int32} {p3 : Int32} {p4 : Int32} {δ : Dy} {r : (Int32 × Dy)} (h : m_X12_when σ p0 p1 p2 p3 p4 δ = some r) : CT yX12_when cX12_when 5 (some .int) 4 84 0 0 [.ref p0, .int p1, .int p2, .int p3, .int p4] σ δ ((some (.int r.1)), σ, r.2) := CT_of (by decide +kernel) (Nat.le_of_ble_eq_true rfl) (fun J hI => w_X12_when hI σ p0 p1 p2 p3 p4 δ r h rfl)
def m_X12_either_b21 (σ : St) (p0 : Nat) (δ : Dy) : Option (Int32 × Dy) :=
  (chk σ 12 p0).bind fun _ => (m_X12_stop σ p0 (1 : Int32) δ).bind fun v3 =>
  some (v3.1, v3.2)
def m_X12_either_b68 (σ : St) (p0 : Nat) (δ : Dy) : Option (Int32 × Dy) :=
  (chk σ 12 p0).bind fun _ => (m_X12_stop σ p0 (2 : Int32) δ).bind fun v10 =>
  some (v10.1, v10.2)
def m_X12_either (σ : St) (p0 : Nat) (p1 : Int32) (p2 : Int32) (p3 : Int32) (p4 : Int32) (δ : Dy) : Option (Int32 × Dy) :=
  (pI σ δ 12 p0 50 (0 : Int32)).bind fun d1 =>
  (chk σ 12 p0).bind fun _ => (m_X12_isNode σ p0 p1 d1).bind fun v2 =>
  if v2 = 0 then
    m_X12_either_b21 σ p0 d1
  else
    (chk σ 12 p0).bind fun _ => (m_X12_isNode σ p0 p3 d1).bind fun v4 =>
    if v4 = 0 then
      m_X12_either_b21 σ p0 d1
    else
      (gR σ 12 p0 2).bind fun v5 =>
      (rI σ d1 v5 p1).bind fun v6 =>
      if v6 = (3 : Int32) then
        (gR σ 12 p0 2).bind fun v7 =>
        (rI σ d1 v7 p3).bind fun v8 =>
        if v8 = (3 : Int32) then
          (m_X12_in σ p2 (0 : Int32) (9 : Int32) d1).bind fun v9 =>
          if v9 = 0 then
            m_X12_either_b68 σ p0 d1
          else
            (m_X12_in σ p4 (0 : Int32) (9 : Int32) d1).bind fun v11 =>
            if v11 = 0 then
              m_X12_either_b68 σ p0 d1
            else
              (chk σ 12 p0).bind fun _ => (m_X12_makeNode σ p0 (4 : Int32) p1 p2 p3 p4 d1).bind fun v12 =>
              (chk σ 12 p0).bind fun _ => (m_X12_toldNode σ p0 v12.1 (3 : Int32) v12.2).bind fun v13 =>
              some (v13.1, v13.2)
        else
          m_X12_either_b68 σ p0 d1
      else
        m_X12_either_b68 σ p0 d1
set_option maxHeartbeats 4000000 in
set_option maxRecDepth 100000 in
theorem w_X12_either_b21 {J : JT} {an : Option Value × St × Dy} (hI : Isj cX12_either 5 RX12 "either" 2 43 (some .int) an J) {β : Bu} (σ : St) (p0 : Nat) (δ : Dy) : SJ (m_X12_either_b21 σ p0 δ) (PI σ an) (J 21 [(0, .ref p0)] [] β σ δ) := by
  have hJ := hI.cor
  unfold m_X12_either_b21
  refine sj (j_aload_n hJ dX12_either_21 rfl 0 rfl) ?_
  refine sj (j_iconst hJ (v := 1) dX12_either_22 ic_1) ?_
  refine sj_callVi hJ [.int (1 : Int32)] (st := []) (fr' := 0) (lo' := 0) ml_X12_137 hc_12 (by decide) (by decide) (Nat.le_of_ble_eq_true rfl) dX12_either_23 rfl (fun _ h9 => ct_X12_stop h9) (fun v3 => ?_)
  exact sj_iret hI dX12_either_26 (fun h => h)
set_option maxHeartbeats 4000000 in
set_option maxRecDepth 100000 in
theorem w_X12_either_b68 {J : JT} {an : Option Value × St × Dy} (hI : Isj cX12_either 5 RX12 "either" 2 43 (some .int) an J) {β : Bu} (σ : St) (p0 : Nat) (δ : Dy) : SJ (m_X12_either_b68 σ p0 δ) (PI σ an) (J 68 [(0, .ref p0)] [] β σ δ) := by
  have hJ := hI.cor
  unfold m_X12_either_b68
  refine sj (j_aload_n hJ dX12_either_68 rfl 0 rfl) ?_
  refine sj (j_iconst hJ (v := 2) dX12_either_69 ic_2) ?_
  refine sj_callVi hJ [.int (2 : Int32)] (st := []) (fr' := 0) (lo' := 0) ml_X12_137 hc_12 (by decide) (by decide) (Nat.le_of_ble_eq_true rfl) dX12_either_70 rfl (fun _ h9 => ct_X12_stop h9) (fun v10 => ?_)
  exact sj_iret hI dX12_either_73 (fun h => h)
set_option maxHeartbeats 4000000 in
set_option maxRecDepth 100000 in
theorem w_X12_either {J : JT} {an : Option Value × St × Dy} (hI : Isj cX12_either 5 RX12 "either" 2 43 (some .int) an J) {β : Bu} (σ : St) (p0 : Nat) (p1 : Int32) (p2 : Int32) (p3 : Int32) (p4 : Int32) (δ : Dy) : SJ (m_X12_either σ p0 p1 p2 p3 p4 δ) (PI σ an) (J 0 [(0, .ref p0), (1, .int p1), (2, .int p2), (3, .int p3), (4, .int p4)] [] β σ δ) := by
  have hJ := hI.cor
  unfold m_X12_either
  refine sj (j_aload_n hJ dX12_either_0 rfl 0 rfl) ?_
  refine sj (j_iconst hJ (v := 0) dX12_either_1 ic_0) ?_
  refine sj_pI hJ fl_X12_118 rfl dX12_either_2 (fun d1 => ?_)
  refine sj (j_aload_n hJ dX12_either_5 rfl 0 rfl) ?_
  refine sj (j_iload_n hJ dX12_either_6 rfl 1 rfl) ?_
  refine sj_callVip hJ [.int p1] (st := []) (fr' := 1) (lo' := 22) ml_X12_225 hc_12 (by decide) (by decide) (Nat.le_of_ble_eq_true rfl) dX12_either_7 rfl (fun _ h9 => ct_X12_isNode h9) (fun v2 => ?_)
  refine sj_if (j_if_eq hJ (tgt := 21) dX12_either_10 (by decide)) (fun _ => ?_) (fun _ => ?_)
  · refine sj (j_sub hJ (L' := [(0, .ref p0)]) [0] rfl) ?_
    exact w_X12_either_b21 hI σ p0 d1
  · refine sj (j_aload_n hJ dX12_either_13 rfl 0 rfl) ?_
    refine sj (j_iload_n hJ dX12_either_14 rfl 3 rfl) ?_
    refine sj_callVip hJ [.int p3] (st := []) (fr' := 1) (lo' := 22) ml_X12_225 hc_12 (by decide) (by decide) (Nat.le_of_ble_eq_true rfl) dX12_either_15 rfl (fun _ h9 => ct_X12_isNode h9) (fun v4 => ?_)
    refine sj_if (j_if_ne hJ (tgt := 27) dX12_either_18 (by decide)) (fun _ => ?_) (fun _ => ?_)
    · refine sj (j_sub hJ (L' := [(0, .ref p0)]) [0] rfl) ?_
      exact w_X12_either_b21 hI σ p0 d1
    · refine sj (j_aload_n hJ dX12_either_27 rfl 0 rfl) ?_
      refine sj_gR hJ fl_X12_16 rfl dX12_either_28 (fun v5 => ?_)
      refine sj (j_iload_n hJ dX12_either_31 rfl 1 rfl) ?_
      refine sj_rI hJ dX12_either_32 (fun v6 => ?_)
      refine sj (j_iconst hJ (v := 3) dX12_either_33 ic_3) ?_
      refine sj_if (j_icmp_ne hJ (tgt := 68) dX12_either_34 (by decide)) (fun _ => ?_) (fun _ => ?_)
      · refine sj (j_aload_n hJ dX12_either_37 rfl 0 rfl) ?_
        refine sj_gR hJ fl_X12_16 rfl dX12_either_38 (fun v7 => ?_)
        refine sj (j_iload_n hJ dX12_either_41 rfl 3 rfl) ?_
        refine sj_rI hJ dX12_either_42 (fun v8 => ?_)
        refine sj (j_iconst hJ (v := 3) dX12_either_43 ic_3) ?_
        refine sj_if (j_icmp_ne hJ (tgt := 68) dX12_either_44 (by decide)) (fun _ => ?_) (fun _ => ?_)
        · refine sj (j_iload_n hJ dX12_either_47 rfl 2 rfl) ?_
          refine sj (j_iconst hJ (v := 0) dX12_either_48 ic_0) ?_
          refine sj (j_bipush hJ (v := 9) dX12_either_49 ib_9) ?_
          refine sj_callSip hJ [.int p2, .int (0 : Int32), .int (9 : Int32)] (st := []) (fr' := 0) (lo' := 0) ml_X12_122 (by decide) (by decide) (Nat.le_of_ble_eq_true rfl) dX12_either_51 rfl (fun _ h9 => ct_X12_in h9) (fun v9 => ?_)
          refine sj_if (j_if_eq hJ (tgt := 68) dX12_either_54 (by decide)) (fun _ => ?_) (fun _ => ?_)
          · refine sj (j_sub hJ (L' := [(0, .ref p0)]) [0] rfl) ?_
            exact w_X12_either_b68 hI σ p0 d1
          · refine sj (j_iload hJ dX12_either_57 4 rfl) ?_
            refine sj (j_iconst hJ (v := 0) dX12_either_59 ic_0) ?_
            refine sj (j_bipush hJ (v := 9) dX12_either_60 ib_9) ?_
            refine sj_callSip hJ [.int p4, .int (0 : Int32), .int (9 : Int32)] (st := []) (fr' := 0) (lo' := 0) ml_X12_122 (by decide) (by decide) (Nat.le_of_ble_eq_true rfl) dX12_either_62 rfl (fun _ h9 => ct_X12_in h9) (fun v11 => ?_)
            refine sj_if (j_if_ne hJ (tgt := 74) dX12_either_65 (by decide)) (fun _ => ?_) (fun _ => ?_)
            · refine sj (j_sub hJ (L' := [(0, .ref p0)]) [0] rfl) ?_
              exact w_X12_either_b68 hI σ p0 d1
            · refine sj (j_aload_n hJ dX12_either_74 rfl 0 rfl) ?_
              refine sj (j_aload_n hJ dX12_either_75 rfl 0 rfl) ?_
              refine sj (j_iconst hJ (v := 4) dX12_either_76 ic_4) ?_
              refine sj (j_iload_n hJ dX12_either_77 rfl 1 rfl) ?_
              refine sj (j_iload_n hJ dX12_either_78 rfl 2 rfl) ?_
              refine sj (j_iload_n hJ dX12_either_79 rfl 3 rfl) ?_
              refine sj (j_iload hJ dX12_either_80 4 rfl) ?_
              refine sj_callVi hJ [.int (4 : Int32), .int p1, .int p2, .int p3, .int p4] (st := [.ref p0]) (fr' := 0) (lo' := 0) ml_X12_217 hc_12 (by decide) (by decide) (Nat.le_of_ble_eq_true rfl) dX12_either_82 rfl (fun _ h9 => ct_X12_makeNode h9) (fun v12 => ?_)
              refine sj (j_iconst hJ (v := 3) dX12_either_85 ic_3) ?_
              refine sj_callVi hJ [.int v12.1, .int (3 : Int32)] (st := []) (fr' := 1) (lo' := 21) ml_X12_221 hc_12 (by decide) (by decide) (Nat.le_of_ble_eq_true rfl) dX12_either_86 rfl (fun _ h9 => ct_X12_toldNode h9) (fun v13 => ?_)
              exact sj_iret hI dX12_either_89 (fun h => h)
        · refine sj (j_sub hJ (L' := [(0, .ref p0)]) [0] rfl) ?_
          exact w_X12_either_b68 hI σ p0 d1
      · refine sj (j_sub hJ (L' := [(0, .ref p0)]) [0] rfl) ?_
        exact w_X12_either_b68 hI σ p0 d1
theorem ct_X12_either {σ : St} {p0 : Nat} {p1 : Int32} {p2 : Int32} {p3 : Int32} {p4 : Int32} {δ : Dy} {r : (Int32 × Dy)} (h : m_X12_either σ p0 p1 p2 p3 p4 δ = some r) : CT yX12_either cX12_either 5 (some .int) 2 43 0 0 [.ref p0, .int p1, .int p2, .int p3, .int p4] σ δ ((some (.int r.1)), σ, r.2) := CT_of (by decide +kernel) (Nat.le_of_ble_eq_true rfl) (fun J hI => w_X12_either hI σ p0 p1 p2 p3 p4 δ r h rfl)
def m_X12_hide (σ : St) (p0 : Nat) (p1 : Int32) (p2 : Int32) (δ : Dy) : Option (Int32 × Dy) :=
  (pI σ δ 12 p0 50 (0 : Int32)).bind fun d1 =>
  (chk σ 12 p0).bind fun _ => (m_X12_isNode σ p0 p2 d1).bind fun v2 =>
  if v2 = 0 then
    (chk σ 12 p0).bind fun _ => (m_X12_stop σ p0 (1 : Int32) d1).bind fun v3 =>
    some (v3.1, v3.2)
  else
    (m_X12_in σ p1 (0 : Int32) (3 : Int32) d1).bind fun v4 =>
    if v4 = 0 then
      (chk σ 12 p0).bind fun _ => (m_X12_stop σ p0 (2 : Int32) d1).bind fun v5 =>
      some (v5.1, v5.2)
    else
      (chk σ 12 p0).bind fun _ => (m_X12_makeNode σ p0 (5 : Int32) p1 p2 (0 : Int32) (0 : Int32) d1).bind fun v6 =>
      (chk σ 12 p0).bind fun _ => (m_X12_toldNode σ p0 v6.1 (3 : Int32) v6.2).bind fun v7 =>
      some (v7.1, v7.2)
set_option maxHeartbeats 4000000 in
set_option maxRecDepth 100000 in
theorem w_X12_hide {J : JT} {an : Option Value × St × Dy} (hI : Isj cX12_hide 3 RX12 "hide" 2 43 (some .int) an J) {β : Bu} (σ : St) (p0 : Nat) (p1 : Int32) (p2 : Int32) (δ : Dy) : SJ (m_X12_hide σ p0 p1 p2 δ) (PI σ an) (J 0 [(0, .ref p0), (1, .int p1), (2, .int p2)] [] β σ δ) := by
  have hJ := hI.cor
  unfold m_X12_hide
  refine sj (j_aload_n hJ dX12_hide_0 rfl 0 rfl) ?_
  refine sj (j_iconst hJ (v := 0) dX12_hide_1 ic_0) ?_
  refine sj_pI hJ fl_X12_118 rfl dX12_hide_2 (fun d1 => ?_)
  refine sj (j_aload_n hJ dX12_hide_5 rfl 0 rfl) ?_
  refine sj (j_iload_n hJ dX12_hide_6 rfl 2 rfl) ?_
  refine sj_callVip hJ [.int p2] (st := []) (fr' := 1) (lo' := 22) ml_X12_225 hc_12 (by decide) (by decide) (Nat.le_of_ble_eq_true rfl) dX12_hide_7 rfl (fun _ h9 => ct_X12_isNode h9) (fun v2 => ?_)
  refine sj_if (j_if_ne hJ (tgt := 19) dX12_hide_10 (by decide)) (fun _ => ?_) (fun _ => ?_)
  · refine sj (j_aload_n hJ dX12_hide_13 rfl 0 rfl) ?_
    refine sj (j_iconst hJ (v := 1) dX12_hide_14 ic_1) ?_
    refine sj_callVi hJ [.int (1 : Int32)] (st := []) (fr' := 0) (lo' := 0) ml_X12_137 hc_12 (by decide) (by decide) (Nat.le_of_ble_eq_true rfl) dX12_hide_15 rfl (fun _ h9 => ct_X12_stop h9) (fun v3 => ?_)
    exact sj_iret hI dX12_hide_18 (fun h => h)
  · refine sj (j_iload_n hJ dX12_hide_19 rfl 1 rfl) ?_
    refine sj (j_iconst hJ (v := 0) dX12_hide_20 ic_0) ?_
    refine sj (j_iconst hJ (v := 3) dX12_hide_21 ic_3) ?_
    refine sj_callSip hJ [.int p1, .int (0 : Int32), .int (3 : Int32)] (st := []) (fr' := 0) (lo' := 0) ml_X12_122 (by decide) (by decide) (Nat.le_of_ble_eq_true rfl) dX12_hide_22 rfl (fun _ h9 => ct_X12_in h9) (fun v4 => ?_)
    refine sj_if (j_if_ne hJ (tgt := 34) dX12_hide_25 (by decide)) (fun _ => ?_) (fun _ => ?_)
    · refine sj (j_aload_n hJ dX12_hide_28 rfl 0 rfl) ?_
      refine sj (j_iconst hJ (v := 2) dX12_hide_29 ic_2) ?_
      refine sj_callVi hJ [.int (2 : Int32)] (st := []) (fr' := 0) (lo' := 0) ml_X12_137 hc_12 (by decide) (by decide) (Nat.le_of_ble_eq_true rfl) dX12_hide_30 rfl (fun _ h9 => ct_X12_stop h9) (fun v5 => ?_)
      exact sj_iret hI dX12_hide_33 (fun h => h)
    · refine sj (j_aload_n hJ dX12_hide_34 rfl 0 rfl) ?_
      refine sj (j_aload_n hJ dX12_hide_35 rfl 0 rfl) ?_
      refine sj (j_iconst hJ (v := 5) dX12_hide_36 ic_5) ?_
      refine sj (j_iload_n hJ dX12_hide_37 rfl 1 rfl) ?_
      refine sj (j_iload_n hJ dX12_hide_38 rfl 2 rfl) ?_
      refine sj (j_iconst hJ (v := 0) dX12_hide_39 ic_0) ?_
      refine sj (j_iconst hJ (v := 0) dX12_hide_40 ic_0) ?_
      refine sj_callVi hJ [.int (5 : Int32), .int p1, .int p2, .int (0 : Int32), .int (0 : Int32)] (st := [.ref p0]) (fr' := 0) (lo' := 0) ml_X12_217 hc_12 (by decide) (by decide) (Nat.le_of_ble_eq_true rfl) dX12_hide_41 rfl (fun _ h9 => ct_X12_makeNode h9) (fun v6 => ?_)
      refine sj (j_iconst hJ (v := 3) dX12_hide_44 ic_3) ?_
      refine sj_callVi hJ [.int v6.1, .int (3 : Int32)] (st := []) (fr' := 1) (lo' := 21) ml_X12_221 hc_12 (by decide) (by decide) (Nat.le_of_ble_eq_true rfl) dX12_hide_45 rfl (fun _ h9 => ct_X12_toldNode h9) (fun v7 => ?_)
      exact sj_iret hI dX12_hide_48 (fun h => h)
theorem ct_X12_hide {σ : St} {p0 : Nat} {p1 : Int32} {p2 : Int32} {δ : Dy} {r : (Int32 × Dy)} (h : m_X12_hide σ p0 p1 p2 δ = some r) : CT yX12_hide cX12_hide 3 (some .int) 2 43 0 0 [.ref p0, .int p1, .int p2] σ δ ((some (.int r.1)), σ, r.2) := CT_of (by decide +kernel) (Nat.le_of_ble_eq_true rfl) (fun J hI => w_X12_hide hI σ p0 p1 p2 δ r h rfl)
def m_X12_call_b34 (σ : St) (p0 : Nat) (δ : Dy) : Option (Int32 × Dy) :=
  (chk σ 12 p0).bind fun _ => (m_X12_stop σ p0 (2 : Int32) δ).bind fun v5 =>
  some (v5.1, v5.2)
def m_X12_call (σ : St) (p0 : Nat) (p1 : Int32) (p2 : Int32) (p3 : Int32) (δ : Dy) : Option (Int32 × Dy) :=
  (pI σ δ 12 p0 50 (0 : Int32)).bind fun d1 =>
  (m_X12_in σ p1 (0 : Int32) (5 : Int32) d1).bind fun v2 =>
  if v2 = 0 then
    (chk σ 12 p0).bind fun _ => (m_X12_stop σ p0 (1 : Int32) d1).bind fun v3 =>
    some (v3.1, v3.2)
  else
    (m_X12_isTerm σ p2 d1).bind fun v4 =>
    if v4 = 0 then
      m_X12_call_b34 σ p0 d1
    else
      (m_X12_isTerm σ p3 d1).bind fun v6 =>
      if v6 = 0 then
        m_X12_call_b34 σ p0 d1
      else
        (chk σ 12 p0).bind fun _ => (m_X12_makeNode σ p0 (6 : Int32) p1 p2 p3 (0 : Int32) d1).bind fun v7 =>
        (chk σ 12 p0).bind fun _ => (m_X12_toldNode σ p0 v7.1 (3 : Int32) v7.2).bind fun v8 =>
        some (v8.1, v8.2)
set_option maxHeartbeats 4000000 in
set_option maxRecDepth 100000 in
theorem w_X12_call_b34 {J : JT} {an : Option Value × St × Dy} (hI : Isj cX12_call 4 RX12 "call" 3 62 (some .int) an J) {β : Bu} (σ : St) (p0 : Nat) (δ : Dy) : SJ (m_X12_call_b34 σ p0 δ) (PI σ an) (J 34 [(0, .ref p0)] [] β σ δ) := by
  have hJ := hI.cor
  unfold m_X12_call_b34
  refine sj (j_aload_n hJ dX12_call_34 rfl 0 rfl) ?_
  refine sj (j_iconst hJ (v := 2) dX12_call_35 ic_2) ?_
  refine sj_callVi hJ [.int (2 : Int32)] (st := []) (fr' := 0) (lo' := 0) ml_X12_137 hc_12 (by decide) (by decide) (Nat.le_of_ble_eq_true rfl) dX12_call_36 rfl (fun _ h9 => ct_X12_stop h9) (fun v5 => ?_)
  exact sj_iret hI dX12_call_39 (fun h => h)
set_option maxHeartbeats 4000000 in
set_option maxRecDepth 100000 in
theorem w_X12_call {J : JT} {an : Option Value × St × Dy} (hI : Isj cX12_call 4 RX12 "call" 3 62 (some .int) an J) {β : Bu} (σ : St) (p0 : Nat) (p1 : Int32) (p2 : Int32) (p3 : Int32) (δ : Dy) : SJ (m_X12_call σ p0 p1 p2 p3 δ) (PI σ an) (J 0 [(0, .ref p0), (1, .int p1), (2, .int p2), (3, .int p3)] [] β σ δ) := by
  have hJ := hI.cor
  unfold m_X12_call
  refine sj (j_aload_n hJ dX12_call_0 rfl 0 rfl) ?_
  refine sj (j_iconst hJ (v := 0) dX12_call_1 ic_0) ?_
  refine sj_pI hJ fl_X12_118 rfl dX12_call_2 (fun d1 => ?_)
  refine sj (j_iload_n hJ dX12_call_5 rfl 1 rfl) ?_
  refine sj (j_iconst hJ (v := 0) dX12_call_6 ic_0) ?_
  refine sj (j_iconst hJ (v := 5) dX12_call_7 ic_5) ?_
  refine sj_callSip hJ [.int p1, .int (0 : Int32), .int (5 : Int32)] (st := []) (fr' := 0) (lo' := 0) ml_X12_122 (by decide) (by decide) (Nat.le_of_ble_eq_true rfl) dX12_call_8 rfl (fun _ h9 => ct_X12_in h9) (fun v2 => ?_)
  refine sj_if (j_if_ne hJ (tgt := 20) dX12_call_11 (by decide)) (fun _ => ?_) (fun _ => ?_)
  · refine sj (j_aload_n hJ dX12_call_14 rfl 0 rfl) ?_
    refine sj (j_iconst hJ (v := 1) dX12_call_15 ic_1) ?_
    refine sj_callVi hJ [.int (1 : Int32)] (st := []) (fr' := 0) (lo' := 0) ml_X12_137 hc_12 (by decide) (by decide) (Nat.le_of_ble_eq_true rfl) dX12_call_16 rfl (fun _ h9 => ct_X12_stop h9) (fun v3 => ?_)
    exact sj_iret hI dX12_call_19 (fun h => h)
  · refine sj (j_iload_n hJ dX12_call_20 rfl 2 rfl) ?_
    refine sj_callSip hJ [.int p2] (st := []) (fr' := 2) (lo' := 42) ml_X12_214 (by decide) (by decide) (Nat.le_of_ble_eq_true rfl) dX12_call_21 rfl (fun _ h9 => ct_X12_isTerm h9) (fun v4 => ?_)
    refine sj_if (j_if_eq hJ (tgt := 34) dX12_call_24 (by decide)) (fun _ => ?_) (fun _ => ?_)
    · refine sj (j_sub hJ (L' := [(0, .ref p0)]) [0] rfl) ?_
      exact w_X12_call_b34 hI σ p0 d1
    · refine sj (j_iload_n hJ dX12_call_27 rfl 3 rfl) ?_
      refine sj_callSip hJ [.int p3] (st := []) (fr' := 2) (lo' := 42) ml_X12_214 (by decide) (by decide) (Nat.le_of_ble_eq_true rfl) dX12_call_28 rfl (fun _ h9 => ct_X12_isTerm h9) (fun v6 => ?_)
      refine sj_if (j_if_ne hJ (tgt := 40) dX12_call_31 (by decide)) (fun _ => ?_) (fun _ => ?_)
      · refine sj (j_sub hJ (L' := [(0, .ref p0)]) [0] rfl) ?_
        exact w_X12_call_b34 hI σ p0 d1
      · refine sj (j_aload_n hJ dX12_call_40 rfl 0 rfl) ?_
        refine sj (j_aload_n hJ dX12_call_41 rfl 0 rfl) ?_
        refine sj (j_bipush hJ (v := 6) dX12_call_42 ib_6) ?_
        refine sj (j_iload_n hJ dX12_call_44 rfl 1 rfl) ?_
        refine sj (j_iload_n hJ dX12_call_45 rfl 2 rfl) ?_
        refine sj (j_iload_n hJ dX12_call_46 rfl 3 rfl) ?_
        refine sj (j_iconst hJ (v := 0) dX12_call_47 ic_0) ?_
        refine sj_callVi hJ [.int (6 : Int32), .int p1, .int p2, .int p3, .int (0 : Int32)] (st := [.ref p0]) (fr' := 0) (lo' := 0) ml_X12_217 hc_12 (by decide) (by decide) (Nat.le_of_ble_eq_true rfl) dX12_call_48 rfl (fun _ h9 => ct_X12_makeNode h9) (fun v7 => ?_)
        refine sj (j_iconst hJ (v := 3) dX12_call_51 ic_3) ?_
        refine sj_callVi hJ [.int v7.1, .int (3 : Int32)] (st := []) (fr' := 1) (lo' := 21) ml_X12_221 hc_12 (by decide) (by decide) (Nat.le_of_ble_eq_true rfl) dX12_call_52 rfl (fun _ h9 => ct_X12_toldNode h9) (fun v8 => ?_)
        exact sj_iret hI dX12_call_55 (fun h => h)
theorem ct_X12_call {σ : St} {p0 : Nat} {p1 : Int32} {p2 : Int32} {p3 : Int32} {δ : Dy} {r : (Int32 × Dy)} (h : m_X12_call σ p0 p1 p2 p3 δ = some r) : CT yX12_call cX12_call 4 (some .int) 3 62 0 0 [.ref p0, .int p1, .int p2, .int p3] σ δ ((some (.int r.1)), σ, r.2) := CT_of (by decide +kernel) (Nat.le_of_ble_eq_true rfl) (fun J hI => w_X12_call hI σ p0 p1 p2 p3 δ r h rfl)
def m_X12_next (σ : St) (p0 : Nat) (p1 : Int32) (δ : Dy) : Option (Int32 × Dy) :=
  (pI σ δ 12 p0 50 (0 : Int32)).bind fun d1 =>
  (chk σ 12 p0).bind fun _ => (m_X12_isNode σ p0 p1 d1).bind fun v2 =>
  if v2 = 0 then
    (chk σ 12 p0).bind fun _ => (m_X12_stop σ p0 (1 : Int32) d1).bind fun v3 =>
    some (v3.1, v3.2)
  else
    (chk σ 12 p0).bind fun _ => (m_X12_makeNode σ p0 (7 : Int32) p1 (0 : Int32) (0 : Int32) (0 : Int32) d1).bind fun v4 =>
    (chk σ 12 p0).bind fun _ => (m_X12_toldNode σ p0 v4.1 (2 : Int32) v4.2).bind fun v5 =>
    some (v5.1, v5.2)
set_option maxHeartbeats 4000000 in
set_option maxRecDepth 100000 in
theorem w_X12_next {J : JT} {an : Option Value × St × Dy} (hI : Isj cX12_next 2 RX12 "next" 2 43 (some .int) an J) {β : Bu} (σ : St) (p0 : Nat) (p1 : Int32) (δ : Dy) : SJ (m_X12_next σ p0 p1 δ) (PI σ an) (J 0 [(0, .ref p0), (1, .int p1)] [] β σ δ) := by
  have hJ := hI.cor
  unfold m_X12_next
  refine sj (j_aload_n hJ dX12_next_0 rfl 0 rfl) ?_
  refine sj (j_iconst hJ (v := 0) dX12_next_1 ic_0) ?_
  refine sj_pI hJ fl_X12_118 rfl dX12_next_2 (fun d1 => ?_)
  refine sj (j_aload_n hJ dX12_next_5 rfl 0 rfl) ?_
  refine sj (j_iload_n hJ dX12_next_6 rfl 1 rfl) ?_
  refine sj_callVip hJ [.int p1] (st := []) (fr' := 1) (lo' := 22) ml_X12_225 hc_12 (by decide) (by decide) (Nat.le_of_ble_eq_true rfl) dX12_next_7 rfl (fun _ h9 => ct_X12_isNode h9) (fun v2 => ?_)
  refine sj_if (j_if_ne hJ (tgt := 19) dX12_next_10 (by decide)) (fun _ => ?_) (fun _ => ?_)
  · refine sj (j_aload_n hJ dX12_next_13 rfl 0 rfl) ?_
    refine sj (j_iconst hJ (v := 1) dX12_next_14 ic_1) ?_
    refine sj_callVi hJ [.int (1 : Int32)] (st := []) (fr' := 0) (lo' := 0) ml_X12_137 hc_12 (by decide) (by decide) (Nat.le_of_ble_eq_true rfl) dX12_next_15 rfl (fun _ h9 => ct_X12_stop h9) (fun v3 => ?_)
    exact sj_iret hI dX12_next_18 (fun h => h)
  · refine sj (j_aload_n hJ dX12_next_19 rfl 0 rfl) ?_
    refine sj (j_aload_n hJ dX12_next_20 rfl 0 rfl) ?_
    refine sj (j_bipush hJ (v := 7) dX12_next_21 ib_7) ?_
    refine sj (j_iload_n hJ dX12_next_23 rfl 1 rfl) ?_
    refine sj (j_iconst hJ (v := 0) dX12_next_24 ic_0) ?_
    refine sj (j_iconst hJ (v := 0) dX12_next_25 ic_0) ?_
    refine sj (j_iconst hJ (v := 0) dX12_next_26 ic_0) ?_
    refine sj_callVi hJ [.int (7 : Int32), .int p1, .int (0 : Int32), .int (0 : Int32), .int (0 : Int32)] (st := [.ref p0]) (fr' := 0) (lo' := 0) ml_X12_217 hc_12 (by decide) (by decide) (Nat.le_of_ble_eq_true rfl) dX12_next_27 rfl (fun _ h9 => ct_X12_makeNode h9) (fun v4 => ?_)
    refine sj (j_iconst hJ (v := 2) dX12_next_30 ic_2) ?_
    refine sj_callVi hJ [.int v4.1, .int (2 : Int32)] (st := []) (fr' := 1) (lo' := 21) ml_X12_221 hc_12 (by decide) (by decide) (Nat.le_of_ble_eq_true rfl) dX12_next_31 rfl (fun _ h9 => ct_X12_toldNode h9) (fun v5 => ?_)
    exact sj_iret hI dX12_next_34 (fun h => h)
theorem ct_X12_next {σ : St} {p0 : Nat} {p1 : Int32} {δ : Dy} {r : (Int32 × Dy)} (h : m_X12_next σ p0 p1 δ = some r) : CT yX12_next cX12_next 2 (some .int) 2 43 0 0 [.ref p0, .int p1] σ δ ((some (.int r.1)), σ, r.2) := CT_of (by decide +kernel) (Nat.le_of_ble_eq_true rfl) (fun J hI => w_X12_next hI σ p0 p1 δ r h rfl)
def m_X12_each (σ : St) (p0 : Nat) (p1 : Int32) (δ : Dy) : Option (Int32 × Dy) :=
  (pI σ δ 12 p0 50 (0 : Int32)).bind fun d1 =>
  (chk σ 12 p0).bind fun _ => (m_X12_isNode σ p0 p1 d1).bind fun v2 =>
  if v2 = 0 then
    (chk σ 12 p0).bind fun _ => (m_X12_stop σ p0 (1 : Int32) d1).bind fun v3 =>
    some (v3.1, v3.2)
  else
    (chk σ 12 p0).bind fun _ => (m_X12_makeNode σ p0 (8 : Int32) p1 (0 : Int32) (0 : Int32) (0 : Int32) d1).bind fun v4 =>
    (chk σ 12 p0).bind fun _ => (m_X12_toldNode σ p0 v4.1 (2 : Int32) v4.2).bind fun v5 =>
    some (v5.1, v5.2)
set_option maxHeartbeats 4000000 in
set_option maxRecDepth 100000 in
theorem w_X12_each {J : JT} {an : Option Value × St × Dy} (hI : Isj cX12_each 2 RX12 "each" 2 43 (some .int) an J) {β : Bu} (σ : St) (p0 : Nat) (p1 : Int32) (δ : Dy) : SJ (m_X12_each σ p0 p1 δ) (PI σ an) (J 0 [(0, .ref p0), (1, .int p1)] [] β σ δ) := by
  have hJ := hI.cor
  unfold m_X12_each
  refine sj (j_aload_n hJ dX12_each_0 rfl 0 rfl) ?_
  refine sj (j_iconst hJ (v := 0) dX12_each_1 ic_0) ?_
  refine sj_pI hJ fl_X12_118 rfl dX12_each_2 (fun d1 => ?_)
  refine sj (j_aload_n hJ dX12_each_5 rfl 0 rfl) ?_
  refine sj (j_iload_n hJ dX12_each_6 rfl 1 rfl) ?_
  refine sj_callVip hJ [.int p1] (st := []) (fr' := 1) (lo' := 22) ml_X12_225 hc_12 (by decide) (by decide) (Nat.le_of_ble_eq_true rfl) dX12_each_7 rfl (fun _ h9 => ct_X12_isNode h9) (fun v2 => ?_)
  refine sj_if (j_if_ne hJ (tgt := 19) dX12_each_10 (by decide)) (fun _ => ?_) (fun _ => ?_)
  · refine sj (j_aload_n hJ dX12_each_13 rfl 0 rfl) ?_
    refine sj (j_iconst hJ (v := 1) dX12_each_14 ic_1) ?_
    refine sj_callVi hJ [.int (1 : Int32)] (st := []) (fr' := 0) (lo' := 0) ml_X12_137 hc_12 (by decide) (by decide) (Nat.le_of_ble_eq_true rfl) dX12_each_15 rfl (fun _ h9 => ct_X12_stop h9) (fun v3 => ?_)
    exact sj_iret hI dX12_each_18 (fun h => h)
  · refine sj (j_aload_n hJ dX12_each_19 rfl 0 rfl) ?_
    refine sj (j_aload_n hJ dX12_each_20 rfl 0 rfl) ?_
    refine sj (j_bipush hJ (v := 8) dX12_each_21 ib_8) ?_
    refine sj (j_iload_n hJ dX12_each_23 rfl 1 rfl) ?_
    refine sj (j_iconst hJ (v := 0) dX12_each_24 ic_0) ?_
    refine sj (j_iconst hJ (v := 0) dX12_each_25 ic_0) ?_
    refine sj (j_iconst hJ (v := 0) dX12_each_26 ic_0) ?_
    refine sj_callVi hJ [.int (8 : Int32), .int p1, .int (0 : Int32), .int (0 : Int32), .int (0 : Int32)] (st := [.ref p0]) (fr' := 0) (lo' := 0) ml_X12_217 hc_12 (by decide) (by decide) (Nat.le_of_ble_eq_true rfl) dX12_each_27 rfl (fun _ h9 => ct_X12_makeNode h9) (fun v4 => ?_)
    refine sj (j_iconst hJ (v := 2) dX12_each_30 ic_2) ?_
    refine sj_callVi hJ [.int v4.1, .int (2 : Int32)] (st := []) (fr' := 1) (lo' := 21) ml_X12_221 hc_12 (by decide) (by decide) (Nat.le_of_ble_eq_true rfl) dX12_each_31 rfl (fun _ h9 => ct_X12_toldNode h9) (fun v5 => ?_)
    exact sj_iret hI dX12_each_34 (fun h => h)
theorem ct_X12_each {σ : St} {p0 : Nat} {p1 : Int32} {δ : Dy} {r : (Int32 × Dy)} (h : m_X12_each σ p0 p1 δ = some r) : CT yX12_each cX12_each 2 (some .int) 2 43 0 0 [.ref p0, .int p1] σ δ ((some (.int r.1)), σ, r.2) := CT_of (by decide +kernel) (Nat.le_of_ble_eq_true rfl) (fun J hI => w_X12_each hI σ p0 p1 δ r h rfl)
def m_X12_unless_b49 (σ : St) (p2 : Int32) (p3 : Int32) (p4 : Int32) (p5 : Int32) (q0 : Nat) (q1 : Nat) (q2 : Int32) (δ : Dy) : Option (Int32 × Dy) :=
  (chk σ 12 q1).bind fun _ => (m_X12_makeNode σ q1 q2 p2 p3 p4 p5 δ).bind fun v6 =>
  (chk σ 12 q0).bind fun _ => (m_X12_toldNode σ q0 v6.1 (3 : Int32) v6.2).bind fun v7 =>
  some (v7.1, v7.2)
def m_X12_unless (σ : St) (p0 : Nat) (p1 : Int32) (p2 : Int32) (p3 : Int32) (p4 : Int32) (p5 : Int32) (δ : Dy) : Option (Int32 × Dy) :=
  (pI σ δ 12 p0 50 (0 : Int32)).bind fun d1 =>
  (chk σ 12 p0).bind fun _ => (m_X12_isNode σ p0 p5 d1).bind fun v2 =>
  if v2 = 0 then
    (chk σ 12 p0).bind fun _ => (m_X12_stop σ p0 (1 : Int32) d1).bind fun v3 =>
    some (v3.1, v3.2)
  else
    (m_X12_areTold σ p2 p3 p4 d1).bind fun v4 =>
    if v4 = 0 then
      (chk σ 12 p0).bind fun _ => (m_X12_stop σ p0 (2 : Int32) d1).bind fun v5 =>
      some (v5.1, v5.2)
    else
      if p1 = 0 then
        m_X12_unless_b49 σ p2 p3 p4 p5 p0 p0 (9 : Int32) d1
      else
        m_X12_unless_b49 σ p2 p3 p4 p5 p0 p0 (10 : Int32) d1
set_option maxHeartbeats 4000000 in
set_option maxRecDepth 100000 in
theorem w_X12_unless_b49 {J : JT} {an : Option Value × St × Dy} (hI : Isj cX12_unless 6 RX12 "unless" 4 84 (some .int) an J) {β : Bu} (σ : St) (p2 : Int32) (p3 : Int32) (p4 : Int32) (p5 : Int32) (q0 : Nat) (q1 : Nat) (q2 : Int32) (δ : Dy) : SJ (m_X12_unless_b49 σ p2 p3 p4 p5 q0 q1 q2 δ) (PI σ an) (J 49 [(2, .int p2), (3, .int p3), (4, .int p4), (5, .int p5)] [.int q2, .ref q1, .ref q0] β σ δ) := by
  have hJ := hI.cor
  unfold m_X12_unless_b49
  refine sj (j_iload_n hJ dX12_unless_49 rfl 0 rfl) ?_
  refine sj (j_iload_n hJ dX12_unless_50 rfl 1 rfl) ?_
  refine sj (j_iload hJ dX12_unless_51 2 rfl) ?_
  refine sj (j_iload hJ dX12_unless_53 3 rfl) ?_
  refine sj_callVi hJ [.int q2, .int p2, .int p3, .int p4, .int p5] (st := [.ref q0]) (fr' := 0) (lo' := 0) ml_X12_217 hc_12 (by decide) (by decide) (Nat.le_of_ble_eq_true rfl) dX12_unless_55 rfl (fun _ h9 => ct_X12_makeNode h9) (fun v6 => ?_)
  refine sj (j_iconst hJ (v := 3) dX12_unless_58 ic_3) ?_
  refine sj_callVi hJ [.int v6.1, .int (3 : Int32)] (st := []) (fr' := 1) (lo' := 21) ml_X12_221 hc_12 (by decide) (by decide) (Nat.le_of_ble_eq_true rfl) dX12_unless_59 rfl (fun _ h9 => ct_X12_toldNode h9) (fun v7 => ?_)
  exact sj_iret hI dX12_unless_62 (fun h => h)
set_option maxHeartbeats 4000000 in
set_option maxRecDepth 100000 in
theorem w_X12_unless {J : JT} {an : Option Value × St × Dy} (hI : Isj cX12_unless 6 RX12 "unless" 4 84 (some .int) an J) {β : Bu} (σ : St) (p0 : Nat) (p1 : Int32) (p2 : Int32) (p3 : Int32) (p4 : Int32) (p5 : Int32) (δ : Dy) : SJ (m_X12_unless σ p0 p1 p2 p3 p4 p5 δ) (PI σ an) (J 0 [(0, .ref p0), (1, .int p1), (2, .int p2), (3, .int p3), (4, .int p4), (5, .int p5)] [] β σ δ) := by
  have hJ := hI.cor
  unfold m_X12_unless
  refine sj (j_aload_n hJ dX12_unless_0 rfl 0 rfl) ?_
  refine sj (j_iconst hJ (v := 0) dX12_unless_1 ic_0) ?_
  refine sj_pI hJ fl_X12_118 rfl dX12_unless_2 (fun d1 => ?_)
  refine sj (j_aload_n hJ dX12_unless_5 rfl 0 rfl) ?_
  refine sj (j_iload hJ dX12_unless_6 5 rfl) ?_
  refine sj_callVip hJ [.int p5] (st := []) (fr' := 1) (lo' := 22) ml_X12_225 hc_12 (by decide) (by decide) (Nat.le_of_ble_eq_true rfl) dX12_unless_8 rfl (fun _ h9 => ct_X12_isNode h9) (fun v2 => ?_)
  refine sj_if (j_if_ne hJ (tgt := 20) dX12_unless_11 (by decide)) (fun _ => ?_) (fun _ => ?_)
  · refine sj (j_aload_n hJ dX12_unless_14 rfl 0 rfl) ?_
    refine sj (j_iconst hJ (v := 1) dX12_unless_15 ic_1) ?_
    refine sj_callVi hJ [.int (1 : Int32)] (st := []) (fr' := 0) (lo' := 0) ml_X12_137 hc_12 (by decide) (by decide) (Nat.le_of_ble_eq_true rfl) dX12_unless_16 rfl (fun _ h9 => ct_X12_stop h9) (fun v3 => ?_)
    exact sj_iret hI dX12_unless_19 (fun h => h)
  · refine sj (j_iload_n hJ dX12_unless_20 rfl 2 rfl) ?_
    refine sj (j_iload_n hJ dX12_unless_21 rfl 3 rfl) ?_
    refine sj (j_iload hJ dX12_unless_22 4 rfl) ?_
    refine sj_callSip hJ [.int p2, .int p3, .int p4] (st := []) (fr' := 3) (lo' := 62) ml_X12_231 (by decide) (by decide) (Nat.le_of_ble_eq_true rfl) dX12_unless_24 rfl (fun _ h9 => ct_X12_areTold h9) (fun v4 => ?_)
    refine sj_if (j_if_ne hJ (tgt := 36) dX12_unless_27 (by decide)) (fun _ => ?_) (fun _ => ?_)
    · refine sj (j_aload_n hJ dX12_unless_30 rfl 0 rfl) ?_
      refine sj (j_iconst hJ (v := 2) dX12_unless_31 ic_2) ?_
      refine sj_callVi hJ [.int (2 : Int32)] (st := []) (fr' := 0) (lo' := 0) ml_X12_137 hc_12 (by decide) (by decide) (Nat.le_of_ble_eq_true rfl) dX12_unless_32 rfl (fun _ h9 => ct_X12_stop h9) (fun v5 => ?_)
      exact sj_iret hI dX12_unless_35 (fun h => h)
    · refine sj (j_aload_n hJ dX12_unless_36 rfl 0 rfl) ?_
      refine sj (j_aload_n hJ dX12_unless_37 rfl 0 rfl) ?_
      refine sj (j_iload_n hJ dX12_unless_38 rfl 1 rfl) ?_
      refine sj_if (j_if_eq hJ (tgt := 47) dX12_unless_39 (by decide)) (fun _ => ?_) (fun _ => ?_)
      · refine sj (j_bipush hJ (v := 9) dX12_unless_47 ib_9) ?_
        refine sj (j_sub hJ (L' := [(2, .int p2), (3, .int p3), (4, .int p4), (5, .int p5)]) [2, 3, 4, 5] rfl) ?_
        exact w_X12_unless_b49 hI σ p2 p3 p4 p5 p0 p0 (9 : Int32) d1
      · refine sj (j_bipush hJ (v := 10) dX12_unless_42 ib_10) ?_
        refine sj (j_goto hJ (tgt := 49) dX12_unless_44 (by decide)) ?_
        refine sj (j_sub hJ (L' := [(2, .int p2), (3, .int p3), (4, .int p4), (5, .int p5)]) [2, 3, 4, 5] rfl) ?_
        exact w_X12_unless_b49 hI σ p2 p3 p4 p5 p0 p0 (10 : Int32) d1
theorem ct_X12_unless {σ : St} {p0 : Nat} {p1 : Int32} {p2 : Int32} {p3 : Int32} {p4 : Int32} {p5 : Int32} {δ : Dy} {r : (Int32 × Dy)} (h : m_X12_unless σ p0 p1 p2 p3 p4 p5 δ = some r) : CT yX12_unless cX12_unless 6 (some .int) 4 84 0 0 [.ref p0, .int p1, .int p2, .int p3, .int p4, .int p5] σ δ ((some (.int r.1)), σ, r.2) := CT_of (by decide +kernel) (Nat.le_of_ble_eq_true rfl) (fun J hI => w_X12_unless hI σ p0 p1 p2 p3 p4 p5 δ r h rfl)
def m_X12_lot_b22 (σ : St) (p0 : Nat) (δ : Dy) : Option (Int32 × Dy) :=
  (chk σ 12 p0).bind fun _ => (m_X12_stop σ p0 (1 : Int32) δ).bind fun v3 =>
  some (v3.1, v3.2)
def m_X12_lot_b48 (σ : St) (p0 : Nat) (δ : Dy) : Option (Int32 × Dy) :=
  (chk σ 12 p0).bind fun _ => (m_X12_stop σ p0 (2 : Int32) δ).bind fun v6 =>
  some (v6.1, v6.2)
def m_X12_lot (σ : St) (p0 : Nat) (p1 : Int32) (p2 : Int32) (p3 : Int32) (p4 : Int32) (δ : Dy) : Option (Int32 × Dy) :=
  (pI σ δ 12 p0 50 (0 : Int32)).bind fun d1 =>
  (chk σ 12 p0).bind fun _ => (m_X12_isNode σ p0 p2 d1).bind fun v2 =>
  if v2 = 0 then
    m_X12_lot_b22 σ p0 d1
  else
    (chk σ 12 p0).bind fun _ => (m_X12_isNode σ p0 p4 d1).bind fun v4 =>
    if v4 = 0 then
      m_X12_lot_b22 σ p0 d1
    else
      (m_X12_in σ p1 (1 : Int32) (9 : Int32) d1).bind fun v5 =>
      if v5 = 0 then
        m_X12_lot_b48 σ p0 d1
      else
        (m_X12_in σ p3 (1 : Int32) (9 : Int32) d1).bind fun v7 =>
        if v7 = 0 then
          m_X12_lot_b48 σ p0 d1
        else
          (chk σ 12 p0).bind fun _ => (m_X12_makeNode σ p0 (11 : Int32) p1 p2 p3 p4 d1).bind fun v8 =>
          (chk σ 12 p0).bind fun _ => (m_X12_toldNode σ p0 v8.1 (3 : Int32) v8.2).bind fun v9 =>
          some (v9.1, v9.2)
set_option maxHeartbeats 4000000 in
set_option maxRecDepth 100000 in
theorem w_X12_lot_b22 {J : JT} {an : Option Value × St × Dy} (hI : Isj cX12_lot 5 RX12 "lot" 2 43 (some .int) an J) {β : Bu} (σ : St) (p0 : Nat) (δ : Dy) : SJ (m_X12_lot_b22 σ p0 δ) (PI σ an) (J 22 [(0, .ref p0)] [] β σ δ) := by
  have hJ := hI.cor
  unfold m_X12_lot_b22
  refine sj (j_aload_n hJ dX12_lot_22 rfl 0 rfl) ?_
  refine sj (j_iconst hJ (v := 1) dX12_lot_23 ic_1) ?_
  refine sj_callVi hJ [.int (1 : Int32)] (st := []) (fr' := 0) (lo' := 0) ml_X12_137 hc_12 (by decide) (by decide) (Nat.le_of_ble_eq_true rfl) dX12_lot_24 rfl (fun _ h9 => ct_X12_stop h9) (fun v3 => ?_)
  exact sj_iret hI dX12_lot_27 (fun h => h)
set_option maxHeartbeats 4000000 in
set_option maxRecDepth 100000 in
theorem w_X12_lot_b48 {J : JT} {an : Option Value × St × Dy} (hI : Isj cX12_lot 5 RX12 "lot" 2 43 (some .int) an J) {β : Bu} (σ : St) (p0 : Nat) (δ : Dy) : SJ (m_X12_lot_b48 σ p0 δ) (PI σ an) (J 48 [(0, .ref p0)] [] β σ δ) := by
  have hJ := hI.cor
  unfold m_X12_lot_b48
  refine sj (j_aload_n hJ dX12_lot_48 rfl 0 rfl) ?_
  refine sj (j_iconst hJ (v := 2) dX12_lot_49 ic_2) ?_
  refine sj_callVi hJ [.int (2 : Int32)] (st := []) (fr' := 0) (lo' := 0) ml_X12_137 hc_12 (by decide) (by decide) (Nat.le_of_ble_eq_true rfl) dX12_lot_50 rfl (fun _ h9 => ct_X12_stop h9) (fun v6 => ?_)
  exact sj_iret hI dX12_lot_53 (fun h => h)
set_option maxHeartbeats 4000000 in
set_option maxRecDepth 100000 in
theorem w_X12_lot {J : JT} {an : Option Value × St × Dy} (hI : Isj cX12_lot 5 RX12 "lot" 2 43 (some .int) an J) {β : Bu} (σ : St) (p0 : Nat) (p1 : Int32) (p2 : Int32) (p3 : Int32) (p4 : Int32) (δ : Dy) : SJ (m_X12_lot σ p0 p1 p2 p3 p4 δ) (PI σ an) (J 0 [(0, .ref p0), (1, .int p1), (2, .int p2), (3, .int p3), (4, .int p4)] [] β σ δ) := by
  have hJ := hI.cor
  unfold m_X12_lot
  refine sj (j_aload_n hJ dX12_lot_0 rfl 0 rfl) ?_
  refine sj (j_iconst hJ (v := 0) dX12_lot_1 ic_0) ?_
  refine sj_pI hJ fl_X12_118 rfl dX12_lot_2 (fun d1 => ?_)
  refine sj (j_aload_n hJ dX12_lot_5 rfl 0 rfl) ?_
  refine sj (j_iload_n hJ dX12_lot_6 rfl 2 rfl) ?_
  refine sj_callVip hJ [.int p2] (st := []) (fr' := 1) (lo' := 22) ml_X12_225 hc_12 (by decide) (by decide) (Nat.le_of_ble_eq_true rfl) dX12_lot_7 rfl (fun _ h9 => ct_X12_isNode h9) (fun v2 => ?_)
  refine sj_if (j_if_eq hJ (tgt := 22) dX12_lot_10 (by decide)) (fun _ => ?_) (fun _ => ?_)
  · refine sj (j_sub hJ (L' := [(0, .ref p0)]) [0] rfl) ?_
    exact w_X12_lot_b22 hI σ p0 d1
  · refine sj (j_aload_n hJ dX12_lot_13 rfl 0 rfl) ?_
    refine sj (j_iload hJ dX12_lot_14 4 rfl) ?_
    refine sj_callVip hJ [.int p4] (st := []) (fr' := 1) (lo' := 22) ml_X12_225 hc_12 (by decide) (by decide) (Nat.le_of_ble_eq_true rfl) dX12_lot_16 rfl (fun _ h9 => ct_X12_isNode h9) (fun v4 => ?_)
    refine sj_if (j_if_ne hJ (tgt := 28) dX12_lot_19 (by decide)) (fun _ => ?_) (fun _ => ?_)
    · refine sj (j_sub hJ (L' := [(0, .ref p0)]) [0] rfl) ?_
      exact w_X12_lot_b22 hI σ p0 d1
    · refine sj (j_iload_n hJ dX12_lot_28 rfl 1 rfl) ?_
      refine sj (j_iconst hJ (v := 1) dX12_lot_29 ic_1) ?_
      refine sj (j_bipush hJ (v := 9) dX12_lot_30 ib_9) ?_
      refine sj_callSip hJ [.int p1, .int (1 : Int32), .int (9 : Int32)] (st := []) (fr' := 0) (lo' := 0) ml_X12_122 (by decide) (by decide) (Nat.le_of_ble_eq_true rfl) dX12_lot_32 rfl (fun _ h9 => ct_X12_in h9) (fun v5 => ?_)
      refine sj_if (j_if_eq hJ (tgt := 48) dX12_lot_35 (by decide)) (fun _ => ?_) (fun _ => ?_)
      · refine sj (j_sub hJ (L' := [(0, .ref p0)]) [0] rfl) ?_
        exact w_X12_lot_b48 hI σ p0 d1
      · refine sj (j_iload_n hJ dX12_lot_38 rfl 3 rfl) ?_
        refine sj (j_iconst hJ (v := 1) dX12_lot_39 ic_1) ?_
        refine sj (j_bipush hJ (v := 9) dX12_lot_40 ib_9) ?_
        refine sj_callSip hJ [.int p3, .int (1 : Int32), .int (9 : Int32)] (st := []) (fr' := 0) (lo' := 0) ml_X12_122 (by decide) (by decide) (Nat.le_of_ble_eq_true rfl) dX12_lot_42 rfl (fun _ h9 => ct_X12_in h9) (fun v7 => ?_)
        refine sj_if (j_if_ne hJ (tgt := 54) dX12_lot_45 (by decide)) (fun _ => ?_) (fun _ => ?_)
        · refine sj (j_sub hJ (L' := [(0, .ref p0)]) [0] rfl) ?_
          exact w_X12_lot_b48 hI σ p0 d1
        · refine sj (j_aload_n hJ dX12_lot_54 rfl 0 rfl) ?_
          refine sj (j_aload_n hJ dX12_lot_55 rfl 0 rfl) ?_
          refine sj (j_bipush hJ (v := 11) dX12_lot_56 ib_11) ?_
          refine sj (j_iload_n hJ dX12_lot_58 rfl 1 rfl) ?_
          refine sj (j_iload_n hJ dX12_lot_59 rfl 2 rfl) ?_
          refine sj (j_iload_n hJ dX12_lot_60 rfl 3 rfl) ?_
          refine sj (j_iload hJ dX12_lot_61 4 rfl) ?_
          refine sj_callVi hJ [.int (11 : Int32), .int p1, .int p2, .int p3, .int p4] (st := [.ref p0]) (fr' := 0) (lo' := 0) ml_X12_217 hc_12 (by decide) (by decide) (Nat.le_of_ble_eq_true rfl) dX12_lot_63 rfl (fun _ h9 => ct_X12_makeNode h9) (fun v8 => ?_)
          refine sj (j_iconst hJ (v := 3) dX12_lot_66 ic_3) ?_
          refine sj_callVi hJ [.int v8.1, .int (3 : Int32)] (st := []) (fr' := 1) (lo' := 21) ml_X12_221 hc_12 (by decide) (by decide) (Nat.le_of_ble_eq_true rfl) dX12_lot_67 rfl (fun _ h9 => ct_X12_toldNode h9) (fun v9 => ?_)
          exact sj_iret hI dX12_lot_70 (fun h => h)
theorem ct_X12_lot {σ : St} {p0 : Nat} {p1 : Int32} {p2 : Int32} {p3 : Int32} {p4 : Int32} {δ : Dy} {r : (Int32 × Dy)} (h : m_X12_lot σ p0 p1 p2 p3 p4 δ = some r) : CT yX12_lot cX12_lot 5 (some .int) 2 43 0 0 [.ref p0, .int p1, .int p2, .int p3, .int p4] σ δ ((some (.int r.1)), σ, r.2) := CT_of (by decide +kernel) (Nat.le_of_ble_eq_true rfl) (fun J hI => w_X12_lot hI σ p0 p1 p2 p3 p4 δ r h rfl)
def m_X12_attempt_b21 (σ : St) (p0 : Nat) (δ : Dy) : Option (Int32 × Dy) :=
  (chk σ 12 p0).bind fun _ => (m_X12_stop σ p0 (1 : Int32) δ).bind fun v3 =>
  some (v3.1, v3.2)
def m_X12_attempt (σ : St) (p0 : Nat) (p1 : Int32) (p2 : Int32) (δ : Dy) : Option (Int32 × Dy) :=
  (pI σ δ 12 p0 50 (0 : Int32)).bind fun d1 =>
  (chk σ 12 p0).bind fun _ => (m_X12_isNode σ p0 p1 d1).bind fun v2 =>
  if v2 = 0 then
    m_X12_attempt_b21 σ p0 d1
  else
    (chk σ 12 p0).bind fun _ => (m_X12_isNode σ p0 p2 d1).bind fun v4 =>
    if v4 = 0 then
      m_X12_attempt_b21 σ p0 d1
    else
      (chk σ 12 p0).bind fun _ => (m_X12_makeNode σ p0 (12 : Int32) p1 p2 (0 : Int32) (0 : Int32) d1).bind fun v5 =>
      (chk σ 12 p0).bind fun _ => (m_X12_toldNode σ p0 v5.1 (2 : Int32) v5.2).bind fun v6 =>
      some (v6.1, v6.2)
set_option maxHeartbeats 4000000 in
set_option maxRecDepth 100000 in
theorem w_X12_attempt_b21 {J : JT} {an : Option Value × St × Dy} (hI : Isj cX12_attempt 3 RX12 "attempt" 2 43 (some .int) an J) {β : Bu} (σ : St) (p0 : Nat) (δ : Dy) : SJ (m_X12_attempt_b21 σ p0 δ) (PI σ an) (J 21 [(0, .ref p0)] [] β σ δ) := by
  have hJ := hI.cor
  unfold m_X12_attempt_b21
  refine sj (j_aload_n hJ dX12_attempt_21 rfl 0 rfl) ?_
  refine sj (j_iconst hJ (v := 1) dX12_attempt_22 ic_1) ?_
  refine sj_callVi hJ [.int (1 : Int32)] (st := []) (fr' := 0) (lo' := 0) ml_X12_137 hc_12 (by decide) (by decide) (Nat.le_of_ble_eq_true rfl) dX12_attempt_23 rfl (fun _ h9 => ct_X12_stop h9) (fun v3 => ?_)
  exact sj_iret hI dX12_attempt_26 (fun h => h)
set_option maxHeartbeats 4000000 in
set_option maxRecDepth 100000 in
theorem w_X12_attempt {J : JT} {an : Option Value × St × Dy} (hI : Isj cX12_attempt 3 RX12 "attempt" 2 43 (some .int) an J) {β : Bu} (σ : St) (p0 : Nat) (p1 : Int32) (p2 : Int32) (δ : Dy) : SJ (m_X12_attempt σ p0 p1 p2 δ) (PI σ an) (J 0 [(0, .ref p0), (1, .int p1), (2, .int p2)] [] β σ δ) := by
  have hJ := hI.cor
  unfold m_X12_attempt
  refine sj (j_aload_n hJ dX12_attempt_0 rfl 0 rfl) ?_
  refine sj (j_iconst hJ (v := 0) dX12_attempt_1 ic_0) ?_
  refine sj_pI hJ fl_X12_118 rfl dX12_attempt_2 (fun d1 => ?_)
  refine sj (j_aload_n hJ dX12_attempt_5 rfl 0 rfl) ?_
  refine sj (j_iload_n hJ dX12_attempt_6 rfl 1 rfl) ?_
  refine sj_callVip hJ [.int p1] (st := []) (fr' := 1) (lo' := 22) ml_X12_225 hc_12 (by decide) (by decide) (Nat.le_of_ble_eq_true rfl) dX12_attempt_7 rfl (fun _ h9 => ct_X12_isNode h9) (fun v2 => ?_)
  refine sj_if (j_if_eq hJ (tgt := 21) dX12_attempt_10 (by decide)) (fun _ => ?_) (fun _ => ?_)
  · refine sj (j_sub hJ (L' := [(0, .ref p0)]) [0] rfl) ?_
    exact w_X12_attempt_b21 hI σ p0 d1
  · refine sj (j_aload_n hJ dX12_attempt_13 rfl 0 rfl) ?_
    refine sj (j_iload_n hJ dX12_attempt_14 rfl 2 rfl) ?_
    refine sj_callVip hJ [.int p2] (st := []) (fr' := 1) (lo' := 22) ml_X12_225 hc_12 (by decide) (by decide) (Nat.le_of_ble_eq_true rfl) dX12_attempt_15 rfl (fun _ h9 => ct_X12_isNode h9) (fun v4 => ?_)
    refine sj_if (j_if_ne hJ (tgt := 27) dX12_attempt_18 (by decide)) (fun _ => ?_) (fun _ => ?_)
    · refine sj (j_sub hJ (L' := [(0, .ref p0)]) [0] rfl) ?_
      exact w_X12_attempt_b21 hI σ p0 d1
    · refine sj (j_aload_n hJ dX12_attempt_27 rfl 0 rfl) ?_
      refine sj (j_aload_n hJ dX12_attempt_28 rfl 0 rfl) ?_
      refine sj (j_bipush hJ (v := 12) dX12_attempt_29 ib_12) ?_
      refine sj (j_iload_n hJ dX12_attempt_31 rfl 1 rfl) ?_
      refine sj (j_iload_n hJ dX12_attempt_32 rfl 2 rfl) ?_
      refine sj (j_iconst hJ (v := 0) dX12_attempt_33 ic_0) ?_
      refine sj (j_iconst hJ (v := 0) dX12_attempt_34 ic_0) ?_
      refine sj_callVi hJ [.int (12 : Int32), .int p1, .int p2, .int (0 : Int32), .int (0 : Int32)] (st := [.ref p0]) (fr' := 0) (lo' := 0) ml_X12_217 hc_12 (by decide) (by decide) (Nat.le_of_ble_eq_true rfl) dX12_attempt_35 rfl (fun _ h9 => ct_X12_makeNode h9) (fun v5 => ?_)
      refine sj (j_iconst hJ (v := 2) dX12_attempt_38 ic_2) ?_
      refine sj_callVi hJ [.int v5.1, .int (2 : Int32)] (st := []) (fr' := 1) (lo' := 21) ml_X12_221 hc_12 (by decide) (by decide) (Nat.le_of_ble_eq_true rfl) dX12_attempt_39 rfl (fun _ h9 => ct_X12_toldNode h9) (fun v6 => ?_)
      exact sj_iret hI dX12_attempt_42 (fun h => h)
theorem ct_X12_attempt {σ : St} {p0 : Nat} {p1 : Int32} {p2 : Int32} {δ : Dy} {r : (Int32 × Dy)} (h : m_X12_attempt σ p0 p1 p2 δ = some r) : CT yX12_attempt cX12_attempt 3 (some .int) 2 43 0 0 [.ref p0, .int p1, .int p2] σ δ ((some (.int r.1)), σ, r.2) := CT_of (by decide +kernel) (Nat.le_of_ble_eq_true rfl) (fun J hI => w_X12_attempt hI σ p0 p1 p2 δ r h rfl)
def m_X12_define_b22 (σ : St) (p0 : Nat) (δ : Dy) : Option (Int32 × Dy) :=
  (chk σ 12 p0).bind fun _ => (m_X12_stop σ p0 (1 : Int32) δ).bind fun v3 =>
  some (v3.1, v3.2)
def m_X12_define (σ : St) (p0 : Nat) (p1 : Int32) (p2 : Int32) (δ : Dy) : Option (Int32 × Dy) :=
  (pI σ δ 12 p0 50 (0 : Int32)).bind fun d1 =>
  (m_X12_in σ p1 (0 : Int32) (5 : Int32) d1).bind fun v2 =>
  if v2 = 0 then
    m_X12_define_b22 σ p0 d1
  else
    (chk σ 12 p0).bind fun _ => (m_X12_isNode σ p0 p2 d1).bind fun v4 =>
    if v4 = 0 then
      m_X12_define_b22 σ p0 d1
    else
      (gR σ 12 p0 8).bind fun v5 =>
      (rI σ d1 v5 p1).bind fun v6 =>
      (gR σ 12 p0 8).bind fun v7 =>
      (wI σ d1 v7 p1 p2).bind fun d8 =>
      some (v6, d8)
set_option maxHeartbeats 4000000 in
set_option maxRecDepth 100000 in
theorem w_X12_define_b22 {J : JT} {an : Option Value × St × Dy} (hI : Isj cX12_define 4 RX12 "define" 2 43 (some .int) an J) {β : Bu} (σ : St) (p0 : Nat) (δ : Dy) : SJ (m_X12_define_b22 σ p0 δ) (PI σ an) (J 22 [(0, .ref p0)] [] β σ δ) := by
  have hJ := hI.cor
  unfold m_X12_define_b22
  refine sj (j_aload_n hJ dX12_define_22 rfl 0 rfl) ?_
  refine sj (j_iconst hJ (v := 1) dX12_define_23 ic_1) ?_
  refine sj_callVi hJ [.int (1 : Int32)] (st := []) (fr' := 0) (lo' := 0) ml_X12_137 hc_12 (by decide) (by decide) (Nat.le_of_ble_eq_true rfl) dX12_define_24 rfl (fun _ h9 => ct_X12_stop h9) (fun v3 => ?_)
  exact sj_iret hI dX12_define_27 (fun h => h)
set_option maxHeartbeats 4000000 in
set_option maxRecDepth 100000 in
theorem w_X12_define {J : JT} {an : Option Value × St × Dy} (hI : Isj cX12_define 4 RX12 "define" 2 43 (some .int) an J) {β : Bu} (σ : St) (p0 : Nat) (p1 : Int32) (p2 : Int32) (δ : Dy) : SJ (m_X12_define σ p0 p1 p2 δ) (PI σ an) (J 0 [(0, .ref p0), (1, .int p1), (2, .int p2)] [] β σ δ) := by
  have hJ := hI.cor
  unfold m_X12_define
  refine sj (j_aload_n hJ dX12_define_0 rfl 0 rfl) ?_
  refine sj (j_iconst hJ (v := 0) dX12_define_1 ic_0) ?_
  refine sj_pI hJ fl_X12_118 rfl dX12_define_2 (fun d1 => ?_)
  refine sj (j_iload_n hJ dX12_define_5 rfl 1 rfl) ?_
  refine sj (j_iconst hJ (v := 0) dX12_define_6 ic_0) ?_
  refine sj (j_iconst hJ (v := 5) dX12_define_7 ic_5) ?_
  refine sj_callSip hJ [.int p1, .int (0 : Int32), .int (5 : Int32)] (st := []) (fr' := 0) (lo' := 0) ml_X12_122 (by decide) (by decide) (Nat.le_of_ble_eq_true rfl) dX12_define_8 rfl (fun _ h9 => ct_X12_in h9) (fun v2 => ?_)
  refine sj_if (j_if_eq hJ (tgt := 22) dX12_define_11 (by decide)) (fun _ => ?_) (fun _ => ?_)
  · refine sj (j_sub hJ (L' := [(0, .ref p0)]) [0] rfl) ?_
    exact w_X12_define_b22 hI σ p0 d1
  · refine sj (j_aload_n hJ dX12_define_14 rfl 0 rfl) ?_
    refine sj (j_iload_n hJ dX12_define_15 rfl 2 rfl) ?_
    refine sj_callVip hJ [.int p2] (st := []) (fr' := 1) (lo' := 22) ml_X12_225 hc_12 (by decide) (by decide) (Nat.le_of_ble_eq_true rfl) dX12_define_16 rfl (fun _ h9 => ct_X12_isNode h9) (fun v4 => ?_)
    refine sj_if (j_if_ne hJ (tgt := 28) dX12_define_19 (by decide)) (fun _ => ?_) (fun _ => ?_)
    · refine sj (j_sub hJ (L' := [(0, .ref p0)]) [0] rfl) ?_
      exact w_X12_define_b22 hI σ p0 d1
    · refine sj (j_aload_n hJ dX12_define_28 rfl 0 rfl) ?_
      refine sj_gR hJ fl_X12_31 rfl dX12_define_29 (fun v5 => ?_)
      refine sj (j_iload_n hJ dX12_define_32 rfl 1 rfl) ?_
      refine sj_rI hJ dX12_define_33 (fun v6 => ?_)
      refine sj (j_istore_n hJ (L' := [(3, .int v6), (0, .ref p0), (1, .int p1), (2, .int p2)]) dX12_define_34 rfl (by decide) rfl) ?_
      refine sj (j_aload_n hJ dX12_define_35 rfl 1 rfl) ?_
      refine sj_gR hJ fl_X12_31 rfl dX12_define_36 (fun v7 => ?_)
      refine sj (j_iload_n hJ dX12_define_39 rfl 2 rfl) ?_
      refine sj (j_iload_n hJ dX12_define_40 rfl 3 rfl) ?_
      refine sj_wI hJ dX12_define_41 (fun d8 => ?_)
      refine sj (j_iload_n hJ dX12_define_42 rfl 0 rfl) ?_
      exact sj_iret hI dX12_define_43 (fun h => h)
theorem ct_X12_define {σ : St} {p0 : Nat} {p1 : Int32} {p2 : Int32} {δ : Dy} {r : (Int32 × Dy)} (h : m_X12_define σ p0 p1 p2 δ = some r) : CT yX12_define cX12_define 4 (some .int) 2 43 0 0 [.ref p0, .int p1, .int p2] σ δ ((some (.int r.1)), σ, r.2) := CT_of (by decide +kernel) (Nat.le_of_ble_eq_true rfl) (fun J hI => w_X12_define hI σ p0 p1 p2 δ r h rfl)
def m_X12_isPattern (σ : St) (p0 : Int32) (δ : Dy) : Option Int32 :=
  (m_X12_isTerm σ p0 δ).bind fun v1 =>
  if v1 = 0 then
    if p0 = (300 : Int32) then
      some (1 : Int32)
    else
      some (0 : Int32)
  else
    some (1 : Int32)
set_option maxHeartbeats 4000000 in
set_option maxRecDepth 100000 in
theorem w_X12_isPattern {J : JT} {an : Option Value × St × Dy} (hI : Isj cX12_isPattern 1 RX12 "isPattern" 3 62 (some .boolean) an J) {β : Bu} (σ : St) (p0 : Int32) (δ : Dy) : SJ (m_X12_isPattern σ p0 δ) (PIp σ δ an) (J 0 [(0, .int p0)] [] β σ δ) := by
  have hJ := hI.cor
  unfold m_X12_isPattern
  refine sj (j_iload_n hJ dX12_isPattern_0 rfl 0 rfl) ?_
  refine sj_callSip hJ [.int p0] (st := []) (fr' := 2) (lo' := 42) ml_X12_214 (by decide) (by decide) (Nat.le_of_ble_eq_true rfl) dX12_isPattern_1 rfl (fun _ h9 => ct_X12_isTerm h9) (fun v1 => ?_)
  refine sj_if (j_if_ne hJ (tgt := 14) dX12_isPattern_4 (by decide)) (fun _ => ?_) (fun _ => ?_)
  · refine sj (j_iload_n hJ dX12_isPattern_7 rfl 0 rfl) ?_
    refine sj (j_sipush hJ (v := 300) dX12_isPattern_8 is_300) ?_
    refine sj_if (j_icmp_ne hJ (tgt := 18) dX12_isPattern_11 (by decide)) (fun _ => ?_) (fun _ => ?_)
    · refine sj (j_iconst hJ (v := 1) dX12_isPattern_14 ic_1) ?_
      refine sj (j_goto hJ (tgt := 19) dX12_isPattern_15 (by decide)) ?_
      exact sj_zret hI (by decide) dX12_isPattern_19 (fun h => h)
    · refine sj (j_iconst hJ (v := 0) dX12_isPattern_18 ic_0) ?_
      exact sj_zret hI (by decide) dX12_isPattern_19 (fun h => h)
  · refine sj (j_iconst hJ (v := 1) dX12_isPattern_14 ic_1) ?_
    refine sj (j_goto hJ (tgt := 19) dX12_isPattern_15 (by decide)) ?_
    exact sj_zret hI (by decide) dX12_isPattern_19 (fun h => h)
theorem ct_X12_isPattern {σ : St} {p0 : Int32} {δ : Dy} {r : Int32} (h : m_X12_isPattern σ p0 δ = some r) : CT yX12_isPattern cX12_isPattern 1 (some .boolean) 3 62 0 0 [.int p0] σ δ ((some (.int r)), σ, δ) := CT_of (by decide +kernel) (Nat.le_of_ble_eq_true rfl) (fun J hI => w_X12_isPattern hI σ p0 δ r h rfl)
def m_X12_putHead_b62 (σ : St) (p0 : Nat) (q0 : Nat) (q1 : Int32) (q2 : Int32) (δ : Dy) : Option Dy :=
  (wI σ δ q0 q1 q2).bind fun d12 =>
  (gI σ d12 12 p0 18).bind fun v13 =>
  (pI σ d12 12 p0 18 (v13 + (1 : Int32))).bind fun d14 =>
  some d14
def m_X12_putHead (σ : St) (p0 : Nat) (p1 : Int32) (p2 : Int32) (p3 : Int32) (p4 : Int32) (δ : Dy) : Option Dy :=
  (gR σ 12 p0 15).bind fun v1 =>
  (gI σ δ 12 p0 18).bind fun v2 =>
  (wI σ δ v1 ((4 : Int32) * v2) p1).bind fun d3 =>
  (gR σ 12 p0 15).bind fun v4 =>
  (gI σ d3 12 p0 18).bind fun v5 =>
  (wI σ d3 v4 (((4 : Int32) * v5) + (1 : Int32)) p2).bind fun d6 =>
  (gR σ 12 p0 15).bind fun v7 =>
  (gI σ d6 12 p0 18).bind fun v8 =>
  (wI σ d6 v7 (((4 : Int32) * v8) + (2 : Int32)) p3).bind fun d9 =>
  (gR σ 12 p0 15).bind fun v10 =>
  (gI σ d9 12 p0 18).bind fun v11 =>
  if p4 = 0 then
    m_X12_putHead_b62 σ p0 v10 (((4 : Int32) * v11) + (3 : Int32)) (0 : Int32) d9
  else
    m_X12_putHead_b62 σ p0 v10 (((4 : Int32) * v11) + (3 : Int32)) (1 : Int32) d9
set_option maxHeartbeats 4000000 in
set_option maxRecDepth 100000 in
theorem w_X12_putHead_b62 {J : JT} {an : Option Value × St × Dy} (hI : Isj cX12_putHead 5 RX12 "putHead" 0 0 none an J) {β : Bu} (σ : St) (p0 : Nat) (q0 : Nat) (q1 : Int32) (q2 : Int32) (δ : Dy) : SJ (m_X12_putHead_b62 σ p0 q0 q1 q2 δ) (PV σ an) (J 62 [(0, .ref p0)] [.int q2, .int q1, .ref q0] β σ δ) := by
  have hJ := hI.cor
  unfold m_X12_putHead_b62
  refine sj_wI hJ dX12_putHead_62 (fun d12 => ?_)
  refine sj (j_aload_n hJ dX12_putHead_63 rfl 0 rfl) ?_
  refine sj (j_dup hJ dX12_putHead_64 rfl) ?_
  refine sj_gI hJ fl_X12_234 (Or.inl rfl) dX12_putHead_65 (fun v13 => ?_)
  refine sj (j_iconst hJ (v := 1) dX12_putHead_68 ic_1) ?_
  refine sj (j_iadd hJ dX12_putHead_69) ?_
  refine sj_pI hJ fl_X12_234 rfl dX12_putHead_70 (fun d14 => ?_)
  exact sj_vret hI dX12_putHead_73 (fun h => h)
set_option maxHeartbeats 4000000 in
set_option maxRecDepth 100000 in
theorem w_X12_putHead {J : JT} {an : Option Value × St × Dy} (hI : Isj cX12_putHead 5 RX12 "putHead" 0 0 none an J) {β : Bu} (σ : St) (p0 : Nat) (p1 : Int32) (p2 : Int32) (p3 : Int32) (p4 : Int32) (δ : Dy) : SJ (m_X12_putHead σ p0 p1 p2 p3 p4 δ) (PV σ an) (J 0 [(0, .ref p0), (1, .int p1), (2, .int p2), (3, .int p3), (4, .int p4)] [] β σ δ) := by
  have hJ := hI.cor
  unfold m_X12_putHead
  refine sj (j_aload_n hJ dX12_putHead_0 rfl 0 rfl) ?_
  refine sj_gR hJ fl_X12_49 rfl dX12_putHead_1 (fun v1 => ?_)
  refine sj (j_iconst hJ (v := 4) dX12_putHead_4 ic_4) ?_
  refine sj (j_aload_n hJ dX12_putHead_5 rfl 0 rfl) ?_
  refine sj_gI hJ fl_X12_234 (Or.inl rfl) dX12_putHead_6 (fun v2 => ?_)
  refine sj (j_imul hJ dX12_putHead_9) ?_
  refine sj (j_iload_n hJ dX12_putHead_10 rfl 1 rfl) ?_
  refine sj_wI hJ dX12_putHead_11 (fun d3 => ?_)
  refine sj (j_aload_n hJ dX12_putHead_12 rfl 0 rfl) ?_
  refine sj_gR hJ fl_X12_49 rfl dX12_putHead_13 (fun v4 => ?_)
  refine sj (j_iconst hJ (v := 4) dX12_putHead_16 ic_4) ?_
  refine sj (j_aload_n hJ dX12_putHead_17 rfl 0 rfl) ?_
  refine sj_gI hJ fl_X12_234 (Or.inl rfl) dX12_putHead_18 (fun v5 => ?_)
  refine sj (j_imul hJ dX12_putHead_21) ?_
  refine sj (j_iconst hJ (v := 1) dX12_putHead_22 ic_1) ?_
  refine sj (j_iadd hJ dX12_putHead_23) ?_
  refine sj (j_iload_n hJ dX12_putHead_24 rfl 2 rfl) ?_
  refine sj_wI hJ dX12_putHead_25 (fun d6 => ?_)
  refine sj (j_aload_n hJ dX12_putHead_26 rfl 0 rfl) ?_
  refine sj_gR hJ fl_X12_49 rfl dX12_putHead_27 (fun v7 => ?_)
  refine sj (j_iconst hJ (v := 4) dX12_putHead_30 ic_4) ?_
  refine sj (j_aload_n hJ dX12_putHead_31 rfl 0 rfl) ?_
  refine sj_gI hJ fl_X12_234 (Or.inl rfl) dX12_putHead_32 (fun v8 => ?_)
  refine sj (j_imul hJ dX12_putHead_35) ?_
  refine sj (j_iconst hJ (v := 2) dX12_putHead_36 ic_2) ?_
  refine sj (j_iadd hJ dX12_putHead_37) ?_
  refine sj (j_iload_n hJ dX12_putHead_38 rfl 3 rfl) ?_
  refine sj_wI hJ dX12_putHead_39 (fun d9 => ?_)
  refine sj (j_aload_n hJ dX12_putHead_40 rfl 0 rfl) ?_
  refine sj_gR hJ fl_X12_49 rfl dX12_putHead_41 (fun v10 => ?_)
  refine sj (j_iconst hJ (v := 4) dX12_putHead_44 ic_4) ?_
  refine sj (j_aload_n hJ dX12_putHead_45 rfl 0 rfl) ?_
  refine sj_gI hJ fl_X12_234 (Or.inl rfl) dX12_putHead_46 (fun v11 => ?_)
  refine sj (j_imul hJ dX12_putHead_49) ?_
  refine sj (j_iconst hJ (v := 3) dX12_putHead_50 ic_3) ?_
  refine sj (j_iadd hJ dX12_putHead_51) ?_
  refine sj (j_iload hJ dX12_putHead_52 4 rfl) ?_
  refine sj_if (j_if_eq hJ (tgt := 61) dX12_putHead_54 (by decide)) (fun _ => ?_) (fun _ => ?_)
  · refine sj (j_iconst hJ (v := 0) dX12_putHead_61 ic_0) ?_
    refine sj (j_sub hJ (L' := [(0, .ref p0)]) [0] rfl) ?_
    exact w_X12_putHead_b62 hI σ p0 v10 (((4 : Int32) * v11) + (3 : Int32)) (0 : Int32) d9
  · refine sj (j_iconst hJ (v := 1) dX12_putHead_57 ic_1) ?_
    refine sj (j_goto hJ (tgt := 62) dX12_putHead_58 (by decide)) ?_
    refine sj (j_sub hJ (L' := [(0, .ref p0)]) [0] rfl) ?_
    exact w_X12_putHead_b62 hI σ p0 v10 (((4 : Int32) * v11) + (3 : Int32)) (1 : Int32) d9
theorem ct_X12_putHead {σ : St} {p0 : Nat} {p1 : Int32} {p2 : Int32} {p3 : Int32} {p4 : Int32} {δ : Dy} {r : Dy} (h : m_X12_putHead σ p0 p1 p2 p3 p4 δ = some r) : CT yX12_putHead cX12_putHead 5 none 0 0 0 0 [.ref p0, .int p1, .int p2, .int p3, .int p4] σ δ (none, σ, r) := CT_of (by decide +kernel) (Nat.le_of_ble_eq_true rfl) (fun J hI => w_X12_putHead hI σ p0 p1 p2 p3 p4 δ r h rfl)
def m_X12_head_b28 (σ : St) (p0 : Nat) (δ : Dy) : Option (Int32 × Dy) :=
  (pI σ δ 12 p0 50 (1 : Int32)).bind fun d3 =>
  some ((0 : Int32), d3)
def m_X12_head (σ : St) (p0 : Nat) (p1 : Int32) (p2 : Int32) (p3 : Int32) (p4 : Int32) (δ : Dy) : Option (Int32 × Dy) :=
  (pI σ δ 12 p0 50 (0 : Int32)).bind fun d1 =>
  (m_X12_in σ p1 (0 : Int32) (5 : Int32) d1).bind fun v2 =>
  if v2 = 0 then
    m_X12_head_b28 σ p0 d1
  else
    (m_X12_isPattern σ p2 d1).bind fun v4 =>
    if v4 = 0 then
      m_X12_head_b28 σ p0 d1
    else
      (m_X12_isPattern σ p3 d1).bind fun v5 =>
      if v5 = 0 then
        m_X12_head_b28 σ p0 d1
      else
        (gI σ d1 12 p0 20).bind fun v6 =>
        (pZ σ d1 12 p0 20 (1 : Int32)).bind fun d7 =>
        (pI σ d7 12 p0 18 (0 : Int32)).bind fun d8 =>
        (pI σ d8 12 p0 19 (0 : Int32)).bind fun d9 =>
        (gR σ 12 p0 16).bind fun v10 =>
        (wI σ d9 v10 (0 : Int32) (-1 : Int32)).bind fun d11 =>
        (chk σ 12 p0).bind fun _ => (m_X12_putHead σ p0 p1 p2 p3 p4 d11).bind fun v12 =>
        (zo v6).bind fun _ => some (v6, v12)
set_option maxHeartbeats 4000000 in
set_option maxRecDepth 100000 in
theorem w_X12_head_b28 {J : JT} {an : Option Value × St × Dy} (hI : Isj cX12_head 6 RX12 "head" 4 82 (some .boolean) an J) {β : Bu} (σ : St) (p0 : Nat) (δ : Dy) : SJ (m_X12_head_b28 σ p0 δ) (PI σ an) (J 28 [(0, .ref p0)] [] β σ δ) := by
  have hJ := hI.cor
  unfold m_X12_head_b28
  refine sj (j_aload_n hJ dX12_head_28 rfl 0 rfl) ?_
  refine sj (j_iconst hJ (v := 1) dX12_head_29 ic_1) ?_
  refine sj_pI hJ fl_X12_118 rfl dX12_head_30 (fun d3 => ?_)
  refine sj (j_iconst hJ (v := 0) dX12_head_33 ic_0) ?_
  exact sj_zret hI (by decide) dX12_head_34 (fun h => h)
set_option maxHeartbeats 4000000 in
set_option maxRecDepth 100000 in
theorem w_X12_head {J : JT} {an : Option Value × St × Dy} (hI : Isj cX12_head 6 RX12 "head" 4 82 (some .boolean) an J) {β : Bu} (σ : St) (p0 : Nat) (p1 : Int32) (p2 : Int32) (p3 : Int32) (p4 : Int32) (δ : Dy) : SJ (m_X12_head σ p0 p1 p2 p3 p4 δ) (PI σ an) (J 0 [(0, .ref p0), (1, .int p1), (2, .int p2), (3, .int p3), (4, .int p4)] [] β σ δ) := by
  have hJ := hI.cor
  unfold m_X12_head
  refine sj (j_aload_n hJ dX12_head_0 rfl 0 rfl) ?_
  refine sj (j_iconst hJ (v := 0) dX12_head_1 ic_0) ?_
  refine sj_pI hJ fl_X12_118 rfl dX12_head_2 (fun d1 => ?_)
  refine sj (j_iload_n hJ dX12_head_5 rfl 1 rfl) ?_
  refine sj (j_iconst hJ (v := 0) dX12_head_6 ic_0) ?_
  refine sj (j_iconst hJ (v := 5) dX12_head_7 ic_5) ?_
  refine sj_callSip hJ [.int p1, .int (0 : Int32), .int (5 : Int32)] (st := []) (fr' := 0) (lo' := 0) ml_X12_122 (by decide) (by decide) (Nat.le_of_ble_eq_true rfl) dX12_head_8 rfl (fun _ h9 => ct_X12_in h9) (fun v2 => ?_)
  refine sj_if (j_if_eq hJ (tgt := 28) dX12_head_11 (by decide)) (fun _ => ?_) (fun _ => ?_)
  · refine sj (j_sub hJ (L' := [(0, .ref p0)]) [0] rfl) ?_
    exact w_X12_head_b28 hI σ p0 d1
  · refine sj (j_iload_n hJ dX12_head_14 rfl 2 rfl) ?_
    refine sj_callSip hJ [.int p2] (st := []) (fr' := 3) (lo' := 62) ml_X12_237 (by decide) (by decide) (Nat.le_of_ble_eq_true rfl) dX12_head_15 rfl (fun _ h9 => ct_X12_isPattern h9) (fun v4 => ?_)
    refine sj_if (j_if_eq hJ (tgt := 28) dX12_head_18 (by decide)) (fun _ => ?_) (fun _ => ?_)
    · refine sj (j_sub hJ (L' := [(0, .ref p0)]) [0] rfl) ?_
      exact w_X12_head_b28 hI σ p0 d1
    · refine sj (j_iload_n hJ dX12_head_21 rfl 3 rfl) ?_
      refine sj_callSip hJ [.int p3] (st := []) (fr' := 3) (lo' := 62) ml_X12_237 (by decide) (by decide) (Nat.le_of_ble_eq_true rfl) dX12_head_22 rfl (fun _ h9 => ct_X12_isPattern h9) (fun v5 => ?_)
      refine sj_if (j_if_ne hJ (tgt := 35) dX12_head_25 (by decide)) (fun _ => ?_) (fun _ => ?_)
      · refine sj (j_sub hJ (L' := [(0, .ref p0)]) [0] rfl) ?_
        exact w_X12_head_b28 hI σ p0 d1
      · refine sj (j_aload_n hJ dX12_head_35 rfl 0 rfl) ?_
        refine sj_gI hJ fl_X12_240 (Or.inr rfl) dX12_head_36 (fun v6 => ?_)
        refine sj (j_istore hJ (L' := [(5, .int v6), (0, .ref p0), (1, .int p1), (2, .int p2), (3, .int p3), (4, .int p4)]) dX12_head_39 (by decide) rfl) ?_
        refine sj (j_aload_n hJ dX12_head_41 rfl 1 rfl) ?_
        refine sj (j_iconst hJ (v := 1) dX12_head_42 ic_1) ?_
        refine sj_pZ hJ fl_X12_240 rfl dX12_head_43 (fun d7 => ?_)
        refine sj (j_aload_n hJ dX12_head_46 rfl 1 rfl) ?_
        refine sj (j_iconst hJ (v := 0) dX12_head_47 ic_0) ?_
        refine sj_pI hJ fl_X12_234 rfl dX12_head_48 (fun d8 => ?_)
        refine sj (j_aload_n hJ dX12_head_51 rfl 1 rfl) ?_
        refine sj (j_iconst hJ (v := 0) dX12_head_52 ic_0) ?_
        refine sj_pI hJ fl_X12_243 rfl dX12_head_53 (fun d9 => ?_)
        refine sj (j_aload_n hJ dX12_head_56 rfl 1 rfl) ?_
        refine sj_gR hJ fl_X12_52 rfl dX12_head_57 (fun v10 => ?_)
        refine sj (j_iconst hJ (v := 0) dX12_head_60 ic_0) ?_
        refine sj (j_iconst hJ (v := -1) dX12_head_61 ic_m1) ?_
        refine sj_wI hJ dX12_head_62 (fun d11 => ?_)
        refine sj (j_aload_n hJ dX12_head_63 rfl 1 rfl) ?_
        refine sj (j_iload_n hJ dX12_head_64 rfl 2 rfl) ?_
        refine sj (j_iload_n hJ dX12_head_65 rfl 3 rfl) ?_
        refine sj (j_iload_n hJ dX12_head_66 rfl 4 rfl) ?_
        refine sj (j_iload hJ dX12_head_67 5 rfl) ?_
        refine sj_callVv hJ [.int p1, .int p2, .int p3, .int p4] (st := []) (fr' := 0) (lo' := 0) ml_X12_246 hc_12 (by decide) (by decide) (Nat.le_of_ble_eq_true rfl) dX12_head_69 rfl (fun _ h9 => ct_X12_putHead h9) (fun v12 => ?_)
        refine sj (j_iload hJ dX12_head_72 0 rfl) ?_
        exact sj_zretG hI dX12_head_74 (fun h => h)
theorem ct_X12_head {σ : St} {p0 : Nat} {p1 : Int32} {p2 : Int32} {p3 : Int32} {p4 : Int32} {δ : Dy} {r : (Int32 × Dy)} (h : m_X12_head σ p0 p1 p2 p3 p4 δ = some r) : CT yX12_head cX12_head 6 (some .boolean) 4 82 0 0 [.ref p0, .int p1, .int p2, .int p3, .int p4] σ δ ((some (.int r.1)), σ, r.2) := CT_of (by decide +kernel) (Nat.le_of_ble_eq_true rfl) (fun J hI => w_X12_head hI σ p0 p1 p2 p3 p4 δ r h rfl)
def m_X12_other_b28 (σ : St) (p0 : Nat) (δ : Dy) : Option (Int32 × Dy) :=
  (chk σ 12 p0).bind fun _ => (m_X12_stop σ p0 (1 : Int32) δ).bind fun v3 =>
  some (v3.1, v3.2)
def m_X12_other_b66 (σ : St) (p0 : Nat) (δ : Dy) : Option (Int32 × Dy) :=
  (chk σ 12 p0).bind fun _ => (m_X12_stop σ p0 (2 : Int32) δ).bind fun v7 =>
  some (v7.1, v7.2)
def m_X12_other (σ : St) (p0 : Nat) (p1 : Int32) (p2 : Int32) (p3 : Int32) (p4 : Int32) (δ : Dy) : Option (Int32 × Dy) :=
  (pI σ δ 12 p0 50 (0 : Int32)).bind fun d1 =>
  (m_X12_in σ p1 (0 : Int32) (5 : Int32) d1).bind fun v2 =>
  if v2 = 0 then
    m_X12_other_b28 σ p0 d1
  else
    (m_X12_isPattern σ p2 d1).bind fun v4 =>
    if v4 = 0 then
      m_X12_other_b28 σ p0 d1
    else
      (m_X12_isPattern σ p3 d1).bind fun v5 =>
      if v5 = 0 then
        m_X12_other_b28 σ p0 d1
      else
        (gI σ d1 12 p0 20).bind fun v6 =>
        if v6 = 0 then
          m_X12_other_b66 σ p0 d1
        else
          (gI σ d1 12 p0 18).bind fun v8 =>
          if v8 = (2 : Int32) then
            m_X12_other_b66 σ p0 d1
          else
            (gR σ 12 p0 16).bind fun v9 =>
            (rI σ d1 v9 (0 : Int32)).bind fun v10 =>
            if v10 = (-1 : Int32) then
              (gI σ d1 12 p0 19).bind fun v11 =>
              if v11 ≤ 0 then
                (chk σ 12 p0).bind fun _ => (m_X12_putHead σ p0 p1 p2 p3 p4 d1).bind fun v12 =>
                (gI σ v12 12 p0 18).bind fun v13 =>
                some (v13, v12)
              else
                m_X12_other_b66 σ p0 d1
            else
              m_X12_other_b66 σ p0 d1
set_option maxHeartbeats 4000000 in
set_option maxRecDepth 100000 in
theorem w_X12_other_b28 {J : JT} {an : Option Value × St × Dy} (hI : Isj cX12_other 5 RX12 "other" 4 82 (some .int) an J) {β : Bu} (σ : St) (p0 : Nat) (δ : Dy) : SJ (m_X12_other_b28 σ p0 δ) (PI σ an) (J 28 [(0, .ref p0)] [] β σ δ) := by
  have hJ := hI.cor
  unfold m_X12_other_b28
  refine sj (j_aload_n hJ dX12_other_28 rfl 0 rfl) ?_
  refine sj (j_iconst hJ (v := 1) dX12_other_29 ic_1) ?_
  refine sj_callVi hJ [.int (1 : Int32)] (st := []) (fr' := 0) (lo' := 0) ml_X12_137 hc_12 (by decide) (by decide) (Nat.le_of_ble_eq_true rfl) dX12_other_30 rfl (fun _ h9 => ct_X12_stop h9) (fun v3 => ?_)
  exact sj_iret hI dX12_other_33 (fun h => h)
set_option maxHeartbeats 4000000 in
set_option maxRecDepth 100000 in
theorem w_X12_other_b66 {J : JT} {an : Option Value × St × Dy} (hI : Isj cX12_other 5 RX12 "other" 4 82 (some .int) an J) {β : Bu} (σ : St) (p0 : Nat) (δ : Dy) : SJ (m_X12_other_b66 σ p0 δ) (PI σ an) (J 66 [(0, .ref p0)] [] β σ δ) := by
  have hJ := hI.cor
  unfold m_X12_other_b66
  refine sj (j_aload_n hJ dX12_other_66 rfl 0 rfl) ?_
  refine sj (j_iconst hJ (v := 2) dX12_other_67 ic_2) ?_
  refine sj_callVi hJ [.int (2 : Int32)] (st := []) (fr' := 0) (lo' := 0) ml_X12_137 hc_12 (by decide) (by decide) (Nat.le_of_ble_eq_true rfl) dX12_other_68 rfl (fun _ h9 => ct_X12_stop h9) (fun v7 => ?_)
  exact sj_iret hI dX12_other_71 (fun h => h)
set_option maxHeartbeats 4000000 in
set_option maxRecDepth 100000 in
theorem w_X12_other {J : JT} {an : Option Value × St × Dy} (hI : Isj cX12_other 5 RX12 "other" 4 82 (some .int) an J) {β : Bu} (σ : St) (p0 : Nat) (p1 : Int32) (p2 : Int32) (p3 : Int32) (p4 : Int32) (δ : Dy) : SJ (m_X12_other σ p0 p1 p2 p3 p4 δ) (PI σ an) (J 0 [(0, .ref p0), (1, .int p1), (2, .int p2), (3, .int p3), (4, .int p4)] [] β σ δ) := by
  have hJ := hI.cor
  unfold m_X12_other
  refine sj (j_aload_n hJ dX12_other_0 rfl 0 rfl) ?_
  refine sj (j_iconst hJ (v := 0) dX12_other_1 ic_0) ?_
  refine sj_pI hJ fl_X12_118 rfl dX12_other_2 (fun d1 => ?_)
  refine sj (j_iload_n hJ dX12_other_5 rfl 1 rfl) ?_
  refine sj (j_iconst hJ (v := 0) dX12_other_6 ic_0) ?_
  refine sj (j_iconst hJ (v := 5) dX12_other_7 ic_5) ?_
  refine sj_callSip hJ [.int p1, .int (0 : Int32), .int (5 : Int32)] (st := []) (fr' := 0) (lo' := 0) ml_X12_122 (by decide) (by decide) (Nat.le_of_ble_eq_true rfl) dX12_other_8 rfl (fun _ h9 => ct_X12_in h9) (fun v2 => ?_)
  refine sj_if (j_if_eq hJ (tgt := 28) dX12_other_11 (by decide)) (fun _ => ?_) (fun _ => ?_)
  · refine sj (j_sub hJ (L' := [(0, .ref p0)]) [0] rfl) ?_
    exact w_X12_other_b28 hI σ p0 d1
  · refine sj (j_iload_n hJ dX12_other_14 rfl 2 rfl) ?_
    refine sj_callSip hJ [.int p2] (st := []) (fr' := 3) (lo' := 62) ml_X12_237 (by decide) (by decide) (Nat.le_of_ble_eq_true rfl) dX12_other_15 rfl (fun _ h9 => ct_X12_isPattern h9) (fun v4 => ?_)
    refine sj_if (j_if_eq hJ (tgt := 28) dX12_other_18 (by decide)) (fun _ => ?_) (fun _ => ?_)
    · refine sj (j_sub hJ (L' := [(0, .ref p0)]) [0] rfl) ?_
      exact w_X12_other_b28 hI σ p0 d1
    · refine sj (j_iload_n hJ dX12_other_21 rfl 3 rfl) ?_
      refine sj_callSip hJ [.int p3] (st := []) (fr' := 3) (lo' := 62) ml_X12_237 (by decide) (by decide) (Nat.le_of_ble_eq_true rfl) dX12_other_22 rfl (fun _ h9 => ct_X12_isPattern h9) (fun v5 => ?_)
      refine sj_if (j_if_ne hJ (tgt := 34) dX12_other_25 (by decide)) (fun _ => ?_) (fun _ => ?_)
      · refine sj (j_sub hJ (L' := [(0, .ref p0)]) [0] rfl) ?_
        exact w_X12_other_b28 hI σ p0 d1
      · refine sj (j_aload_n hJ dX12_other_34 rfl 0 rfl) ?_
        refine sj_gI hJ fl_X12_240 (Or.inr rfl) dX12_other_35 (fun v6 => ?_)
        refine sj_if (j_if_eq hJ (tgt := 66) dX12_other_38 (by decide)) (fun _ => ?_) (fun _ => ?_)
        · refine sj (j_sub hJ (L' := [(0, .ref p0)]) [0] rfl) ?_
          exact w_X12_other_b66 hI σ p0 d1
        · refine sj (j_aload_n hJ dX12_other_41 rfl 0 rfl) ?_
          refine sj_gI hJ fl_X12_234 (Or.inl rfl) dX12_other_42 (fun v8 => ?_)
          refine sj (j_iconst hJ (v := 2) dX12_other_45 ic_2) ?_
          refine sj_if (j_icmp_eq hJ (tgt := 66) dX12_other_46 (by decide)) (fun _ => ?_) (fun _ => ?_)
          · refine sj (j_sub hJ (L' := [(0, .ref p0)]) [0] rfl) ?_
            exact w_X12_other_b66 hI σ p0 d1
          · refine sj (j_aload_n hJ dX12_other_49 rfl 0 rfl) ?_
            refine sj_gR hJ fl_X12_52 rfl dX12_other_50 (fun v9 => ?_)
            refine sj (j_iconst hJ (v := 0) dX12_other_53 ic_0) ?_
            refine sj_rI hJ dX12_other_54 (fun v10 => ?_)
            refine sj (j_iconst hJ (v := -1) dX12_other_55 ic_m1) ?_
            refine sj_if (j_icmp_ne hJ (tgt := 66) dX12_other_56 (by decide)) (fun _ => ?_) (fun _ => ?_)
            · refine sj (j_aload_n hJ dX12_other_59 rfl 0 rfl) ?_
              refine sj_gI hJ fl_X12_243 (Or.inl rfl) dX12_other_60 (fun v11 => ?_)
              refine sj_if (j_if_le hJ (tgt := 72) dX12_other_63 (by decide)) (fun _ => ?_) (fun _ => ?_)
              · refine sj (j_aload_n hJ dX12_other_72 rfl 0 rfl) ?_
                refine sj (j_iload_n hJ dX12_other_73 rfl 1 rfl) ?_
                refine sj (j_iload_n hJ dX12_other_74 rfl 2 rfl) ?_
                refine sj (j_iload_n hJ dX12_other_75 rfl 3 rfl) ?_
                refine sj (j_iload hJ dX12_other_76 4 rfl) ?_
                refine sj_callVv hJ [.int p1, .int p2, .int p3, .int p4] (st := []) (fr' := 0) (lo' := 0) ml_X12_246 hc_12 (by decide) (by decide) (Nat.le_of_ble_eq_true rfl) dX12_other_78 rfl (fun _ h9 => ct_X12_putHead h9) (fun v12 => ?_)
                refine sj (j_aload_n hJ dX12_other_81 rfl 0 rfl) ?_
                refine sj_gI hJ fl_X12_234 (Or.inl rfl) dX12_other_82 (fun v13 => ?_)
                exact sj_iret hI dX12_other_85 (fun h => h)
              · refine sj (j_sub hJ (L' := [(0, .ref p0)]) [0] rfl) ?_
                exact w_X12_other_b66 hI σ p0 d1
            · refine sj (j_sub hJ (L' := [(0, .ref p0)]) [0] rfl) ?_
              exact w_X12_other_b66 hI σ p0 d1
theorem ct_X12_other {σ : St} {p0 : Nat} {p1 : Int32} {p2 : Int32} {p3 : Int32} {p4 : Int32} {δ : Dy} {r : (Int32 × Dy)} (h : m_X12_other σ p0 p1 p2 p3 p4 δ = some r) : CT yX12_other cX12_other 5 (some .int) 4 82 0 0 [.ref p0, .int p1, .int p2, .int p3, .int p4] σ δ ((some (.int r.1)), σ, r.2) := CT_of (by decide +kernel) (Nat.le_of_ble_eq_true rfl) (fun J hI => w_X12_other hI σ p0 p1 p2 p3 p4 δ r h rfl)
def m_X12_isOfHead_b69 (σ : St) (p0 : Nat) (p1 : Int32) (p3 : Int32) (q0 : Int32) (q1 : Int32) (δ : Dy) : Option ((Int32 × Int32) ⊕ Int32) :=
  some (Sum.inl ((q0 ||| q1), (p3 + (1 : Int32))))
def m_X12_isOfHead_b68 (σ : St) (p0 : Nat) (p1 : Int32) (p3 : Int32) (q0 : Int32) (δ : Dy) : Option ((Int32 × Int32) ⊕ Int32) :=
  m_X12_isOfHead_b69 σ p0 p1 p3 q0 (0 : Int32) δ
def m_X12_isOfHead_b64 (σ : St) (p0 : Nat) (p1 : Int32) (p3 : Int32) (q0 : Int32) (δ : Dy) : Option ((Int32 × Int32) ⊕ Int32) :=
  m_X12_isOfHead_b69 σ p0 p1 p3 q0 (1 : Int32) δ
def m_X12_isOfHead_b7 (σ : St) (p0 : Nat) (p1 : Int32) (p2 : Int32) (p3 : Int32) (δ : Dy) : Option Int32 := lp (fun (s : (Int32 × Int32)) =>
  (gI σ δ 12 p0 18).bind fun v2 =>
  if v2 ≤ s.2 then
    (zo s.1).bind fun _ => some (Sum.inr s.1)
  else
    (gI σ δ 12 p0 20).bind fun v3 =>
    if v3 = 0 then
      (zo s.1).bind fun _ => some (Sum.inr s.1)
    else
      (m_X12_in σ p1 (200 : Int32) (203 : Int32) δ).bind fun v4 =>
      if v4 = 0 then
        m_X12_isOfHead_b68 σ p0 p1 s.2 s.1 δ
      else
        (gR σ 12 p0 15).bind fun v5 =>
        (rI σ δ v5 (((4 : Int32) * s.2) + (1 : Int32))).bind fun v6 =>
        if v6 = p1 then
          m_X12_isOfHead_b64 σ p0 p1 s.2 s.1 δ
        else
          (gR σ 12 p0 15).bind fun v7 =>
          (rI σ δ v7 (((4 : Int32) * s.2) + (2 : Int32))).bind fun v8 =>
          if v8 = p1 then
            m_X12_isOfHead_b64 σ p0 p1 s.2 s.1 δ
          else
            m_X12_isOfHead_b68 σ p0 p1 s.2 s.1 δ) (p2, p3)
def m_X12_isOfHead (σ : St) (p0 : Nat) (p1 : Int32) (δ : Dy) : Option Int32 :=
  (m_X12_isValue σ p1 δ).bind fun v1 =>
  m_X12_isOfHead_b7 σ p0 p1 v1 (0 : Int32) δ
set_option maxHeartbeats 4000000 in
set_option maxRecDepth 100000 in
theorem w_X12_isOfHead_b69 {J : JT} {an : Option Value × St × Dy} (hI : Isj cX12_isOfHead 4 RX12 "isOfHead" 2 42 (some .boolean) an J) {β : Bu} (σ : St) (p0 : Nat) (p1 : Int32) (p3 : Int32) (q0 : Int32) (q1 : Int32) (δ : Dy) : SJ (m_X12_isOfHead_b69 σ p0 p1 p3 q0 q1 δ) (PL (fun s : (Int32 × Int32) => J 7 [(0, .ref p0), (1, .int p1), (2, .int s.1), (3, .int s.2)] [] β σ δ) (PIp σ δ an)) (J 69 [(0, .ref p0), (1, .int p1), (3, .int p3)] [.int q1, .int q0] β σ δ) := by
  have hJ := hI.cor
  unfold m_X12_isOfHead_b69
  refine sj (j_ior hJ dX12_isOfHead_69) ?_
  refine sj (j_istore_n hJ (L' := [(2, .int (q0 ||| q1)), (0, .ref p0), (1, .int p1), (3, .int p3)]) dX12_isOfHead_70 rfl (by decide) rfl) ?_
  refine sj (j_iinc hJ (L' := [(3, .int (p3 + (1 : Int32))), (2, .int (q0 ||| q1)), (0, .ref p0), (1, .int p1)]) dX12_isOfHead_71 3 rfl (congrArg (fun z => p3 + z) ic_1) (by decide) rfl) ?_
  refine sj (j_goto hJ (tgt := 7) dX12_isOfHead_74 (by decide)) ?_
  refine sj (j_sub hJ (L' := [(0, .ref p0), (1, .int p1), (2, .int (q0 ||| q1)), (3, .int (p3 + (1 : Int32)))]) [2, 3, 1, 0] rfl) ?_
  exact sj_end (fun h => h)
set_option maxHeartbeats 4000000 in
set_option maxRecDepth 100000 in
theorem w_X12_isOfHead_b68 {J : JT} {an : Option Value × St × Dy} (hI : Isj cX12_isOfHead 4 RX12 "isOfHead" 2 42 (some .boolean) an J) {β : Bu} (σ : St) (p0 : Nat) (p1 : Int32) (p3 : Int32) (q0 : Int32) (δ : Dy) : SJ (m_X12_isOfHead_b68 σ p0 p1 p3 q0 δ) (PL (fun s : (Int32 × Int32) => J 7 [(0, .ref p0), (1, .int p1), (2, .int s.1), (3, .int s.2)] [] β σ δ) (PIp σ δ an)) (J 68 [(0, .ref p0), (1, .int p1), (3, .int p3)] [.int q0] β σ δ) := by
  have hJ := hI.cor
  unfold m_X12_isOfHead_b68
  refine sj (j_iconst hJ (v := 0) dX12_isOfHead_68 ic_0) ?_
  exact w_X12_isOfHead_b69 hI σ p0 p1 p3 q0 (0 : Int32) δ
set_option maxHeartbeats 4000000 in
set_option maxRecDepth 100000 in
theorem w_X12_isOfHead_b64 {J : JT} {an : Option Value × St × Dy} (hI : Isj cX12_isOfHead 4 RX12 "isOfHead" 2 42 (some .boolean) an J) {β : Bu} (σ : St) (p0 : Nat) (p1 : Int32) (p3 : Int32) (q0 : Int32) (δ : Dy) : SJ (m_X12_isOfHead_b64 σ p0 p1 p3 q0 δ) (PL (fun s : (Int32 × Int32) => J 7 [(0, .ref p0), (1, .int p1), (2, .int s.1), (3, .int s.2)] [] β σ δ) (PIp σ δ an)) (J 64 [(0, .ref p0), (1, .int p1), (3, .int p3)] [.int q0] β σ δ) := by
  have hJ := hI.cor
  unfold m_X12_isOfHead_b64
  refine sj (j_iconst hJ (v := 1) dX12_isOfHead_64 ic_1) ?_
  refine sj (j_goto hJ (tgt := 69) dX12_isOfHead_65 (by decide)) ?_
  exact w_X12_isOfHead_b69 hI σ p0 p1 p3 q0 (1 : Int32) δ
set_option maxHeartbeats 4000000 in
set_option maxRecDepth 100000 in
theorem w_X12_isOfHead_b7 {J : JT} {an : Option Value × St × Dy} (hI : Isj cX12_isOfHead 4 RX12 "isOfHead" 2 42 (some .boolean) an J) {β : Bu} (σ : St) (p0 : Nat) (p1 : Int32) (p2 : Int32) (p3 : Int32) (δ : Dy) : SJ (m_X12_isOfHead_b7 σ p0 p1 p2 p3 δ) (PIp σ δ an) (J 7 [(0, .ref p0), (1, .int p1), (2, .int p2), (3, .int p3)] [] β σ δ) := by
  have hJ := hI.cor
  unfold m_X12_isOfHead_b7
  refine sj_lp (G := fun s : (Int32 × Int32) => J 7 [(0, .ref p0), (1, .int p1), (2, .int s.1), (3, .int s.2)] [] β σ δ) (fun s => ?_) (p2, p3)
  refine sj (j_iload_n hJ dX12_isOfHead_7 rfl 3 rfl) ?_
  refine sj (j_aload_n hJ dX12_isOfHead_8 rfl 0 rfl) ?_
  refine sj_gI hJ fl_X12_234 (Or.inl rfl) dX12_isOfHead_9 (fun v2 => ?_)
  refine sj_if (j_icmp_ge hJ (tgt := 77) dX12_isOfHead_12 (by decide)) (fun _ => ?_) (fun _ => ?_)
  · refine sj (j_iload_n hJ dX12_isOfHead_77 rfl 2 rfl) ?_
    exact sj_zretG hI dX12_isOfHead_78 (fun h => h)
  · refine sj (j_aload_n hJ dX12_isOfHead_15 rfl 0 rfl) ?_
    refine sj_gI hJ fl_X12_240 (Or.inr rfl) dX12_isOfHead_16 (fun v3 => ?_)
    refine sj_if (j_if_eq hJ (tgt := 77) dX12_isOfHead_19 (by decide)) (fun _ => ?_) (fun _ => ?_)
    · refine sj (j_iload_n hJ dX12_isOfHead_77 rfl 2 rfl) ?_
      exact sj_zretG hI dX12_isOfHead_78 (fun h => h)
    · refine sj (j_iload_n hJ dX12_isOfHead_22 rfl 2 rfl) ?_
      refine sj (j_iload_n hJ dX12_isOfHead_23 rfl 1 rfl) ?_
      refine sj (j_sipush hJ (v := 200) dX12_isOfHead_24 is_200) ?_
      refine sj (j_sipush hJ (v := 203) dX12_isOfHead_27 is_203) ?_
      refine sj_callSip hJ [.int p1, .int (200 : Int32), .int (203 : Int32)] (st := [.int s.1]) (fr' := 0) (lo' := 0) ml_X12_122 (by decide) (by decide) (Nat.le_of_ble_eq_true rfl) dX12_isOfHead_30 rfl (fun _ h9 => ct_X12_in h9) (fun v4 => ?_)
      refine sj_if (j_if_eq hJ (tgt := 68) dX12_isOfHead_33 (by decide)) (fun _ => ?_) (fun _ => ?_)
      · refine sj (j_sub hJ (L' := [(0, .ref p0), (1, .int p1), (3, .int s.2)]) [0, 1, 3] rfl) ?_
        exact w_X12_isOfHead_b68 hI σ p0 p1 s.2 s.1 δ
      · refine sj (j_aload_n hJ dX12_isOfHead_36 rfl 0 rfl) ?_
        refine sj_gR hJ fl_X12_49 rfl dX12_isOfHead_37 (fun v5 => ?_)
        refine sj (j_iconst hJ (v := 4) dX12_isOfHead_40 ic_4) ?_
        refine sj (j_iload_n hJ dX12_isOfHead_41 rfl 3 rfl) ?_
        refine sj (j_imul hJ dX12_isOfHead_42) ?_
        refine sj (j_iconst hJ (v := 1) dX12_isOfHead_43 ic_1) ?_
        refine sj (j_iadd hJ dX12_isOfHead_44) ?_
        refine sj_rI hJ dX12_isOfHead_45 (fun v6 => ?_)
        refine sj (j_iload_n hJ dX12_isOfHead_46 rfl 1 rfl) ?_
        refine sj_if (j_icmp_eq hJ (tgt := 64) dX12_isOfHead_47 (by decide)) (fun _ => ?_) (fun _ => ?_)
        · refine sj (j_sub hJ (L' := [(0, .ref p0), (1, .int p1), (3, .int s.2)]) [0, 1, 3] rfl) ?_
          exact w_X12_isOfHead_b64 hI σ p0 p1 s.2 s.1 δ
        · refine sj (j_aload_n hJ dX12_isOfHead_50 rfl 0 rfl) ?_
          refine sj_gR hJ fl_X12_49 rfl dX12_isOfHead_51 (fun v7 => ?_)
          refine sj (j_iconst hJ (v := 4) dX12_isOfHead_54 ic_4) ?_
          refine sj (j_iload_n hJ dX12_isOfHead_55 rfl 3 rfl) ?_
          refine sj (j_imul hJ dX12_isOfHead_56) ?_
          refine sj (j_iconst hJ (v := 2) dX12_isOfHead_57 ic_2) ?_
          refine sj (j_iadd hJ dX12_isOfHead_58) ?_
          refine sj_rI hJ dX12_isOfHead_59 (fun v8 => ?_)
          refine sj (j_iload_n hJ dX12_isOfHead_60 rfl 1 rfl) ?_
          refine sj_if (j_icmp_ne hJ (tgt := 68) dX12_isOfHead_61 (by decide)) (fun _ => ?_) (fun _ => ?_)
          · refine sj (j_sub hJ (L' := [(0, .ref p0), (1, .int p1), (3, .int s.2)]) [0, 1, 3] rfl) ?_
            exact w_X12_isOfHead_b64 hI σ p0 p1 s.2 s.1 δ
          · refine sj (j_sub hJ (L' := [(0, .ref p0), (1, .int p1), (3, .int s.2)]) [0, 1, 3] rfl) ?_
            exact w_X12_isOfHead_b68 hI σ p0 p1 s.2 s.1 δ
set_option maxHeartbeats 4000000 in
set_option maxRecDepth 100000 in
theorem w_X12_isOfHead {J : JT} {an : Option Value × St × Dy} (hI : Isj cX12_isOfHead 4 RX12 "isOfHead" 2 42 (some .boolean) an J) {β : Bu} (σ : St) (p0 : Nat) (p1 : Int32) (δ : Dy) : SJ (m_X12_isOfHead σ p0 p1 δ) (PIp σ δ an) (J 0 [(0, .ref p0), (1, .int p1)] [] β σ δ) := by
  have hJ := hI.cor
  unfold m_X12_isOfHead
  refine sj (j_iload_n hJ dX12_isOfHead_0 rfl 1 rfl) ?_
  refine sj_callSip hJ [.int p1] (st := []) (fr' := 1) (lo' := 22) ml_X12_126 (by decide) (by decide) (Nat.le_of_ble_eq_true rfl) dX12_isOfHead_1 rfl (fun _ h9 => ct_X12_isValue h9) (fun v1 => ?_)
  refine sj (j_istore_n hJ (L' := [(2, .int v1), (0, .ref p0), (1, .int p1)]) dX12_isOfHead_4 rfl (by decide) rfl) ?_
  refine sj (j_iconst hJ (v := 0) dX12_isOfHead_5 ic_0) ?_
  refine sj (j_istore_n hJ (L' := [(3, .int (0 : Int32)), (2, .int v1), (0, .ref p0), (1, .int p1)]) dX12_isOfHead_6 rfl (by decide) rfl) ?_
  refine sj (j_sub hJ (L' := [(0, .ref p0), (1, .int p1), (2, .int v1), (3, .int (0 : Int32))]) [2, 3, 1, 0] rfl) ?_
  exact w_X12_isOfHead_b7 hI σ p0 p1 v1 (0 : Int32) δ
theorem ct_X12_isOfHead {σ : St} {p0 : Nat} {p1 : Int32} {δ : Dy} {r : Int32} (h : m_X12_isOfHead σ p0 p1 δ = some r) : CT yX12_isOfHead cX12_isOfHead 4 (some .boolean) 2 42 0 0 [.ref p0, .int p1] σ δ ((some (.int r)), σ, δ) := CT_of (by decide +kernel) (Nat.le_of_ble_eq_true rfl) (fun J hI => w_X12_isOfHead hI σ p0 p1 δ r h rfl)
def m_X12_guard_b33 (σ : St) (p0 : Nat) (δ : Dy) : Option (Int32 × Dy) :=
  (pI σ δ 12 p0 50 (1 : Int32)).bind fun d3 =>
  some ((0 : Int32), d3)
def m_X12_guard_b64 (σ : St) (p0 : Nat) (δ : Dy) : Option (Int32 × Dy) :=
  (pI σ δ 12 p0 50 (2 : Int32)).bind fun d6 =>
  some ((0 : Int32), d6)
def m_X12_guard_b40 (σ : St) (p0 : Nat) (p1 : Int32) (p2 : Int32) (p3 : Int32) (δ : Dy) : Option (Int32 × Dy) :=
  (gI σ δ 12 p0 20).bind fun v5 =>
  if v5 = 0 then
    m_X12_guard_b64 σ p0 δ
  else
    (gR σ 12 p0 16).bind fun v7 =>
    (rI σ δ v7 (0 : Int32)).bind fun v8 =>
    if v8 = (-1 : Int32) then
      (gI σ δ 12 p0 19).bind fun v9 =>
      if v9 ≤ 0 then
        (gR σ 12 p0 16).bind fun v10 =>
        (wI σ δ v10 (0 : Int32) p1).bind fun d11 =>
        (gR σ 12 p0 16).bind fun v12 =>
        (wI σ d11 v12 (1 : Int32) p2).bind fun d13 =>
        (gR σ 12 p0 16).bind fun v14 =>
        (wI σ d13 v14 (2 : Int32) p3).bind fun d15 =>
        some ((1 : Int32), d15)
      else
        m_X12_guard_b64 σ p0 δ
    else
      m_X12_guard_b64 σ p0 δ
def m_X12_guard (σ : St) (p0 : Nat) (p1 : Int32) (p2 : Int32) (p3 : Int32) (δ : Dy) : Option (Int32 × Dy) :=
  (pI σ δ 12 p0 50 (0 : Int32)).bind fun d1 =>
  (m_X12_isCondition σ p1 d1).bind fun v2 =>
  if v2 = 0 then
    m_X12_guard_b33 σ p0 d1
  else
    (chk σ 12 p0).bind fun _ => (m_X12_isOfHead σ p0 p2 d1).bind fun v4 =>
    if v4 = 0 then
      m_X12_guard_b33 σ p0 d1
    else
      if p1 = (3 : Int32) then
        m_X12_guard_b40 σ p0 p1 p2 p3 d1
      else
        (chk σ 12 p0).bind fun _ => (m_X12_isOfHead σ p0 p3 d1).bind fun v16 =>
        if v16 = 0 then
          m_X12_guard_b33 σ p0 d1
        else
          m_X12_guard_b40 σ p0 p1 p2 p3 d1
set_option maxHeartbeats 4000000 in
set_option maxRecDepth 100000 in
theorem w_X12_guard_b33 {J : JT} {an : Option Value × St × Dy} (hI : Isj cX12_guard 4 RX12 "guard" 3 65 (some .boolean) an J) {β : Bu} (σ : St) (p0 : Nat) (δ : Dy) : SJ (m_X12_guard_b33 σ p0 δ) (PI σ an) (J 33 [(0, .ref p0)] [] β σ δ) := by
  have hJ := hI.cor
  unfold m_X12_guard_b33
  refine sj (j_aload_n hJ dX12_guard_33 rfl 0 rfl) ?_
  refine sj (j_iconst hJ (v := 1) dX12_guard_34 ic_1) ?_
  refine sj_pI hJ fl_X12_118 rfl dX12_guard_35 (fun d3 => ?_)
  refine sj (j_iconst hJ (v := 0) dX12_guard_38 ic_0) ?_
  exact sj_zret hI (by decide) dX12_guard_39 (fun h => h)
set_option maxHeartbeats 4000000 in
set_option maxRecDepth 100000 in
theorem w_X12_guard_b64 {J : JT} {an : Option Value × St × Dy} (hI : Isj cX12_guard 4 RX12 "guard" 3 65 (some .boolean) an J) {β : Bu} (σ : St) (p0 : Nat) (δ : Dy) : SJ (m_X12_guard_b64 σ p0 δ) (PI σ an) (J 64 [(0, .ref p0)] [] β σ δ) := by
  have hJ := hI.cor
  unfold m_X12_guard_b64
  refine sj (j_aload_n hJ dX12_guard_64 rfl 0 rfl) ?_
  refine sj (j_iconst hJ (v := 2) dX12_guard_65 ic_2) ?_
  refine sj_pI hJ fl_X12_118 rfl dX12_guard_66 (fun d6 => ?_)
  refine sj (j_iconst hJ (v := 0) dX12_guard_69 ic_0) ?_
  exact sj_zret hI (by decide) dX12_guard_70 (fun h => h)
set_option maxHeartbeats 4000000 in
set_option maxRecDepth 100000 in
theorem w_X12_guard_b40 {J : JT} {an : Option Value × St × Dy} (hI : Isj cX12_guard 4 RX12 "guard" 3 65 (some .boolean) an J) {β : Bu} (σ : St) (p0 : Nat) (p1 : Int32) (p2 : Int32) (p3 : Int32) (δ : Dy) : SJ (m_X12_guard_b40 σ p0 p1 p2 p3 δ) (PI σ an) (J 40 [(0, .ref p0), (1, .int p1), (2, .int p2), (3, .int p3)] [] β σ δ) := by
  have hJ := hI.cor
  unfold m_X12_guard_b40
  refine sj (j_aload_n hJ dX12_guard_40 rfl 0 rfl) ?_
  refine sj_gI hJ fl_X12_240 (Or.inr rfl) dX12_guard_41 (fun v5 => ?_)
  refine sj_if (j_if_eq hJ (tgt := 64) dX12_guard_44 (by decide)) (fun _ => ?_) (fun _ => ?_)
  · refine sj (j_sub hJ (L' := [(0, .ref p0)]) [0] rfl) ?_
    exact w_X12_guard_b64 hI σ p0 δ
  · refine sj (j_aload_n hJ dX12_guard_47 rfl 0 rfl) ?_
    refine sj_gR hJ fl_X12_52 rfl dX12_guard_48 (fun v7 => ?_)
    refine sj (j_iconst hJ (v := 0) dX12_guard_51 ic_0) ?_
    refine sj_rI hJ dX12_guard_52 (fun v8 => ?_)
    refine sj (j_iconst hJ (v := -1) dX12_guard_53 ic_m1) ?_
    refine sj_if (j_icmp_ne hJ (tgt := 64) dX12_guard_54 (by decide)) (fun _ => ?_) (fun _ => ?_)
    · refine sj (j_aload_n hJ dX12_guard_57 rfl 0 rfl) ?_
      refine sj_gI hJ fl_X12_243 (Or.inl rfl) dX12_guard_58 (fun v9 => ?_)
      refine sj_if (j_if_le hJ (tgt := 71) dX12_guard_61 (by decide)) (fun _ => ?_) (fun _ => ?_)
      · refine sj (j_aload_n hJ dX12_guard_71 rfl 0 rfl) ?_
        refine sj_gR hJ fl_X12_52 rfl dX12_guard_72 (fun v10 => ?_)
        refine sj (j_iconst hJ (v := 0) dX12_guard_75 ic_0) ?_
        refine sj (j_iload_n hJ dX12_guard_76 rfl 1 rfl) ?_
        refine sj_wI hJ dX12_guard_77 (fun d11 => ?_)
        refine sj (j_aload_n hJ dX12_guard_78 rfl 0 rfl) ?_
        refine sj_gR hJ fl_X12_52 rfl dX12_guard_79 (fun v12 => ?_)
        refine sj (j_iconst hJ (v := 1) dX12_guard_82 ic_1) ?_
        refine sj (j_iload_n hJ dX12_guard_83 rfl 2 rfl) ?_
        refine sj_wI hJ dX12_guard_84 (fun d13 => ?_)
        refine sj (j_aload_n hJ dX12_guard_85 rfl 0 rfl) ?_
        refine sj_gR hJ fl_X12_52 rfl dX12_guard_86 (fun v14 => ?_)
        refine sj (j_iconst hJ (v := 2) dX12_guard_89 ic_2) ?_
        refine sj (j_iload_n hJ dX12_guard_90 rfl 3 rfl) ?_
        refine sj_wI hJ dX12_guard_91 (fun d15 => ?_)
        refine sj (j_iconst hJ (v := 1) dX12_guard_92 ic_1) ?_
        exact sj_zret hI (by decide) dX12_guard_93 (fun h => h)
      · refine sj (j_sub hJ (L' := [(0, .ref p0)]) [0] rfl) ?_
        exact w_X12_guard_b64 hI σ p0 δ
    · refine sj (j_sub hJ (L' := [(0, .ref p0)]) [0] rfl) ?_
      exact w_X12_guard_b64 hI σ p0 δ
set_option maxHeartbeats 4000000 in
set_option maxRecDepth 100000 in
theorem w_X12_guard {J : JT} {an : Option Value × St × Dy} (hI : Isj cX12_guard 4 RX12 "guard" 3 65 (some .boolean) an J) {β : Bu} (σ : St) (p0 : Nat) (p1 : Int32) (p2 : Int32) (p3 : Int32) (δ : Dy) : SJ (m_X12_guard σ p0 p1 p2 p3 δ) (PI σ an) (J 0 [(0, .ref p0), (1, .int p1), (2, .int p2), (3, .int p3)] [] β σ δ) := by
  have hJ := hI.cor
  unfold m_X12_guard
  refine sj (j_aload_n hJ dX12_guard_0 rfl 0 rfl) ?_
  refine sj (j_iconst hJ (v := 0) dX12_guard_1 ic_0) ?_
  refine sj_pI hJ fl_X12_118 rfl dX12_guard_2 (fun d1 => ?_)
  refine sj (j_iload_n hJ dX12_guard_5 rfl 1 rfl) ?_
  refine sj_callSip hJ [.int p1] (st := []) (fr' := 1) (lo' := 22) ml_X12_228 (by decide) (by decide) (Nat.le_of_ble_eq_true rfl) dX12_guard_6 rfl (fun _ h9 => ct_X12_isCondition h9) (fun v2 => ?_)
  refine sj_if (j_if_eq hJ (tgt := 33) dX12_guard_9 (by decide)) (fun _ => ?_) (fun _ => ?_)
  · refine sj (j_sub hJ (L' := [(0, .ref p0)]) [0] rfl) ?_
    exact w_X12_guard_b33 hI σ p0 d1
  · refine sj (j_aload_n hJ dX12_guard_12 rfl 0 rfl) ?_
    refine sj (j_iload_n hJ dX12_guard_13 rfl 2 rfl) ?_
    refine sj_callVip hJ [.int p2] (st := []) (fr' := 2) (lo' := 42) ml_X12_249 hc_12 (by decide) (by decide) (Nat.le_of_ble_eq_true rfl) dX12_guard_14 rfl (fun _ h9 => ct_X12_isOfHead h9) (fun v4 => ?_)
    refine sj_if (j_if_eq hJ (tgt := 33) dX12_guard_17 (by decide)) (fun _ => ?_) (fun _ => ?_)
    · refine sj (j_sub hJ (L' := [(0, .ref p0)]) [0] rfl) ?_
      exact w_X12_guard_b33 hI σ p0 d1
    · refine sj (j_iload_n hJ dX12_guard_20 rfl 1 rfl) ?_
      refine sj (j_iconst hJ (v := 3) dX12_guard_21 ic_3) ?_
      refine sj_if (j_icmp_eq hJ (tgt := 40) dX12_guard_22 (by decide)) (fun _ => ?_) (fun _ => ?_)
      · exact w_X12_guard_b40 hI σ p0 p1 p2 p3 d1
      · refine sj (j_aload_n hJ dX12_guard_25 rfl 0 rfl) ?_
        refine sj (j_iload_n hJ dX12_guard_26 rfl 3 rfl) ?_
        refine sj_callVip hJ [.int p3] (st := []) (fr' := 2) (lo' := 42) ml_X12_249 hc_12 (by decide) (by decide) (Nat.le_of_ble_eq_true rfl) dX12_guard_27 rfl (fun _ h9 => ct_X12_isOfHead h9) (fun v16 => ?_)
        refine sj_if (j_if_ne hJ (tgt := 40) dX12_guard_30 (by decide)) (fun _ => ?_) (fun _ => ?_)
        · refine sj (j_sub hJ (L' := [(0, .ref p0)]) [0] rfl) ?_
          exact w_X12_guard_b33 hI σ p0 d1
        · exact w_X12_guard_b40 hI σ p0 p1 p2 p3 d1
theorem ct_X12_guard {σ : St} {p0 : Nat} {p1 : Int32} {p2 : Int32} {p3 : Int32} {δ : Dy} {r : (Int32 × Dy)} (h : m_X12_guard σ p0 p1 p2 p3 δ = some r) : CT yX12_guard cX12_guard 4 (some .boolean) 3 65 0 0 [.ref p0, .int p1, .int p2, .int p3] σ δ ((some (.int r.1)), σ, r.2) := CT_of (by decide +kernel) (Nat.le_of_ble_eq_true rfl) (fun J hI => w_X12_guard hI σ p0 p1 p2 p3 δ r h rfl)
def m_X12_body_b30 (σ : St) (p0 : Nat) (δ : Dy) : Option (Int32 × Dy) :=
  (chk σ 12 p0).bind fun _ => (m_X12_stop σ p0 (1 : Int32) δ).bind fun v3 =>
  some (v3.1, v3.2)
def m_X12_body_b51 (σ : St) (p0 : Nat) (δ : Dy) : Option (Int32 × Dy) :=
  (chk σ 12 p0).bind fun _ => (m_X12_stop σ p0 (2 : Int32) δ).bind fun v7 =>
  some (v7.1, v7.2)
def m_X12_body (σ : St) (p0 : Nat) (p1 : Int32) (p2 : Int32) (p3 : Int32) (δ : Dy) : Option (Int32 × Dy) :=
  (pI σ δ 12 p0 50 (0 : Int32)).bind fun d1 =>
  (m_X12_in σ p1 (-1 : Int32) (5 : Int32) d1).bind fun v2 =>
  if v2 = 0 then
    m_X12_body_b30 σ p0 d1
  else
    (chk σ 12 p0).bind fun _ => (m_X12_isOfHead σ p0 p2 d1).bind fun v4 =>
    if v4 = 0 then
      m_X12_body_b30 σ p0 d1
    else
      (chk σ 12 p0).bind fun _ => (m_X12_isOfHead σ p0 p3 d1).bind fun v5 =>
      if v5 = 0 then
        m_X12_body_b30 σ p0 d1
      else
        (gI σ d1 12 p0 20).bind fun v6 =>
        if v6 = 0 then
          m_X12_body_b51 σ p0 d1
        else
          (gI σ d1 12 p0 19).bind fun v8 =>
          if v8 = (2 : Int32) then
            m_X12_body_b51 σ p0 d1
          else
            (gR σ 12 p0 17).bind fun v9 =>
            (gI σ d1 12 p0 19).bind fun v10 =>
            (wI σ d1 v9 ((3 : Int32) * v10) p1).bind fun d11 =>
            (gR σ 12 p0 17).bind fun v12 =>
            (gI σ d11 12 p0 19).bind fun v13 =>
            (wI σ d11 v12 (((3 : Int32) * v13) + (1 : Int32)) p2).bind fun d14 =>
            (gR σ 12 p0 17).bind fun v15 =>
            (gI σ d14 12 p0 19).bind fun v16 =>
            (wI σ d14 v15 (((3 : Int32) * v16) + (2 : Int32)) p3).bind fun d17 =>
            (gI σ d17 12 p0 19).bind fun v18 =>
            (pI σ d17 12 p0 19 (v18 + (1 : Int32))).bind fun d19 =>
            (gI σ d19 12 p0 19).bind fun v20 =>
            some (v20, d19)
set_option maxHeartbeats 4000000 in
set_option maxRecDepth 100000 in
theorem w_X12_body_b30 {J : JT} {an : Option Value × St × Dy} (hI : Isj cX12_body 4 RX12 "body" 3 65 (some .int) an J) {β : Bu} (σ : St) (p0 : Nat) (δ : Dy) : SJ (m_X12_body_b30 σ p0 δ) (PI σ an) (J 30 [(0, .ref p0)] [] β σ δ) := by
  have hJ := hI.cor
  unfold m_X12_body_b30
  refine sj (j_aload_n hJ dX12_body_30 rfl 0 rfl) ?_
  refine sj (j_iconst hJ (v := 1) dX12_body_31 ic_1) ?_
  refine sj_callVi hJ [.int (1 : Int32)] (st := []) (fr' := 0) (lo' := 0) ml_X12_137 hc_12 (by decide) (by decide) (Nat.le_of_ble_eq_true rfl) dX12_body_32 rfl (fun _ h9 => ct_X12_stop h9) (fun v3 => ?_)
  exact sj_iret hI dX12_body_35 (fun h => h)
set_option maxHeartbeats 4000000 in
set_option maxRecDepth 100000 in
theorem w_X12_body_b51 {J : JT} {an : Option Value × St × Dy} (hI : Isj cX12_body 4 RX12 "body" 3 65 (some .int) an J) {β : Bu} (σ : St) (p0 : Nat) (δ : Dy) : SJ (m_X12_body_b51 σ p0 δ) (PI σ an) (J 51 [(0, .ref p0)] [] β σ δ) := by
  have hJ := hI.cor
  unfold m_X12_body_b51
  refine sj (j_aload_n hJ dX12_body_51 rfl 0 rfl) ?_
  refine sj (j_iconst hJ (v := 2) dX12_body_52 ic_2) ?_
  refine sj_callVi hJ [.int (2 : Int32)] (st := []) (fr' := 0) (lo' := 0) ml_X12_137 hc_12 (by decide) (by decide) (Nat.le_of_ble_eq_true rfl) dX12_body_53 rfl (fun _ h9 => ct_X12_stop h9) (fun v7 => ?_)
  exact sj_iret hI dX12_body_56 (fun h => h)
set_option maxHeartbeats 4000000 in
set_option maxRecDepth 100000 in
theorem w_X12_body {J : JT} {an : Option Value × St × Dy} (hI : Isj cX12_body 4 RX12 "body" 3 65 (some .int) an J) {β : Bu} (σ : St) (p0 : Nat) (p1 : Int32) (p2 : Int32) (p3 : Int32) (δ : Dy) : SJ (m_X12_body σ p0 p1 p2 p3 δ) (PI σ an) (J 0 [(0, .ref p0), (1, .int p1), (2, .int p2), (3, .int p3)] [] β σ δ) := by
  have hJ := hI.cor
  unfold m_X12_body
  refine sj (j_aload_n hJ dX12_body_0 rfl 0 rfl) ?_
  refine sj (j_iconst hJ (v := 0) dX12_body_1 ic_0) ?_
  refine sj_pI hJ fl_X12_118 rfl dX12_body_2 (fun d1 => ?_)
  refine sj (j_iload_n hJ dX12_body_5 rfl 1 rfl) ?_
  refine sj (j_iconst hJ (v := -1) dX12_body_6 ic_m1) ?_
  refine sj (j_iconst hJ (v := 5) dX12_body_7 ic_5) ?_
  refine sj_callSip hJ [.int p1, .int (-1 : Int32), .int (5 : Int32)] (st := []) (fr' := 0) (lo' := 0) ml_X12_122 (by decide) (by decide) (Nat.le_of_ble_eq_true rfl) dX12_body_8 rfl (fun _ h9 => ct_X12_in h9) (fun v2 => ?_)
  refine sj_if (j_if_eq hJ (tgt := 30) dX12_body_11 (by decide)) (fun _ => ?_) (fun _ => ?_)
  · refine sj (j_sub hJ (L' := [(0, .ref p0)]) [0] rfl) ?_
    exact w_X12_body_b30 hI σ p0 d1
  · refine sj (j_aload_n hJ dX12_body_14 rfl 0 rfl) ?_
    refine sj (j_iload_n hJ dX12_body_15 rfl 2 rfl) ?_
    refine sj_callVip hJ [.int p2] (st := []) (fr' := 2) (lo' := 42) ml_X12_249 hc_12 (by decide) (by decide) (Nat.le_of_ble_eq_true rfl) dX12_body_16 rfl (fun _ h9 => ct_X12_isOfHead h9) (fun v4 => ?_)
    refine sj_if (j_if_eq hJ (tgt := 30) dX12_body_19 (by decide)) (fun _ => ?_) (fun _ => ?_)
    · refine sj (j_sub hJ (L' := [(0, .ref p0)]) [0] rfl) ?_
      exact w_X12_body_b30 hI σ p0 d1
    · refine sj (j_aload_n hJ dX12_body_22 rfl 0 rfl) ?_
      refine sj (j_iload_n hJ dX12_body_23 rfl 3 rfl) ?_
      refine sj_callVip hJ [.int p3] (st := []) (fr' := 2) (lo' := 42) ml_X12_249 hc_12 (by decide) (by decide) (Nat.le_of_ble_eq_true rfl) dX12_body_24 rfl (fun _ h9 => ct_X12_isOfHead h9) (fun v5 => ?_)
      refine sj_if (j_if_ne hJ (tgt := 36) dX12_body_27 (by decide)) (fun _ => ?_) (fun _ => ?_)
      · refine sj (j_sub hJ (L' := [(0, .ref p0)]) [0] rfl) ?_
        exact w_X12_body_b30 hI σ p0 d1
      · refine sj (j_aload_n hJ dX12_body_36 rfl 0 rfl) ?_
        refine sj_gI hJ fl_X12_240 (Or.inr rfl) dX12_body_37 (fun v6 => ?_)
        refine sj_if (j_if_eq hJ (tgt := 51) dX12_body_40 (by decide)) (fun _ => ?_) (fun _ => ?_)
        · refine sj (j_sub hJ (L' := [(0, .ref p0)]) [0] rfl) ?_
          exact w_X12_body_b51 hI σ p0 d1
        · refine sj (j_aload_n hJ dX12_body_43 rfl 0 rfl) ?_
          refine sj_gI hJ fl_X12_243 (Or.inl rfl) dX12_body_44 (fun v8 => ?_)
          refine sj (j_iconst hJ (v := 2) dX12_body_47 ic_2) ?_
          refine sj_if (j_icmp_ne hJ (tgt := 57) dX12_body_48 (by decide)) (fun _ => ?_) (fun _ => ?_)
          · refine sj (j_sub hJ (L' := [(0, .ref p0)]) [0] rfl) ?_
            exact w_X12_body_b51 hI σ p0 d1
          · refine sj (j_aload_n hJ dX12_body_57 rfl 0 rfl) ?_
            refine sj_gR hJ fl_X12_55 rfl dX12_body_58 (fun v9 => ?_)
            refine sj (j_iconst hJ (v := 3) dX12_body_61 ic_3) ?_
            refine sj (j_aload_n hJ dX12_body_62 rfl 0 rfl) ?_
            refine sj_gI hJ fl_X12_243 (Or.inl rfl) dX12_body_63 (fun v10 => ?_)
            refine sj (j_imul hJ dX12_body_66) ?_
            refine sj (j_iload_n hJ dX12_body_67 rfl 1 rfl) ?_
            refine sj_wI hJ dX12_body_68 (fun d11 => ?_)
            refine sj (j_aload_n hJ dX12_body_69 rfl 0 rfl) ?_
            refine sj_gR hJ fl_X12_55 rfl dX12_body_70 (fun v12 => ?_)
            refine sj (j_iconst hJ (v := 3) dX12_body_73 ic_3) ?_
            refine sj (j_aload_n hJ dX12_body_74 rfl 0 rfl) ?_
            refine sj_gI hJ fl_X12_243 (Or.inl rfl) dX12_body_75 (fun v13 => ?_)
            refine sj (j_imul hJ dX12_body_78) ?_
            refine sj (j_iconst hJ (v := 1) dX12_body_79 ic_1) ?_
            refine sj (j_iadd hJ dX12_body_80) ?_
            refine sj (j_iload_n hJ dX12_body_81 rfl 2 rfl) ?_
            refine sj_wI hJ dX12_body_82 (fun d14 => ?_)
            refine sj (j_aload_n hJ dX12_body_83 rfl 0 rfl) ?_
            refine sj_gR hJ fl_X12_55 rfl dX12_body_84 (fun v15 => ?_)
            refine sj (j_iconst hJ (v := 3) dX12_body_87 ic_3) ?_
            refine sj (j_aload_n hJ dX12_body_88 rfl 0 rfl) ?_
            refine sj_gI hJ fl_X12_243 (Or.inl rfl) dX12_body_89 (fun v16 => ?_)
            refine sj (j_imul hJ dX12_body_92) ?_
            refine sj (j_iconst hJ (v := 2) dX12_body_93 ic_2) ?_
            refine sj (j_iadd hJ dX12_body_94) ?_
            refine sj (j_iload_n hJ dX12_body_95 rfl 3 rfl) ?_
            refine sj_wI hJ dX12_body_96 (fun d17 => ?_)
            refine sj (j_aload_n hJ dX12_body_97 rfl 0 rfl) ?_
            refine sj (j_dup hJ dX12_body_98 rfl) ?_
            refine sj_gI hJ fl_X12_243 (Or.inl rfl) dX12_body_99 (fun v18 => ?_)
            refine sj (j_iconst hJ (v := 1) dX12_body_102 ic_1) ?_
            refine sj (j_iadd hJ dX12_body_103) ?_
            refine sj_pI hJ fl_X12_243 rfl dX12_body_104 (fun d19 => ?_)
            refine sj (j_aload_n hJ dX12_body_107 rfl 0 rfl) ?_
            refine sj_gI hJ fl_X12_243 (Or.inl rfl) dX12_body_108 (fun v20 => ?_)
            exact sj_iret hI dX12_body_111 (fun h => h)
theorem ct_X12_body {σ : St} {p0 : Nat} {p1 : Int32} {p2 : Int32} {p3 : Int32} {δ : Dy} {r : (Int32 × Dy)} (h : m_X12_body σ p0 p1 p2 p3 δ = some r) : CT yX12_body cX12_body 4 (some .int) 3 65 0 0 [.ref p0, .int p1, .int p2, .int p3] σ δ ((some (.int r.1)), σ, r.2) := CT_of (by decide +kernel) (Nat.le_of_ble_eq_true rfl) (fun J hI => w_X12_body hI σ p0 p1 p2 p3 δ r h rfl)
def m_X12_rule_b28 (σ : St) (p0 : Nat) (δ : Dy) : Option (Int32 × Dy) :=
  (chk σ 12 p0).bind fun _ => (m_X12_stop σ p0 (1 : Int32) δ).bind fun v3 =>
  some (v3.1, v3.2)
def m_X12_rule_b121 (σ : St) (p0 : Nat) (p1 : Int32) (p2 : Int32) (δ : Dy) : Option (Int32 × Dy) := lp (fun (s : (Int32 × Dy)) =>
  if (6 : Int32) ≤ s.1 then
    (pZ σ s.2 12 p0 20 (0 : Int32)).bind fun d13 =>
    (gI σ d13 12 p0 14).bind fun v14 =>
    (pI σ d13 12 p0 14 (v14 + (1 : Int32))).bind fun d15 =>
    some (Sum.inr (p1, d15))
  else
    (gR σ 12 p0 13).bind fun v16 =>
    (gR σ 12 p0 17).bind fun v17 =>
    (rI σ s.2 v17 s.1).bind fun v18 =>
    (wI σ s.2 v16 (((6 : Int32) * p1) + s.1) v18).bind fun d19 =>
    some (Sum.inl ((s.1 + (1 : Int32)), d19))) (p2, δ)
def m_X12_rule_b92 (σ : St) (p0 : Nat) (p1 : Int32) (p2 : Int32) (δ : Dy) : Option (Int32 × Dy) := lp (fun (s : (Int32 × Dy)) =>
  if (3 : Int32) ≤ s.1 then
    (m_X12_rule_b121 σ p0 p1 (0 : Int32) s.2).bind fun r => some (Sum.inr r)
  else
    (gR σ 12 p0 11).bind fun v20 =>
    (gR σ 12 p0 16).bind fun v21 =>
    (rI σ s.2 v21 s.1).bind fun v22 =>
    (wI σ s.2 v20 (((3 : Int32) * p1) + s.1) v22).bind fun d23 =>
    some (Sum.inl ((s.1 + (1 : Int32)), d23))) (p2, δ)
def m_X12_rule_b61 (σ : St) (p0 : Nat) (p1 : Int32) (p2 : Int32) (δ : Dy) : Option (Int32 × Dy) := lp (fun (s : (Int32 × Dy)) =>
  if (8 : Int32) ≤ s.1 then
    (m_X12_rule_b92 σ p0 p1 (0 : Int32) s.2).bind fun r => some (Sum.inr r)
  else
    (gR σ 12 p0 10).bind fun v24 =>
    (gR σ 12 p0 15).bind fun v25 =>
    (rI σ s.2 v25 s.1).bind fun v26 =>
    (wI σ s.2 v24 (((8 : Int32) * p1) + s.1) v26).bind fun d27 =>
    some (Sum.inl ((s.1 + (1 : Int32)), d27))) (p2, δ)
def m_X12_rule (σ : St) (p0 : Nat) (δ : Dy) : Option (Int32 × Dy) :=
  (pI σ δ 12 p0 50 (0 : Int32)).bind fun d1 =>
  (gI σ d1 12 p0 20).bind fun v2 =>
  if v2 = 0 then
    m_X12_rule_b28 σ p0 d1
  else
    (gI σ d1 12 p0 19).bind fun v4 =>
    if v4 = 0 then
      m_X12_rule_b28 σ p0 d1
    else
      (gI σ d1 12 p0 14).bind fun v5 =>
      if v5 = (8 : Int32) then
        m_X12_rule_b28 σ p0 d1
      else
        (gI σ d1 12 p0 14).bind fun v6 =>
        (gR σ 12 p0 9).bind fun v7 =>
        (gI σ d1 12 p0 18).bind fun v8 =>
        (wI σ d1 v7 v6 v8).bind fun d9 =>
        (gR σ 12 p0 12).bind fun v10 =>
        (gI σ d9 12 p0 19).bind fun v11 =>
        (wI σ d9 v10 v6 v11).bind fun d12 =>
        m_X12_rule_b61 σ p0 v6 (0 : Int32) d12
set_option maxHeartbeats 4000000 in
set_option maxRecDepth 100000 in
theorem w_X12_rule_b28 {J : JT} {an : Option Value × St × Dy} (hI : Isj cX12_rule 3 RX12 "rule" 1 21 (some .int) an J) {β : Bu} (σ : St) (p0 : Nat) (δ : Dy) : SJ (m_X12_rule_b28 σ p0 δ) (PI σ an) (J 28 [(0, .ref p0)] [] β σ δ) := by
  have hJ := hI.cor
  unfold m_X12_rule_b28
  refine sj (j_aload_n hJ dX12_rule_28 rfl 0 rfl) ?_
  refine sj (j_iconst hJ (v := 1) dX12_rule_29 ic_1) ?_
  refine sj_callVi hJ [.int (1 : Int32)] (st := []) (fr' := 0) (lo' := 0) ml_X12_137 hc_12 (by decide) (by decide) (Nat.le_of_ble_eq_true rfl) dX12_rule_30 rfl (fun _ h9 => ct_X12_stop h9) (fun v3 => ?_)
  exact sj_iret hI dX12_rule_33 (fun h => h)
set_option maxHeartbeats 4000000 in
set_option maxRecDepth 100000 in
theorem w_X12_rule_b121 {J : JT} {an : Option Value × St × Dy} (hI : Isj cX12_rule 3 RX12 "rule" 1 21 (some .int) an J) {β : Bu} (σ : St) (p0 : Nat) (p1 : Int32) (p2 : Int32) (δ : Dy) : SJ (m_X12_rule_b121 σ p0 p1 p2 δ) (PI σ an) (J 121 [(0, .ref p0), (1, .int p1), (2, .int p2)] [] β σ δ) := by
  have hJ := hI.cor
  unfold m_X12_rule_b121
  refine sj_lp (G := fun s : (Int32 × Dy) => J 121 [(0, .ref p0), (1, .int p1), (2, .int s.1)] [] β σ s.2) (fun s => ?_) (p2, δ)
  refine sj (j_iload_n hJ dX12_rule_121 rfl 2 rfl) ?_
  refine sj (j_bipush hJ (v := 6) dX12_rule_122 ib_6) ?_
  refine sj_if (j_icmp_ge hJ (tgt := 150) dX12_rule_124 (by decide)) (fun _ => ?_) (fun _ => ?_)
  · refine sj (j_aload_n hJ dX12_rule_150 rfl 0 rfl) ?_
    refine sj (j_iconst hJ (v := 0) dX12_rule_151 ic_0) ?_
    refine sj_pZ hJ fl_X12_240 rfl dX12_rule_152 (fun d13 => ?_)
    refine sj (j_aload_n hJ dX12_rule_155 rfl 0 rfl) ?_
    refine sj (j_dup hJ dX12_rule_156 rfl) ?_
    refine sj_gI hJ fl_X12_187 (Or.inl rfl) dX12_rule_157 (fun v14 => ?_)
    refine sj (j_iconst hJ (v := 1) dX12_rule_160 ic_1) ?_
    refine sj (j_iadd hJ dX12_rule_161) ?_
    refine sj_pI hJ fl_X12_187 rfl dX12_rule_162 (fun d15 => ?_)
    refine sj (j_iload_n hJ dX12_rule_165 rfl 1 rfl) ?_
    exact sj_iret hI dX12_rule_166 (fun h => h)
  · refine sj (j_aload_n hJ dX12_rule_127 rfl 0 rfl) ?_
    refine sj_gR hJ fl_X12_46 rfl dX12_rule_128 (fun v16 => ?_)
    refine sj (j_bipush hJ (v := 6) dX12_rule_131 ib_6) ?_
    refine sj (j_iload_n hJ dX12_rule_133 rfl 1 rfl) ?_
    refine sj (j_imul hJ dX12_rule_134) ?_
    refine sj (j_iload_n hJ dX12_rule_135 rfl 2 rfl) ?_
    refine sj (j_iadd hJ dX12_rule_136) ?_
    refine sj (j_aload_n hJ dX12_rule_137 rfl 0 rfl) ?_
    refine sj_gR hJ fl_X12_55 rfl dX12_rule_138 (fun v17 => ?_)
    refine sj (j_iload_n hJ dX12_rule_141 rfl 2 rfl) ?_
    refine sj_rI hJ dX12_rule_142 (fun v18 => ?_)
    refine sj_wI hJ dX12_rule_143 (fun d19 => ?_)
    refine sj (j_iinc hJ (L' := [(2, .int (s.1 + (1 : Int32))), (0, .ref p0), (1, .int p1)]) dX12_rule_144 2 rfl (congrArg (fun z => s.1 + z) ic_1) (by decide) rfl) ?_
    refine sj (j_goto hJ (tgt := 121) dX12_rule_147 (by decide)) ?_
    refine sj (j_sub hJ (L' := [(0, .ref p0), (1, .int p1), (2, .int (s.1 + (1 : Int32)))]) [1, 2, 0] rfl) ?_
    exact sj_end (fun h => h)
set_option maxHeartbeats 4000000 in
set_option maxRecDepth 100000 in
theorem w_X12_rule_b92 {J : JT} {an : Option Value × St × Dy} (hI : Isj cX12_rule 3 RX12 "rule" 1 21 (some .int) an J) {β : Bu} (σ : St) (p0 : Nat) (p1 : Int32) (p2 : Int32) (δ : Dy) : SJ (m_X12_rule_b92 σ p0 p1 p2 δ) (PI σ an) (J 92 [(0, .ref p0), (1, .int p1), (2, .int p2)] [] β σ δ) := by
  have hJ := hI.cor
  unfold m_X12_rule_b92
  refine sj_lp (G := fun s : (Int32 × Dy) => J 92 [(0, .ref p0), (1, .int p1), (2, .int s.1)] [] β σ s.2) (fun s => ?_) (p2, δ)
  refine sj (j_iload_n hJ dX12_rule_92 rfl 2 rfl) ?_
  refine sj (j_iconst hJ (v := 3) dX12_rule_93 ic_3) ?_
  refine sj_if (j_icmp_ge hJ (tgt := 119) dX12_rule_94 (by decide)) (fun _ => ?_) (fun _ => ?_)
  · refine sj (j_iconst hJ (v := 0) dX12_rule_119 ic_0) ?_
    refine sj (j_istore_n hJ (L' := [(2, .int (0 : Int32)), (0, .ref p0), (1, .int p1)]) dX12_rule_120 rfl (by decide) rfl) ?_
    refine sj (j_sub hJ (L' := [(0, .ref p0), (1, .int p1), (2, .int (0 : Int32))]) [1, 2, 0] rfl) ?_
    refine sj_map ?_
    exact w_X12_rule_b121 hI σ p0 p1 (0 : Int32) s.2
  · refine sj (j_aload_n hJ dX12_rule_97 rfl 0 rfl) ?_
    refine sj_gR hJ fl_X12_40 rfl dX12_rule_98 (fun v20 => ?_)
    refine sj (j_iconst hJ (v := 3) dX12_rule_101 ic_3) ?_
    refine sj (j_iload_n hJ dX12_rule_102 rfl 1 rfl) ?_
    refine sj (j_imul hJ dX12_rule_103) ?_
    refine sj (j_iload_n hJ dX12_rule_104 rfl 2 rfl) ?_
    refine sj (j_iadd hJ dX12_rule_105) ?_
    refine sj (j_aload_n hJ dX12_rule_106 rfl 0 rfl) ?_
    refine sj_gR hJ fl_X12_52 rfl dX12_rule_107 (fun v21 => ?_)
    refine sj (j_iload_n hJ dX12_rule_110 rfl 2 rfl) ?_
    refine sj_rI hJ dX12_rule_111 (fun v22 => ?_)
    refine sj_wI hJ dX12_rule_112 (fun d23 => ?_)
    refine sj (j_iinc hJ (L' := [(2, .int (s.1 + (1 : Int32))), (0, .ref p0), (1, .int p1)]) dX12_rule_113 2 rfl (congrArg (fun z => s.1 + z) ic_1) (by decide) rfl) ?_
    refine sj (j_goto hJ (tgt := 92) dX12_rule_116 (by decide)) ?_
    refine sj (j_sub hJ (L' := [(0, .ref p0), (1, .int p1), (2, .int (s.1 + (1 : Int32)))]) [1, 2, 0] rfl) ?_
    exact sj_end (fun h => h)
set_option maxHeartbeats 4000000 in
set_option maxRecDepth 100000 in
theorem w_X12_rule_b61 {J : JT} {an : Option Value × St × Dy} (hI : Isj cX12_rule 3 RX12 "rule" 1 21 (some .int) an J) {β : Bu} (σ : St) (p0 : Nat) (p1 : Int32) (p2 : Int32) (δ : Dy) : SJ (m_X12_rule_b61 σ p0 p1 p2 δ) (PI σ an) (J 61 [(0, .ref p0), (1, .int p1), (2, .int p2)] [] β σ δ) := by
  have hJ := hI.cor
  unfold m_X12_rule_b61
  refine sj_lp (G := fun s : (Int32 × Dy) => J 61 [(0, .ref p0), (1, .int p1), (2, .int s.1)] [] β σ s.2) (fun s => ?_) (p2, δ)
  refine sj (j_iload_n hJ dX12_rule_61 rfl 2 rfl) ?_
  refine sj (j_bipush hJ (v := 8) dX12_rule_62 ib_8) ?_
  refine sj_if (j_icmp_ge hJ (tgt := 90) dX12_rule_64 (by decide)) (fun _ => ?_) (fun _ => ?_)
  · refine sj (j_iconst hJ (v := 0) dX12_rule_90 ic_0) ?_
    refine sj (j_istore_n hJ (L' := [(2, .int (0 : Int32)), (0, .ref p0), (1, .int p1)]) dX12_rule_91 rfl (by decide) rfl) ?_
    refine sj (j_sub hJ (L' := [(0, .ref p0), (1, .int p1), (2, .int (0 : Int32))]) [1, 2, 0] rfl) ?_
    refine sj_map ?_
    exact w_X12_rule_b92 hI σ p0 p1 (0 : Int32) s.2
  · refine sj (j_aload_n hJ dX12_rule_67 rfl 0 rfl) ?_
    refine sj_gR hJ fl_X12_37 rfl dX12_rule_68 (fun v24 => ?_)
    refine sj (j_bipush hJ (v := 8) dX12_rule_71 ib_8) ?_
    refine sj (j_iload_n hJ dX12_rule_73 rfl 1 rfl) ?_
    refine sj (j_imul hJ dX12_rule_74) ?_
    refine sj (j_iload_n hJ dX12_rule_75 rfl 2 rfl) ?_
    refine sj (j_iadd hJ dX12_rule_76) ?_
    refine sj (j_aload_n hJ dX12_rule_77 rfl 0 rfl) ?_
    refine sj_gR hJ fl_X12_49 rfl dX12_rule_78 (fun v25 => ?_)
    refine sj (j_iload_n hJ dX12_rule_81 rfl 2 rfl) ?_
    refine sj_rI hJ dX12_rule_82 (fun v26 => ?_)
    refine sj_wI hJ dX12_rule_83 (fun d27 => ?_)
    refine sj (j_iinc hJ (L' := [(2, .int (s.1 + (1 : Int32))), (0, .ref p0), (1, .int p1)]) dX12_rule_84 2 rfl (congrArg (fun z => s.1 + z) ic_1) (by decide) rfl) ?_
    refine sj (j_goto hJ (tgt := 61) dX12_rule_87 (by decide)) ?_
    refine sj (j_sub hJ (L' := [(0, .ref p0), (1, .int p1), (2, .int (s.1 + (1 : Int32)))]) [1, 2, 0] rfl) ?_
    exact sj_end (fun h => h)
set_option maxHeartbeats 4000000 in
set_option maxRecDepth 100000 in
theorem w_X12_rule {J : JT} {an : Option Value × St × Dy} (hI : Isj cX12_rule 3 RX12 "rule" 1 21 (some .int) an J) {β : Bu} (σ : St) (p0 : Nat) (δ : Dy) : SJ (m_X12_rule σ p0 δ) (PI σ an) (J 0 [(0, .ref p0)] [] β σ δ) := by
  have hJ := hI.cor
  unfold m_X12_rule
  refine sj (j_aload_n hJ dX12_rule_0 rfl 0 rfl) ?_
  refine sj (j_iconst hJ (v := 0) dX12_rule_1 ic_0) ?_
  refine sj_pI hJ fl_X12_118 rfl dX12_rule_2 (fun d1 => ?_)
  refine sj (j_aload_n hJ dX12_rule_5 rfl 0 rfl) ?_
  refine sj_gI hJ fl_X12_240 (Or.inr rfl) dX12_rule_6 (fun v2 => ?_)
  refine sj_if (j_if_eq hJ (tgt := 28) dX12_rule_9 (by decide)) (fun _ => ?_) (fun _ => ?_)
  · exact w_X12_rule_b28 hI σ p0 d1
  · refine sj (j_aload_n hJ dX12_rule_12 rfl 0 rfl) ?_
    refine sj_gI hJ fl_X12_243 (Or.inl rfl) dX12_rule_13 (fun v4 => ?_)
    refine sj_if (j_if_eq hJ (tgt := 28) dX12_rule_16 (by decide)) (fun _ => ?_) (fun _ => ?_)
    · exact w_X12_rule_b28 hI σ p0 d1
    · refine sj (j_aload_n hJ dX12_rule_19 rfl 0 rfl) ?_
      refine sj_gI hJ fl_X12_187 (Or.inl rfl) dX12_rule_20 (fun v5 => ?_)
      refine sj (j_bipush hJ (v := 8) dX12_rule_23 ib_8) ?_
      refine sj_if (j_icmp_ne hJ (tgt := 34) dX12_rule_25 (by decide)) (fun _ => ?_) (fun _ => ?_)
      · exact w_X12_rule_b28 hI σ p0 d1
      · refine sj (j_aload_n hJ dX12_rule_34 rfl 0 rfl) ?_
        refine sj_gI hJ fl_X12_187 (Or.inl rfl) dX12_rule_35 (fun v6 => ?_)
        refine sj (j_istore_n hJ (L' := [(1, .int v6), (0, .ref p0)]) dX12_rule_38 rfl (by decide) rfl) ?_
        refine sj (j_aload_n hJ dX12_rule_39 rfl 1 rfl) ?_
        refine sj_gR hJ fl_X12_34 rfl dX12_rule_40 (fun v7 => ?_)
        refine sj (j_iload_n hJ dX12_rule_43 rfl 0 rfl) ?_
        refine sj (j_aload_n hJ dX12_rule_44 rfl 1 rfl) ?_
        refine sj_gI hJ fl_X12_234 (Or.inl rfl) dX12_rule_45 (fun v8 => ?_)
        refine sj_wI hJ dX12_rule_48 (fun d9 => ?_)
        refine sj (j_aload_n hJ dX12_rule_49 rfl 1 rfl) ?_
        refine sj_gR hJ fl_X12_43 rfl dX12_rule_50 (fun v10 => ?_)
        refine sj (j_iload_n hJ dX12_rule_53 rfl 0 rfl) ?_
        refine sj (j_aload_n hJ dX12_rule_54 rfl 1 rfl) ?_
        refine sj_gI hJ fl_X12_243 (Or.inl rfl) dX12_rule_55 (fun v11 => ?_)
        refine sj_wI hJ dX12_rule_58 (fun d12 => ?_)
        refine sj (j_iconst hJ (v := 0) dX12_rule_59 ic_0) ?_
        refine sj (j_istore_n hJ (L' := [(2, .int (0 : Int32)), (1, .int v6), (0, .ref p0)]) dX12_rule_60 rfl (by decide) rfl) ?_
        refine sj (j_sub hJ (L' := [(0, .ref p0), (1, .int v6), (2, .int (0 : Int32))]) [2, 1, 0] rfl) ?_
        exact w_X12_rule_b61 hI σ p0 v6 (0 : Int32) d12
theorem ct_X12_rule {σ : St} {p0 : Nat} {δ : Dy} {r : (Int32 × Dy)} (h : m_X12_rule σ p0 δ = some r) : CT yX12_rule cX12_rule 3 (some .int) 1 21 0 0 [.ref p0] σ δ ((some (.int r.1)), σ, r.2) := CT_of (by decide +kernel) (Nat.le_of_ble_eq_true rfl) (fun J hI => w_X12_rule hI σ p0 δ r h rfl)
def m_X12_look (σ : St) (p0 : Nat) (p1 : Int32) (p2 : Int32) (δ : Dy) : Option Int32 :=
  (m_X12_in σ p2 (200 : Int32) (203 : Int32) δ).bind fun v1 =>
  if v1 = 0 then
    some p2
  else
    (gR σ 12 p0 21).bind fun v2 =>
    (rI σ δ v2 (((((9 : Int32) * p1) + (1 : Int32)) + p2) - (200 : Int32))).bind fun v3 =>
    some v3
set_option maxHeartbeats 4000000 in
set_option maxRecDepth 100000 in
theorem w_X12_look {J : JT} {an : Option Value × St × Dy} (hI : Isj cX12_look 3 RX12 "look" 1 22 (some .int) an J) {β : Bu} (σ : St) (p0 : Nat) (p1 : Int32) (p2 : Int32) (δ : Dy) : SJ (m_X12_look σ p0 p1 p2 δ) (PIp σ δ an) (J 0 [(0, .ref p0), (1, .int p1), (2, .int p2)] [] β σ δ) := by
  have hJ := hI.cor
  unfold m_X12_look
  refine sj (j_iload_n hJ dX12_look_0 rfl 2 rfl) ?_
  refine sj (j_sipush hJ (v := 200) dX12_look_1 is_200) ?_
  refine sj (j_sipush hJ (v := 203) dX12_look_4 is_203) ?_
  refine sj_callSip hJ [.int p2, .int (200 : Int32), .int (203 : Int32)] (st := []) (fr' := 0) (lo' := 0) ml_X12_122 (by decide) (by decide) (Nat.le_of_ble_eq_true rfl) dX12_look_7 rfl (fun _ h9 => ct_X12_in h9) (fun v1 => ?_)
  refine sj_if (j_if_eq hJ (tgt := 33) dX12_look_10 (by decide)) (fun _ => ?_) (fun _ => ?_)
  · refine sj (j_iload_n hJ dX12_look_33 rfl 2 rfl) ?_
    exact sj_iret hI dX12_look_34 (fun h => h)
  · refine sj (j_aload_n hJ dX12_look_13 rfl 0 rfl) ?_
    refine sj_gR hJ fl_X12_58 rfl dX12_look_14 (fun v2 => ?_)
    refine sj (j_bipush hJ (v := 9) dX12_look_17 ib_9) ?_
    refine sj (j_iload_n hJ dX12_look_19 rfl 1 rfl) ?_
    refine sj (j_imul hJ dX12_look_20) ?_
    refine sj (j_iconst hJ (v := 1) dX12_look_21 ic_1) ?_
    refine sj (j_iadd hJ dX12_look_22) ?_
    refine sj (j_iload_n hJ dX12_look_23 rfl 2 rfl) ?_
    refine sj (j_iadd hJ dX12_look_24) ?_
    refine sj (j_sipush hJ (v := 200) dX12_look_25 is_200) ?_
    refine sj (j_isub hJ dX12_look_28) ?_
    refine sj_rI hJ dX12_look_29 (fun v3 => ?_)
    refine sj (j_goto hJ (tgt := 34) dX12_look_30 (by decide)) ?_
    exact sj_iret hI dX12_look_34 (fun h => h)
theorem ct_X12_look {σ : St} {p0 : Nat} {p1 : Int32} {p2 : Int32} {δ : Dy} {r : Int32} (h : m_X12_look σ p0 p1 p2 δ = some r) : CT yX12_look cX12_look 3 (some .int) 1 22 0 0 [.ref p0, .int p1, .int p2] σ δ ((some (.int r)), σ, δ) := CT_of (by decide +kernel) (Nat.le_of_ble_eq_true rfl) (fun J hI => w_X12_look hI σ p0 p1 p2 δ r h rfl)
def m_X12_another_b18 (σ : St) (p0 : Nat) (p1 : Int32) (p2 : Int32) (p3 : Int32) (p4 : Int32) (δ : Dy) : Option (Int32 × Dy) := lp (fun (s : (Int32 × Dy)) =>
  if (9 : Int32) ≤ s.1 then
    (gR σ 12 p0 21).bind fun v4 =>
    (wI σ s.2 v4 ((9 : Int32) * p3) p2).bind fun d5 =>
    some (Sum.inr (p3, d5))
  else
    (gR σ 12 p0 21).bind fun v6 =>
    (gR σ 12 p0 21).bind fun v7 =>
    (rI σ s.2 v7 (((9 : Int32) * p1) + s.1)).bind fun v8 =>
    (wI σ s.2 v6 (((9 : Int32) * p3) + s.1) v8).bind fun d9 =>
    some (Sum.inl ((s.1 + (1 : Int32)), d9))) (p4, δ)
def m_X12_another (σ : St) (p0 : Nat) (p1 : Int32) (p2 : Int32) (δ : Dy) : Option (Int32 × Dy) :=
  (gI σ δ 12 p0 22).bind fun v1 =>
  (gI σ δ 12 p0 22).bind fun v2 =>
  (pI σ δ 12 p0 22 (v2 + (1 : Int32))).bind fun d3 =>
  m_X12_another_b18 σ p0 p1 p2 v1 (1 : Int32) d3
set_option maxHeartbeats 4000000 in
set_option maxRecDepth 100000 in
theorem w_X12_another_b18 {J : JT} {an : Option Value × St × Dy} (hI : Isj cX12_another 5 RX12 "another" 0 0 (some .int) an J) {β : Bu} (σ : St) (p0 : Nat) (p1 : Int32) (p2 : Int32) (p3 : Int32) (p4 : Int32) (δ : Dy) : SJ (m_X12_another_b18 σ p0 p1 p2 p3 p4 δ) (PI σ an) (J 18 [(0, .ref p0), (1, .int p1), (2, .int p2), (3, .int p3), (4, .int p4)] [] β σ δ) := by
  have hJ := hI.cor
  unfold m_X12_another_b18
  refine sj_lp (G := fun s : (Int32 × Dy) => J 18 [(0, .ref p0), (1, .int p1), (2, .int p2), (3, .int p3), (4, .int s.1)] [] β σ s.2) (fun s => ?_) (p4, δ)
  refine sj (j_iload hJ dX12_another_18 4 rfl) ?_
  refine sj (j_bipush hJ (v := 9) dX12_another_20 ib_9) ?_
  refine sj_if (j_icmp_ge hJ (tgt := 55) dX12_another_22 (by decide)) (fun _ => ?_) (fun _ => ?_)
  · refine sj (j_aload_n hJ dX12_another_55 rfl 0 rfl) ?_
    refine sj_gR hJ fl_X12_58 rfl dX12_another_56 (fun v4 => ?_)
    refine sj (j_bipush hJ (v := 9) dX12_another_59 ib_9) ?_
    refine sj (j_iload_n hJ dX12_another_61 rfl 3 rfl) ?_
    refine sj (j_imul hJ dX12_another_62) ?_
    refine sj (j_iload_n hJ dX12_another_63 rfl 2 rfl) ?_
    refine sj_wI hJ dX12_another_64 (fun d5 => ?_)
    refine sj (j_iload_n hJ dX12_another_65 rfl 3 rfl) ?_
    exact sj_iret hI dX12_another_66 (fun h => h)
  · refine sj (j_aload_n hJ dX12_another_25 rfl 0 rfl) ?_
    refine sj_gR hJ fl_X12_58 rfl dX12_another_26 (fun v6 => ?_)
    refine sj (j_bipush hJ (v := 9) dX12_another_29 ib_9) ?_
    refine sj (j_iload_n hJ dX12_another_31 rfl 3 rfl) ?_
    refine sj (j_imul hJ dX12_another_32) ?_
    refine sj (j_iload hJ dX12_another_33 4 rfl) ?_
    refine sj (j_iadd hJ dX12_another_35) ?_
    refine sj (j_aload_n hJ dX12_another_36 rfl 0 rfl) ?_
    refine sj_gR hJ fl_X12_58 rfl dX12_another_37 (fun v7 => ?_)
    refine sj (j_bipush hJ (v := 9) dX12_another_40 ib_9) ?_
    refine sj (j_iload_n hJ dX12_another_42 rfl 1 rfl) ?_
    refine sj (j_imul hJ dX12_another_43) ?_
    refine sj (j_iload hJ dX12_another_44 4 rfl) ?_
    refine sj (j_iadd hJ dX12_another_46) ?_
    refine sj_rI hJ dX12_another_47 (fun v8 => ?_)
    refine sj_wI hJ dX12_another_48 (fun d9 => ?_)
    refine sj (j_iinc hJ (L' := [(4, .int (s.1 + (1 : Int32))), (0, .ref p0), (1, .int p1), (2, .int p2), (3, .int p3)]) dX12_another_49 4 rfl (congrArg (fun z => s.1 + z) ic_1) (by decide) rfl) ?_
    refine sj (j_goto hJ (tgt := 18) dX12_another_52 (by decide)) ?_
    refine sj (j_sub hJ (L' := [(0, .ref p0), (1, .int p1), (2, .int p2), (3, .int p3), (4, .int (s.1 + (1 : Int32)))]) [1, 2, 3, 4, 0] rfl) ?_
    exact sj_end (fun h => h)
set_option maxHeartbeats 4000000 in
set_option maxRecDepth 100000 in
theorem w_X12_another {J : JT} {an : Option Value × St × Dy} (hI : Isj cX12_another 5 RX12 "another" 0 0 (some .int) an J) {β : Bu} (σ : St) (p0 : Nat) (p1 : Int32) (p2 : Int32) (δ : Dy) : SJ (m_X12_another σ p0 p1 p2 δ) (PI σ an) (J 0 [(0, .ref p0), (1, .int p1), (2, .int p2)] [] β σ δ) := by
  have hJ := hI.cor
  unfold m_X12_another
  refine sj (j_aload_n hJ dX12_another_0 rfl 0 rfl) ?_
  refine sj_gI hJ fl_X12_252 (Or.inl rfl) dX12_another_1 (fun v1 => ?_)
  refine sj (j_istore_n hJ (L' := [(3, .int v1), (0, .ref p0), (1, .int p1), (2, .int p2)]) dX12_another_4 rfl (by decide) rfl) ?_
  refine sj (j_aload_n hJ dX12_another_5 rfl 1 rfl) ?_
  refine sj (j_dup hJ dX12_another_6 rfl) ?_
  refine sj_gI hJ fl_X12_252 (Or.inl rfl) dX12_another_7 (fun v2 => ?_)
  refine sj (j_iconst hJ (v := 1) dX12_another_10 ic_1) ?_
  refine sj (j_iadd hJ dX12_another_11) ?_
  refine sj_pI hJ fl_X12_252 rfl dX12_another_12 (fun d3 => ?_)
  refine sj (j_iconst hJ (v := 1) dX12_another_15 ic_1) ?_
  refine sj (j_istore hJ (L' := [(4, .int (1 : Int32)), (3, .int v1), (0, .ref p0), (1, .int p1), (2, .int p2)]) dX12_another_16 (by decide) rfl) ?_
  refine sj (j_sub hJ (L' := [(0, .ref p0), (1, .int p1), (2, .int p2), (3, .int v1), (4, .int (1 : Int32))]) [2, 3, 4, 1, 0] rfl) ?_
  exact w_X12_another_b18 hI σ p0 p1 p2 v1 (1 : Int32) d3
theorem ct_X12_another {σ : St} {p0 : Nat} {p1 : Int32} {p2 : Int32} {δ : Dy} {r : (Int32 × Dy)} (h : m_X12_another σ p0 p1 p2 δ = some r) : CT yX12_another cX12_another 5 (some .int) 0 0 0 0 [.ref p0, .int p1, .int p2] σ δ ((some (.int r.1)), σ, r.2) := CT_of (by decide +kernel) (Nat.le_of_ble_eq_true rfl) (fun J hI => w_X12_another hI σ p0 p1 p2 δ r h rfl)
def m_X12_enqueue (σ : St) (p0 : Nat) (p1 : Int32) (δ : Dy) : Option Dy :=
  (gR σ 12 p0 23).bind fun v1 =>
  (gI σ δ 12 p0 33).bind fun v2 =>
  (gR σ 12 p0 24).bind fun v3 =>
  (gI σ δ 12 p0 33).bind fun v4 =>
  (rI σ δ v3 v4).bind fun v5 =>
  (wI σ δ v1 (((500 : Int32) * v2) + v5) p1).bind fun d6 =>
  (gR σ 12 p0 24).bind fun v7 =>
  (gI σ d6 12 p0 33).bind fun v8 =>
  (rI σ d6 v7 v8).bind fun v9 =>
  (wI σ d6 v7 v8 (v9 + (1 : Int32))).bind fun d10 =>
  some d10
set_option maxHeartbeats 4000000 in
set_option maxRecDepth 100000 in
theorem w_X12_enqueue {J : JT} {an : Option Value × St × Dy} (hI : Isj cX12_enqueue 2 RX12 "enqueue" 0 0 none an J) {β : Bu} (σ : St) (p0 : Nat) (p1 : Int32) (δ : Dy) : SJ (m_X12_enqueue σ p0 p1 δ) (PV σ an) (J 0 [(0, .ref p0), (1, .int p1)] [] β σ δ) := by
  have hJ := hI.cor
  unfold m_X12_enqueue
  refine sj (j_aload_n hJ dX12_enqueue_0 rfl 0 rfl) ?_
  refine sj_gR hJ fl_X12_61 rfl dX12_enqueue_1 (fun v1 => ?_)
  refine sj (j_sipush hJ (v := 500) dX12_enqueue_4 is_500) ?_
  refine sj (j_aload_n hJ dX12_enqueue_7 rfl 0 rfl) ?_
  refine sj_gI hJ fl_X12_255 (Or.inl rfl) dX12_enqueue_8 (fun v2 => ?_)
  refine sj (j_imul hJ dX12_enqueue_11) ?_
  refine sj (j_aload_n hJ dX12_enqueue_12 rfl 0 rfl) ?_
  refine sj_gR hJ fl_X12_64 rfl dX12_enqueue_13 (fun v3 => ?_)
  refine sj (j_aload_n hJ dX12_enqueue_16 rfl 0 rfl) ?_
  refine sj_gI hJ fl_X12_255 (Or.inl rfl) dX12_enqueue_17 (fun v4 => ?_)
  refine sj_rI hJ dX12_enqueue_20 (fun v5 => ?_)
  refine sj (j_iadd hJ dX12_enqueue_21) ?_
  refine sj (j_iload_n hJ dX12_enqueue_22 rfl 1 rfl) ?_
  refine sj_wI hJ dX12_enqueue_23 (fun d6 => ?_)
  refine sj (j_aload_n hJ dX12_enqueue_24 rfl 0 rfl) ?_
  refine sj_gR hJ fl_X12_64 rfl dX12_enqueue_25 (fun v7 => ?_)
  refine sj (j_aload_n hJ dX12_enqueue_28 rfl 0 rfl) ?_
  refine sj_gI hJ fl_X12_255 (Or.inl rfl) dX12_enqueue_29 (fun v8 => ?_)
  refine sj (j_dup2 hJ dX12_enqueue_32 rfl rfl) ?_
  refine sj_rI hJ dX12_enqueue_33 (fun v9 => ?_)
  refine sj (j_iconst hJ (v := 1) dX12_enqueue_34 ic_1) ?_
  refine sj (j_iadd hJ dX12_enqueue_35) ?_
  refine sj_wI hJ dX12_enqueue_36 (fun d10 => ?_)
  exact sj_vret hI dX12_enqueue_37 (fun h => h)
theorem ct_X12_enqueue {σ : St} {p0 : Nat} {p1 : Int32} {δ : Dy} {r : Dy} (h : m_X12_enqueue σ p0 p1 δ = some r) : CT yX12_enqueue cX12_enqueue 2 none 0 0 0 0 [.ref p0, .int p1] σ δ (none, σ, r) := CT_of (by decide +kernel) (Nat.le_of_ble_eq_true rfl) (fun J hI => w_X12_enqueue hI σ p0 p1 δ r h rfl)
def m_X12_forNext (σ : St) (p0 : Nat) (p1 : Int32) (δ : Dy) : Option Dy :=
  (gR σ 12 p0 29).bind fun v1 =>
  (gI σ δ 12 p0 33).bind fun v2 =>
  (gR σ 12 p0 30).bind fun v3 =>
  (gI σ δ 12 p0 33).bind fun v4 =>
  (rI σ δ v3 v4).bind fun v5 =>
  (wI σ δ v1 (((500 : Int32) * v2) + v5) p1).bind fun d6 =>
  (gR σ 12 p0 30).bind fun v7 =>
  (gI σ d6 12 p0 33).bind fun v8 =>
  (rI σ d6 v7 v8).bind fun v9 =>
  (wI σ d6 v7 v8 (v9 + (1 : Int32))).bind fun d10 =>
  some d10
set_option maxHeartbeats 4000000 in
set_option maxRecDepth 100000 in
theorem w_X12_forNext {J : JT} {an : Option Value × St × Dy} (hI : Isj cX12_forNext 2 RX12 "forNext" 0 0 none an J) {β : Bu} (σ : St) (p0 : Nat) (p1 : Int32) (δ : Dy) : SJ (m_X12_forNext σ p0 p1 δ) (PV σ an) (J 0 [(0, .ref p0), (1, .int p1)] [] β σ δ) := by
  have hJ := hI.cor
  unfold m_X12_forNext
  refine sj (j_aload_n hJ dX12_forNext_0 rfl 0 rfl) ?_
  refine sj_gR hJ fl_X12_79 rfl dX12_forNext_1 (fun v1 => ?_)
  refine sj (j_sipush hJ (v := 500) dX12_forNext_4 is_500) ?_
  refine sj (j_aload_n hJ dX12_forNext_7 rfl 0 rfl) ?_
  refine sj_gI hJ fl_X12_255 (Or.inl rfl) dX12_forNext_8 (fun v2 => ?_)
  refine sj (j_imul hJ dX12_forNext_11) ?_
  refine sj (j_aload_n hJ dX12_forNext_12 rfl 0 rfl) ?_
  refine sj_gR hJ fl_X12_82 rfl dX12_forNext_13 (fun v3 => ?_)
  refine sj (j_aload_n hJ dX12_forNext_16 rfl 0 rfl) ?_
  refine sj_gI hJ fl_X12_255 (Or.inl rfl) dX12_forNext_17 (fun v4 => ?_)
  refine sj_rI hJ dX12_forNext_20 (fun v5 => ?_)
  refine sj (j_iadd hJ dX12_forNext_21) ?_
  refine sj (j_iload_n hJ dX12_forNext_22 rfl 1 rfl) ?_
  refine sj_wI hJ dX12_forNext_23 (fun d6 => ?_)
  refine sj (j_aload_n hJ dX12_forNext_24 rfl 0 rfl) ?_
  refine sj_gR hJ fl_X12_82 rfl dX12_forNext_25 (fun v7 => ?_)
  refine sj (j_aload_n hJ dX12_forNext_28 rfl 0 rfl) ?_
  refine sj_gI hJ fl_X12_255 (Or.inl rfl) dX12_forNext_29 (fun v8 => ?_)
  refine sj (j_dup2 hJ dX12_forNext_32 rfl rfl) ?_
  refine sj_rI hJ dX12_forNext_33 (fun v9 => ?_)
  refine sj (j_iconst hJ (v := 1) dX12_forNext_34 ic_1) ?_
  refine sj (j_iadd hJ dX12_forNext_35) ?_
  refine sj_wI hJ dX12_forNext_36 (fun d10 => ?_)
  exact sj_vret hI dX12_forNext_37 (fun h => h)
theorem ct_X12_forNext {σ : St} {p0 : Nat} {p1 : Int32} {δ : Dy} {r : Dy} (h : m_X12_forNext σ p0 p1 δ = some r) : CT yX12_forNext cX12_forNext 2 none 0 0 0 0 [.ref p0, .int p1] σ δ (none, σ, r) := CT_of (by decide +kernel) (Nat.le_of_ble_eq_true rfl) (fun J hI => w_X12_forNext hI σ p0 p1 δ r h rfl)
def m_X12_waitFor (σ : St) (p0 : Nat) (p1 : Int32) (δ : Dy) : Option Dy :=
  (gR σ 12 p0 25).bind fun v1 =>
  (gI σ δ 12 p0 33).bind fun v2 =>
  (gR σ 12 p0 26).bind fun v3 =>
  (gI σ δ 12 p0 33).bind fun v4 =>
  (rI σ δ v3 v4).bind fun v5 =>
  (wI σ δ v1 (((500 : Int32) * v2) + v5) p1).bind fun d6 =>
  (gR σ 12 p0 26).bind fun v7 =>
  (gI σ d6 12 p0 33).bind fun v8 =>
  (rI σ d6 v7 v8).bind fun v9 =>
  (wI σ d6 v7 v8 (v9 + (1 : Int32))).bind fun d10 =>
  some d10
set_option maxHeartbeats 4000000 in
set_option maxRecDepth 100000 in
theorem w_X12_waitFor {J : JT} {an : Option Value × St × Dy} (hI : Isj cX12_waitFor 2 RX12 "waitFor" 0 0 none an J) {β : Bu} (σ : St) (p0 : Nat) (p1 : Int32) (δ : Dy) : SJ (m_X12_waitFor σ p0 p1 δ) (PV σ an) (J 0 [(0, .ref p0), (1, .int p1)] [] β σ δ) := by
  have hJ := hI.cor
  unfold m_X12_waitFor
  refine sj (j_aload_n hJ dX12_waitFor_0 rfl 0 rfl) ?_
  refine sj_gR hJ fl_X12_67 rfl dX12_waitFor_1 (fun v1 => ?_)
  refine sj (j_sipush hJ (v := 500) dX12_waitFor_4 is_500) ?_
  refine sj (j_aload_n hJ dX12_waitFor_7 rfl 0 rfl) ?_
  refine sj_gI hJ fl_X12_255 (Or.inl rfl) dX12_waitFor_8 (fun v2 => ?_)
  refine sj (j_imul hJ dX12_waitFor_11) ?_
  refine sj (j_aload_n hJ dX12_waitFor_12 rfl 0 rfl) ?_
  refine sj_gR hJ fl_X12_70 rfl dX12_waitFor_13 (fun v3 => ?_)
  refine sj (j_aload_n hJ dX12_waitFor_16 rfl 0 rfl) ?_
  refine sj_gI hJ fl_X12_255 (Or.inl rfl) dX12_waitFor_17 (fun v4 => ?_)
  refine sj_rI hJ dX12_waitFor_20 (fun v5 => ?_)
  refine sj (j_iadd hJ dX12_waitFor_21) ?_
  refine sj (j_iload_n hJ dX12_waitFor_22 rfl 1 rfl) ?_
  refine sj_wI hJ dX12_waitFor_23 (fun d6 => ?_)
  refine sj (j_aload_n hJ dX12_waitFor_24 rfl 0 rfl) ?_
  refine sj_gR hJ fl_X12_70 rfl dX12_waitFor_25 (fun v7 => ?_)
  refine sj (j_aload_n hJ dX12_waitFor_28 rfl 0 rfl) ?_
  refine sj_gI hJ fl_X12_255 (Or.inl rfl) dX12_waitFor_29 (fun v8 => ?_)
  refine sj (j_dup2 hJ dX12_waitFor_32 rfl rfl) ?_
  refine sj_rI hJ dX12_waitFor_33 (fun v9 => ?_)
  refine sj (j_iconst hJ (v := 1) dX12_waitFor_34 ic_1) ?_
  refine sj (j_iadd hJ dX12_waitFor_35) ?_
  refine sj_wI hJ dX12_waitFor_36 (fun d10 => ?_)
  exact sj_vret hI dX12_waitFor_37 (fun h => h)
theorem ct_X12_waitFor {σ : St} {p0 : Nat} {p1 : Int32} {δ : Dy} {r : Dy} (h : m_X12_waitFor σ p0 p1 δ = some r) : CT yX12_waitFor cX12_waitFor 2 none 0 0 0 0 [.ref p0, .int p1] σ δ (none, σ, r) := CT_of (by decide +kernel) (Nat.le_of_ble_eq_true rfl) (fun J hI => w_X12_waitFor hI σ p0 p1 δ r h rfl)
def m_X12_holds_b40 (σ : St) (q0 : Nat) (q1 : Int32) (q2 : Int32) (q3 : Int32) (δ : Dy) : Option Int32 :=
  (chk σ 12 q0).bind fun _ => (m_X12_entails σ q0 q1 q2 q3 δ).bind fun v6 =>
  (zo v6).bind fun _ => some v6
def m_X12_holds (σ : St) (p0 : Nat) (p1 : Int32) (p2 : Int32) (δ : Dy) : Option Int32 :=
  (gR σ 12 p0 3).bind fun v1 =>
  (rI σ δ v1 p2).bind fun v2 =>
  (gR σ 12 p0 4).bind fun v3 =>
  (rI σ δ v3 p2).bind fun v4 =>
  (chk σ 12 p0).bind fun _ => (m_X12_look σ p0 p1 v4 δ).bind fun v5 =>
  if v2 = (3 : Int32) then
    m_X12_holds_b40 σ p0 v2 v5 (0 : Int32) δ
  else
    (gR σ 12 p0 5).bind fun v7 =>
    (rI σ δ v7 p2).bind fun v8 =>
    (chk σ 12 p0).bind fun _ => (m_X12_look σ p0 p1 v8 δ).bind fun v9 =>
    m_X12_holds_b40 σ p0 v2 v5 v9 δ
set_option maxHeartbeats 4000000 in
set_option maxRecDepth 100000 in
theorem w_X12_holds_b40 {J : JT} {an : Option Value × St × Dy} (hI : Isj cX12_holds 4 RX12 "holds" 4 94 (some .boolean) an J) {β : Bu} (σ : St) (q0 : Nat) (q1 : Int32) (q2 : Int32) (q3 : Int32) (δ : Dy) : SJ (m_X12_holds_b40 σ q0 q1 q2 q3 δ) (PIp σ δ an) (J 40 [] [.int q3, .int q2, .int q1, .ref q0] β σ δ) := by
  have hJ := hI.cor
  unfold m_X12_holds_b40
  refine sj_callVip hJ [.int q1, .int q2, .int q3] (st := []) (fr' := 3) (lo' := 68) ml_X12_175 hc_12 (by decide) (by decide) (Nat.le_of_ble_eq_true rfl) dX12_holds_40 rfl (fun _ h9 => ct_X12_entails h9) (fun v6 => ?_)
  exact sj_zretG hI dX12_holds_43 (fun h => h)
set_option maxHeartbeats 4000000 in
set_option maxRecDepth 100000 in
theorem w_X12_holds {J : JT} {an : Option Value × St × Dy} (hI : Isj cX12_holds 4 RX12 "holds" 4 94 (some .boolean) an J) {β : Bu} (σ : St) (p0 : Nat) (p1 : Int32) (p2 : Int32) (δ : Dy) : SJ (m_X12_holds σ p0 p1 p2 δ) (PIp σ δ an) (J 0 [(0, .ref p0), (1, .int p1), (2, .int p2)] [] β σ δ) := by
  have hJ := hI.cor
  unfold m_X12_holds
  refine sj (j_aload_n hJ dX12_holds_0 rfl 0 rfl) ?_
  refine sj_gR hJ fl_X12_19 rfl dX12_holds_1 (fun v1 => ?_)
  refine sj (j_iload_n hJ dX12_holds_4 rfl 2 rfl) ?_
  refine sj_rI hJ dX12_holds_5 (fun v2 => ?_)
  refine sj (j_istore_n hJ (L' := [(3, .int v2), (0, .ref p0), (1, .int p1), (2, .int p2)]) dX12_holds_6 rfl (by decide) rfl) ?_
  refine sj (j_aload_n hJ dX12_holds_7 rfl 1 rfl) ?_
  refine sj (j_iload_n hJ dX12_holds_8 rfl 0 rfl) ?_
  refine sj (j_aload_n hJ dX12_holds_9 rfl 1 rfl) ?_
  refine sj (j_iload_n hJ dX12_holds_10 rfl 2 rfl) ?_
  refine sj (j_aload_n hJ dX12_holds_11 rfl 1 rfl) ?_
  refine sj_gR hJ fl_X12_22 rfl dX12_holds_12 (fun v3 => ?_)
  refine sj (j_iload_n hJ dX12_holds_15 rfl 3 rfl) ?_
  refine sj_rI hJ dX12_holds_16 (fun v4 => ?_)
  refine sj_callVip hJ [.int p1, .int v4] (st := [.int v2, .ref p0]) (fr' := 1) (lo' := 22) ml_X12_258 hc_12 (by decide) (by decide) (Nat.le_of_ble_eq_true rfl) dX12_holds_17 rfl (fun _ h9 => ct_X12_look h9) (fun v5 => ?_)
  refine sj (j_iload_n hJ dX12_holds_20 rfl 0 rfl) ?_
  refine sj (j_iconst hJ (v := 3) dX12_holds_21 ic_3) ?_
  refine sj_if (j_icmp_ne hJ (tgt := 29) dX12_holds_22 (by decide)) (fun _ => ?_) (fun _ => ?_)
  · refine sj (j_iconst hJ (v := 0) dX12_holds_25 ic_0) ?_
    refine sj (j_goto hJ (tgt := 40) dX12_holds_26 (by decide)) ?_
    refine sj (j_sub hJ (L' := []) [] rfl) ?_
    exact w_X12_holds_b40 hI σ p0 v2 v5 (0 : Int32) δ
  · refine sj (j_aload_n hJ dX12_holds_29 rfl 1 rfl) ?_
    refine sj (j_iload_n hJ dX12_holds_30 rfl 2 rfl) ?_
    refine sj (j_aload_n hJ dX12_holds_31 rfl 1 rfl) ?_
    refine sj_gR hJ fl_X12_25 rfl dX12_holds_32 (fun v7 => ?_)
    refine sj (j_iload_n hJ dX12_holds_35 rfl 3 rfl) ?_
    refine sj_rI hJ dX12_holds_36 (fun v8 => ?_)
    refine sj_callVip hJ [.int p1, .int v8] (st := [.int v5, .int v2, .ref p0]) (fr' := 1) (lo' := 22) ml_X12_258 hc_12 (by decide) (by decide) (Nat.le_of_ble_eq_true rfl) dX12_holds_37 rfl (fun _ h9 => ct_X12_look h9) (fun v9 => ?_)
    refine sj (j_sub hJ (L' := []) [] rfl) ?_
    exact w_X12_holds_b40 hI σ p0 v2 v5 v9 δ
theorem ct_X12_holds {σ : St} {p0 : Nat} {p1 : Int32} {p2 : Int32} {δ : Dy} {r : Int32} (h : m_X12_holds σ p0 p1 p2 δ = some r) : CT yX12_holds cX12_holds 4 (some .boolean) 4 94 0 0 [.ref p0, .int p1, .int p2] σ δ ((some (.int r)), σ, δ) := CT_of (by decide +kernel) (Nat.le_of_ble_eq_true rfl) (fun J hI => w_X12_holds hI σ p0 p1 p2 δ r h rfl)
def m_X12_goOn_b135 (σ : St) (p0 : Nat) (p3 : Int32) (δ : Dy) : Option Dy :=
  (chk σ 12 p0).bind fun _ => (m_X12_enqueue σ p0 p3 δ).bind fun v6 =>
  some v6
def m_X12_goOn_b63 (σ : St) (p0 : Nat) (p3 : Int32) (p4 : Int32) (p5 : Int32) (δ : Dy) : Option Dy := lp (fun (s : (Int32 × Dy)) =>
  if (4 : Int32) ≤ s.1 then
    (gR σ 12 p0 21).bind fun v16 =>
    (dvI p4 (32 : Int32)).bind fun v17 =>
    (rI σ s.2 v16 ((((9 : Int32) * p3) + (5 : Int32)) + v17)).bind fun v18 =>
    (rmI p4 (32 : Int32)).bind fun v19 =>
    (wI σ s.2 v16 ((((9 : Int32) * p3) + (5 : Int32)) + v17) (v18 ||| ((1 : Int32) <<< (v19 &&& 31)))).bind fun d20 =>
    (m_X12_goOn_b135 σ p0 p3 d20).bind fun r => some (Sum.inr r)
  else
    (gR σ 12 p0 21).bind fun v21 =>
    (rI σ s.2 v21 ((((9 : Int32) * p3) + (5 : Int32)) + s.1)).bind fun v22 =>
    (gR σ 12 p0 0).bind fun v23 =>
    (rI σ s.2 v23 (((622 : Int32) + ((4 : Int32) * p4)) + s.1)).bind fun v24 =>
    (wI σ s.2 v21 ((((9 : Int32) * p3) + (5 : Int32)) + s.1) (v22 ||| v24)).bind fun d25 =>
    some (Sum.inl ((s.1 + (1 : Int32)), d25))) (p5, δ)
def m_X12_goOn (σ : St) (p0 : Nat) (p1 : Int32) (p2 : Int32) (δ : Dy) : Option Dy :=
  (gR σ 12 p0 6).bind fun v1 =>
  (rI σ δ v1 p2).bind fun v2 =>
  (chk σ 12 p0).bind fun _ => (m_X12_another σ p0 p1 v2 δ).bind fun v3 =>
  (gR σ 12 p0 3).bind fun v4 =>
  (rI σ v3.2 v4 p2).bind fun v5 =>
  if v5 < (10 : Int32) then
    m_X12_goOn_b135 σ p0 v3.1 v3.2
  else
    (gR σ 12 p0 3).bind fun v7 =>
    (rI σ v3.2 v7 p2).bind fun v8 =>
    (gR σ 12 p0 4).bind fun v9 =>
    (rI σ v3.2 v9 p2).bind fun v10 =>
    (chk σ 12 p0).bind fun _ => (m_X12_look σ p0 p1 v10 v3.2).bind fun v11 =>
    (gR σ 12 p0 5).bind fun v12 =>
    (rI σ v3.2 v12 p2).bind fun v13 =>
    (chk σ 12 p0).bind fun _ => (m_X12_look σ p0 p1 v13 v3.2).bind fun v14 =>
    (chk σ 12 p0).bind fun _ => (m_X12_tokenOf σ p0 (v8 - (10 : Int32)) v11 v14 v3.2).bind fun v15 =>
    m_X12_goOn_b63 σ p0 v3.1 v15 (0 : Int32) v3.2
set_option maxHeartbeats 4000000 in
set_option maxRecDepth 100000 in
theorem w_X12_goOn_b135 {J : JT} {an : Option Value × St × Dy} (hI : Isj cX12_goOn 6 RX12 "goOn" 3 68 none an J) {β : Bu} (σ : St) (p0 : Nat) (p3 : Int32) (δ : Dy) : SJ (m_X12_goOn_b135 σ p0 p3 δ) (PV σ an) (J 135 [(0, .ref p0), (3, .int p3)] [] β σ δ) := by
  have hJ := hI.cor
  unfold m_X12_goOn_b135
  refine sj (j_aload_n hJ dX12_goOn_135 rfl 0 rfl) ?_
  refine sj (j_iload_n hJ dX12_goOn_136 rfl 1 rfl) ?_
  refine sj_callVv hJ [.int p3] (st := []) (fr' := 0) (lo' := 0) ml_X12_264 hc_12 (by decide) (by decide) (Nat.le_of_ble_eq_true rfl) dX12_goOn_137 rfl (fun _ h9 => ct_X12_enqueue h9) (fun v6 => ?_)
  exact sj_vret hI dX12_goOn_140 (fun h => h)
set_option maxHeartbeats 4000000 in
set_option maxRecDepth 100000 in
theorem w_X12_goOn_b63 {J : JT} {an : Option Value × St × Dy} (hI : Isj cX12_goOn 6 RX12 "goOn" 3 68 none an J) {β : Bu} (σ : St) (p0 : Nat) (p3 : Int32) (p4 : Int32) (p5 : Int32) (δ : Dy) : SJ (m_X12_goOn_b63 σ p0 p3 p4 p5 δ) (PV σ an) (J 63 [(0, .ref p0), (3, .int p3), (4, .int p4), (5, .int p5)] [] β σ δ) := by
  have hJ := hI.cor
  unfold m_X12_goOn_b63
  refine sj_lp (G := fun s : (Int32 × Dy) => J 63 [(0, .ref p0), (3, .int p3), (4, .int p4), (5, .int s.1)] [] β σ s.2) (fun s => ?_) (p5, δ)
  refine sj (j_iload hJ dX12_goOn_63 3 rfl) ?_
  refine sj (j_iconst hJ (v := 4) dX12_goOn_65 ic_4) ?_
  refine sj_if (j_icmp_ge hJ (tgt := 108) dX12_goOn_66 (by decide)) (fun _ => ?_) (fun _ => ?_)
  · refine sj (j_aload_n hJ dX12_goOn_108 rfl 0 rfl) ?_
    refine sj_gR hJ fl_X12_58 rfl dX12_goOn_109 (fun v16 => ?_)
    refine sj (j_bipush hJ (v := 9) dX12_goOn_112 ib_9) ?_
    refine sj (j_iload_n hJ dX12_goOn_114 rfl 1 rfl) ?_
    refine sj (j_imul hJ dX12_goOn_115) ?_
    refine sj (j_iconst hJ (v := 5) dX12_goOn_116 ic_5) ?_
    refine sj (j_iadd hJ dX12_goOn_117) ?_
    refine sj (j_iload hJ dX12_goOn_118 2 rfl) ?_
    refine sj (j_bipush hJ (v := 32) dX12_goOn_120 ib_32) ?_
    refine sj_dvI hJ dX12_goOn_122 (fun v17 => ?_)
    refine sj (j_iadd hJ dX12_goOn_123) ?_
    refine sj (j_dup2 hJ dX12_goOn_124 rfl rfl) ?_
    refine sj_rI hJ dX12_goOn_125 (fun v18 => ?_)
    refine sj (j_iconst hJ (v := 1) dX12_goOn_126 ic_1) ?_
    refine sj (j_iload hJ dX12_goOn_127 2 rfl) ?_
    refine sj (j_bipush hJ (v := 32) dX12_goOn_129 ib_32) ?_
    refine sj_rmI hJ dX12_goOn_131 (fun v19 => ?_)
    refine sj (j_ishl hJ dX12_goOn_132) ?_
    refine sj (j_ior hJ dX12_goOn_133) ?_
    refine sj_wI hJ dX12_goOn_134 (fun d20 => ?_)
    refine sj (j_sub hJ (L' := [(0, .ref p0), (3, .int p3)]) [0, 1] rfl) ?_
    refine sj_map ?_
    exact w_X12_goOn_b135 hI σ p0 p3 d20
  · refine sj (j_aload_n hJ dX12_goOn_69 rfl 0 rfl) ?_
    refine sj_gR hJ fl_X12_58 rfl dX12_goOn_70 (fun v21 => ?_)
    refine sj (j_bipush hJ (v := 9) dX12_goOn_73 ib_9) ?_
    refine sj (j_iload_n hJ dX12_goOn_75 rfl 1 rfl) ?_
    refine sj (j_imul hJ dX12_goOn_76) ?_
    refine sj (j_iconst hJ (v := 5) dX12_goOn_77 ic_5) ?_
    refine sj (j_iadd hJ dX12_goOn_78) ?_
    refine sj (j_iload hJ dX12_goOn_79 3 rfl) ?_
    refine sj (j_iadd hJ dX12_goOn_81) ?_
    refine sj (j_dup2 hJ dX12_goOn_82 rfl rfl) ?_
    refine sj_rI hJ dX12_goOn_83 (fun v22 => ?_)
    refine sj (j_aload_n hJ dX12_goOn_84 rfl 0 rfl) ?_
    refine sj_gR hJ fl_X12_7 rfl dX12_goOn_85 (fun v23 => ?_)
    refine sj (j_sipush hJ (v := 622) dX12_goOn_88 is_622) ?_
    refine sj (j_iconst hJ (v := 4) dX12_goOn_91 ic_4) ?_
    refine sj (j_iload hJ dX12_goOn_92 2 rfl) ?_
    refine sj (j_imul hJ dX12_goOn_94) ?_
    refine sj (j_iadd hJ dX12_goOn_95) ?_
    refine sj (j_iload hJ dX12_goOn_96 3 rfl) ?_
    refine sj (j_iadd hJ dX12_goOn_98) ?_
    refine sj_rI hJ dX12_goOn_99 (fun v24 => ?_)
    refine sj (j_ior hJ dX12_goOn_100) ?_
    refine sj_wI hJ dX12_goOn_101 (fun d25 => ?_)
    refine sj (j_iinc hJ (L' := [(5, .int (s.1 + (1 : Int32))), (0, .ref p0), (3, .int p3), (4, .int p4)]) dX12_goOn_102 3 rfl (congrArg (fun z => s.1 + z) ic_1) (by decide) rfl) ?_
    refine sj (j_goto hJ (tgt := 63) dX12_goOn_105 (by decide)) ?_
    refine sj (j_sub hJ (L' := [(0, .ref p0), (3, .int p3), (4, .int p4), (5, .int (s.1 + (1 : Int32)))]) [1, 2, 3, 0] rfl) ?_
    exact sj_end (fun h => h)
set_option maxHeartbeats 4000000 in
set_option maxRecDepth 100000 in
theorem w_X12_goOn {J : JT} {an : Option Value × St × Dy} (hI : Isj cX12_goOn 6 RX12 "goOn" 3 68 none an J) {β : Bu} (σ : St) (p0 : Nat) (p1 : Int32) (p2 : Int32) (δ : Dy) : SJ (m_X12_goOn σ p0 p1 p2 δ) (PV σ an) (J 0 [(0, .ref p0), (1, .int p1), (2, .int p2)] [] β σ δ) := by
  have hJ := hI.cor
  unfold m_X12_goOn
  refine sj (j_aload_n hJ dX12_goOn_0 rfl 0 rfl) ?_
  refine sj (j_iload_n hJ dX12_goOn_1 rfl 1 rfl) ?_
  refine sj (j_aload_n hJ dX12_goOn_2 rfl 0 rfl) ?_
  refine sj_gR hJ fl_X12_28 rfl dX12_goOn_3 (fun v1 => ?_)
  refine sj (j_iload_n hJ dX12_goOn_6 rfl 2 rfl) ?_
  refine sj_rI hJ dX12_goOn_7 (fun v2 => ?_)
  refine sj_callVi hJ [.int p1, .int v2] (st := []) (fr' := 0) (lo' := 0) ml_X12_261 hc_12 (by decide) (by decide) (Nat.le_of_ble_eq_true rfl) dX12_goOn_8 rfl (fun _ h9 => ct_X12_another h9) (fun v3 => ?_)
  refine sj (j_istore_n hJ (L' := [(3, .int v3.1), (0, .ref p0), (1, .int p1), (2, .int p2)]) dX12_goOn_11 rfl (by decide) rfl) ?_
  refine sj (j_aload_n hJ dX12_goOn_12 rfl 1 rfl) ?_
  refine sj_gR hJ fl_X12_19 rfl dX12_goOn_13 (fun v4 => ?_)
  refine sj (j_iload_n hJ dX12_goOn_16 rfl 3 rfl) ?_
  refine sj_rI hJ dX12_goOn_17 (fun v5 => ?_)
  refine sj (j_bipush hJ (v := 10) dX12_goOn_18 ib_10) ?_
  refine sj_if (j_icmp_lt hJ (tgt := 135) dX12_goOn_20 (by decide)) (fun _ => ?_) (fun _ => ?_)
  · refine sj (j_sub hJ (L' := [(0, .ref p0), (3, .int v3.1)]) [1, 0] rfl) ?_
    exact w_X12_goOn_b135 hI σ p0 v3.1 v3.2
  · refine sj (j_aload_n hJ dX12_goOn_23 rfl 1 rfl) ?_
    refine sj (j_aload_n hJ dX12_goOn_24 rfl 1 rfl) ?_
    refine sj_gR hJ fl_X12_19 rfl dX12_goOn_25 (fun v7 => ?_)
    refine sj (j_iload_n hJ dX12_goOn_28 rfl 3 rfl) ?_
    refine sj_rI hJ dX12_goOn_29 (fun v8 => ?_)
    refine sj (j_bipush hJ (v := 10) dX12_goOn_30 ib_10) ?_
    refine sj (j_isub hJ dX12_goOn_32) ?_
    refine sj (j_aload_n hJ dX12_goOn_33 rfl 1 rfl) ?_
    refine sj (j_iload_n hJ dX12_goOn_34 rfl 2 rfl) ?_
    refine sj (j_aload_n hJ dX12_goOn_35 rfl 1 rfl) ?_
    refine sj_gR hJ fl_X12_22 rfl dX12_goOn_36 (fun v9 => ?_)
    refine sj (j_iload_n hJ dX12_goOn_39 rfl 3 rfl) ?_
    refine sj_rI hJ dX12_goOn_40 (fun v10 => ?_)
    refine sj_callVip hJ [.int p1, .int v10] (st := [.int (v8 - (10 : Int32)), .ref p0]) (fr' := 1) (lo' := 22) ml_X12_258 hc_12 (by decide) (by decide) (Nat.le_of_ble_eq_true rfl) dX12_goOn_41 rfl (fun _ h9 => ct_X12_look h9) (fun v11 => ?_)
    refine sj (j_aload_n hJ dX12_goOn_44 rfl 1 rfl) ?_
    refine sj (j_iload_n hJ dX12_goOn_45 rfl 2 rfl) ?_
    refine sj (j_aload_n hJ dX12_goOn_46 rfl 1 rfl) ?_
    refine sj_gR hJ fl_X12_25 rfl dX12_goOn_47 (fun v12 => ?_)
    refine sj (j_iload_n hJ dX12_goOn_50 rfl 3 rfl) ?_
    refine sj_rI hJ dX12_goOn_51 (fun v13 => ?_)
    refine sj_callVip hJ [.int p1, .int v13] (st := [.int v11, .int (v8 - (10 : Int32)), .ref p0]) (fr' := 1) (lo' := 22) ml_X12_258 hc_12 (by decide) (by decide) (Nat.le_of_ble_eq_true rfl) dX12_goOn_52 rfl (fun _ h9 => ct_X12_look h9) (fun v14 => ?_)
    refine sj_callVip hJ [.int (v8 - (10 : Int32)), .int v11, .int v14] (st := []) (fr' := 2) (lo' := 44) ml_X12_152 hc_12 (by decide) (by decide) (Nat.le_of_ble_eq_true rfl) dX12_goOn_55 rfl (fun _ h9 => ct_X12_tokenOf h9) (fun v15 => ?_)
    refine sj (j_istore hJ (L' := [(4, .int v15), (3, .int v3.1), (0, .ref p0), (1, .int p1), (2, .int p2)]) dX12_goOn_58 (by decide) rfl) ?_
    refine sj (j_iconst hJ (v := 0) dX12_goOn_60 ic_0) ?_
    refine sj (j_istore hJ (L' := [(5, .int (0 : Int32)), (4, .int v15), (3, .int v3.1), (0, .ref p0), (1, .int p1), (2, .int p2)]) dX12_goOn_61 (by decide) rfl) ?_
    refine sj (j_sub hJ (L' := [(0, .ref p0), (3, .int v3.1), (4, .int v15), (5, .int (0 : Int32))]) [3, 2, 1, 0] rfl) ?_
    exact w_X12_goOn_b63 hI σ p0 v3.1 v15 (0 : Int32) v3.2
theorem ct_X12_goOn {σ : St} {p0 : Nat} {p1 : Int32} {p2 : Int32} {δ : Dy} {r : Dy} (h : m_X12_goOn σ p0 p1 p2 δ = some r) : CT yX12_goOn cX12_goOn 6 none 3 68 0 0 [.ref p0, .int p1, .int p2] σ δ (none, σ, r) := CT_of (by decide +kernel) (Nat.le_of_ble_eq_true rfl) (fun J hI => w_X12_goOn hI σ p0 p1 p2 δ r h rfl)
def m_X12_wayOf_b34 (σ : St) (p3 : Int32) (p4 : Int32) (δ : Dy) : Option Int32 :=
  if p3 = 0 then
    if p4 = 0 then
      some (-1 : Int32)
    else
      some (1 : Int32)
  else
    some (0 : Int32)
def m_X12_wayOf (σ : St) (p0 : Nat) (p1 : Int32) (p2 : Int32) (δ : Dy) : Option Int32 :=
  (gR σ 12 p0 3).bind fun v1 =>
  (rI σ δ v1 p2).bind fun v2 =>
  (chk σ 12 p0).bind fun _ => (m_X12_holds σ p0 p1 v2 δ).bind fun v3 =>
  (gR σ 12 p0 5).bind fun v4 =>
  (rI σ δ v4 p2).bind fun v5 =>
  (chk σ 12 p0).bind fun _ => (m_X12_holds σ p0 p1 v5 δ).bind fun v6 =>
  if v3 = 0 then
    m_X12_wayOf_b34 σ v3 v6 δ
  else
    if v6 = 0 then
      m_X12_wayOf_b34 σ v3 v6 δ
    else
      (gR σ 12 p0 4).bind fun v7 =>
      (rI σ δ v7 p2).bind fun v8 =>
      (gR σ 12 p0 6).bind fun v9 =>
      (rI σ δ v9 p2).bind fun v10 =>
      if v8 = v10 then
        (gR σ 12 p0 0).bind fun v11 =>
        (rI σ δ v11 (((9743 : Int32) + ((2 : Int32) * p2)) + (1 : Int32))).bind fun v12 =>
        (gR σ 12 p0 0).bind fun v13 =>
        (rI σ δ v13 ((9743 : Int32) + ((2 : Int32) * p2))).bind fun v14 =>
        if v14 ≤ v12 then
          some (0 : Int32)
        else
          some (1 : Int32)
      else
        (gR σ 12 p0 4).bind fun v15 =>
        (rI σ δ v15 p2).bind fun v16 =>
        (gR σ 12 p0 6).bind fun v17 =>
        (rI σ δ v17 p2).bind fun v18 =>
        if v16 ≤ v18 then
          some (1 : Int32)
        else
          some (0 : Int32)
set_option maxHeartbeats 4000000 in
set_option maxRecDepth 100000 in
theorem w_X12_wayOf_b34 {J : JT} {an : Option Value × St × Dy} (hI : Isj cX12_wayOf 5 RX12 "wayOf" 5 117 (some .int) an J) {β : Bu} (σ : St) (p3 : Int32) (p4 : Int32) (δ : Dy) : SJ (m_X12_wayOf_b34 σ p3 p4 δ) (PIp σ δ an) (J 34 [(3, .int p3), (4, .int p4)] [] β σ δ) := by
  have hJ := hI.cor
  unfold m_X12_wayOf_b34
  refine sj (j_iload_n hJ dX12_wayOf_34 rfl 0 rfl) ?_
  refine sj_if (j_if_eq hJ (tgt := 42) dX12_wayOf_35 (by decide)) (fun _ => ?_) (fun _ => ?_)
  · refine sj (j_iload hJ dX12_wayOf_42 1 rfl) ?_
    refine sj_if (j_if_eq hJ (tgt := 51) dX12_wayOf_44 (by decide)) (fun _ => ?_) (fun _ => ?_)
    · refine sj (j_iconst hJ (v := -1) dX12_wayOf_51 ic_m1) ?_
      exact sj_iret hI dX12_wayOf_52 (fun h => h)
    · refine sj (j_iconst hJ (v := 1) dX12_wayOf_47 ic_1) ?_
      refine sj (j_goto hJ (tgt := 52) dX12_wayOf_48 (by decide)) ?_
      exact sj_iret hI dX12_wayOf_52 (fun h => h)
  · refine sj (j_iconst hJ (v := 0) dX12_wayOf_38 ic_0) ?_
    refine sj (j_goto hJ (tgt := 52) dX12_wayOf_39 (by decide)) ?_
    exact sj_iret hI dX12_wayOf_52 (fun h => h)
set_option maxHeartbeats 4000000 in
set_option maxRecDepth 100000 in
theorem w_X12_wayOf {J : JT} {an : Option Value × St × Dy} (hI : Isj cX12_wayOf 5 RX12 "wayOf" 5 117 (some .int) an J) {β : Bu} (σ : St) (p0 : Nat) (p1 : Int32) (p2 : Int32) (δ : Dy) : SJ (m_X12_wayOf σ p0 p1 p2 δ) (PIp σ δ an) (J 0 [(0, .ref p0), (1, .int p1), (2, .int p2)] [] β σ δ) := by
  have hJ := hI.cor
  unfold m_X12_wayOf
  refine sj (j_aload_n hJ dX12_wayOf_0 rfl 0 rfl) ?_
  refine sj (j_iload_n hJ dX12_wayOf_1 rfl 1 rfl) ?_
  refine sj (j_aload_n hJ dX12_wayOf_2 rfl 0 rfl) ?_
  refine sj_gR hJ fl_X12_19 rfl dX12_wayOf_3 (fun v1 => ?_)
  refine sj (j_iload_n hJ dX12_wayOf_6 rfl 2 rfl) ?_
  refine sj_rI hJ dX12_wayOf_7 (fun v2 => ?_)
  refine sj_callVip hJ [.int p1, .int v2] (st := []) (fr' := 4) (lo' := 94) ml_X12_267 hc_12 (by decide) (by decide) (Nat.le_of_ble_eq_true rfl) dX12_wayOf_8 rfl (fun _ h9 => ct_X12_holds h9) (fun v3 => ?_)
  refine sj (j_istore_n hJ (L' := [(3, .int v3), (0, .ref p0), (1, .int p1), (2, .int p2)]) dX12_wayOf_11 rfl (by decide) rfl) ?_
  refine sj (j_aload_n hJ dX12_wayOf_12 rfl 1 rfl) ?_
  refine sj (j_iload_n hJ dX12_wayOf_13 rfl 2 rfl) ?_
  refine sj (j_aload_n hJ dX12_wayOf_14 rfl 1 rfl) ?_
  refine sj_gR hJ fl_X12_25 rfl dX12_wayOf_15 (fun v4 => ?_)
  refine sj (j_iload_n hJ dX12_wayOf_18 rfl 3 rfl) ?_
  refine sj_rI hJ dX12_wayOf_19 (fun v5 => ?_)
  refine sj_callVip hJ [.int p1, .int v5] (st := []) (fr' := 4) (lo' := 94) ml_X12_267 hc_12 (by decide) (by decide) (Nat.le_of_ble_eq_true rfl) dX12_wayOf_20 rfl (fun _ h9 => ct_X12_holds h9) (fun v6 => ?_)
  refine sj (j_istore hJ (L' := [(4, .int v6), (3, .int v3), (0, .ref p0), (1, .int p1), (2, .int p2)]) dX12_wayOf_23 (by decide) rfl) ?_
  refine sj (j_iload_n hJ dX12_wayOf_25 rfl 1 rfl) ?_
  refine sj_if (j_if_eq hJ (tgt := 34) dX12_wayOf_26 (by decide)) (fun _ => ?_) (fun _ => ?_)
  · refine sj (j_sub hJ (L' := [(3, .int v3), (4, .int v6)]) [1, 0] rfl) ?_
    exact w_X12_wayOf_b34 hI σ v3 v6 δ
  · refine sj (j_iload hJ dX12_wayOf_29 0 rfl) ?_
    refine sj_if (j_if_ne hJ (tgt := 53) dX12_wayOf_31 (by decide)) (fun _ => ?_) (fun _ => ?_)
    · refine sj (j_sub hJ (L' := [(3, .int v3), (4, .int v6)]) [1, 0] rfl) ?_
      exact w_X12_wayOf_b34 hI σ v3 v6 δ
    · refine sj (j_aload_n hJ dX12_wayOf_53 rfl 2 rfl) ?_
      refine sj_gR hJ fl_X12_22 rfl dX12_wayOf_54 (fun v7 => ?_)
      refine sj (j_iload_n hJ dX12_wayOf_57 rfl 4 rfl) ?_
      refine sj_rI hJ dX12_wayOf_58 (fun v8 => ?_)
      refine sj (j_aload_n hJ dX12_wayOf_59 rfl 2 rfl) ?_
      refine sj_gR hJ fl_X12_28 rfl dX12_wayOf_60 (fun v9 => ?_)
      refine sj (j_iload_n hJ dX12_wayOf_63 rfl 4 rfl) ?_
      refine sj_rI hJ dX12_wayOf_64 (fun v10 => ?_)
      refine sj_if (j_icmp_eq hJ (tgt := 89) dX12_wayOf_65 (by decide)) (fun _ => ?_) (fun _ => ?_)
      · refine sj (j_aload_n hJ dX12_wayOf_89 rfl 2 rfl) ?_
        refine sj_gR hJ fl_X12_7 rfl dX12_wayOf_90 (fun v11 => ?_)
        refine sj (j_sipush hJ (v := 9743) dX12_wayOf_93 is_9743) ?_
        refine sj (j_iconst hJ (v := 2) dX12_wayOf_96 ic_2) ?_
        refine sj (j_iload_n hJ dX12_wayOf_97 rfl 4 rfl) ?_
        refine sj (j_imul hJ dX12_wayOf_98) ?_
        refine sj (j_iadd hJ dX12_wayOf_99) ?_
        refine sj (j_iconst hJ (v := 1) dX12_wayOf_100 ic_1) ?_
        refine sj (j_iadd hJ dX12_wayOf_101) ?_
        refine sj_rI hJ dX12_wayOf_102 (fun v12 => ?_)
        refine sj (j_aload_n hJ dX12_wayOf_103 rfl 2 rfl) ?_
        refine sj_gR hJ fl_X12_7 rfl dX12_wayOf_104 (fun v13 => ?_)
        refine sj (j_sipush hJ (v := 9743) dX12_wayOf_107 is_9743) ?_
        refine sj (j_iconst hJ (v := 2) dX12_wayOf_110 ic_2) ?_
        refine sj (j_iload_n hJ dX12_wayOf_111 rfl 4 rfl) ?_
        refine sj (j_imul hJ dX12_wayOf_112) ?_
        refine sj (j_iadd hJ dX12_wayOf_113) ?_
        refine sj_rI hJ dX12_wayOf_114 (fun v14 => ?_)
        refine sj_if (j_icmp_ge hJ (tgt := 122) dX12_wayOf_115 (by decide)) (fun _ => ?_) (fun _ => ?_)
        · refine sj (j_iconst hJ (v := 0) dX12_wayOf_122 ic_0) ?_
          exact sj_iret hI dX12_wayOf_123 (fun h => h)
        · refine sj (j_iconst hJ (v := 1) dX12_wayOf_118 ic_1) ?_
          refine sj (j_goto hJ (tgt := 123) dX12_wayOf_119 (by decide)) ?_
          exact sj_iret hI dX12_wayOf_123 (fun h => h)
      · refine sj (j_aload_n hJ dX12_wayOf_68 rfl 2 rfl) ?_
        refine sj_gR hJ fl_X12_22 rfl dX12_wayOf_69 (fun v15 => ?_)
        refine sj (j_iload_n hJ dX12_wayOf_72 rfl 4 rfl) ?_
        refine sj_rI hJ dX12_wayOf_73 (fun v16 => ?_)
        refine sj (j_aload_n hJ dX12_wayOf_74 rfl 2 rfl) ?_
        refine sj_gR hJ fl_X12_28 rfl dX12_wayOf_75 (fun v17 => ?_)
        refine sj (j_iload_n hJ dX12_wayOf_78 rfl 4 rfl) ?_
        refine sj_rI hJ dX12_wayOf_79 (fun v18 => ?_)
        refine sj_if (j_icmp_le hJ (tgt := 87) dX12_wayOf_80 (by decide)) (fun _ => ?_) (fun _ => ?_)
        · refine sj (j_iconst hJ (v := 1) dX12_wayOf_87 ic_1) ?_
          exact sj_iret hI dX12_wayOf_88 (fun h => h)
        · refine sj (j_iconst hJ (v := 0) dX12_wayOf_83 ic_0) ?_
          refine sj (j_goto hJ (tgt := 88) dX12_wayOf_84 (by decide)) ?_
          exact sj_iret hI dX12_wayOf_88 (fun h => h)
theorem ct_X12_wayOf {σ : St} {p0 : Nat} {p1 : Int32} {p2 : Int32} {δ : Dy} {r : Int32} (h : m_X12_wayOf σ p0 p1 p2 δ = some r) : CT yX12_wayOf cX12_wayOf 5 (some .int) 5 117 0 0 [.ref p0, .int p1, .int p2] σ δ ((some (.int r)), σ, δ) := CT_of (by decide +kernel) (Nat.le_of_ble_eq_true rfl) (fun J hI => w_X12_wayOf hI σ p0 p1 p2 δ r h rfl)
def m_X12_actEither_b57 (σ : St) (q0 : Nat) (q1 : Int32) (q2 : Int32) (δ : Dy) : Option Dy :=
  (chk σ 12 q0).bind fun _ => (m_X12_goOn σ q0 q1 q2 δ).bind fun v8 =>
  some v8
def m_X12_actEither (σ : St) (p0 : Nat) (p1 : Int32) (p2 : Int32) (δ : Dy) : Option Dy :=
  (chk σ 12 p0).bind fun _ => (m_X12_wayOf σ p0 p1 p2 δ).bind fun v1 =>
  if v1 = (-1 : Int32) then
    (chk σ 12 p0).bind fun _ => (m_X12_waitFor σ p0 p1 δ).bind fun v2 =>
    some v2
  else
    (gR σ 12 p0 0).bind fun v3 =>
    (rI σ δ v3 (((9743 : Int32) + ((2 : Int32) * p2)) + v1)).bind fun v4 =>
    (wI σ δ v3 (((9743 : Int32) + ((2 : Int32) * p2)) + v1) (v4 + (1 : Int32))).bind fun d5 =>
    if v1 = 0 then
      (gR σ 12 p0 3).bind fun v6 =>
      (rI σ d5 v6 p2).bind fun v7 =>
      m_X12_actEither_b57 σ p0 p1 v7 d5
    else
      (gR σ 12 p0 5).bind fun v9 =>
      (rI σ d5 v9 p2).bind fun v10 =>
      m_X12_actEither_b57 σ p0 p1 v10 d5
set_option maxHeartbeats 4000000 in
set_option maxRecDepth 100000 in
theorem w_X12_actEither_b57 {J : JT} {an : Option Value × St × Dy} (hI : Isj cX12_actEither 4 RX12 "actEither" 6 141 none an J) {β : Bu} (σ : St) (q0 : Nat) (q1 : Int32) (q2 : Int32) (δ : Dy) : SJ (m_X12_actEither_b57 σ q0 q1 q2 δ) (PV σ an) (J 57 [] [.int q2, .int q1, .ref q0] β σ δ) := by
  have hJ := hI.cor
  unfold m_X12_actEither_b57
  refine sj_callVv hJ [.int q1, .int q2] (st := []) (fr' := 3) (lo' := 68) ml_X12_276 hc_12 (by decide) (by decide) (Nat.le_of_ble_eq_true rfl) dX12_actEither_57 rfl (fun _ h9 => ct_X12_goOn h9) (fun v8 => ?_)
  exact sj_vret hI dX12_actEither_60 (fun h => h)
set_option maxHeartbeats 4000000 in
set_option maxRecDepth 100000 in
theorem w_X12_actEither {J : JT} {an : Option Value × St × Dy} (hI : Isj cX12_actEither 4 RX12 "actEither" 6 141 none an J) {β : Bu} (σ : St) (p0 : Nat) (p1 : Int32) (p2 : Int32) (δ : Dy) : SJ (m_X12_actEither σ p0 p1 p2 δ) (PV σ an) (J 0 [(0, .ref p0), (1, .int p1), (2, .int p2)] [] β σ δ) := by
  have hJ := hI.cor
  unfold m_X12_actEither
  refine sj (j_aload_n hJ dX12_actEither_0 rfl 0 rfl) ?_
  refine sj (j_iload_n hJ dX12_actEither_1 rfl 1 rfl) ?_
  refine sj (j_iload_n hJ dX12_actEither_2 rfl 2 rfl) ?_
  refine sj_callVip hJ [.int p1, .int p2] (st := []) (fr' := 5) (lo' := 117) ml_X12_270 hc_12 (by decide) (by decide) (Nat.le_of_ble_eq_true rfl) dX12_actEither_3 rfl (fun _ h9 => ct_X12_wayOf h9) (fun v1 => ?_)
  refine sj (j_istore_n hJ (L' := [(3, .int v1), (0, .ref p0), (1, .int p1), (2, .int p2)]) dX12_actEither_6 rfl (by decide) rfl) ?_
  refine sj (j_iload_n hJ dX12_actEither_7 rfl 0 rfl) ?_
  refine sj (j_iconst hJ (v := -1) dX12_actEither_8 ic_m1) ?_
  refine sj_if (j_icmp_ne hJ (tgt := 18) dX12_actEither_9 (by decide)) (fun _ => ?_) (fun _ => ?_)
  · refine sj (j_aload_n hJ dX12_actEither_12 rfl 1 rfl) ?_
    refine sj (j_iload_n hJ dX12_actEither_13 rfl 2 rfl) ?_
    refine sj_callVv hJ [.int p1] (st := []) (fr' := 0) (lo' := 0) ml_X12_273 hc_12 (by decide) (by decide) (Nat.le_of_ble_eq_true rfl) dX12_actEither_14 rfl (fun _ h9 => ct_X12_waitFor h9) (fun v2 => ?_)
    exact sj_vret hI dX12_actEither_17 (fun h => h)
  · refine sj (j_aload_n hJ dX12_actEither_18 rfl 1 rfl) ?_
    refine sj_gR hJ fl_X12_7 rfl dX12_actEither_19 (fun v3 => ?_)
    refine sj (j_sipush hJ (v := 9743) dX12_actEither_22 is_9743) ?_
    refine sj (j_iconst hJ (v := 2) dX12_actEither_25 ic_2) ?_
    refine sj (j_iload_n hJ dX12_actEither_26 rfl 3 rfl) ?_
    refine sj (j_imul hJ dX12_actEither_27) ?_
    refine sj (j_iadd hJ dX12_actEither_28) ?_
    refine sj (j_iload_n hJ dX12_actEither_29 rfl 0 rfl) ?_
    refine sj (j_iadd hJ dX12_actEither_30) ?_
    refine sj (j_dup2 hJ dX12_actEither_31 rfl rfl) ?_
    refine sj_rI hJ dX12_actEither_32 (fun v4 => ?_)
    refine sj (j_iconst hJ (v := 1) dX12_actEither_33 ic_1) ?_
    refine sj (j_iadd hJ dX12_actEither_34) ?_
    refine sj_wI hJ dX12_actEither_35 (fun d5 => ?_)
    refine sj (j_aload_n hJ dX12_actEither_36 rfl 1 rfl) ?_
    refine sj (j_iload_n hJ dX12_actEither_37 rfl 2 rfl) ?_
    refine sj (j_iload_n hJ dX12_actEither_38 rfl 0 rfl) ?_
    refine sj_if (j_if_ne hJ (tgt := 51) dX12_actEither_39 (by decide)) (fun _ => ?_) (fun _ => ?_)
    · refine sj (j_aload_n hJ dX12_actEither_42 rfl 1 rfl) ?_
      refine sj_gR hJ fl_X12_19 rfl dX12_actEither_43 (fun v6 => ?_)
      refine sj (j_iload_n hJ dX12_actEither_46 rfl 3 rfl) ?_
      refine sj_rI hJ dX12_actEither_47 (fun v7 => ?_)
      refine sj (j_goto hJ (tgt := 57) dX12_actEither_48 (by decide)) ?_
      refine sj (j_sub hJ (L' := []) [] rfl) ?_
      exact w_X12_actEither_b57 hI σ p0 p1 v7 d5
    · refine sj (j_aload_n hJ dX12_actEither_51 rfl 1 rfl) ?_
      refine sj_gR hJ fl_X12_25 rfl dX12_actEither_52 (fun v9 => ?_)
      refine sj (j_iload_n hJ dX12_actEither_55 rfl 3 rfl) ?_
      refine sj_rI hJ dX12_actEither_56 (fun v10 => ?_)
      refine sj (j_sub hJ (L' := []) [] rfl) ?_
      exact w_X12_actEither_b57 hI σ p0 p1 v10 d5
theorem ct_X12_actEither {σ : St} {p0 : Nat} {p1 : Int32} {p2 : Int32} {δ : Dy} {r : Dy} (h : m_X12_actEither σ p0 p1 p2 δ = some r) : CT yX12_actEither cX12_actEither 4 none 6 141 0 0 [.ref p0, .int p1, .int p2] σ δ (none, σ, r) := CT_of (by decide +kernel) (Nat.le_of_ble_eq_true rfl) (fun J hI => w_X12_actEither hI σ p0 p1 p2 δ r h rfl)
def m_X12_primeOf (σ : St) (p0 : Int32) (δ : Dy) : Option Int32 :=
  if p0 = 0 then
    some (2 : Int32)
  else
    if p0 = (1 : Int32) then
      some (3 : Int32)
    else
      if p0 = (2 : Int32) then
        some (5 : Int32)
      else
        if p0 = (3 : Int32) then
          some (7 : Int32)
        else
          if p0 = (4 : Int32) then
            some (11 : Int32)
          else
            if p0 = (5 : Int32) then
              some (13 : Int32)
            else
              some (17 : Int32)
set_option maxHeartbeats 4000000 in
set_option maxRecDepth 100000 in
theorem w_X12_primeOf {J : JT} {an : Option Value × St × Dy} (hI : Isj cX12_primeOf 1 RX12 "primeOf" 0 0 (some .int) an J) {β : Bu} (σ : St) (p0 : Int32) (δ : Dy) : SJ (m_X12_primeOf σ p0 δ) (PIp σ δ an) (J 0 [(0, .int p0)] [] β σ δ) := by
  have hJ := hI.cor
  unfold m_X12_primeOf
  refine sj (j_iload_n hJ dX12_primeOf_0 rfl 0 rfl) ?_
  refine sj_if (j_if_ne hJ (tgt := 8) dX12_primeOf_1 (by decide)) (fun _ => ?_) (fun _ => ?_)
  · refine sj (j_iconst hJ (v := 2) dX12_primeOf_4 ic_2) ?_
    refine sj (j_goto hJ (tgt := 58) dX12_primeOf_5 (by decide)) ?_
    exact sj_iret hI dX12_primeOf_58 (fun h => h)
  · refine sj (j_iload_n hJ dX12_primeOf_8 rfl 0 rfl) ?_
    refine sj (j_iconst hJ (v := 1) dX12_primeOf_9 ic_1) ?_
    refine sj_if (j_icmp_ne hJ (tgt := 17) dX12_primeOf_10 (by decide)) (fun _ => ?_) (fun _ => ?_)
    · refine sj (j_iconst hJ (v := 3) dX12_primeOf_13 ic_3) ?_
      refine sj (j_goto hJ (tgt := 58) dX12_primeOf_14 (by decide)) ?_
      exact sj_iret hI dX12_primeOf_58 (fun h => h)
    · refine sj (j_iload_n hJ dX12_primeOf_17 rfl 0 rfl) ?_
      refine sj (j_iconst hJ (v := 2) dX12_primeOf_18 ic_2) ?_
      refine sj_if (j_icmp_ne hJ (tgt := 26) dX12_primeOf_19 (by decide)) (fun _ => ?_) (fun _ => ?_)
      · refine sj (j_iconst hJ (v := 5) dX12_primeOf_22 ic_5) ?_
        refine sj (j_goto hJ (tgt := 58) dX12_primeOf_23 (by decide)) ?_
        exact sj_iret hI dX12_primeOf_58 (fun h => h)
      · refine sj (j_iload_n hJ dX12_primeOf_26 rfl 0 rfl) ?_
        refine sj (j_iconst hJ (v := 3) dX12_primeOf_27 ic_3) ?_
        refine sj_if (j_icmp_ne hJ (tgt := 36) dX12_primeOf_28 (by decide)) (fun _ => ?_) (fun _ => ?_)
        · refine sj (j_bipush hJ (v := 7) dX12_primeOf_31 ib_7) ?_
          refine sj (j_goto hJ (tgt := 58) dX12_primeOf_33 (by decide)) ?_
          exact sj_iret hI dX12_primeOf_58 (fun h => h)
        · refine sj (j_iload_n hJ dX12_primeOf_36 rfl 0 rfl) ?_
          refine sj (j_iconst hJ (v := 4) dX12_primeOf_37 ic_4) ?_
          refine sj_if (j_icmp_ne hJ (tgt := 46) dX12_primeOf_38 (by decide)) (fun _ => ?_) (fun _ => ?_)
          · refine sj (j_bipush hJ (v := 11) dX12_primeOf_41 ib_11) ?_
            refine sj (j_goto hJ (tgt := 58) dX12_primeOf_43 (by decide)) ?_
            exact sj_iret hI dX12_primeOf_58 (fun h => h)
          · refine sj (j_iload_n hJ dX12_primeOf_46 rfl 0 rfl) ?_
            refine sj (j_iconst hJ (v := 5) dX12_primeOf_47 ic_5) ?_
            refine sj_if (j_icmp_ne hJ (tgt := 56) dX12_primeOf_48 (by decide)) (fun _ => ?_) (fun _ => ?_)
            · refine sj (j_bipush hJ (v := 13) dX12_primeOf_51 ib_13) ?_
              refine sj (j_goto hJ (tgt := 58) dX12_primeOf_53 (by decide)) ?_
              exact sj_iret hI dX12_primeOf_58 (fun h => h)
            · refine sj (j_bipush hJ (v := 17) dX12_primeOf_56 ib_17) ?_
              exact sj_iret hI dX12_primeOf_58 (fun h => h)
theorem ct_X12_primeOf {σ : St} {p0 : Int32} {δ : Dy} {r : Int32} (h : m_X12_primeOf σ p0 δ = some r) : CT yX12_primeOf cX12_primeOf 1 (some .int) 0 0 0 0 [.int p0] σ δ ((some (.int r)), σ, δ) := CT_of (by decide +kernel) (Nat.le_of_ble_eq_true rfl) (fun J hI => w_X12_primeOf hI σ p0 δ r h rfl)
def m_X12_countPrimes_b19 (σ : St) (p0 : Nat) (p2 : Int32) (p3 : Int32) (p4 : Int32) (p5 : Int32) (δ : Dy) : Option ((Int32 × Int32 × Dy) ⊕ Dy) := lp (fun (s : (Int32 × Dy)) =>
  (rmI s.1 p5).bind fun v2 =>
  if v2 = 0 then
    (dvI s.1 p5).bind fun v3 =>
    (gR σ 12 p0 0).bind fun v4 =>
    (rI σ s.2 v4 ((7031 : Int32) + p4)).bind fun v5 =>
    (wI σ s.2 v4 ((7031 : Int32) + p4) (v5 + p2)).bind fun d6 =>
    some (Sum.inl (v3, d6))
  else
    some (Sum.inr (Sum.inl (s.1, (p4 + (1 : Int32)), s.2)))) (p3, δ)
def m_X12_countPrimes_b5 (σ : St) (p0 : Nat) (p2 : Int32) (p3 : Int32) (p4 : Int32) (δ : Dy) : Option Dy := lp (fun (s : (Int32 × Int32 × Dy)) =>
  if (7 : Int32) ≤ s.2.1 then
    some (Sum.inr s.2.2)
  else
    (m_X12_primeOf σ s.2.1 s.2.2).bind fun v1 =>
    m_X12_countPrimes_b19 σ p0 p2 s.1 s.2.1 v1 s.2.2) (p3, p4, δ)
def m_X12_countPrimes (σ : St) (p0 : Nat) (p1 : Int32) (p2 : Int32) (δ : Dy) : Option Dy :=
  m_X12_countPrimes_b5 σ p0 p2 p1 (0 : Int32) δ
set_option maxHeartbeats 4000000 in
set_option maxRecDepth 100000 in
theorem w_X12_countPrimes_b19 {J : JT} {an : Option Value × St × Dy} (hI : Isj cX12_countPrimes 6 RX12 "countPrimes" 1 20 none an J) {β : Bu} (σ : St) (p0 : Nat) (p2 : Int32) (p3 : Int32) (p4 : Int32) (p5 : Int32) (δ : Dy) : SJ (m_X12_countPrimes_b19 σ p0 p2 p3 p4 p5 δ) (PL (fun s : (Int32 × Int32 × Dy) => J 5 [(0, .ref p0), (2, .int p2), (3, .int s.1), (4, .int s.2.1)] [] β σ s.2.2) (PV σ an)) (J 19 [(0, .ref p0), (2, .int p2), (3, .int p3), (4, .int p4), (5, .int p5)] [] β σ δ) := by
  have hJ := hI.cor
  unfold m_X12_countPrimes_b19
  refine sj_lp (G := fun s : (Int32 × Dy) => J 19 [(0, .ref p0), (2, .int p2), (3, .int s.1), (4, .int p4), (5, .int p5)] [] β σ s.2) (fun s => ?_) (p3, δ)
  refine sj (j_iload_n hJ dX12_countPrimes_19 rfl 2 rfl) ?_
  refine sj (j_iload hJ dX12_countPrimes_20 4 rfl) ?_
  refine sj_rmI hJ dX12_countPrimes_22 (fun v2 => ?_)
  refine sj_if (j_if_ne hJ (tgt := 49) dX12_countPrimes_23 (by decide)) (fun _ => ?_) (fun _ => ?_)
  · refine sj (j_iload_n hJ dX12_countPrimes_26 rfl 2 rfl) ?_
    refine sj (j_iload hJ dX12_countPrimes_27 4 rfl) ?_
    refine sj_dvI hJ dX12_countPrimes_29 (fun v3 => ?_)
    refine sj (j_istore_n hJ (L' := [(3, .int v3), (0, .ref p0), (2, .int p2), (4, .int p4), (5, .int p5)]) dX12_countPrimes_30 rfl (by decide) rfl) ?_
    refine sj (j_aload_n hJ dX12_countPrimes_31 rfl 1 rfl) ?_
    refine sj_gR hJ fl_X12_7 rfl dX12_countPrimes_32 (fun v4 => ?_)
    refine sj (j_sipush hJ (v := 7031) dX12_countPrimes_35 is_7031) ?_
    refine sj (j_iload hJ dX12_countPrimes_38 3 rfl) ?_
    refine sj (j_iadd hJ dX12_countPrimes_40) ?_
    refine sj (j_dup2 hJ dX12_countPrimes_41 rfl rfl) ?_
    refine sj_rI hJ dX12_countPrimes_42 (fun v5 => ?_)
    refine sj (j_iload_n hJ dX12_countPrimes_43 rfl 2 rfl) ?_
    refine sj (j_iadd hJ dX12_countPrimes_44) ?_
    refine sj_wI hJ dX12_countPrimes_45 (fun d6 => ?_)
    refine sj (j_goto hJ (tgt := 19) dX12_countPrimes_46 (by decide)) ?_
    refine sj (j_sub hJ (L' := [(0, .ref p0), (2, .int p2), (3, .int v3), (4, .int p4), (5, .int p5)]) [1, 2, 0, 3, 4] rfl) ?_
    exact sj_end (fun h => h)
  · refine sj (j_iinc hJ (L' := [(4, .int (p4 + (1 : Int32))), (0, .ref p0), (2, .int p2), (3, .int s.1), (5, .int p5)]) dX12_countPrimes_49 3 rfl (congrArg (fun z => p4 + z) ic_1) (by decide) rfl) ?_
    refine sj (j_goto hJ (tgt := 5) dX12_countPrimes_52 (by decide)) ?_
    refine sj (j_sub hJ (L' := [(0, .ref p0), (2, .int p2), (3, .int s.1), (4, .int (p4 + (1 : Int32)))]) [1, 2, 3, 0] rfl) ?_
    exact sj_end (fun h => h)
set_option maxHeartbeats 4000000 in
set_option maxRecDepth 100000 in
theorem w_X12_countPrimes_b5 {J : JT} {an : Option Value × St × Dy} (hI : Isj cX12_countPrimes 6 RX12 "countPrimes" 1 20 none an J) {β : Bu} (σ : St) (p0 : Nat) (p2 : Int32) (p3 : Int32) (p4 : Int32) (δ : Dy) : SJ (m_X12_countPrimes_b5 σ p0 p2 p3 p4 δ) (PV σ an) (J 5 [(0, .ref p0), (2, .int p2), (3, .int p3), (4, .int p4)] [] β σ δ) := by
  have hJ := hI.cor
  unfold m_X12_countPrimes_b5
  refine sj_lp (G := fun s : (Int32 × Int32 × Dy) => J 5 [(0, .ref p0), (2, .int p2), (3, .int s.1), (4, .int s.2.1)] [] β σ s.2.2) (fun s => ?_) (p3, p4, δ)
  refine sj (j_iload hJ dX12_countPrimes_5 3 rfl) ?_
  refine sj (j_bipush hJ (v := 7) dX12_countPrimes_7 ib_7) ?_
  refine sj_if (j_icmp_ge hJ (tgt := 55) dX12_countPrimes_9 (by decide)) (fun _ => ?_) (fun _ => ?_)
  · exact sj_vret hI dX12_countPrimes_55 (fun h => h)
  · refine sj (j_iload hJ dX12_countPrimes_12 3 rfl) ?_
    refine sj_callSip hJ [.int s.2.1] (st := []) (fr' := 0) (lo' := 0) ml_X12_279 (by decide) (by decide) (Nat.le_of_ble_eq_true rfl) dX12_countPrimes_14 rfl (fun _ h9 => ct_X12_primeOf h9) (fun v1 => ?_)
    refine sj (j_istore hJ (L' := [(5, .int v1), (0, .ref p0), (2, .int p2), (3, .int s.1), (4, .int s.2.1)]) dX12_countPrimes_17 (by decide) rfl) ?_
    refine sj (j_sub hJ (L' := [(0, .ref p0), (2, .int p2), (3, .int s.1), (4, .int s.2.1), (5, .int v1)]) [1, 2, 3, 4, 0] rfl) ?_
    exact w_X12_countPrimes_b19 hI σ p0 p2 s.1 s.2.1 v1 s.2.2
set_option maxHeartbeats 4000000 in
set_option maxRecDepth 100000 in
theorem w_X12_countPrimes {J : JT} {an : Option Value × St × Dy} (hI : Isj cX12_countPrimes 6 RX12 "countPrimes" 1 20 none an J) {β : Bu} (σ : St) (p0 : Nat) (p1 : Int32) (p2 : Int32) (δ : Dy) : SJ (m_X12_countPrimes σ p0 p1 p2 δ) (PV σ an) (J 0 [(0, .ref p0), (1, .int p1), (2, .int p2)] [] β σ δ) := by
  have hJ := hI.cor
  unfold m_X12_countPrimes
  refine sj (j_iload_n hJ dX12_countPrimes_0 rfl 1 rfl) ?_
  refine sj (j_istore_n hJ (L' := [(3, .int p1), (0, .ref p0), (1, .int p1), (2, .int p2)]) dX12_countPrimes_1 rfl (by decide) rfl) ?_
  refine sj (j_iconst hJ (v := 0) dX12_countPrimes_2 ic_0) ?_
  refine sj (j_istore hJ (L' := [(4, .int (0 : Int32)), (3, .int p1), (0, .ref p0), (1, .int p1), (2, .int p2)]) dX12_countPrimes_3 (by decide) rfl) ?_
  refine sj (j_sub hJ (L' := [(0, .ref p0), (2, .int p2), (3, .int p1), (4, .int (0 : Int32))]) [2, 4, 1, 0] rfl) ?_
  exact w_X12_countPrimes_b5 hI σ p0 p2 p1 (0 : Int32) δ
theorem ct_X12_countPrimes {σ : St} {p0 : Nat} {p1 : Int32} {p2 : Int32} {δ : Dy} {r : Dy} (h : m_X12_countPrimes σ p0 p1 p2 δ = some r) : CT yX12_countPrimes cX12_countPrimes 6 none 1 20 0 0 [.ref p0, .int p1, .int p2] σ δ (none, σ, r) := CT_of (by decide +kernel) (Nat.le_of_ble_eq_true rfl) (fun J hI => w_X12_countPrimes hI σ p0 p1 p2 δ r h rfl)
def m_X12_actLot_b124 (σ : St) (q0 : Nat) (q1 : Nat) (q2 : Int32) (q3 : Int32) (δ : Dy) : Option Dy :=
  (chk σ 12 q1).bind fun _ => (m_X12_another σ q1 q2 q3 δ).bind fun v21 =>
  (chk σ 12 q0).bind fun _ => (m_X12_enqueue σ q0 v21.1 v21.2).bind fun v22 =>
  some v22
def m_X12_actLot_b91 (σ : St) (p0 : Nat) (p1 : Int32) (p2 : Int32) (p3 : Int32) (p4 : Int32) (q0 : Nat) (q1 : Int32) (δ : Dy) : Option Dy :=
  (chk σ 12 q0).bind fun _ => (m_X12_countPrimes σ q0 q1 (1 : Int32) δ).bind fun v17 =>
  (chk σ 12 p0).bind fun _ => (m_X12_countPrimes σ p0 p3 (-1 : Int32) v17).bind fun v18 =>
  if p4 = 0 then
    (gR σ 12 p0 6).bind fun v19 =>
    (rI σ v18 v19 p2).bind fun v20 =>
    m_X12_actLot_b124 σ p0 p0 p1 v20 v18
  else
    (gR σ 12 p0 4).bind fun v23 =>
    (rI σ v18 v23 p2).bind fun v24 =>
    m_X12_actLot_b124 σ p0 p0 p1 v24 v18
def m_X12_actLot_b68 (σ : St) (p0 : Nat) (p1 : Int32) (p2 : Int32) (p3 : Int32) (q0 : Int32) (δ : Dy) : Option Dy :=
  if q0 = 0 then
    (gR σ 12 p0 5).bind fun v15 =>
    (rI σ δ v15 p2).bind fun v16 =>
    m_X12_actLot_b91 σ p0 p1 p2 p3 q0 p0 v16 δ
  else
    (gR σ 12 p0 3).bind fun v25 =>
    (rI σ δ v25 p2).bind fun v26 =>
    m_X12_actLot_b91 σ p0 p1 p2 p3 q0 p0 v26 δ
def m_X12_actLot (σ : St) (p0 : Nat) (p1 : Int32) (p2 : Int32) (δ : Dy) : Option Dy :=
  (gR σ 12 p0 0).bind fun v1 =>
  (gR σ 12 p0 0).bind fun v2 =>
  (rI σ δ v2 (7038 : Int32)).bind fun v3 =>
  (rmL (((75 : Int64) * (v3).toInt64) + (74 : Int64)) (65537 : Int64)).bind fun v4 =>
  (wI σ δ v1 (7038 : Int32) (v4).toInt32).bind fun d5 =>
  (gR σ 12 p0 3).bind fun v6 =>
  (rI σ d5 v6 p2).bind fun v7 =>
  (gR σ 12 p0 5).bind fun v8 =>
  (rI σ d5 v8 p2).bind fun v9 =>
  (gR σ 12 p0 0).bind fun v10 =>
  (rI σ d5 v10 (7038 : Int32)).bind fun v11 =>
  (rmI v11 (v7 + v9)).bind fun v12 =>
  (gR σ 12 p0 3).bind fun v13 =>
  (rI σ d5 v13 p2).bind fun v14 =>
  if v14 ≤ v12 then
    m_X12_actLot_b68 σ p0 p1 p2 (v7 + v9) (0 : Int32) d5
  else
    m_X12_actLot_b68 σ p0 p1 p2 (v7 + v9) (1 : Int32) d5
set_option maxHeartbeats 4000000 in
set_option maxRecDepth 100000 in
theorem w_X12_actLot_b124 {J : JT} {an : Option Value × St × Dy} (hI : Isj cX12_actLot 5 RX12 "actLot" 2 45 none an J) {β : Bu} (σ : St) (q0 : Nat) (q1 : Nat) (q2 : Int32) (q3 : Int32) (δ : Dy) : SJ (m_X12_actLot_b124 σ q0 q1 q2 q3 δ) (PV σ an) (J 124 [] [.int q3, .int q2, .ref q1, .ref q0] β σ δ) := by
  have hJ := hI.cor
  unfold m_X12_actLot_b124
  refine sj_callVi hJ [.int q2, .int q3] (st := [.ref q0]) (fr' := 0) (lo' := 0) ml_X12_261 hc_12 (by decide) (by decide) (Nat.le_of_ble_eq_true rfl) dX12_actLot_124 rfl (fun _ h9 => ct_X12_another h9) (fun v21 => ?_)
  refine sj_callVv hJ [.int v21.1] (st := []) (fr' := 0) (lo' := 0) ml_X12_264 hc_12 (by decide) (by decide) (Nat.le_of_ble_eq_true rfl) dX12_actLot_127 rfl (fun _ h9 => ct_X12_enqueue h9) (fun v22 => ?_)
  exact sj_vret hI dX12_actLot_130 (fun h => h)
set_option maxHeartbeats 4000000 in
set_option maxRecDepth 100000 in
theorem w_X12_actLot_b91 {J : JT} {an : Option Value × St × Dy} (hI : Isj cX12_actLot 5 RX12 "actLot" 2 45 none an J) {β : Bu} (σ : St) (p0 : Nat) (p1 : Int32) (p2 : Int32) (p3 : Int32) (p4 : Int32) (q0 : Nat) (q1 : Int32) (δ : Dy) : SJ (m_X12_actLot_b91 σ p0 p1 p2 p3 p4 q0 q1 δ) (PV σ an) (J 91 [(0, .ref p0), (1, .int p1), (2, .int p2), (3, .int p3), (4, .int p4)] [.int q1, .ref q0] β σ δ) := by
  have hJ := hI.cor
  unfold m_X12_actLot_b91
  refine sj (j_iconst hJ (v := 1) dX12_actLot_91 ic_1) ?_
  refine sj_callVv hJ [.int q1, .int (1 : Int32)] (st := []) (fr' := 1) (lo' := 20) ml_X12_288 hc_12 (by decide) (by decide) (Nat.le_of_ble_eq_true rfl) dX12_actLot_92 rfl (fun _ h9 => ct_X12_countPrimes h9) (fun v17 => ?_)
  refine sj (j_aload_n hJ dX12_actLot_95 rfl 0 rfl) ?_
  refine sj (j_iload_n hJ dX12_actLot_96 rfl 3 rfl) ?_
  refine sj (j_iconst hJ (v := -1) dX12_actLot_97 ic_m1) ?_
  refine sj_callVv hJ [.int p3, .int (-1 : Int32)] (st := []) (fr' := 1) (lo' := 20) ml_X12_288 hc_12 (by decide) (by decide) (Nat.le_of_ble_eq_true rfl) dX12_actLot_98 rfl (fun _ h9 => ct_X12_countPrimes h9) (fun v18 => ?_)
  refine sj (j_aload_n hJ dX12_actLot_101 rfl 0 rfl) ?_
  refine sj (j_aload_n hJ dX12_actLot_102 rfl 0 rfl) ?_
  refine sj (j_iload_n hJ dX12_actLot_103 rfl 1 rfl) ?_
  refine sj (j_iload hJ dX12_actLot_104 4 rfl) ?_
  refine sj_if (j_if_eq hJ (tgt := 118) dX12_actLot_106 (by decide)) (fun _ => ?_) (fun _ => ?_)
  · refine sj (j_aload_n hJ dX12_actLot_118 rfl 0 rfl) ?_
    refine sj_gR hJ fl_X12_28 rfl dX12_actLot_119 (fun v19 => ?_)
    refine sj (j_iload_n hJ dX12_actLot_122 rfl 2 rfl) ?_
    refine sj_rI hJ dX12_actLot_123 (fun v20 => ?_)
    refine sj (j_sub hJ (L' := []) [] rfl) ?_
    exact w_X12_actLot_b124 hI σ p0 p0 p1 v20 v18
  · refine sj (j_aload_n hJ dX12_actLot_109 rfl 0 rfl) ?_
    refine sj_gR hJ fl_X12_22 rfl dX12_actLot_110 (fun v23 => ?_)
    refine sj (j_iload_n hJ dX12_actLot_113 rfl 2 rfl) ?_
    refine sj_rI hJ dX12_actLot_114 (fun v24 => ?_)
    refine sj (j_goto hJ (tgt := 124) dX12_actLot_115 (by decide)) ?_
    refine sj (j_sub hJ (L' := []) [] rfl) ?_
    exact w_X12_actLot_b124 hI σ p0 p0 p1 v24 v18
set_option maxHeartbeats 4000000 in
set_option maxRecDepth 100000 in
theorem w_X12_actLot_b68 {J : JT} {an : Option Value × St × Dy} (hI : Isj cX12_actLot 5 RX12 "actLot" 2 45 none an J) {β : Bu} (σ : St) (p0 : Nat) (p1 : Int32) (p2 : Int32) (p3 : Int32) (q0 : Int32) (δ : Dy) : SJ (m_X12_actLot_b68 σ p0 p1 p2 p3 q0 δ) (PV σ an) (J 68 [(0, .ref p0), (1, .int p1), (2, .int p2), (3, .int p3)] [.int q0] β σ δ) := by
  have hJ := hI.cor
  unfold m_X12_actLot_b68
  refine sj (j_istore hJ (L' := [(4, .int q0), (0, .ref p0), (1, .int p1), (2, .int p2), (3, .int p3)]) dX12_actLot_68 (by decide) rfl) ?_
  refine sj (j_aload_n hJ dX12_actLot_70 rfl 1 rfl) ?_
  refine sj (j_iload hJ dX12_actLot_71 0 rfl) ?_
  refine sj_if (j_if_eq hJ (tgt := 85) dX12_actLot_73 (by decide)) (fun _ => ?_) (fun _ => ?_)
  · refine sj (j_aload_n hJ dX12_actLot_85 rfl 1 rfl) ?_
    refine sj_gR hJ fl_X12_25 rfl dX12_actLot_86 (fun v15 => ?_)
    refine sj (j_iload_n hJ dX12_actLot_89 rfl 3 rfl) ?_
    refine sj_rI hJ dX12_actLot_90 (fun v16 => ?_)
    refine sj (j_sub hJ (L' := [(0, .ref p0), (1, .int p1), (2, .int p2), (3, .int p3), (4, .int q0)]) [1, 2, 3, 4, 0] rfl) ?_
    exact w_X12_actLot_b91 hI σ p0 p1 p2 p3 q0 p0 v16 δ
  · refine sj (j_aload_n hJ dX12_actLot_76 rfl 1 rfl) ?_
    refine sj_gR hJ fl_X12_19 rfl dX12_actLot_77 (fun v25 => ?_)
    refine sj (j_iload_n hJ dX12_actLot_80 rfl 3 rfl) ?_
    refine sj_rI hJ dX12_actLot_81 (fun v26 => ?_)
    refine sj (j_goto hJ (tgt := 91) dX12_actLot_82 (by decide)) ?_
    refine sj (j_sub hJ (L' := [(0, .ref p0), (1, .int p1), (2, .int p2), (3, .int p3), (4, .int q0)]) [1, 2, 3, 4, 0] rfl) ?_
    exact w_X12_actLot_b91 hI σ p0 p1 p2 p3 q0 p0 v26 δ
set_option maxHeartbeats 4000000 in
set_option maxRecDepth 100000 in
theorem w_X12_actLot {J : JT} {an : Option Value × St × Dy} (hI : Isj cX12_actLot 5 RX12 "actLot" 2 45 none an J) {β : Bu} (σ : St) (p0 : Nat) (p1 : Int32) (p2 : Int32) (δ : Dy) : SJ (m_X12_actLot σ p0 p1 p2 δ) (PV σ an) (J 0 [(0, .ref p0), (1, .int p1), (2, .int p2)] [] β σ δ) := by
  have hJ := hI.cor
  unfold m_X12_actLot
  refine sj (j_aload_n hJ dX12_actLot_0 rfl 0 rfl) ?_
  refine sj_gR hJ fl_X12_7 rfl dX12_actLot_1 (fun v1 => ?_)
  refine sj (j_sipush hJ (v := 7038) dX12_actLot_4 is_7038) ?_
  refine sj (j_ldc2 hJ (v := 75) dX12_actLot_7 wd_2088) ?_
  refine sj (j_aload_n hJ dX12_actLot_10 rfl 0 rfl) ?_
  refine sj_gR hJ fl_X12_7 rfl dX12_actLot_11 (fun v2 => ?_)
  refine sj (j_sipush hJ (v := 7038) dX12_actLot_14 is_7038) ?_
  refine sj_rI hJ dX12_actLot_17 (fun v3 => ?_)
  refine sj (j_i2l hJ dX12_actLot_18) ?_
  refine sj (j_lmul hJ dX12_actLot_19) ?_
  refine sj (j_ldc2 hJ (v := 74) dX12_actLot_20 wd_2089) ?_
  refine sj (j_ladd hJ dX12_actLot_23) ?_
  refine sj (j_ldc2 hJ (v := 65537) dX12_actLot_24 wd_2090) ?_
  refine sj_rmL hJ dX12_actLot_27 (fun v4 => ?_)
  refine sj (j_l2i hJ dX12_actLot_28) ?_
  refine sj_wI hJ dX12_actLot_29 (fun d5 => ?_)
  refine sj (j_aload_n hJ dX12_actLot_30 rfl 0 rfl) ?_
  refine sj_gR hJ fl_X12_19 rfl dX12_actLot_31 (fun v6 => ?_)
  refine sj (j_iload_n hJ dX12_actLot_34 rfl 2 rfl) ?_
  refine sj_rI hJ dX12_actLot_35 (fun v7 => ?_)
  refine sj (j_aload_n hJ dX12_actLot_36 rfl 0 rfl) ?_
  refine sj_gR hJ fl_X12_25 rfl dX12_actLot_37 (fun v8 => ?_)
  refine sj (j_iload_n hJ dX12_actLot_40 rfl 2 rfl) ?_
  refine sj_rI hJ dX12_actLot_41 (fun v9 => ?_)
  refine sj (j_iadd hJ dX12_actLot_42) ?_
  refine sj (j_istore_n hJ (L' := [(3, .int (v7 + v9)), (0, .ref p0), (1, .int p1), (2, .int p2)]) dX12_actLot_43 rfl (by decide) rfl) ?_
  refine sj (j_aload_n hJ dX12_actLot_44 rfl 1 rfl) ?_
  refine sj_gR hJ fl_X12_7 rfl dX12_actLot_45 (fun v10 => ?_)
  refine sj (j_sipush hJ (v := 7038) dX12_actLot_48 is_7038) ?_
  refine sj_rI hJ dX12_actLot_51 (fun v11 => ?_)
  refine sj (j_iload_n hJ dX12_actLot_52 rfl 0 rfl) ?_
  refine sj_rmI hJ dX12_actLot_53 (fun v12 => ?_)
  refine sj (j_aload_n hJ dX12_actLot_54 rfl 1 rfl) ?_
  refine sj_gR hJ fl_X12_19 rfl dX12_actLot_55 (fun v13 => ?_)
  refine sj (j_iload_n hJ dX12_actLot_58 rfl 3 rfl) ?_
  refine sj_rI hJ dX12_actLot_59 (fun v14 => ?_)
  refine sj_if (j_icmp_ge hJ (tgt := 67) dX12_actLot_60 (by decide)) (fun _ => ?_) (fun _ => ?_)
  · refine sj (j_iconst hJ (v := 0) dX12_actLot_67 ic_0) ?_
    refine sj (j_sub hJ (L' := [(0, .ref p0), (1, .int p1), (2, .int p2), (3, .int (v7 + v9))]) [1, 2, 3, 0] rfl) ?_
    exact w_X12_actLot_b68 hI σ p0 p1 p2 (v7 + v9) (0 : Int32) d5
  · refine sj (j_iconst hJ (v := 1) dX12_actLot_63 ic_1) ?_
    refine sj (j_goto hJ (tgt := 68) dX12_actLot_64 (by decide)) ?_
    refine sj (j_sub hJ (L' := [(0, .ref p0), (1, .int p1), (2, .int p2), (3, .int (v7 + v9))]) [1, 2, 3, 0] rfl) ?_
    exact w_X12_actLot_b68 hI σ p0 p1 p2 (v7 + v9) (1 : Int32) d5
theorem ct_X12_actLot {σ : St} {p0 : Nat} {p1 : Int32} {p2 : Int32} {δ : Dy} {r : Dy} (h : m_X12_actLot σ p0 p1 p2 δ = some r) : CT yX12_actLot cX12_actLot 5 none 2 45 0 0 [.ref p0, .int p1, .int p2] σ δ (none, σ, r) := CT_of (by decide +kernel) (Nat.le_of_ble_eq_true rfl) (fun J hI => w_X12_actLot hI σ p0 p1 p2 δ r h rfl)
