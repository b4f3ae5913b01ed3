def m_X12_isEnd_b48 (σ : St) (p0 : Nat) (p1 : Int32) (p3 : Int32) (q0 : Int32) (δ : Dy) : Option ((Int32 × Int32) ⊕ Int32) :=
  some (Sum.inl (q0, (p3 + (1 : Int32))))
def m_X12_isEnd_b4 (σ : St) (p0 : Nat) (p1 : Int32) (p2 : Int32) (p3 : Int32) (δ : Dy) : Option Int32 := lp (fun (s : (Int32 × Int32)) =>
  (gR σ 12 p0 48).bind fun v1 =>
  (rI σ δ v1 (61 : Int32)).bind fun v2 =>
  if ((62 : Int32) + v2) ≤ s.2 then
    (zo s.1).bind fun _ => some (Sum.inr s.1)
  else
    if s.1 = 0 then
      (zo s.1).bind fun _ => some (Sum.inr s.1)
    else
      (gR σ 12 p0 45).bind fun v3 =>
      (rI σ δ v3 (((170 : Int32) * p1) + s.2)).bind fun v4 =>
      (gR σ 12 p0 48).bind fun v5 =>
      (rI σ δ v5 s.2).bind fun v6 =>
      if v4 = v6 then
        m_X12_isEnd_b48 σ p0 p1 s.2 (1 : Int32) δ
      else
        m_X12_isEnd_b48 σ p0 p1 s.2 (0 : Int32) δ) (p2, p3)
def m_X12_isEnd (σ : St) (p0 : Nat) (p1 : Int32) (δ : Dy) : Option Int32 :=
  m_X12_isEnd_b4 σ p0 p1 (1 : Int32) (0 : Int32) δ
set_option maxHeartbeats 4000000 in
set_option maxRecDepth 100000 in
theorem w_X12_isEnd_b48 {J : JT} {an : Option Value × St × Dy} (hI : Isj cX12_isEnd 4 RX12 "isEnd" 0 0 (some .boolean) an J) {β : Bu} (σ : St) (p0 : Nat) (p1 : Int32) (p3 : Int32) (q0 : Int32) (δ : Dy) : SJ (m_X12_isEnd_b48 σ p0 p1 p3 q0 δ) (PL (fun s : (Int32 × Int32) => J 4 [(0, .ref p0), (1, .int p1), (2, .int s.1), (3, .int s.2)] [] β σ δ) (PIp σ δ an)) (J 48 [(0, .ref p0), (1, .int p1), (3, .int p3)] [.int q0] β σ δ) := by
  have hJ := hI.cor
  unfold m_X12_isEnd_b48
  refine sj (j_istore_n hJ (L' := [(2, .int q0), (0, .ref p0), (1, .int p1), (3, .int p3)]) dX12_isEnd_48 rfl (by decide) rfl) ?_
  refine sj (j_iinc hJ (L' := [(3, .int (p3 + (1 : Int32))), (2, .int q0), (0, .ref p0), (1, .int p1)]) dX12_isEnd_49 3 rfl (congrArg (fun z => p3 + z) ic_1) (by decide) rfl) ?_
  refine sj (j_goto hJ (tgt := 4) dX12_isEnd_52 (by decide)) ?_
  refine sj (j_sub hJ (L' := [(0, .ref p0), (1, .int p1), (2, .int q0), (3, .int (p3 + (1 : Int32)))]) [2, 3, 1, 0] rfl) ?_
  exact sj_end (fun h => h)
set_option maxHeartbeats 4000000 in
set_option maxRecDepth 100000 in
theorem w_X12_isEnd_b4 {J : JT} {an : Option Value × St × Dy} (hI : Isj cX12_isEnd 4 RX12 "isEnd" 0 0 (some .boolean) an J) {β : Bu} (σ : St) (p0 : Nat) (p1 : Int32) (p2 : Int32) (p3 : Int32) (δ : Dy) : SJ (m_X12_isEnd_b4 σ p0 p1 p2 p3 δ) (PIp σ δ an) (J 4 [(0, .ref p0), (1, .int p1), (2, .int p2), (3, .int p3)] [] β σ δ) := by
  have hJ := hI.cor
  unfold m_X12_isEnd_b4
  refine sj_lp (G := fun s : (Int32 × Int32) => J 4 [(0, .ref p0), (1, .int p1), (2, .int s.1), (3, .int s.2)] [] β σ δ) (fun s => ?_) (p2, p3)
  refine sj (j_iload_n hJ dX12_isEnd_4 rfl 3 rfl) ?_
  refine sj (j_bipush hJ (v := 62) dX12_isEnd_5 ib_62) ?_
  refine sj (j_aload_n hJ dX12_isEnd_7 rfl 0 rfl) ?_
  refine sj_gR hJ fl_X12_115 rfl dX12_isEnd_8 (fun v1 => ?_)
  refine sj (j_bipush hJ (v := 61) dX12_isEnd_11 ib_61) ?_
  refine sj_rI hJ dX12_isEnd_13 (fun v2 => ?_)
  refine sj (j_iadd hJ dX12_isEnd_14) ?_
  refine sj_if (j_icmp_ge hJ (tgt := 55) dX12_isEnd_15 (by decide)) (fun _ => ?_) (fun _ => ?_)
  · refine sj (j_iload_n hJ dX12_isEnd_55 rfl 2 rfl) ?_
    exact sj_zretG hI dX12_isEnd_56 (fun h => h)
  · refine sj (j_iload_n hJ dX12_isEnd_18 rfl 2 rfl) ?_
    refine sj_if (j_if_eq hJ (tgt := 55) dX12_isEnd_19 (by decide)) (fun _ => ?_) (fun _ => ?_)
    · refine sj (j_iload_n hJ dX12_isEnd_55 rfl 2 rfl) ?_
      exact sj_zretG hI dX12_isEnd_56 (fun h => h)
    · refine sj (j_aload_n hJ dX12_isEnd_22 rfl 0 rfl) ?_
      refine sj_gR hJ fl_X12_109 rfl dX12_isEnd_23 (fun v3 => ?_)
      refine sj (j_sipush hJ (v := 170) dX12_isEnd_26 is_170) ?_
      refine sj (j_iload_n hJ dX12_isEnd_29 rfl 1 rfl) ?_
      refine sj (j_imul hJ dX12_isEnd_30) ?_
      refine sj (j_iload_n hJ dX12_isEnd_31 rfl 3 rfl) ?_
      refine sj (j_iadd hJ dX12_isEnd_32) ?_
      refine sj_rI hJ dX12_isEnd_33 (fun v4 => ?_)
      refine sj (j_aload_n hJ dX12_isEnd_34 rfl 0 rfl) ?_
      refine sj_gR hJ fl_X12_115 rfl dX12_isEnd_35 (fun v5 => ?_)
      refine sj (j_iload_n hJ dX12_isEnd_38 rfl 3 rfl) ?_
      refine sj_rI hJ dX12_isEnd_39 (fun v6 => ?_)
      refine sj_if (j_icmp_ne hJ (tgt := 47) dX12_isEnd_40 (by decide)) (fun _ => ?_) (fun _ => ?_)
      · refine sj (j_iconst hJ (v := 1) dX12_isEnd_43 ic_1) ?_
        refine sj (j_goto hJ (tgt := 48) dX12_isEnd_44 (by decide)) ?_
        refine sj (j_sub hJ (L' := [(0, .ref p0), (1, .int p1), (3, .int s.2)]) [0, 1, 3] rfl) ?_
        exact w_X12_isEnd_b48 hI σ p0 p1 s.2 (1 : Int32) δ
      · refine sj (j_iconst hJ (v := 0) dX12_isEnd_47 ic_0) ?_
        refine sj (j_sub hJ (L' := [(0, .ref p0), (1, .int p1), (3, .int s.2)]) [0, 1, 3] rfl) ?_
        exact w_X12_isEnd_b48 hI σ p0 p1 s.2 (0 : Int32) δ
set_option maxHeartbeats 4000000 in
set_option maxRecDepth 100000 in
theorem w_X12_isEnd {J : JT} {an : Option Value × St × Dy} (hI : Isj cX12_isEnd 4 RX12 "isEnd" 0 0 (some .boolean) an J) {β : Bu} (σ : St) (p0 : Nat) (p1 : Int32) (δ : Dy) : SJ (m_X12_isEnd σ p0 p1 δ) (PIp σ δ an) (J 0 [(0, .ref p0), (1, .int p1)] [] β σ δ) := by
  have hJ := hI.cor
  unfold m_X12_isEnd
  refine sj (j_iconst hJ (v := 1) dX12_isEnd_0 ic_1) ?_
  refine sj (j_istore_n hJ (L' := [(2, .int (1 : Int32)), (0, .ref p0), (1, .int p1)]) dX12_isEnd_1 rfl (by decide) rfl) ?_
  refine sj (j_iconst hJ (v := 0) dX12_isEnd_2 ic_0) ?_
  refine sj (j_istore_n hJ (L' := [(3, .int (0 : Int32)), (2, .int (1 : Int32)), (0, .ref p0), (1, .int p1)]) dX12_isEnd_3 rfl (by decide) rfl) ?_
  refine sj (j_sub hJ (L' := [(0, .ref p0), (1, .int p1), (2, .int (1 : Int32)), (3, .int (0 : Int32))]) [2, 3, 1, 0] rfl) ?_
  exact w_X12_isEnd_b4 hI σ p0 p1 (1 : Int32) (0 : Int32) δ
theorem ct_X12_isEnd {σ : St} {p0 : Nat} {p1 : Int32} {δ : Dy} {r : Int32} (h : m_X12_isEnd σ p0 p1 δ = some r) : CT yX12_isEnd cX12_isEnd 4 (some .boolean) 0 0 0 0 [.ref p0, .int p1] σ δ ((some (.int r)), σ, δ) := CT_of (by decide +kernel) (Nat.le_of_ble_eq_true rfl) (fun J hI => w_X12_isEnd hI σ p0 p1 δ r h rfl)
def m_X12_keepEnd_b27 (σ : St) (p0 : Nat) (p1 : Int32) (δ : Dy) : Option Dy := lp (fun (s : (Int32 × Dy)) =>
  (gR σ 12 p0 48).bind fun v2 =>
  (rI σ s.2 v2 (61 : Int32)).bind fun v3 =>
  if ((62 : Int32) + v3) ≤ s.1 then
    (gI σ s.2 12 p0 47).bind fun v4 =>
    (pI σ s.2 12 p0 47 (v4 + (1 : Int32))).bind fun d5 =>
    some (Sum.inr d5)
  else
    (gR σ 12 p0 45).bind fun v6 =>
    (gI σ s.2 12 p0 47).bind fun v7 =>
    (gR σ 12 p0 48).bind fun v8 =>
    (rI σ s.2 v8 s.1).bind fun v9 =>
    (wI σ s.2 v6 (((170 : Int32) * v7) + s.1) v9).bind fun d10 =>
    some (Sum.inl ((s.1 + (1 : Int32)), d10))) (p1, δ)
def m_X12_keepEnd_b2 (σ : St) (p0 : Nat) (p1 : Int32) (δ : Dy) : Option Dy := lp (fun (s : (Int32)) =>
  (gI σ δ 12 p0 47).bind fun v1 =>
  if v1 ≤ s then
    (m_X12_keepEnd_b27 σ p0 (0 : Int32) δ).bind fun r => some (Sum.inr r)
  else
    (chk σ 12 p0).bind fun _ => (m_X12_isEnd σ p0 s δ).bind fun v11 =>
    if v11 = 0 then
      some (Sum.inl (s + (1 : Int32)))
    else
      some (Sum.inr δ)) (p1)
def m_X12_keepEnd (σ : St) (p0 : Nat) (δ : Dy) : Option Dy :=
  m_X12_keepEnd_b2 σ p0 (0 : Int32) δ
set_option maxHeartbeats 4000000 in
set_option maxRecDepth 100000 in
theorem w_X12_keepEnd_b27 {J : JT} {an : Option Value × St × Dy} (hI : Isj cX12_keepEnd 2 RX12 "keepEnd" 1 23 none an J) {β : Bu} (σ : St) (p0 : Nat) (p1 : Int32) (δ : Dy) : SJ (m_X12_keepEnd_b27 σ p0 p1 δ) (PV σ an) (J 27 [(0, .ref p0), (1, .int p1)] [] β σ δ) := by
  have hJ := hI.cor
  unfold m_X12_keepEnd_b27
  refine sj_lp (G := fun s : (Int32 × Dy) => J 27 [(0, .ref p0), (1, .int s.1)] [] β σ s.2) (fun s => ?_) (p1, δ)
  refine sj (j_iload_n hJ dX12_keepEnd_27 rfl 1 rfl) ?_
  refine sj (j_bipush hJ (v := 62) dX12_keepEnd_28 ib_62) ?_
  refine sj (j_aload_n hJ dX12_keepEnd_30 rfl 0 rfl) ?_
  refine sj_gR hJ fl_X12_115 rfl dX12_keepEnd_31 (fun v2 => ?_)
  refine sj (j_bipush hJ (v := 61) dX12_keepEnd_34 ib_61) ?_
  refine sj_rI hJ dX12_keepEnd_36 (fun v3 => ?_)
  refine sj (j_iadd hJ dX12_keepEnd_37) ?_
  refine sj_if (j_icmp_ge hJ (tgt := 68) dX12_keepEnd_38 (by decide)) (fun _ => ?_) (fun _ => ?_)
  · refine sj (j_aload_n hJ dX12_keepEnd_68 rfl 0 rfl) ?_
    refine sj (j_dup hJ dX12_keepEnd_69 rfl) ?_
    refine sj_gI hJ fl_X12_352 (Or.inl rfl) dX12_keepEnd_70 (fun v4 => ?_)
    refine sj (j_iconst hJ (v := 1) dX12_keepEnd_73 ic_1) ?_
    refine sj (j_iadd hJ dX12_keepEnd_74) ?_
    refine sj_pI hJ fl_X12_352 rfl dX12_keepEnd_75 (fun d5 => ?_)
    exact sj_vret hI dX12_keepEnd_78 (fun h => h)
  · refine sj (j_aload_n hJ dX12_keepEnd_41 rfl 0 rfl) ?_
    refine sj_gR hJ fl_X12_109 rfl dX12_keepEnd_42 (fun v6 => ?_)
    refine sj (j_sipush hJ (v := 170) dX12_keepEnd_45 is_170) ?_
    refine sj (j_aload_n hJ dX12_keepEnd_48 rfl 0 rfl) ?_
    refine sj_gI hJ fl_X12_352 (Or.inl rfl) dX12_keepEnd_49 (fun v7 => ?_)
    refine sj (j_imul hJ dX12_keepEnd_52) ?_
    refine sj (j_iload_n hJ dX12_keepEnd_53 rfl 1 rfl) ?_
    refine sj (j_iadd hJ dX12_keepEnd_54) ?_
    refine sj (j_aload_n hJ dX12_keepEnd_55 rfl 0 rfl) ?_
    refine sj_gR hJ fl_X12_115 rfl dX12_keepEnd_56 (fun v8 => ?_)
    refine sj (j_iload_n hJ dX12_keepEnd_59 rfl 1 rfl) ?_
    refine sj_rI hJ dX12_keepEnd_60 (fun v9 => ?_)
    refine sj_wI hJ dX12_keepEnd_61 (fun d10 => ?_)
    refine sj (j_iinc hJ (L' := [(1, .int (s.1 + (1 : Int32))), (0, .ref p0)]) dX12_keepEnd_62 1 rfl (congrArg (fun z => s.1 + z) ic_1) (by decide) rfl) ?_
    refine sj (j_goto hJ (tgt := 27) dX12_keepEnd_65 (by decide)) ?_
    refine sj (j_sub hJ (L' := [(0, .ref p0), (1, .int (s.1 + (1 : Int32)))]) [1, 0] rfl) ?_
    exact sj_end (fun h => h)
set_option maxHeartbeats 4000000 in
set_option maxRecDepth 100000 in
theorem w_X12_keepEnd_b2 {J : JT} {an : Option Value × St × Dy} (hI : Isj cX12_keepEnd 2 RX12 "keepEnd" 1 23 none an J) {β : Bu} (σ : St) (p0 : Nat) (p1 : Int32) (δ : Dy) : SJ (m_X12_keepEnd_b2 σ p0 p1 δ) (PV σ an) (J 2 [(0, .ref p0), (1, .int p1)] [] β σ δ) := by
  have hJ := hI.cor
  unfold m_X12_keepEnd_b2
  refine sj_lp (G := fun s : (Int32) => J 2 [(0, .ref p0), (1, .int s)] [] β σ δ) (fun s => ?_) (p1)
  refine sj (j_iload_n hJ dX12_keepEnd_2 rfl 1 rfl) ?_
  refine sj (j_aload_n hJ dX12_keepEnd_3 rfl 0 rfl) ?_
  refine sj_gI hJ fl_X12_352 (Or.inl rfl) dX12_keepEnd_4 (fun v1 => ?_)
  refine sj_if (j_icmp_ge hJ (tgt := 25) dX12_keepEnd_7 (by decide)) (fun _ => ?_) (fun _ => ?_)
  · refine sj (j_iconst hJ (v := 0) dX12_keepEnd_25 ic_0) ?_
    refine sj (j_istore_n hJ (L' := [(1, .int (0 : Int32)), (0, .ref p0)]) dX12_keepEnd_26 rfl (by decide) rfl) ?_
    refine sj (j_sub hJ (L' := [(0, .ref p0), (1, .int (0 : Int32))]) [1, 0] rfl) ?_
    refine sj_map ?_
    exact w_X12_keepEnd_b27 hI σ p0 (0 : Int32) δ
  · refine sj (j_aload_n hJ dX12_keepEnd_10 rfl 0 rfl) ?_
    refine sj (j_iload_n hJ dX12_keepEnd_11 rfl 1 rfl) ?_
    refine sj_callVip hJ [.int s] (st := []) (fr' := 0) (lo' := 0) ml_X12_355 hc_12 (by decide) (by decide) (Nat.le_of_ble_eq_true rfl) dX12_keepEnd_12 rfl (fun _ h9 => ct_X12_isEnd h9) (fun v11 => ?_)
    refine sj_if (j_if_eq hJ (tgt := 19) dX12_keepEnd_15 (by decide)) (fun _ => ?_) (fun _ => ?_)
    · refine sj (j_iinc hJ (L' := [(1, .int (s + (1 : Int32))), (0, .ref p0)]) dX12_keepEnd_19 1 rfl (congrArg (fun z => s + z) ic_1) (by decide) rfl) ?_
      refine sj (j_goto hJ (tgt := 2) dX12_keepEnd_22 (by decide)) ?_
      refine sj (j_sub hJ (L' := [(0, .ref p0), (1, .int (s + (1 : Int32)))]) [1, 0] rfl) ?_
      exact sj_end (fun h => h)
    · exact sj_vret hI dX12_keepEnd_18 (fun h => h)
set_option maxHeartbeats 4000000 in
set_option maxRecDepth 100000 in
theorem w_X12_keepEnd {J : JT} {an : Option Value × St × Dy} (hI : Isj cX12_keepEnd 2 RX12 "keepEnd" 1 23 none an J) {β : Bu} (σ : St) (p0 : Nat) (δ : Dy) : SJ (m_X12_keepEnd σ p0 δ) (PV σ an) (J 0 [(0, .ref p0)] [] β σ δ) := by
  have hJ := hI.cor
  unfold m_X12_keepEnd
  refine sj (j_iconst hJ (v := 0) dX12_keepEnd_0 ic_0) ?_
  refine sj (j_istore_n hJ (L' := [(1, .int (0 : Int32)), (0, .ref p0)]) dX12_keepEnd_1 rfl (by decide) rfl) ?_
  refine sj (j_sub hJ (L' := [(0, .ref p0), (1, .int (0 : Int32))]) [1, 0] rfl) ?_
  exact w_X12_keepEnd_b2 hI σ p0 (0 : Int32) δ
theorem ct_X12_keepEnd {σ : St} {p0 : Nat} {δ : Dy} {r : Dy} (h : m_X12_keepEnd σ p0 δ = some r) : CT yX12_keepEnd cX12_keepEnd 2 none 1 23 0 0 [.ref p0] σ δ (none, σ, r) := CT_of (by decide +kernel) (Nat.le_of_ble_eq_true rfl) (fun J hI => w_X12_keepEnd hI σ p0 δ r h rfl)
def m_X12_restore_b2 (σ : St) (p0 : Nat) (p1 : Int32) (δ : Dy) : Option Dy := lp (fun (s : (Int32 × Dy)) =>
  if (9863 : Int32) ≤ s.1 then
    some (Sum.inr s.2)
  else
    (gR σ 12 p0 0).bind fun v1 =>
    (gR σ 12 p0 1).bind fun v2 =>
    (rI σ s.2 v2 s.1).bind fun v3 =>
    (wI σ s.2 v1 s.1 v3).bind fun d4 =>
    some (Sum.inl ((s.1 + (1 : Int32)), d4))) (p1, δ)
def m_X12_restore (σ : St) (p0 : Nat) (δ : Dy) : Option Dy :=
  m_X12_restore_b2 σ p0 (0 : Int32) δ
set_option maxHeartbeats 4000000 in
set_option maxRecDepth 100000 in
theorem w_X12_restore_b2 {J : JT} {an : Option Value × St × Dy} (hI : Isj cX12_restore 2 RX12 "restore" 0 0 none an J) {β : Bu} (σ : St) (p0 : Nat) (p1 : Int32) (δ : Dy) : SJ (m_X12_restore_b2 σ p0 p1 δ) (PV σ an) (J 2 [(0, .ref p0), (1, .int p1)] [] β σ δ) := by
  have hJ := hI.cor
  unfold m_X12_restore_b2
  refine sj_lp (G := fun s : (Int32 × Dy) => J 2 [(0, .ref p0), (1, .int s.1)] [] β σ s.2) (fun s => ?_) (p1, δ)
  refine sj (j_iload_n hJ dX12_restore_2 rfl 1 rfl) ?_
  refine sj (j_sipush hJ (v := 9863) dX12_restore_3 is_9863) ?_
  refine sj_if (j_icmp_ge hJ (tgt := 27) dX12_restore_6 (by decide)) (fun _ => ?_) (fun _ => ?_)
  · exact sj_vret hI dX12_restore_27 (fun h => h)
  · refine sj (j_aload_n hJ dX12_restore_9 rfl 0 rfl) ?_
    refine sj_gR hJ fl_X12_7 rfl dX12_restore_10 (fun v1 => ?_)
    refine sj (j_iload_n hJ dX12_restore_13 rfl 1 rfl) ?_
    refine sj (j_aload_n hJ dX12_restore_14 rfl 0 rfl) ?_
    refine sj_gR hJ fl_X12_13 rfl dX12_restore_15 (fun v2 => ?_)
    refine sj (j_iload_n hJ dX12_restore_18 rfl 1 rfl) ?_
    refine sj_rI hJ dX12_restore_19 (fun v3 => ?_)
    refine sj_wI hJ dX12_restore_20 (fun d4 => ?_)
    refine sj (j_iinc hJ (L' := [(1, .int (s.1 + (1 : Int32))), (0, .ref p0)]) dX12_restore_21 1 rfl (congrArg (fun z => s.1 + z) ic_1) (by decide) rfl) ?_
    refine sj (j_goto hJ (tgt := 2) dX12_restore_24 (by decide)) ?_
    refine sj (j_sub hJ (L' := [(0, .ref p0), (1, .int (s.1 + (1 : Int32)))]) [1, 0] rfl) ?_
    exact sj_end (fun h => h)
set_option maxHeartbeats 4000000 in
set_option maxRecDepth 100000 in
theorem w_X12_restore {J : JT} {an : Option Value × St × Dy} (hI : Isj cX12_restore 2 RX12 "restore" 0 0 none an J) {β : Bu} (σ : St) (p0 : Nat) (δ : Dy) : SJ (m_X12_restore σ p0 δ) (PV σ an) (J 0 [(0, .ref p0)] [] β σ δ) := by
  have hJ := hI.cor
  unfold m_X12_restore
  refine sj (j_iconst hJ (v := 0) dX12_restore_0 ic_0) ?_
  refine sj (j_istore_n hJ (L' := [(1, .int (0 : Int32)), (0, .ref p0)]) dX12_restore_1 rfl (by decide) rfl) ?_
  refine sj (j_sub hJ (L' := [(0, .ref p0), (1, .int (0 : Int32))]) [1, 0] rfl) ?_
  exact w_X12_restore_b2 hI σ p0 (0 : Int32) δ
theorem ct_X12_restore {σ : St} {p0 : Nat} {δ : Dy} {r : Dy} (h : m_X12_restore σ p0 δ = some r) : CT yX12_restore cX12_restore 2 none 0 0 0 0 [.ref p0] σ δ (none, σ, r) := CT_of (by decide +kernel) (Nat.le_of_ble_eq_true rfl) (fun J hI => w_X12_restore hI σ p0 δ r h rfl)
def m_X12_nextSchedule_b41 (σ : St) (p0 : Nat) (p1 : Int32) (δ : Dy) : Option (Int32 × Dy) :=
  if 0 ≤ p1 then
    (gR σ 12 p0 42).bind fun v2 =>
    (rI σ δ v2 p1).bind fun v3 =>
    (wI σ δ v2 p1 (v3 + (1 : Int32))).bind fun d4 =>
    some ((1 : Int32), d4)
  else
    some ((0 : Int32), δ)
def m_X12_nextSchedule_b7 (σ : St) (p0 : Nat) (p1 : Int32) (δ : Dy) : Option (Int32 × Dy) := lp (fun (s : (Int32 × Dy)) =>
  if s.1 < 0 then
    (m_X12_nextSchedule_b41 σ p0 s.1 s.2).bind fun r => some (Sum.inr r)
  else
    (gR σ 12 p0 42).bind fun v5 =>
    (rI σ s.2 v5 s.1).bind fun v6 =>
    (gR σ 12 p0 43).bind fun v7 =>
    (rI σ s.2 v7 s.1).bind fun v8 =>
    if (v6 + (1 : Int32)) < v8 then
      (m_X12_nextSchedule_b41 σ p0 s.1 s.2).bind fun r => some (Sum.inr r)
    else
      (gR σ 12 p0 42).bind fun v9 =>
      (wI σ s.2 v9 s.1 (0 : Int32)).bind fun d10 =>
      some (Sum.inl ((s.1 + (-1 : Int32)), d10))) (p1, δ)
def m_X12_nextSchedule (σ : St) (p0 : Nat) (δ : Dy) : Option (Int32 × Dy) :=
  (gI σ δ 12 p0 44).bind fun v1 =>
  m_X12_nextSchedule_b7 σ p0 (v1 - (1 : Int32)) δ
set_option maxHeartbeats 4000000 in
set_option maxRecDepth 100000 in
theorem w_X12_nextSchedule_b41 {J : JT} {an : Option Value × St × Dy} (hI : Isj cX12_nextSchedule 2 RX12 "nextSchedule" 0 0 (some .boolean) an J) {β : Bu} (σ : St) (p0 : Nat) (p1 : Int32) (δ : Dy) : SJ (m_X12_nextSchedule_b41 σ p0 p1 δ) (PI σ an) (J 41 [(0, .ref p0), (1, .int p1)] [] β σ δ) := by
  have hJ := hI.cor
  unfold m_X12_nextSchedule_b41
  refine sj (j_iload_n hJ dX12_nextSchedule_41 rfl 1 rfl) ?_
  refine sj_if (j_if_ge hJ (tgt := 47) dX12_nextSchedule_42 (by decide)) (fun _ => ?_) (fun _ => ?_)
  · refine sj (j_aload_n hJ dX12_nextSchedule_47 rfl 0 rfl) ?_
    refine sj_gR hJ fl_X12_103 rfl dX12_nextSchedule_48 (fun v2 => ?_)
    refine sj (j_iload_n hJ dX12_nextSchedule_51 rfl 1 rfl) ?_
    refine sj (j_dup2 hJ dX12_nextSchedule_52 rfl rfl) ?_
    refine sj_rI hJ dX12_nextSchedule_53 (fun v3 => ?_)
    refine sj (j_iconst hJ (v := 1) dX12_nextSchedule_54 ic_1) ?_
    refine sj (j_iadd hJ dX12_nextSchedule_55) ?_
    refine sj_wI hJ dX12_nextSchedule_56 (fun d4 => ?_)
    refine sj (j_iconst hJ (v := 1) dX12_nextSchedule_57 ic_1) ?_
    exact sj_zret hI (by decide) dX12_nextSchedule_58 (fun h => h)
  · refine sj (j_iconst hJ (v := 0) dX12_nextSchedule_45 ic_0) ?_
    exact sj_zret hI (by decide) dX12_nextSchedule_46 (fun h => h)
set_option maxHeartbeats 4000000 in
set_option maxRecDepth 100000 in
theorem w_X12_nextSchedule_b7 {J : JT} {an : Option Value × St × Dy} (hI : Isj cX12_nextSchedule 2 RX12 "nextSchedule" 0 0 (some .boolean) an J) {β : Bu} (σ : St) (p0 : Nat) (p1 : Int32) (δ : Dy) : SJ (m_X12_nextSchedule_b7 σ p0 p1 δ) (PI σ an) (J 7 [(0, .ref p0), (1, .int p1)] [] β σ δ) := by
  have hJ := hI.cor
  unfold m_X12_nextSchedule_b7
  refine sj_lp (G := fun s : (Int32 × Dy) => J 7 [(0, .ref p0), (1, .int s.1)] [] β σ s.2) (fun s => ?_) (p1, δ)
  refine sj (j_iload_n hJ dX12_nextSchedule_7 rfl 1 rfl) ?_
  refine sj_if (j_if_lt hJ (tgt := 41) dX12_nextSchedule_8 (by decide)) (fun _ => ?_) (fun _ => ?_)
  · refine sj_map ?_
    exact w_X12_nextSchedule_b41 hI σ p0 s.1 s.2
  · refine sj (j_aload_n hJ dX12_nextSchedule_11 rfl 0 rfl) ?_
    refine sj_gR hJ fl_X12_103 rfl dX12_nextSchedule_12 (fun v5 => ?_)
    refine sj (j_iload_n hJ dX12_nextSchedule_15 rfl 1 rfl) ?_
    refine sj_rI hJ dX12_nextSchedule_16 (fun v6 => ?_)
    refine sj (j_iconst hJ (v := 1) dX12_nextSchedule_17 ic_1) ?_
    refine sj (j_iadd hJ dX12_nextSchedule_18) ?_
    refine sj (j_aload_n hJ dX12_nextSchedule_19 rfl 0 rfl) ?_
    refine sj_gR hJ fl_X12_106 rfl dX12_nextSchedule_20 (fun v7 => ?_)
    refine sj (j_iload_n hJ dX12_nextSchedule_23 rfl 1 rfl) ?_
    refine sj_rI hJ dX12_nextSchedule_24 (fun v8 => ?_)
    refine sj_if (j_icmp_lt hJ (tgt := 41) dX12_nextSchedule_25 (by decide)) (fun _ => ?_) (fun _ => ?_)
    · refine sj_map ?_
      exact w_X12_nextSchedule_b41 hI σ p0 s.1 s.2
    · refine sj (j_aload_n hJ dX12_nextSchedule_28 rfl 0 rfl) ?_
      refine sj_gR hJ fl_X12_103 rfl dX12_nextSchedule_29 (fun v9 => ?_)
      refine sj (j_iload_n hJ dX12_nextSchedule_32 rfl 1 rfl) ?_
      refine sj (j_iconst hJ (v := 0) dX12_nextSchedule_33 ic_0) ?_
      refine sj_wI hJ dX12_nextSchedule_34 (fun d10 => ?_)
      refine sj (j_iinc hJ (L' := [(1, .int (s.1 + (-1 : Int32))), (0, .ref p0)]) dX12_nextSchedule_35 1 rfl (congrArg (fun z => s.1 + z) ic_m1) (by decide) rfl) ?_
      refine sj (j_goto hJ (tgt := 7) dX12_nextSchedule_38 (by decide)) ?_
      refine sj (j_sub hJ (L' := [(0, .ref p0), (1, .int (s.1 + (-1 : Int32)))]) [1, 0] rfl) ?_
      exact sj_end (fun h => h)
set_option maxHeartbeats 4000000 in
set_option maxRecDepth 100000 in
theorem w_X12_nextSchedule {J : JT} {an : Option Value × St × Dy} (hI : Isj cX12_nextSchedule 2 RX12 "nextSchedule" 0 0 (some .boolean) an J) {β : Bu} (σ : St) (p0 : Nat) (δ : Dy) : SJ (m_X12_nextSchedule σ p0 δ) (PI σ an) (J 0 [(0, .ref p0)] [] β σ δ) := by
  have hJ := hI.cor
  unfold m_X12_nextSchedule
  refine sj (j_aload_n hJ dX12_nextSchedule_0 rfl 0 rfl) ?_
  refine sj_gI hJ fl_X12_309 (Or.inl rfl) dX12_nextSchedule_1 (fun v1 => ?_)
  refine sj (j_iconst hJ (v := 1) dX12_nextSchedule_4 ic_1) ?_
  refine sj (j_isub hJ dX12_nextSchedule_5) ?_
  refine sj (j_istore_n hJ (L' := [(1, .int (v1 - (1 : Int32))), (0, .ref p0)]) dX12_nextSchedule_6 rfl (by decide) rfl) ?_
  refine sj (j_sub hJ (L' := [(0, .ref p0), (1, .int (v1 - (1 : Int32)))]) [1, 0] rfl) ?_
  exact w_X12_nextSchedule_b7 hI σ p0 (v1 - (1 : Int32)) δ
theorem ct_X12_nextSchedule {σ : St} {p0 : Nat} {δ : Dy} {r : (Int32 × Dy)} (h : m_X12_nextSchedule σ p0 δ = some r) : CT yX12_nextSchedule cX12_nextSchedule 2 (some .boolean) 0 0 0 0 [.ref p0] σ δ ((some (.int r.1)), σ, r.2) := CT_of (by decide +kernel) (Nat.le_of_ble_eq_true rfl) (fun J hI => w_X12_nextSchedule hI σ p0 δ r h rfl)
def m_X12_ends_b95 (σ : St) (p0 : Nat) (p1 : Int32) (p2 : Int32) (δ : Dy) : Option (Int32 × Dy) := lp (fun (s : (Int32 × Int32 × Dy)) =>
  if s.2.1 = 0 then
    (pZ σ s.2.2 12 p0 41 (0 : Int32)).bind fun d10 =>
    if s.1 ≤ (8 : Int32) then
      (gI σ d10 12 p0 47).bind fun v11 =>
      some (Sum.inr (v11, d10))
    else
      some (Sum.inr ((-1 : Int32), d10))
  else
    if (8 : Int32) < (s.1 + (1 : Int32)) then
      some (Sum.inl ((s.1 + (1 : Int32)), (0 : Int32), s.2.2))
    else
      (chk σ 12 p0).bind fun _ => (m_X12_run σ p0 s.2.2).bind fun v12 =>
      (chk σ 12 p0).bind fun _ => (m_X12_layEnd σ p0 v12).bind fun v13 =>
      (chk σ 12 p0).bind fun _ => (m_X12_keepEnd σ p0 v13).bind fun v14 =>
      (chk σ 12 p0).bind fun _ => (m_X12_restore σ p0 v14).bind fun v15 =>
      (chk σ 12 p0).bind fun _ => (m_X12_nextSchedule σ p0 v15).bind fun v16 =>
      some (Sum.inl ((s.1 + (1 : Int32)), v16.1, v16.2))) (p1, p2, δ)
def m_X12_ends_b52 (σ : St) (p0 : Nat) (p1 : Int32) (δ : Dy) : Option (Int32 × Dy) := lp (fun (s : (Int32 × Dy)) =>
  if (70 : Int32) ≤ s.1 then
    (gR σ 12 p0 0).bind fun v5 =>
    (rI σ s.2 v5 (0 : Int32)).bind fun v6 =>
    (pI σ s.2 12 p0 49 v6).bind fun d7 =>
    (pI σ d7 12 p0 47 (0 : Int32)).bind fun d8 =>
    (pZ σ d8 12 p0 41 (1 : Int32)).bind fun d9 =>
    (m_X12_ends_b95 σ p0 (0 : Int32) (1 : Int32) d9).bind fun r => some (Sum.inr r)
  else
    (gR σ 12 p0 42).bind fun v17 =>
    (wI σ s.2 v17 s.1 (0 : Int32)).bind fun d18 =>
    some (Sum.inl ((s.1 + (1 : Int32)), d18))) (p1, δ)
def m_X12_ends_b25 (σ : St) (p0 : Nat) (p1 : Int32) (δ : Dy) : Option (Int32 × Dy) := lp (fun (s : (Int32 × Dy)) =>
  if (9863 : Int32) ≤ s.1 then
    (m_X12_ends_b52 σ p0 (0 : Int32) s.2).bind fun r => some (Sum.inr r)
  else
    (gR σ 12 p0 1).bind fun v19 =>
    (gR σ 12 p0 0).bind fun v20 =>
    (rI σ s.2 v20 s.1).bind fun v21 =>
    (wI σ s.2 v19 s.1 v21).bind fun d22 =>
    some (Sum.inl ((s.1 + (1 : Int32)), d22))) (p1, δ)
def m_X12_ends (σ : St) (p0 : Nat) (δ : Dy) : Option (Int32 × Dy) :=
  (pI σ δ 12 p0 50 (0 : Int32)).bind fun d1 =>
  (gR σ 12 p0 0).bind fun v2 =>
  (rI σ d1 v2 (7040 : Int32)).bind fun v3 =>
  if v3 = (1 : Int32) then
    (chk σ 12 p0).bind fun _ => (m_X12_stop σ p0 (1 : Int32) d1).bind fun v4 =>
    some (v4.1, v4.2)
  else
    m_X12_ends_b25 σ p0 (0 : Int32) d1
set_option maxHeartbeats 4000000 in
set_option maxRecDepth 100000 in
theorem w_X12_ends_b95 {J : JT} {an : Option Value × St × Dy} (hI : Isj cX12_ends 3 RX12 "ends" 9 215 (some .int) an J) {β : Bu} (σ : St) (p0 : Nat) (p1 : Int32) (p2 : Int32) (δ : Dy) : SJ (m_X12_ends_b95 σ p0 p1 p2 δ) (PI σ an) (J 95 [(0, .ref p0), (1, .int p1), (2, .int p2)] [] β σ δ) := by
  have hJ := hI.cor
  unfold m_X12_ends_b95
  refine sj_lp (G := fun s : (Int32 × Int32 × Dy) => J 95 [(0, .ref p0), (1, .int s.1), (2, .int s.2.1)] [] β σ s.2.2) (fun s => ?_) (p1, p2, δ)
  refine sj (j_iload_n hJ dX12_ends_95 rfl 2 rfl) ?_
  refine sj_if (j_if_eq hJ (tgt := 137) dX12_ends_96 (by decide)) (fun _ => ?_) (fun _ => ?_)
  · refine sj (j_aload_n hJ dX12_ends_137 rfl 0 rfl) ?_
    refine sj (j_iconst hJ (v := 0) dX12_ends_138 ic_0) ?_
    refine sj_pZ hJ fl_X12_306 rfl dX12_ends_139 (fun d10 => ?_)
    refine sj (j_iload_n hJ dX12_ends_142 rfl 1 rfl) ?_
    refine sj (j_bipush hJ (v := 8) dX12_ends_143 ib_8) ?_
    refine sj_if (j_icmp_le hJ (tgt := 152) dX12_ends_145 (by decide)) (fun _ => ?_) (fun _ => ?_)
    · refine sj (j_aload_n hJ dX12_ends_152 rfl 0 rfl) ?_
      refine sj_gI hJ fl_X12_352 (Or.inl rfl) dX12_ends_153 (fun v11 => ?_)
      exact sj_iret hI dX12_ends_156 (fun h => h)
    · refine sj (j_iconst hJ (v := -1) dX12_ends_148 ic_m1) ?_
      refine sj (j_goto hJ (tgt := 156) dX12_ends_149 (by decide)) ?_
      exact sj_iret hI dX12_ends_156 (fun h => h)
  · refine sj (j_iinc hJ (L' := [(1, .int (s.1 + (1 : Int32))), (0, .ref p0), (2, .int s.2.1)]) dX12_ends_99 1 rfl (congrArg (fun z => s.1 + z) ic_1) (by decide) rfl) ?_
    refine sj (j_iload_n hJ dX12_ends_102 rfl 0 rfl) ?_
    refine sj (j_bipush hJ (v := 8) dX12_ends_103 ib_8) ?_
    refine sj_if (j_icmp_gt hJ (tgt := 132) dX12_ends_105 (by decide)) (fun _ => ?_) (fun _ => ?_)
    · refine sj (j_iconst hJ (v := 0) dX12_ends_132 ic_0) ?_
      refine sj (j_istore_n hJ (L' := [(2, .int (0 : Int32)), (1, .int (s.1 + (1 : Int32))), (0, .ref p0)]) dX12_ends_133 rfl (by decide) rfl) ?_
      refine sj (j_goto hJ (tgt := 95) dX12_ends_134 (by decide)) ?_
      refine sj (j_sub hJ (L' := [(0, .ref p0), (1, .int (s.1 + (1 : Int32))), (2, .int (0 : Int32))]) [2, 1, 0] rfl) ?_
      exact sj_end (fun h => h)
    · refine sj (j_aload_n hJ dX12_ends_108 rfl 1 rfl) ?_
      refine sj_callVv hJ [] (st := []) (fr' := 8) (lo' := 194) ml_X12_342 hc_12 (by decide) (by decide) (Nat.le_of_ble_eq_true rfl) dX12_ends_109 rfl (fun _ h9 => ct_X12_run h9) (fun v12 => ?_)
      refine sj (j_aload_n hJ dX12_ends_112 rfl 1 rfl) ?_
      refine sj_callVv hJ [] (st := []) (fr' := 2) (lo' := 43) ml_X12_358 hc_12 (by decide) (by decide) (Nat.le_of_ble_eq_true rfl) dX12_ends_113 rfl (fun _ h9 => ct_X12_layEnd h9) (fun v13 => ?_)
      refine sj (j_aload_n hJ dX12_ends_116 rfl 1 rfl) ?_
      refine sj_callVv hJ [] (st := []) (fr' := 1) (lo' := 23) ml_X12_361 hc_12 (by decide) (by decide) (Nat.le_of_ble_eq_true rfl) dX12_ends_117 rfl (fun _ h9 => ct_X12_keepEnd h9) (fun v14 => ?_)
      refine sj (j_aload_n hJ dX12_ends_120 rfl 1 rfl) ?_
      refine sj_callVv hJ [] (st := []) (fr' := 0) (lo' := 0) ml_X12_364 hc_12 (by decide) (by decide) (Nat.le_of_ble_eq_true rfl) dX12_ends_121 rfl (fun _ h9 => ct_X12_restore h9) (fun v15 => ?_)
      refine sj (j_aload_n hJ dX12_ends_124 rfl 1 rfl) ?_
      refine sj_callVi hJ [] (st := []) (fr' := 0) (lo' := 0) ml_X12_367 hc_12 (by decide) (by decide) (Nat.le_of_ble_eq_true rfl) dX12_ends_125 rfl (fun _ h9 => ct_X12_nextSchedule h9) (fun v16 => ?_)
      refine sj (j_istore_n hJ (L' := [(2, .int v16.1), (1, .int (s.1 + (1 : Int32))), (0, .ref p0)]) dX12_ends_128 rfl (by decide) rfl) ?_
      refine sj (j_goto hJ (tgt := 95) dX12_ends_129 (by decide)) ?_
      refine sj (j_sub hJ (L' := [(0, .ref p0), (1, .int (s.1 + (1 : Int32))), (2, .int v16.1)]) [2, 1, 0] rfl) ?_
      exact sj_end (fun h => h)
set_option maxHeartbeats 4000000 in
set_option maxRecDepth 100000 in
theorem w_X12_ends_b52 {J : JT} {an : Option Value × St × Dy} (hI : Isj cX12_ends 3 RX12 "ends" 9 215 (some .int) an J) {β : Bu} (σ : St) (p0 : Nat) (p1 : Int32) (δ : Dy) : SJ (m_X12_ends_b52 σ p0 p1 δ) (PI σ an) (J 52 [(0, .ref p0), (1, .int p1)] [] β σ δ) := by
  have hJ := hI.cor
  unfold m_X12_ends_b52
  refine sj_lp (G := fun s : (Int32 × Dy) => J 52 [(0, .ref p0), (1, .int s.1)] [] β σ s.2) (fun s => ?_) (p1, δ)
  refine sj (j_iload_n hJ dX12_ends_52 rfl 1 rfl) ?_
  refine sj (j_bipush hJ (v := 70) dX12_ends_53 ib_70) ?_
  refine sj_if (j_icmp_ge hJ (tgt := 71) dX12_ends_55 (by decide)) (fun _ => ?_) (fun _ => ?_)
  · refine sj (j_aload_n hJ dX12_ends_71 rfl 0 rfl) ?_
    refine sj (j_aload_n hJ dX12_ends_72 rfl 0 rfl) ?_
    refine sj_gR hJ fl_X12_7 rfl dX12_ends_73 (fun v5 => ?_)
    refine sj (j_iconst hJ (v := 0) dX12_ends_76 ic_0) ?_
    refine sj_rI hJ dX12_ends_77 (fun v6 => ?_)
    refine sj_pI hJ fl_X12_346 rfl dX12_ends_78 (fun d7 => ?_)
    refine sj (j_aload_n hJ dX12_ends_81 rfl 0 rfl) ?_
    refine sj (j_iconst hJ (v := 0) dX12_ends_82 ic_0) ?_
    refine sj_pI hJ fl_X12_352 rfl dX12_ends_83 (fun d8 => ?_)
    refine sj (j_iconst hJ (v := 0) dX12_ends_86 ic_0) ?_
    refine sj (j_istore_n hJ (L' := [(1, .int (0 : Int32)), (0, .ref p0)]) dX12_ends_87 rfl (by decide) rfl) ?_
    refine sj (j_iconst hJ (v := 1) dX12_ends_88 ic_1) ?_
    refine sj (j_istore_n hJ (L' := [(2, .int (1 : Int32)), (1, .int (0 : Int32)), (0, .ref p0)]) dX12_ends_89 rfl (by decide) rfl) ?_
    refine sj (j_aload_n hJ dX12_ends_90 rfl 2 rfl) ?_
    refine sj (j_iconst hJ (v := 1) dX12_ends_91 ic_1) ?_
    refine sj_pZ hJ fl_X12_306 rfl dX12_ends_92 (fun d9 => ?_)
    refine sj (j_sub hJ (L' := [(0, .ref p0), (1, .int (0 : Int32)), (2, .int (1 : Int32))]) [2, 1, 0] rfl) ?_
    refine sj_map ?_
    exact w_X12_ends_b95 hI σ p0 (0 : Int32) (1 : Int32) d9
  · refine sj (j_aload_n hJ dX12_ends_58 rfl 0 rfl) ?_
    refine sj_gR hJ fl_X12_103 rfl dX12_ends_59 (fun v17 => ?_)
    refine sj (j_iload_n hJ dX12_ends_62 rfl 1 rfl) ?_
    refine sj (j_iconst hJ (v := 0) dX12_ends_63 ic_0) ?_
    refine sj_wI hJ dX12_ends_64 (fun d18 => ?_)
    refine sj (j_iinc hJ (L' := [(1, .int (s.1 + (1 : Int32))), (0, .ref p0)]) dX12_ends_65 1 rfl (congrArg (fun z => s.1 + z) ic_1) (by decide) rfl) ?_
    refine sj (j_goto hJ (tgt := 52) dX12_ends_68 (by decide)) ?_
    refine sj (j_sub hJ (L' := [(0, .ref p0), (1, .int (s.1 + (1 : Int32)))]) [1, 0] rfl) ?_
    exact sj_end (fun h => h)
set_option maxHeartbeats 4000000 in
set_option maxRecDepth 100000 in
theorem w_X12_ends_b25 {J : JT} {an : Option Value × St × Dy} (hI : Isj cX12_ends 3 RX12 "ends" 9 215 (some .int) an J) {β : Bu} (σ : St) (p0 : Nat) (p1 : Int32) (δ : Dy) : SJ (m_X12_ends_b25 σ p0 p1 δ) (PI σ an) (J 25 [(0, .ref p0), (1, .int p1)] [] β σ δ) := by
  have hJ := hI.cor
  unfold m_X12_ends_b25
  refine sj_lp (G := fun s : (Int32 × Dy) => J 25 [(0, .ref p0), (1, .int s.1)] [] β σ s.2) (fun s => ?_) (p1, δ)
  refine sj (j_iload_n hJ dX12_ends_25 rfl 1 rfl) ?_
  refine sj (j_sipush hJ (v := 9863) dX12_ends_26 is_9863) ?_
  refine sj_if (j_icmp_ge hJ (tgt := 50) dX12_ends_29 (by decide)) (fun _ => ?_) (fun _ => ?_)
  · refine sj (j_iconst hJ (v := 0) dX12_ends_50 ic_0) ?_
    refine sj (j_istore_n hJ (L' := [(1, .int (0 : Int32)), (0, .ref p0)]) dX12_ends_51 rfl (by decide) rfl) ?_
    refine sj (j_sub hJ (L' := [(0, .ref p0), (1, .int (0 : Int32))]) [1, 0] rfl) ?_
    refine sj_map ?_
    exact w_X12_ends_b52 hI σ p0 (0 : Int32) s.2
  · refine sj (j_aload_n hJ dX12_ends_32 rfl 0 rfl) ?_
    refine sj_gR hJ fl_X12_13 rfl dX12_ends_33 (fun v19 => ?_)
    refine sj (j_iload_n hJ dX12_ends_36 rfl 1 rfl) ?_
    refine sj (j_aload_n hJ dX12_ends_37 rfl 0 rfl) ?_
    refine sj_gR hJ fl_X12_7 rfl dX12_ends_38 (fun v20 => ?_)
    refine sj (j_iload_n hJ dX12_ends_41 rfl 1 rfl) ?_
    refine sj_rI hJ dX12_ends_42 (fun v21 => ?_)
    refine sj_wI hJ dX12_ends_43 (fun d22 => ?_)
    refine sj (j_iinc hJ (L' := [(1, .int (s.1 + (1 : Int32))), (0, .ref p0)]) dX12_ends_44 1 rfl (congrArg (fun z => s.1 + z) ic_1) (by decide) rfl) ?_
    refine sj (j_goto hJ (tgt := 25) dX12_ends_47 (by decide)) ?_
    refine sj (j_sub hJ (L' := [(0, .ref p0), (1, .int (s.1 + (1 : Int32)))]) [1, 0] rfl) ?_
    exact sj_end (fun h => h)
set_option maxHeartbeats 4000000 in
set_option maxRecDepth 100000 in
theorem w_X12_ends {J : JT} {an : Option Value × St × Dy} (hI : Isj cX12_ends 3 RX12 "ends" 9 215 (some .int) an J) {β : Bu} (σ : St) (p0 : Nat) (δ : Dy) : SJ (m_X12_ends σ p0 δ) (PI σ an) (J 0 [(0, .ref p0)] [] β σ δ) := by
  have hJ := hI.cor
  unfold m_X12_ends
  refine sj (j_aload_n hJ dX12_ends_0 rfl 0 rfl) ?_
  refine sj (j_iconst hJ (v := 0) dX12_ends_1 ic_0) ?_
  refine sj_pI hJ fl_X12_118 rfl dX12_ends_2 (fun d1 => ?_)
  refine sj (j_aload_n hJ dX12_ends_5 rfl 0 rfl) ?_
  refine sj_gR hJ fl_X12_7 rfl dX12_ends_6 (fun v2 => ?_)
  refine sj (j_sipush hJ (v := 7040) dX12_ends_9 is_7040) ?_
  refine sj_rI hJ dX12_ends_12 (fun v3 => ?_)
  refine sj (j_iconst hJ (v := 1) dX12_ends_13 ic_1) ?_
  refine sj_if (j_icmp_ne hJ (tgt := 23) dX12_ends_14 (by decide)) (fun _ => ?_) (fun _ => ?_)
  · refine sj (j_aload_n hJ dX12_ends_17 rfl 0 rfl) ?_
    refine sj (j_iconst hJ (v := 1) dX12_ends_18 ic_1) ?_
    refine sj_callVi hJ [.int (1 : Int32)] (st := []) (fr' := 0) (lo' := 0) ml_X12_137 hc_12 (by decide) (by decide) (Nat.le_of_ble_eq_true rfl) dX12_ends_19 rfl (fun _ h9 => ct_X12_stop h9) (fun v4 => ?_)
    exact sj_iret hI dX12_ends_22 (fun h => h)
  · refine sj (j_iconst hJ (v := 0) dX12_ends_23 ic_0) ?_
    refine sj (j_istore_n hJ (L' := [(1, .int (0 : Int32)), (0, .ref p0)]) dX12_ends_24 rfl (by decide) rfl) ?_
    refine sj (j_sub hJ (L' := [(0, .ref p0), (1, .int (0 : Int32))]) [1, 0] rfl) ?_
    exact w_X12_ends_b25 hI σ p0 (0 : Int32) d1
theorem ct_X12_ends {σ : St} {p0 : Nat} {δ : Dy} {r : (Int32 × Dy)} (h : m_X12_ends σ p0 δ = some r) : CT yX12_ends cX12_ends 3 (some .int) 9 215 0 0 [.ref p0] σ δ ((some (.int r.1)), σ, r.2) := CT_of (by decide +kernel) (Nat.le_of_ble_eq_true rfl) (fun J hI => w_X12_ends hI σ p0 δ r h rfl)
def m_X12_clock (σ : St) (p0 : Nat) (δ : Dy) : Option (Int32 × Dy) :=
  (pI σ δ 12 p0 50 (0 : Int32)).bind fun d1 =>
  (gR σ 12 p0 0).bind fun v2 =>
  (rI σ d1 v2 (7039 : Int32)).bind fun v3 =>
  some (v3, d1)
set_option maxHeartbeats 4000000 in
set_option maxRecDepth 100000 in
theorem w_X12_clock {J : JT} {an : Option Value × St × Dy} (hI : Isj cX12_clock 1 RX12 "clock" 0 0 (some .int) an J) {β : Bu} (σ : St) (p0 : Nat) (δ : Dy) : SJ (m_X12_clock σ p0 δ) (PI σ an) (J 0 [(0, .ref p0)] [] β σ δ) := by
  have hJ := hI.cor
  unfold m_X12_clock
  refine sj (j_aload_n hJ dX12_clock_0 rfl 0 rfl) ?_
  refine sj (j_iconst hJ (v := 0) dX12_clock_1 ic_0) ?_
  refine sj_pI hJ fl_X12_118 rfl dX12_clock_2 (fun d1 => ?_)
  refine sj (j_aload_n hJ dX12_clock_5 rfl 0 rfl) ?_
  refine sj_gR hJ fl_X12_7 rfl dX12_clock_6 (fun v2 => ?_)
  refine sj (j_sipush hJ (v := 7039) dX12_clock_9 is_7039) ?_
  refine sj_rI hJ dX12_clock_12 (fun v3 => ?_)
  exact sj_iret hI dX12_clock_13 (fun h => h)
theorem ct_X12_clock {σ : St} {p0 : Nat} {δ : Dy} {r : (Int32 × Dy)} (h : m_X12_clock σ p0 δ = some r) : CT yX12_clock cX12_clock 1 (some .int) 0 0 0 0 [.ref p0] σ δ ((some (.int r.1)), σ, r.2) := CT_of (by decide +kernel) (Nat.le_of_ble_eq_true rfl) (fun J hI => w_X12_clock hI σ p0 δ r h rfl)
def m_X12_hasFailed (σ : St) (p0 : Nat) (δ : Dy) : Option (Int32 × Dy) :=
  (pI σ δ 12 p0 50 (0 : Int32)).bind fun d1 =>
  (gR σ 12 p0 0).bind fun v2 =>
  (rI σ d1 v2 (7040 : Int32)).bind fun v3 =>
  if v3 = (1 : Int32) then
    some ((1 : Int32), d1)
  else
    some ((0 : Int32), d1)
set_option maxHeartbeats 4000000 in
set_option maxRecDepth 100000 in
theorem w_X12_hasFailed {J : JT} {an : Option Value × St × Dy} (hI : Isj cX12_hasFailed 1 RX12 "hasFailed" 0 0 (some .boolean) an J) {β : Bu} (σ : St) (p0 : Nat) (δ : Dy) : SJ (m_X12_hasFailed σ p0 δ) (PI σ an) (J 0 [(0, .ref p0)] [] β σ δ) := by
  have hJ := hI.cor
  unfold m_X12_hasFailed
  refine sj (j_aload_n hJ dX12_hasFailed_0 rfl 0 rfl) ?_
  refine sj (j_iconst hJ (v := 0) dX12_hasFailed_1 ic_0) ?_
  refine sj_pI hJ fl_X12_118 rfl dX12_hasFailed_2 (fun d1 => ?_)
  refine sj (j_aload_n hJ dX12_hasFailed_5 rfl 0 rfl) ?_
  refine sj_gR hJ fl_X12_7 rfl dX12_hasFailed_6 (fun v2 => ?_)
  refine sj (j_sipush hJ (v := 7040) dX12_hasFailed_9 is_7040) ?_
  refine sj_rI hJ dX12_hasFailed_12 (fun v3 => ?_)
  refine sj (j_iconst hJ (v := 1) dX12_hasFailed_13 ic_1) ?_
  refine sj_if (j_icmp_ne hJ (tgt := 21) dX12_hasFailed_14 (by decide)) (fun _ => ?_) (fun _ => ?_)
  · refine sj (j_iconst hJ (v := 1) dX12_hasFailed_17 ic_1) ?_
    refine sj (j_goto hJ (tgt := 22) dX12_hasFailed_18 (by decide)) ?_
    exact sj_zret hI (by decide) dX12_hasFailed_22 (fun h => h)
  · refine sj (j_iconst hJ (v := 0) dX12_hasFailed_21 ic_0) ?_
    exact sj_zret hI (by decide) dX12_hasFailed_22 (fun h => h)
theorem ct_X12_hasFailed {σ : St} {p0 : Nat} {δ : Dy} {r : (Int32 × Dy)} (h : m_X12_hasFailed σ p0 δ = some r) : CT yX12_hasFailed cX12_hasFailed 1 (some .boolean) 0 0 0 0 [.ref p0] σ δ ((some (.int r.1)), σ, r.2) := CT_of (by decide +kernel) (Nat.le_of_ble_eq_true rfl) (fun J hI => w_X12_hasFailed hI σ p0 δ r h rfl)
def m_X12_variables (σ : St) (p0 : Nat) (δ : Dy) : Option (Int32 × Dy) :=
  (pI σ δ 12 p0 50 (0 : Int32)).bind fun d1 =>
  (gR σ 12 p0 0).bind fun v2 =>
  (rI σ d1 v2 (0 : Int32)).bind fun v3 =>
  some (v3, d1)
set_option maxHeartbeats 4000000 in
set_option maxRecDepth 100000 in
theorem w_X12_variables {J : JT} {an : Option Value × St × Dy} (hI : Isj cX12_variables 1 RX12 "variables" 0 0 (some .int) an J) {β : Bu} (σ : St) (p0 : Nat) (δ : Dy) : SJ (m_X12_variables σ p0 δ) (PI σ an) (J 0 [(0, .ref p0)] [] β σ δ) := by
  have hJ := hI.cor
  unfold m_X12_variables
  refine sj (j_aload_n hJ dX12_variables_0 rfl 0 rfl) ?_
  refine sj (j_iconst hJ (v := 0) dX12_variables_1 ic_0) ?_
  refine sj_pI hJ fl_X12_118 rfl dX12_variables_2 (fun d1 => ?_)
  refine sj (j_aload_n hJ dX12_variables_5 rfl 0 rfl) ?_
  refine sj_gR hJ fl_X12_7 rfl dX12_variables_6 (fun v2 => ?_)
  refine sj (j_iconst hJ (v := 0) dX12_variables_9 ic_0) ?_
  refine sj_rI hJ dX12_variables_10 (fun v3 => ?_)
  exact sj_iret hI dX12_variables_11 (fun h => h)
theorem ct_X12_variables {σ : St} {p0 : Nat} {δ : Dy} {r : (Int32 × Dy)} (h : m_X12_variables σ p0 δ = some r) : CT yX12_variables cX12_variables 1 (some .int) 0 0 0 0 [.ref p0] σ δ ((some (.int r.1)), σ, r.2) := CT_of (by decide +kernel) (Nat.le_of_ble_eq_true rfl) (fun J hI => w_X12_variables hI σ p0 δ r h rfl)
def m_X12_isVariable (σ : St) (p0 : Nat) (p1 : Int32) (δ : Dy) : Option Int32 :=
  (gR σ 12 p0 0).bind fun v1 =>
  (rI σ δ v1 (0 : Int32)).bind fun v2 =>
  (m_X12_in σ p1 (0 : Int32) (v2 - (1 : Int32)) δ).bind fun v3 =>
  (zo v3).bind fun _ => some v3
set_option maxHeartbeats 4000000 in
set_option maxRecDepth 100000 in
theorem w_X12_isVariable {J : JT} {an : Option Value × St × Dy} (hI : Isj cX12_isVariable 2 RX12 "isVariable" 1 22 (some .boolean) an J) {β : Bu} (σ : St) (p0 : Nat) (p1 : Int32) (δ : Dy) : SJ (m_X12_isVariable σ p0 p1 δ) (PIp σ δ an) (J 0 [(0, .ref p0), (1, .int p1)] [] β σ δ) := by
  have hJ := hI.cor
  unfold m_X12_isVariable
  refine sj (j_iload_n hJ dX12_isVariable_0 rfl 1 rfl) ?_
  refine sj (j_iconst hJ (v := 0) dX12_isVariable_1 ic_0) ?_
  refine sj (j_aload_n hJ dX12_isVariable_2 rfl 0 rfl) ?_
  refine sj_gR hJ fl_X12_7 rfl dX12_isVariable_3 (fun v1 => ?_)
  refine sj (j_iconst hJ (v := 0) dX12_isVariable_6 ic_0) ?_
  refine sj_rI hJ dX12_isVariable_7 (fun v2 => ?_)
  refine sj (j_iconst hJ (v := 1) dX12_isVariable_8 ic_1) ?_
  refine sj (j_isub hJ dX12_isVariable_9) ?_
  refine sj_callSip hJ [.int p1, .int (0 : Int32), .int (v2 - (1 : Int32))] (st := []) (fr' := 0) (lo' := 0) ml_X12_122 (by decide) (by decide) (Nat.le_of_ble_eq_true rfl) dX12_isVariable_10 rfl (fun _ h9 => ct_X12_in h9) (fun v3 => ?_)
  exact sj_zretG hI dX12_isVariable_13 (fun h => h)
theorem ct_X12_isVariable {σ : St} {p0 : Nat} {p1 : Int32} {δ : Dy} {r : Int32} (h : m_X12_isVariable σ p0 p1 δ = some r) : CT yX12_isVariable cX12_isVariable 2 (some .boolean) 1 22 0 0 [.ref p0, .int p1] σ δ ((some (.int r)), σ, δ) := CT_of (by decide +kernel) (Nat.le_of_ble_eq_true rfl) (fun J hI => w_X12_isVariable hI σ p0 p1 δ r h rfl)
def m_X12_value (σ : St) (p0 : Nat) (p1 : Int32) (δ : Dy) : Option (Int32 × Dy) :=
  (pI σ δ 12 p0 50 (0 : Int32)).bind fun d1 =>
  (chk σ 12 p0).bind fun _ => (m_X12_isVariable σ p0 p1 d1).bind fun v2 =>
  if v2 = 0 then
    (chk σ 12 p0).bind fun _ => (m_X12_stop σ p0 (1 : Int32) d1).bind fun v3 =>
    some (v3.1, v3.2)
  else
    (chk σ 12 p0).bind fun _ => (m_X12_valueOf σ p0 ((400 : Int32) + p1) d1).bind fun v4 =>
    some (v4, d1)
set_option maxHeartbeats 4000000 in
set_option maxRecDepth 100000 in
theorem w_X12_value {J : JT} {an : Option Value × St × Dy} (hI : Isj cX12_value 2 RX12 "value" 2 43 (some .int) an J) {β : Bu} (σ : St) (p0 : Nat) (p1 : Int32) (δ : Dy) : SJ (m_X12_value σ p0 p1 δ) (PI σ an) (J 0 [(0, .ref p0), (1, .int p1)] [] β σ δ) := by
  have hJ := hI.cor
  unfold m_X12_value
  refine sj (j_aload_n hJ dX12_value_0 rfl 0 rfl) ?_
  refine sj (j_iconst hJ (v := 0) dX12_value_1 ic_0) ?_
  refine sj_pI hJ fl_X12_118 rfl dX12_value_2 (fun d1 => ?_)
  refine sj (j_aload_n hJ dX12_value_5 rfl 0 rfl) ?_
  refine sj (j_iload_n hJ dX12_value_6 rfl 1 rfl) ?_
  refine sj_callVip hJ [.int p1] (st := []) (fr' := 1) (lo' := 22) ml_X12_371 hc_12 (by decide) (by decide) (Nat.le_of_ble_eq_true rfl) dX12_value_7 rfl (fun _ h9 => ct_X12_isVariable h9) (fun v2 => ?_)
  refine sj_if (j_if_ne hJ (tgt := 19) dX12_value_10 (by decide)) (fun _ => ?_) (fun _ => ?_)
  · refine sj (j_aload_n hJ dX12_value_13 rfl 0 rfl) ?_
    refine sj (j_iconst hJ (v := 1) dX12_value_14 ic_1) ?_
    refine sj_callVi hJ [.int (1 : Int32)] (st := []) (fr' := 0) (lo' := 0) ml_X12_137 hc_12 (by decide) (by decide) (Nat.le_of_ble_eq_true rfl) dX12_value_15 rfl (fun _ h9 => ct_X12_stop h9) (fun v3 => ?_)
    exact sj_iret hI dX12_value_18 (fun h => h)
  · refine sj (j_aload_n hJ dX12_value_19 rfl 0 rfl) ?_
    refine sj (j_sipush hJ (v := 400) dX12_value_20 is_400) ?_
    refine sj (j_iload_n hJ dX12_value_23 rfl 1 rfl) ?_
    refine sj (j_iadd hJ dX12_value_24) ?_
    refine sj_callVip hJ [.int ((400 : Int32) + p1)] (st := []) (fr' := 0) (lo' := 0) ml_X12_145 hc_12 (by decide) (by decide) (Nat.le_of_ble_eq_true rfl) dX12_value_25 rfl (fun _ h9 => ct_X12_valueOf h9) (fun v4 => ?_)
    exact sj_iret hI dX12_value_28 (fun h => h)
theorem ct_X12_value {σ : St} {p0 : Nat} {p1 : Int32} {δ : Dy} {r : (Int32 × Dy)} (h : m_X12_value σ p0 p1 δ = some r) : CT yX12_value cX12_value 2 (some .int) 2 43 0 0 [.ref p0, .int p1] σ δ ((some (.int r.1)), σ, r.2) := CT_of (by decide +kernel) (Nat.le_of_ble_eq_true rfl) (fun J hI => w_X12_value hI σ p0 p1 δ r h rfl)
def m_X12_areOne_b21 (σ : St) (p0 : Nat) (δ : Dy) : Option (Int32 × Dy) :=
  (pI σ δ 12 p0 50 (1 : Int32)).bind fun d3 =>
  some ((0 : Int32), d3)
def m_X12_areOne (σ : St) (p0 : Nat) (p1 : Int32) (p2 : Int32) (δ : Dy) : Option (Int32 × Dy) :=
  (pI σ δ 12 p0 50 (0 : Int32)).bind fun d1 =>
  (chk σ 12 p0).bind fun _ => (m_X12_isVariable σ p0 p1 d1).bind fun v2 =>
  if v2 = 0 then
    m_X12_areOne_b21 σ p0 d1
  else
    (chk σ 12 p0).bind fun _ => (m_X12_isVariable σ p0 p2 d1).bind fun v4 =>
    if v4 = 0 then
      m_X12_areOne_b21 σ p0 d1
    else
      (gR σ 12 p0 0).bind fun v5 =>
      (rI σ d1 v5 ((1 : Int32) + p1)).bind fun v6 =>
      (gR σ 12 p0 0).bind fun v7 =>
      (rI σ d1 v7 ((1 : Int32) + p2)).bind fun v8 =>
      if v6 = v8 then
        some ((1 : Int32), d1)
      else
        some ((0 : Int32), d1)
set_option maxHeartbeats 4000000 in
set_option maxRecDepth 100000 in
theorem w_X12_areOne_b21 {J : JT} {an : Option Value × St × Dy} (hI : Isj cX12_areOne 3 RX12 "areOne" 2 43 (some .boolean) an J) {β : Bu} (σ : St) (p0 : Nat) (δ : Dy) : SJ (m_X12_areOne_b21 σ p0 δ) (PI σ an) (J 21 [(0, .ref p0)] [] β σ δ) := by
  have hJ := hI.cor
  unfold m_X12_areOne_b21
  refine sj (j_aload_n hJ dX12_areOne_21 rfl 0 rfl) ?_
  refine sj (j_iconst hJ (v := 1) dX12_areOne_22 ic_1) ?_
  refine sj_pI hJ fl_X12_118 rfl dX12_areOne_23 (fun d3 => ?_)
  refine sj (j_iconst hJ (v := 0) dX12_areOne_26 ic_0) ?_
  exact sj_zret hI (by decide) dX12_areOne_27 (fun h => h)
set_option maxHeartbeats 4000000 in
set_option maxRecDepth 100000 in
theorem w_X12_areOne {J : JT} {an : Option Value × St × Dy} (hI : Isj cX12_areOne 3 RX12 "areOne" 2 43 (some .boolean) an J) {β : Bu} (σ : St) (p0 : Nat) (p1 : Int32) (p2 : Int32) (δ : Dy) : SJ (m_X12_areOne σ p0 p1 p2 δ) (PI σ an) (J 0 [(0, .ref p0), (1, .int p1), (2, .int p2)] [] β σ δ) := by
  have hJ := hI.cor
  unfold m_X12_areOne
  refine sj (j_aload_n hJ dX12_areOne_0 rfl 0 rfl) ?_
  refine sj (j_iconst hJ (v := 0) dX12_areOne_1 ic_0) ?_
  refine sj_pI hJ fl_X12_118 rfl dX12_areOne_2 (fun d1 => ?_)
  refine sj (j_aload_n hJ dX12_areOne_5 rfl 0 rfl) ?_
  refine sj (j_iload_n hJ dX12_areOne_6 rfl 1 rfl) ?_
  refine sj_callVip hJ [.int p1] (st := []) (fr' := 1) (lo' := 22) ml_X12_371 hc_12 (by decide) (by decide) (Nat.le_of_ble_eq_true rfl) dX12_areOne_7 rfl (fun _ h9 => ct_X12_isVariable h9) (fun v2 => ?_)
  refine sj_if (j_if_eq hJ (tgt := 21) dX12_areOne_10 (by decide)) (fun _ => ?_) (fun _ => ?_)
  · refine sj (j_sub hJ (L' := [(0, .ref p0)]) [0] rfl) ?_
    exact w_X12_areOne_b21 hI σ p0 d1
  · refine sj (j_aload_n hJ dX12_areOne_13 rfl 0 rfl) ?_
    refine sj (j_iload_n hJ dX12_areOne_14 rfl 2 rfl) ?_
    refine sj_callVip hJ [.int p2] (st := []) (fr' := 1) (lo' := 22) ml_X12_371 hc_12 (by decide) (by decide) (Nat.le_of_ble_eq_true rfl) dX12_areOne_15 rfl (fun _ h9 => ct_X12_isVariable h9) (fun v4 => ?_)
    refine sj_if (j_if_ne hJ (tgt := 28) dX12_areOne_18 (by decide)) (fun _ => ?_) (fun _ => ?_)
    · refine sj (j_sub hJ (L' := [(0, .ref p0)]) [0] rfl) ?_
      exact w_X12_areOne_b21 hI σ p0 d1
    · refine sj (j_aload_n hJ dX12_areOne_28 rfl 0 rfl) ?_
      refine sj_gR hJ fl_X12_7 rfl dX12_areOne_29 (fun v5 => ?_)
      refine sj (j_iconst hJ (v := 1) dX12_areOne_32 ic_1) ?_
      refine sj (j_iload_n hJ dX12_areOne_33 rfl 1 rfl) ?_
      refine sj (j_iadd hJ dX12_areOne_34) ?_
      refine sj_rI hJ dX12_areOne_35 (fun v6 => ?_)
      refine sj (j_aload_n hJ dX12_areOne_36 rfl 0 rfl) ?_
      refine sj_gR hJ fl_X12_7 rfl dX12_areOne_37 (fun v7 => ?_)
      refine sj (j_iconst hJ (v := 1) dX12_areOne_40 ic_1) ?_
      refine sj (j_iload_n hJ dX12_areOne_41 rfl 2 rfl) ?_
      refine sj (j_iadd hJ dX12_areOne_42) ?_
      refine sj_rI hJ dX12_areOne_43 (fun v8 => ?_)
      refine sj_if (j_icmp_ne hJ (tgt := 51) dX12_areOne_44 (by decide)) (fun _ => ?_) (fun _ => ?_)
      · refine sj (j_iconst hJ (v := 1) dX12_areOne_47 ic_1) ?_
        refine sj (j_goto hJ (tgt := 52) dX12_areOne_48 (by decide)) ?_
        exact sj_zret hI (by decide) dX12_areOne_52 (fun h => h)
      · refine sj (j_iconst hJ (v := 0) dX12_areOne_51 ic_0) ?_
        exact sj_zret hI (by decide) dX12_areOne_52 (fun h => h)
theorem ct_X12_areOne {σ : St} {p0 : Nat} {p1 : Int32} {p2 : Int32} {δ : Dy} {r : (Int32 × Dy)} (h : m_X12_areOne σ p0 p1 p2 δ = some r) : CT yX12_areOne cX12_areOne 3 (some .boolean) 2 43 0 0 [.ref p0, .int p1, .int p2] σ δ ((some (.int r.1)), σ, r.2) := CT_of (by decide +kernel) (Nat.le_of_ble_eq_true rfl) (fun J hI => w_X12_areOne hI σ p0 p1 p2 δ r h rfl)
def m_X12_tokens (σ : St) (p0 : Nat) (δ : Dy) : Option (Int32 × Dy) :=
  (pI σ δ 12 p0 50 (0 : Int32)).bind fun d1 =>
  (gR σ 12 p0 0).bind fun v2 =>
  (rI σ d1 v2 (121 : Int32)).bind fun v3 =>
  some (v3, d1)
set_option maxHeartbeats 4000000 in
set_option maxRecDepth 100000 in
theorem w_X12_tokens {J : JT} {an : Option Value × St × Dy} (hI : Isj cX12_tokens 1 RX12 "tokens" 0 0 (some .int) an J) {β : Bu} (σ : St) (p0 : Nat) (δ : Dy) : SJ (m_X12_tokens σ p0 δ) (PI σ an) (J 0 [(0, .ref p0)] [] β σ δ) := by
  have hJ := hI.cor
  unfold m_X12_tokens
  refine sj (j_aload_n hJ dX12_tokens_0 rfl 0 rfl) ?_
  refine sj (j_iconst hJ (v := 0) dX12_tokens_1 ic_0) ?_
  refine sj_pI hJ fl_X12_118 rfl dX12_tokens_2 (fun d1 => ?_)
  refine sj (j_aload_n hJ dX12_tokens_5 rfl 0 rfl) ?_
  refine sj_gR hJ fl_X12_7 rfl dX12_tokens_6 (fun v2 => ?_)
  refine sj (j_bipush hJ (v := 121) dX12_tokens_9 ib_121) ?_
  refine sj_rI hJ dX12_tokens_11 (fun v3 => ?_)
  exact sj_iret hI dX12_tokens_12 (fun h => h)
theorem ct_X12_tokens {σ : St} {p0 : Nat} {δ : Dy} {r : (Int32 × Dy)} (h : m_X12_tokens σ p0 δ = some r) : CT yX12_tokens cX12_tokens 1 (some .int) 0 0 0 0 [.ref p0] σ δ ((some (.int r.1)), σ, r.2) := CT_of (by decide +kernel) (Nat.le_of_ble_eq_true rfl) (fun J hI => w_X12_tokens hI σ p0 δ r h rfl)
def m_X12_isToken (σ : St) (p0 : Nat) (p1 : Int32) (δ : Dy) : Option Int32 :=
  (gR σ 12 p0 0).bind fun v1 =>
  (rI σ δ v1 (121 : Int32)).bind fun v2 =>
  (m_X12_in σ p1 (0 : Int32) (v2 - (1 : Int32)) δ).bind fun v3 =>
  (zo v3).bind fun _ => some v3
set_option maxHeartbeats 4000000 in
set_option maxRecDepth 100000 in
theorem w_X12_isToken {J : JT} {an : Option Value × St × Dy} (hI : Isj cX12_isToken 2 RX12 "isToken" 1 22 (some .boolean) an J) {β : Bu} (σ : St) (p0 : Nat) (p1 : Int32) (δ : Dy) : SJ (m_X12_isToken σ p0 p1 δ) (PIp σ δ an) (J 0 [(0, .ref p0), (1, .int p1)] [] β σ δ) := by
  have hJ := hI.cor
  unfold m_X12_isToken
  refine sj (j_iload_n hJ dX12_isToken_0 rfl 1 rfl) ?_
  refine sj (j_iconst hJ (v := 0) dX12_isToken_1 ic_0) ?_
  refine sj (j_aload_n hJ dX12_isToken_2 rfl 0 rfl) ?_
  refine sj_gR hJ fl_X12_7 rfl dX12_isToken_3 (fun v1 => ?_)
  refine sj (j_bipush hJ (v := 121) dX12_isToken_6 ib_121) ?_
  refine sj_rI hJ dX12_isToken_8 (fun v2 => ?_)
  refine sj (j_iconst hJ (v := 1) dX12_isToken_9 ic_1) ?_
  refine sj (j_isub hJ dX12_isToken_10) ?_
  refine sj_callSip hJ [.int p1, .int (0 : Int32), .int (v2 - (1 : Int32))] (st := []) (fr' := 0) (lo' := 0) ml_X12_122 (by decide) (by decide) (Nat.le_of_ble_eq_true rfl) dX12_isToken_11 rfl (fun _ h9 => ct_X12_in h9) (fun v3 => ?_)
  exact sj_zretG hI dX12_isToken_14 (fun h => h)
theorem ct_X12_isToken {σ : St} {p0 : Nat} {p1 : Int32} {δ : Dy} {r : Int32} (h : m_X12_isToken σ p0 p1 δ = some r) : CT yX12_isToken cX12_isToken 2 (some .boolean) 1 22 0 0 [.ref p0, .int p1] σ δ ((some (.int r)), σ, δ) := CT_of (by decide +kernel) (Nat.le_of_ble_eq_true rfl) (fun J hI => w_X12_isToken hI σ p0 p1 δ r h rfl)
def m_X12_part_b82 (σ : St) (q0 : Nat) (q1 : Int32) (δ : Dy) : Option (Int32 × Dy) :=
  (chk σ 12 q0).bind fun _ => (m_X12_asTold σ q0 q1 δ).bind fun v14 =>
  some (v14, δ)
def m_X12_part (σ : St) (p0 : Nat) (p1 : Int32) (p2 : Int32) (δ : Dy) : Option (Int32 × Dy) :=
  (pI σ δ 12 p0 50 (0 : Int32)).bind fun d1 =>
  (chk σ 12 p0).bind fun _ => (m_X12_isToken σ p0 p1 d1).bind fun v2 =>
  if v2 = 0 then
    (chk σ 12 p0).bind fun _ => (m_X12_stop σ p0 (1 : Int32) d1).bind fun v3 =>
    some (v3.1, v3.2)
  else
    (m_X12_in σ p2 (0 : Int32) (4 : Int32) d1).bind fun v4 =>
    if v4 = 0 then
      (chk σ 12 p0).bind fun _ => (m_X12_stop σ p0 (2 : Int32) d1).bind fun v5 =>
      some (v5.1, v5.2)
    else
      if p2 = 0 then
        (gR σ 12 p0 0).bind fun v6 =>
        (rI σ d1 v6 ((122 : Int32) + p1)).bind fun v7 =>
        some (v7, d1)
      else
        if (3 : Int32) ≤ p2 then
          if p2 = (3 : Int32) then
            (gR σ 12 p0 0).bind fun v8 =>
            (rI σ d1 v8 ((422 : Int32) + p1)).bind fun v9 =>
            some (v9, d1)
          else
            (gR σ 12 p0 0).bind fun v10 =>
            (rI σ d1 v10 ((522 : Int32) + p1)).bind fun v11 =>
            some (v11, d1)
        else
          if p2 = (1 : Int32) then
            (gR σ 12 p0 0).bind fun v12 =>
            (rI σ d1 v12 ((222 : Int32) + p1)).bind fun v13 =>
            m_X12_part_b82 σ p0 v13 d1
          else
            (gR σ 12 p0 0).bind fun v15 =>
            (rI σ d1 v15 ((322 : Int32) + p1)).bind fun v16 =>
            m_X12_part_b82 σ p0 v16 d1
set_option maxHeartbeats 4000000 in
set_option maxRecDepth 100000 in
theorem w_X12_part_b82 {J : JT} {an : Option Value × St × Dy} (hI : Isj cX12_part 3 RX12 "part" 2 43 (some .int) an J) {β : Bu} (σ : St) (q0 : Nat) (q1 : Int32) (δ : Dy) : SJ (m_X12_part_b82 σ q0 q1 δ) (PI σ an) (J 82 [] [.int q1, .ref q0] β σ δ) := by
  have hJ := hI.cor
  unfold m_X12_part_b82
  refine sj_callVip hJ [.int q1] (st := []) (fr' := 1) (lo' := 21) ml_X12_349 hc_12 (by decide) (by decide) (Nat.le_of_ble_eq_true rfl) dX12_part_82 rfl (fun _ h9 => ct_X12_asTold h9) (fun v14 => ?_)
  exact sj_iret hI dX12_part_85 (fun h => h)
set_option maxHeartbeats 4000000 in
set_option maxRecDepth 100000 in
theorem w_X12_part {J : JT} {an : Option Value × St × Dy} (hI : Isj cX12_part 3 RX12 "part" 2 43 (some .int) an J) {β : Bu} (σ : St) (p0 : Nat) (p1 : Int32) (p2 : Int32) (δ : Dy) : SJ (m_X12_part σ p0 p1 p2 δ) (PI σ an) (J 0 [(0, .ref p0), (1, .int p1), (2, .int p2)] [] β σ δ) := by
  have hJ := hI.cor
  unfold m_X12_part
  refine sj (j_aload_n hJ dX12_part_0 rfl 0 rfl) ?_
  refine sj (j_iconst hJ (v := 0) dX12_part_1 ic_0) ?_
  refine sj_pI hJ fl_X12_118 rfl dX12_part_2 (fun d1 => ?_)
  refine sj (j_aload_n hJ dX12_part_5 rfl 0 rfl) ?_
  refine sj (j_iload_n hJ dX12_part_6 rfl 1 rfl) ?_
  refine sj_callVip hJ [.int p1] (st := []) (fr' := 1) (lo' := 22) ml_X12_374 hc_12 (by decide) (by decide) (Nat.le_of_ble_eq_true rfl) dX12_part_7 rfl (fun _ h9 => ct_X12_isToken h9) (fun v2 => ?_)
  refine sj_if (j_if_ne hJ (tgt := 19) dX12_part_10 (by decide)) (fun _ => ?_) (fun _ => ?_)
  · refine sj (j_aload_n hJ dX12_part_13 rfl 0 rfl) ?_
    refine sj (j_iconst hJ (v := 1) dX12_part_14 ic_1) ?_
    refine sj_callVi hJ [.int (1 : Int32)] (st := []) (fr' := 0) (lo' := 0) ml_X12_137 hc_12 (by decide) (by decide) (Nat.le_of_ble_eq_true rfl) dX12_part_15 rfl (fun _ h9 => ct_X12_stop h9) (fun v3 => ?_)
    exact sj_iret hI dX12_part_18 (fun h => h)
  · refine sj (j_iload_n hJ dX12_part_19 rfl 2 rfl) ?_
    refine sj (j_iconst hJ (v := 0) dX12_part_20 ic_0) ?_
    refine sj (j_iconst hJ (v := 4) dX12_part_21 ic_4) ?_
    refine sj_callSip hJ [.int p2, .int (0 : Int32), .int (4 : Int32)] (st := []) (fr' := 0) (lo' := 0) ml_X12_122 (by decide) (by decide) (Nat.le_of_ble_eq_true rfl) dX12_part_22 rfl (fun _ h9 => ct_X12_in h9) (fun v4 => ?_)
    refine sj_if (j_if_ne hJ (tgt := 34) dX12_part_25 (by decide)) (fun _ => ?_) (fun _ => ?_)
    · refine sj (j_aload_n hJ dX12_part_28 rfl 0 rfl) ?_
      refine sj (j_iconst hJ (v := 2) dX12_part_29 ic_2) ?_
      refine sj_callVi hJ [.int (2 : Int32)] (st := []) (fr' := 0) (lo' := 0) ml_X12_137 hc_12 (by decide) (by decide) (Nat.le_of_ble_eq_true rfl) dX12_part_30 rfl (fun _ h9 => ct_X12_stop h9) (fun v5 => ?_)
      exact sj_iret hI dX12_part_33 (fun h => h)
    · refine sj (j_iload_n hJ dX12_part_34 rfl 2 rfl) ?_
      refine sj_if (j_if_ne hJ (tgt := 48) dX12_part_35 (by decide)) (fun _ => ?_) (fun _ => ?_)
      · refine sj (j_aload_n hJ dX12_part_38 rfl 0 rfl) ?_
        refine sj_gR hJ fl_X12_7 rfl dX12_part_39 (fun v6 => ?_)
        refine sj (j_bipush hJ (v := 122) dX12_part_42 ib_122) ?_
        refine sj (j_iload_n hJ dX12_part_44 rfl 1 rfl) ?_
        refine sj (j_iadd hJ dX12_part_45) ?_
        refine sj_rI hJ dX12_part_46 (fun v7 => ?_)
        exact sj_iret hI dX12_part_47 (fun h => h)
      · refine sj (j_iload_n hJ dX12_part_48 rfl 2 rfl) ?_
        refine sj (j_iconst hJ (v := 3) dX12_part_49 ic_3) ?_
        refine sj_if (j_icmp_ge hJ (tgt := 86) dX12_part_50 (by decide)) (fun _ => ?_) (fun _ => ?_)
        · refine sj (j_iload_n hJ dX12_part_86 rfl 2 rfl) ?_
          refine sj (j_iconst hJ (v := 3) dX12_part_87 ic_3) ?_
          refine sj_if (j_icmp_ne hJ (tgt := 104) dX12_part_88 (by decide)) (fun _ => ?_) (fun _ => ?_)
          · refine sj (j_aload_n hJ dX12_part_91 rfl 0 rfl) ?_
            refine sj_gR hJ fl_X12_7 rfl dX12_part_92 (fun v8 => ?_)
            refine sj (j_sipush hJ (v := 422) dX12_part_95 is_422) ?_
            refine sj (j_iload_n hJ dX12_part_98 rfl 1 rfl) ?_
            refine sj (j_iadd hJ dX12_part_99) ?_
            refine sj_rI hJ dX12_part_100 (fun v9 => ?_)
            refine sj (j_goto hJ (tgt := 114) dX12_part_101 (by decide)) ?_
            exact sj_iret hI dX12_part_114 (fun h => h)
          · refine sj (j_aload_n hJ dX12_part_104 rfl 0 rfl) ?_
            refine sj_gR hJ fl_X12_7 rfl dX12_part_105 (fun v10 => ?_)
            refine sj (j_sipush hJ (v := 522) dX12_part_108 is_522) ?_
            refine sj (j_iload_n hJ dX12_part_111 rfl 1 rfl) ?_
            refine sj (j_iadd hJ dX12_part_112) ?_
            refine sj_rI hJ dX12_part_113 (fun v11 => ?_)
            exact sj_iret hI dX12_part_114 (fun h => h)
        · refine sj (j_aload_n hJ dX12_part_53 rfl 0 rfl) ?_
          refine sj (j_iload_n hJ dX12_part_54 rfl 2 rfl) ?_
          refine sj (j_iconst hJ (v := 1) dX12_part_55 ic_1) ?_
          refine sj_if (j_icmp_ne hJ (tgt := 72) dX12_part_56 (by decide)) (fun _ => ?_) (fun _ => ?_)
          · refine sj (j_aload_n hJ dX12_part_59 rfl 0 rfl) ?_
            refine sj_gR hJ fl_X12_7 rfl dX12_part_60 (fun v12 => ?_)
            refine sj (j_sipush hJ (v := 222) dX12_part_63 is_222) ?_
            refine sj (j_iload_n hJ dX12_part_66 rfl 1 rfl) ?_
            refine sj (j_iadd hJ dX12_part_67) ?_
            refine sj_rI hJ dX12_part_68 (fun v13 => ?_)
            refine sj (j_goto hJ (tgt := 82) dX12_part_69 (by decide)) ?_
            refine sj (j_sub hJ (L' := []) [] rfl) ?_
            exact w_X12_part_b82 hI σ p0 v13 d1
          · refine sj (j_aload_n hJ dX12_part_72 rfl 0 rfl) ?_
            refine sj_gR hJ fl_X12_7 rfl dX12_part_73 (fun v15 => ?_)
            refine sj (j_sipush hJ (v := 322) dX12_part_76 is_322) ?_
            refine sj (j_iload_n hJ dX12_part_79 rfl 1 rfl) ?_
            refine sj (j_iadd hJ dX12_part_80) ?_
            refine sj_rI hJ dX12_part_81 (fun v16 => ?_)
            refine sj (j_sub hJ (L' := []) [] rfl) ?_
            exact w_X12_part_b82 hI σ p0 v16 d1
theorem ct_X12_part {σ : St} {p0 : Nat} {p1 : Int32} {p2 : Int32} {δ : Dy} {r : (Int32 × Dy)} (h : m_X12_part σ p0 p1 p2 δ = some r) : CT yX12_part cX12_part 3 (some .int) 2 43 0 0 [.ref p0, .int p1, .int p2] σ δ ((some (.int r.1)), σ, r.2) := CT_of (by decide +kernel) (Nat.le_of_ble_eq_true rfl) (fun J hI => w_X12_part hI σ p0 p1 p2 δ r h rfl)
def m_X12_isMadeBy_b21 (σ : St) (p0 : Nat) (δ : Dy) : Option (Int32 × Dy) :=
  (pI σ δ 12 p0 50 (1 : Int32)).bind fun d3 =>
  some ((0 : Int32), d3)
def m_X12_isMadeBy (σ : St) (p0 : Nat) (p1 : Int32) (p2 : Int32) (δ : Dy) : Option (Int32 × Dy) :=
  (pI σ δ 12 p0 50 (0 : Int32)).bind fun d1 =>
  (chk σ 12 p0).bind fun _ => (m_X12_isToken σ p0 p1 d1).bind fun v2 =>
  if v2 = 0 then
    m_X12_isMadeBy_b21 σ p0 d1
  else
    (chk σ 12 p0).bind fun _ => (m_X12_isToken σ p0 p2 d1).bind fun v4 =>
    if v4 = 0 then
      m_X12_isMadeBy_b21 σ p0 d1
    else
      (gR σ 12 p0 0).bind fun v5 =>
      (dvI p2 (32 : Int32)).bind fun v6 =>
      (rI σ d1 v5 (((622 : Int32) + ((4 : Int32) * p1)) + v6)).bind fun v7 =>
      (rmI p2 (32 : Int32)).bind fun v8 =>
      if ((v7 >>> (v8 &&& 31)) &&& (1 : Int32)) = (1 : Int32) then
        some ((1 : Int32), d1)
      else
        some ((0 : Int32), d1)
set_option maxHeartbeats 4000000 in
set_option maxRecDepth 100000 in
theorem w_X12_isMadeBy_b21 {J : JT} {an : Option Value × St × Dy} (hI : Isj cX12_isMadeBy 3 RX12 "isMadeBy" 2 43 (some .boolean) an J) {β : Bu} (σ : St) (p0 : Nat) (δ : Dy) : SJ (m_X12_isMadeBy_b21 σ p0 δ) (PI σ an) (J 21 [(0, .ref p0)] [] β σ δ) := by
  have hJ := hI.cor
  unfold m_X12_isMadeBy_b21
  refine sj (j_aload_n hJ dX12_isMadeBy_21 rfl 0 rfl) ?_
  refine sj (j_iconst hJ (v := 1) dX12_isMadeBy_22 ic_1) ?_
  refine sj_pI hJ fl_X12_118 rfl dX12_isMadeBy_23 (fun d3 => ?_)
  refine sj (j_iconst hJ (v := 0) dX12_isMadeBy_26 ic_0) ?_
  exact sj_zret hI (by decide) dX12_isMadeBy_27 (fun h => h)
set_option maxHeartbeats 4000000 in
set_option maxRecDepth 100000 in
theorem w_X12_isMadeBy {J : JT} {an : Option Value × St × Dy} (hI : Isj cX12_isMadeBy 3 RX12 "isMadeBy" 2 43 (some .boolean) an J) {β : Bu} (σ : St) (p0 : Nat) (p1 : Int32) (p2 : Int32) (δ : Dy) : SJ (m_X12_isMadeBy σ p0 p1 p2 δ) (PI σ an) (J 0 [(0, .ref p0), (1, .int p1), (2, .int p2)] [] β σ δ) := by
  have hJ := hI.cor
  unfold m_X12_isMadeBy
  refine sj (j_aload_n hJ dX12_isMadeBy_0 rfl 0 rfl) ?_
  refine sj (j_iconst hJ (v := 0) dX12_isMadeBy_1 ic_0) ?_
  refine sj_pI hJ fl_X12_118 rfl dX12_isMadeBy_2 (fun d1 => ?_)
  refine sj (j_aload_n hJ dX12_isMadeBy_5 rfl 0 rfl) ?_
  refine sj (j_iload_n hJ dX12_isMadeBy_6 rfl 1 rfl) ?_
  refine sj_callVip hJ [.int p1] (st := []) (fr' := 1) (lo' := 22) ml_X12_374 hc_12 (by decide) (by decide) (Nat.le_of_ble_eq_true rfl) dX12_isMadeBy_7 rfl (fun _ h9 => ct_X12_isToken h9) (fun v2 => ?_)
  refine sj_if (j_if_eq hJ (tgt := 21) dX12_isMadeBy_10 (by decide)) (fun _ => ?_) (fun _ => ?_)
  · refine sj (j_sub hJ (L' := [(0, .ref p0)]) [0] rfl) ?_
    exact w_X12_isMadeBy_b21 hI σ p0 d1
  · refine sj (j_aload_n hJ dX12_isMadeBy_13 rfl 0 rfl) ?_
    refine sj (j_iload_n hJ dX12_isMadeBy_14 rfl 2 rfl) ?_
    refine sj_callVip hJ [.int p2] (st := []) (fr' := 1) (lo' := 22) ml_X12_374 hc_12 (by decide) (by decide) (Nat.le_of_ble_eq_true rfl) dX12_isMadeBy_15 rfl (fun _ h9 => ct_X12_isToken h9) (fun v4 => ?_)
    refine sj_if (j_if_ne hJ (tgt := 28) dX12_isMadeBy_18 (by decide)) (fun _ => ?_) (fun _ => ?_)
    · refine sj (j_sub hJ (L' := [(0, .ref p0)]) [0] rfl) ?_
      exact w_X12_isMadeBy_b21 hI σ p0 d1
    · refine sj (j_aload_n hJ dX12_isMadeBy_28 rfl 0 rfl) ?_
      refine sj_gR hJ fl_X12_7 rfl dX12_isMadeBy_29 (fun v5 => ?_)
      refine sj (j_sipush hJ (v := 622) dX12_isMadeBy_32 is_622) ?_
      refine sj (j_iconst hJ (v := 4) dX12_isMadeBy_35 ic_4) ?_
      refine sj (j_iload_n hJ dX12_isMadeBy_36 rfl 1 rfl) ?_
      refine sj (j_imul hJ dX12_isMadeBy_37) ?_
      refine sj (j_iadd hJ dX12_isMadeBy_38) ?_
      refine sj (j_iload_n hJ dX12_isMadeBy_39 rfl 2 rfl) ?_
      refine sj (j_bipush hJ (v := 32) dX12_isMadeBy_40 ib_32) ?_
      refine sj_dvI hJ dX12_isMadeBy_42 (fun v6 => ?_)
      refine sj (j_iadd hJ dX12_isMadeBy_43) ?_
      refine sj_rI hJ dX12_isMadeBy_44 (fun v7 => ?_)
      refine sj (j_iload_n hJ dX12_isMadeBy_45 rfl 2 rfl) ?_
      refine sj (j_bipush hJ (v := 32) dX12_isMadeBy_46 ib_32) ?_
      refine sj_rmI hJ dX12_isMadeBy_48 (fun v8 => ?_)
      refine sj (j_ishr hJ dX12_isMadeBy_49) ?_
      refine sj (j_iconst hJ (v := 1) dX12_isMadeBy_50 ic_1) ?_
      refine sj (j_iand hJ dX12_isMadeBy_51) ?_
      refine sj (j_iconst hJ (v := 1) dX12_isMadeBy_52 ic_1) ?_
      refine sj_if (j_icmp_ne hJ (tgt := 60) dX12_isMadeBy_53 (by decide)) (fun _ => ?_) (fun _ => ?_)
      · refine sj (j_iconst hJ (v := 1) dX12_isMadeBy_56 ic_1) ?_
        refine sj (j_goto hJ (tgt := 61) dX12_isMadeBy_57 (by decide)) ?_
        exact sj_zret hI (by decide) dX12_isMadeBy_61 (fun h => h)
      · refine sj (j_iconst hJ (v := 0) dX12_isMadeBy_60 ic_0) ?_
        exact sj_zret hI (by decide) dX12_isMadeBy_61 (fun h => h)
theorem ct_X12_isMadeBy {σ : St} {p0 : Nat} {p1 : Int32} {p2 : Int32} {δ : Dy} {r : (Int32 × Dy)} (h : m_X12_isMadeBy σ p0 p1 p2 δ = some r) : CT yX12_isMadeBy cX12_isMadeBy 3 (some .boolean) 2 43 0 0 [.ref p0, .int p1, .int p2] σ δ ((some (.int r.1)), σ, r.2) := CT_of (by decide +kernel) (Nat.le_of_ble_eq_true rfl) (fun J hI => w_X12_isMadeBy hI σ p0 p1 p2 δ r h rfl)
def m_X12_standing_b9 (σ : St) (p0 : Nat) (p1 : Int32) (p2 : Int32) (δ : Dy) : Option (Int32 × Dy) := lp (fun (s : (Int32 × Int32)) =>
  (gR σ 12 p0 0).bind fun v2 =>
  (rI σ δ v2 (121 : Int32)).bind fun v3 =>
  if v3 ≤ s.2 then
    some (Sum.inr (s.1, δ))
  else
    (gR σ 12 p0 0).bind fun v4 =>
    (rI σ δ v4 ((422 : Int32) + s.2)).bind fun v5 =>
    some (Sum.inl ((s.1 + v5), (s.2 + (1 : Int32))))) (p1, p2)
def m_X12_standing (σ : St) (p0 : Nat) (δ : Dy) : Option (Int32 × Dy) :=
  (pI σ δ 12 p0 50 (0 : Int32)).bind fun d1 =>
  m_X12_standing_b9 σ p0 (0 : Int32) (0 : Int32) d1
set_option maxHeartbeats 4000000 in
set_option maxRecDepth 100000 in
theorem w_X12_standing_b9 {J : JT} {an : Option Value × St × Dy} (hI : Isj cX12_standing 3 RX12 "standing" 0 0 (some .int) an J) {β : Bu} (σ : St) (p0 : Nat) (p1 : Int32) (p2 : Int32) (δ : Dy) : SJ (m_X12_standing_b9 σ p0 p1 p2 δ) (PI σ an) (J 9 [(0, .ref p0), (1, .int p1), (2, .int p2)] [] β σ δ) := by
  have hJ := hI.cor
  unfold m_X12_standing_b9
  refine sj_lp (G := fun s : (Int32 × Int32) => J 9 [(0, .ref p0), (1, .int s.1), (2, .int s.2)] [] β σ δ) (fun s => ?_) (p1, p2)
  refine sj (j_iload_n hJ dX12_standing_9 rfl 2 rfl) ?_
  refine sj (j_aload_n hJ dX12_standing_10 rfl 0 rfl) ?_
  refine sj_gR hJ fl_X12_7 rfl dX12_standing_11 (fun v2 => ?_)
  refine sj (j_bipush hJ (v := 121) dX12_standing_14 ib_121) ?_
  refine sj_rI hJ dX12_standing_16 (fun v3 => ?_)
  refine sj_if (j_icmp_ge hJ (tgt := 39) dX12_standing_17 (by decide)) (fun _ => ?_) (fun _ => ?_)
  · refine sj (j_iload_n hJ dX12_standing_39 rfl 1 rfl) ?_
    exact sj_iret hI dX12_standing_40 (fun h => h)
  · refine sj (j_iload_n hJ dX12_standing_20 rfl 1 rfl) ?_
    refine sj (j_aload_n hJ dX12_standing_21 rfl 0 rfl) ?_
    refine sj_gR hJ fl_X12_7 rfl dX12_standing_22 (fun v4 => ?_)
    refine sj (j_sipush hJ (v := 422) dX12_standing_25 is_422) ?_
    refine sj (j_iload_n hJ dX12_standing_28 rfl 2 rfl) ?_
    refine sj (j_iadd hJ dX12_standing_29) ?_
    refine sj_rI hJ dX12_standing_30 (fun v5 => ?_)
    refine sj (j_iadd hJ dX12_standing_31) ?_
    refine sj (j_istore_n hJ (L' := [(1, .int (s.1 + v5)), (0, .ref p0), (2, .int s.2)]) dX12_standing_32 rfl (by decide) rfl) ?_
    refine sj (j_iinc hJ (L' := [(2, .int (s.2 + (1 : Int32))), (1, .int (s.1 + v5)), (0, .ref p0)]) dX12_standing_33 2 rfl (congrArg (fun z => s.2 + z) ic_1) (by decide) rfl) ?_
    refine sj (j_goto hJ (tgt := 9) dX12_standing_36 (by decide)) ?_
    refine sj (j_sub hJ (L' := [(0, .ref p0), (1, .int (s.1 + v5)), (2, .int (s.2 + (1 : Int32)))]) [2, 1, 0] rfl) ?_
    exact sj_end (fun h => h)
set_option maxHeartbeats 4000000 in
set_option maxRecDepth 100000 in
theorem w_X12_standing {J : JT} {an : Option Value × St × Dy} (hI : Isj cX12_standing 3 RX12 "standing" 0 0 (some .int) an J) {β : Bu} (σ : St) (p0 : Nat) (δ : Dy) : SJ (m_X12_standing σ p0 δ) (PI σ an) (J 0 [(0, .ref p0)] [] β σ δ) := by
  have hJ := hI.cor
  unfold m_X12_standing
  refine sj (j_aload_n hJ dX12_standing_0 rfl 0 rfl) ?_
  refine sj (j_iconst hJ (v := 0) dX12_standing_1 ic_0) ?_
  refine sj_pI hJ fl_X12_118 rfl dX12_standing_2 (fun d1 => ?_)
  refine sj (j_iconst hJ (v := 0) dX12_standing_5 ic_0) ?_
  refine sj (j_istore_n hJ (L' := [(1, .int (0 : Int32)), (0, .ref p0)]) dX12_standing_6 rfl (by decide) rfl) ?_
  refine sj (j_iconst hJ (v := 0) dX12_standing_7 ic_0) ?_
  refine sj (j_istore_n hJ (L' := [(2, .int (0 : Int32)), (1, .int (0 : Int32)), (0, .ref p0)]) dX12_standing_8 rfl (by decide) rfl) ?_
  refine sj (j_sub hJ (L' := [(0, .ref p0), (1, .int (0 : Int32)), (2, .int (0 : Int32))]) [2, 1, 0] rfl) ?_
  exact w_X12_standing_b9 hI σ p0 (0 : Int32) (0 : Int32) d1
theorem ct_X12_standing {σ : St} {p0 : Nat} {δ : Dy} {r : (Int32 × Dy)} (h : m_X12_standing σ p0 δ = some r) : CT yX12_standing cX12_standing 3 (some .int) 0 0 0 0 [.ref p0] σ δ ((some (.int r.1)), σ, r.2) := CT_of (by decide +kernel) (Nat.le_of_ble_eq_true rfl) (fun J hI => w_X12_standing hI σ p0 δ r h rfl)
def m_X12_standingAnew (σ : St) (p0 : Nat) (δ : Dy) : Option (Int32 × Dy) :=
  (chk σ 12 p0).bind fun _ => (m_X12_standing σ p0 δ).bind fun v1 =>
  some (v1.1, v1.2)
set_option maxHeartbeats 4000000 in
set_option maxRecDepth 100000 in
theorem w_X12_standingAnew {J : JT} {an : Option Value × St × Dy} (hI : Isj cX12_standingAnew 1 RX12 "standingAnew" 1 22 (some .int) an J) {β : Bu} (σ : St) (p0 : Nat) (δ : Dy) : SJ (m_X12_standingAnew σ p0 δ) (PI σ an) (J 0 [(0, .ref p0)] [] β σ δ) := by
  have hJ := hI.cor
  unfold m_X12_standingAnew
  refine sj (j_aload_n hJ dX12_standingAnew_0 rfl 0 rfl) ?_
  refine sj_callVi hJ [] (st := []) (fr' := 0) (lo' := 0) ml_X12_377 hc_12 (by decide) (by decide) (Nat.le_of_ble_eq_true rfl) dX12_standingAnew_1 rfl (fun _ h9 => ct_X12_standing h9) (fun v1 => ?_)
  exact sj_iret hI dX12_standingAnew_4 (fun h => h)
theorem ct_X12_standingAnew {σ : St} {p0 : Nat} {δ : Dy} {r : (Int32 × Dy)} (h : m_X12_standingAnew σ p0 δ = some r) : CT yX12_standingAnew cX12_standingAnew 1 (some .int) 1 22 0 0 [.ref p0] σ δ ((some (.int r.1)), σ, r.2) := CT_of (by decide +kernel) (Nat.le_of_ble_eq_true rfl) (fun J hI => w_X12_standingAnew hI σ p0 δ r h rfl)
def m_X12_waiting (σ : St) (p0 : Nat) (δ : Dy) : Option (Int32 × Dy) :=
  (pI σ δ 12 p0 50 (0 : Int32)).bind fun d1 =>
  (gR σ 12 p0 0).bind fun v2 =>
  (rI σ d1 v2 (7041 : Int32)).bind fun v3 =>
  some (v3, d1)
set_option maxHeartbeats 4000000 in
set_option maxRecDepth 100000 in
theorem w_X12_waiting {J : JT} {an : Option Value × St × Dy} (hI : Isj cX12_waiting 1 RX12 "waiting" 0 0 (some .int) an J) {β : Bu} (σ : St) (p0 : Nat) (δ : Dy) : SJ (m_X12_waiting σ p0 δ) (PI σ an) (J 0 [(0, .ref p0)] [] β σ δ) := by
  have hJ := hI.cor
  unfold m_X12_waiting
  refine sj (j_aload_n hJ dX12_waiting_0 rfl 0 rfl) ?_
  refine sj (j_iconst hJ (v := 0) dX12_waiting_1 ic_0) ?_
  refine sj_pI hJ fl_X12_118 rfl dX12_waiting_2 (fun d1 => ?_)
  refine sj (j_aload_n hJ dX12_waiting_5 rfl 0 rfl) ?_
  refine sj_gR hJ fl_X12_7 rfl dX12_waiting_6 (fun v2 => ?_)
  refine sj (j_sipush hJ (v := 7041) dX12_waiting_9 is_7041) ?_
  refine sj_rI hJ dX12_waiting_12 (fun v3 => ?_)
  exact sj_iret hI dX12_waiting_13 (fun h => h)
theorem ct_X12_waiting {σ : St} {p0 : Nat} {δ : Dy} {r : (Int32 × Dy)} (h : m_X12_waiting σ p0 δ = some r) : CT yX12_waiting cX12_waiting 1 (some .int) 0 0 0 0 [.ref p0] σ δ ((some (.int r.1)), σ, r.2) := CT_of (by decide +kernel) (Nat.le_of_ble_eq_true rfl) (fun J hI => w_X12_waiting hI σ p0 δ r h rfl)
def m_X12_fired (σ : St) (p0 : Nat) (p1 : Int32) (δ : Dy) : Option (Int32 × Dy) :=
  (pI σ δ 12 p0 50 (0 : Int32)).bind fun d1 =>
  (gI σ d1 12 p0 14).bind fun v2 =>
  (m_X12_in σ p1 (0 : Int32) (v2 - (1 : Int32)) d1).bind fun v3 =>
  if v3 = 0 then
    (chk σ 12 p0).bind fun _ => (m_X12_stop σ p0 (1 : Int32) d1).bind fun v4 =>
    some (v4.1, v4.2)
  else
    (gR σ 12 p0 0).bind fun v5 =>
    (rI σ d1 v5 ((7023 : Int32) + p1)).bind fun v6 =>
    some (v6, d1)
set_option maxHeartbeats 4000000 in
set_option maxRecDepth 100000 in
theorem w_X12_fired {J : JT} {an : Option Value × St × Dy} (hI : Isj cX12_fired 2 RX12 "fired" 1 22 (some .int) an J) {β : Bu} (σ : St) (p0 : Nat) (p1 : Int32) (δ : Dy) : SJ (m_X12_fired σ p0 p1 δ) (PI σ an) (J 0 [(0, .ref p0), (1, .int p1)] [] β σ δ) := by
  have hJ := hI.cor
  unfold m_X12_fired
  refine sj (j_aload_n hJ dX12_fired_0 rfl 0 rfl) ?_
  refine sj (j_iconst hJ (v := 0) dX12_fired_1 ic_0) ?_
  refine sj_pI hJ fl_X12_118 rfl dX12_fired_2 (fun d1 => ?_)
  refine sj (j_iload_n hJ dX12_fired_5 rfl 1 rfl) ?_
  refine sj (j_iconst hJ (v := 0) dX12_fired_6 ic_0) ?_
  refine sj (j_aload_n hJ dX12_fired_7 rfl 0 rfl) ?_
  refine sj_gI hJ fl_X12_187 (Or.inl rfl) dX12_fired_8 (fun v2 => ?_)
  refine sj (j_iconst hJ (v := 1) dX12_fired_11 ic_1) ?_
  refine sj (j_isub hJ dX12_fired_12) ?_
  refine sj_callSip hJ [.int p1, .int (0 : Int32), .int (v2 - (1 : Int32))] (st := []) (fr' := 0) (lo' := 0) ml_X12_122 (by decide) (by decide) (Nat.le_of_ble_eq_true rfl) dX12_fired_13 rfl (fun _ h9 => ct_X12_in h9) (fun v3 => ?_)
  refine sj_if (j_if_ne hJ (tgt := 25) dX12_fired_16 (by decide)) (fun _ => ?_) (fun _ => ?_)
  · refine sj (j_aload_n hJ dX12_fired_19 rfl 0 rfl) ?_
    refine sj (j_iconst hJ (v := 1) dX12_fired_20 ic_1) ?_
    refine sj_callVi hJ [.int (1 : Int32)] (st := []) (fr' := 0) (lo' := 0) ml_X12_137 hc_12 (by decide) (by decide) (Nat.le_of_ble_eq_true rfl) dX12_fired_21 rfl (fun _ h9 => ct_X12_stop h9) (fun v4 => ?_)
    exact sj_iret hI dX12_fired_24 (fun h => h)
  · refine sj (j_aload_n hJ dX12_fired_25 rfl 0 rfl) ?_
    refine sj_gR hJ fl_X12_7 rfl dX12_fired_26 (fun v5 => ?_)
    refine sj (j_sipush hJ (v := 7023) dX12_fired_29 is_7023) ?_
    refine sj (j_iload_n hJ dX12_fired_32 rfl 1 rfl) ?_
    refine sj (j_iadd hJ dX12_fired_33) ?_
    refine sj_rI hJ dX12_fired_34 (fun v6 => ?_)
    exact sj_iret hI dX12_fired_35 (fun h => h)
theorem ct_X12_fired {σ : St} {p0 : Nat} {p1 : Int32} {δ : Dy} {r : (Int32 × Dy)} (h : m_X12_fired σ p0 p1 δ = some r) : CT yX12_fired cX12_fired 2 (some .int) 1 22 0 0 [.ref p0, .int p1] σ δ ((some (.int r.1)), σ, r.2) := CT_of (by decide +kernel) (Nat.le_of_ble_eq_true rfl) (fun J hI => w_X12_fired hI σ p0 p1 δ r h rfl)
def m_X12_chance_b52 (σ : St) (p0 : Nat) (p1 : Int32) (p2 : Int64) (p4 : Int32) (p5 : Int32) (p6 : Int32) (δ : Dy) : Option ((Int64 × Int32) ⊕ (Int32 × Dy)) := lp (fun (s : (Int64 × Int32)) =>
  if p5 ≤ s.2 then
    some (Sum.inr (Sum.inl (s.1, (p4 + (1 : Int32)))))
  else
    (m_X12_primeOf σ p4 δ).bind fun v4 =>
    (rmL (s.1 * (v4).toInt64) (1000003 : Int64)).bind fun v5 =>
    some (Sum.inl (v5, (s.2 + (1 : Int32))))) (p2, p6)
def m_X12_chance_b47 (σ : St) (p0 : Nat) (p1 : Int32) (p2 : Int64) (p4 : Int32) (q0 : Int32) (δ : Dy) : Option ((Int64 × Int32) ⊕ (Int32 × Dy)) :=
  m_X12_chance_b52 σ p0 p1 p2 p4 q0 (0 : Int32) δ
def m_X12_chance_b10 (σ : St) (p0 : Nat) (p1 : Int32) (p2 : Int64) (p4 : Int32) (δ : Dy) : Option (Int32 × Dy) := lp (fun (s : (Int64 × Int32)) =>
  if (7 : Int32) ≤ s.2 then
    some (Sum.inr ((s.1).toInt32, δ))
  else
    if p1 = 0 then
      (gR σ 12 p0 0).bind fun v2 =>
      (rI σ δ v2 ((7031 : Int32) + s.2)).bind fun v3 =>
      m_X12_chance_b47 σ p0 p1 s.1 s.2 (-v3) δ
    else
      (gR σ 12 p0 0).bind fun v6 =>
      (rI σ δ v6 ((7031 : Int32) + s.2)).bind fun v7 =>
      m_X12_chance_b47 σ p0 p1 s.1 s.2 v7 δ) (p2, p4)
def m_X12_chance (σ : St) (p0 : Nat) (p1 : Int32) (δ : Dy) : Option (Int32 × Dy) :=
  (pI σ δ 12 p0 50 (0 : Int32)).bind fun d1 =>
  m_X12_chance_b10 σ p0 p1 (1 : Int64) (0 : Int32) d1
set_option maxHeartbeats 4000000 in
set_option maxRecDepth 100000 in
theorem w_X12_chance_b52 {J : JT} {an : Option Value × St × Dy} (hI : Isj cX12_chance 7 RX12 "chance" 1 20 (some .int) an J) {β : Bu} (σ : St) (p0 : Nat) (p1 : Int32) (p2 : Int64) (p4 : Int32) (p5 : Int32) (p6 : Int32) (δ : Dy) : SJ (m_X12_chance_b52 σ p0 p1 p2 p4 p5 p6 δ) (PL (fun s : (Int64 × Int32) => J 10 [(0, .ref p0), (1, .int p1), (2, .long s.1), (4, .int s.2)] [] β σ δ) (PI σ an)) (J 52 [(0, .ref p0), (1, .int p1), (2, .long p2), (4, .int p4), (5, .int p5), (6, .int p6)] [] β σ δ) := by
  have hJ := hI.cor
  unfold m_X12_chance_b52
  refine sj_lp (G := fun s : (Int64 × Int32) => J 52 [(0, .ref p0), (1, .int p1), (2, .long s.1), (4, .int p4), (5, .int p5), (6, .int s.2)] [] β σ δ) (fun s => ?_) (p2, p6)
  refine sj (j_iload hJ dX12_chance_52 5 rfl) ?_
  refine sj (j_iload hJ dX12_chance_54 4 rfl) ?_
  refine sj_if (j_icmp_ge hJ (tgt := 78) dX12_chance_56 (by decide)) (fun _ => ?_) (fun _ => ?_)
  · refine sj (j_iinc hJ (L' := [(4, .int (p4 + (1 : Int32))), (0, .ref p0), (1, .int p1), (2, .long s.1), (5, .int p5), (6, .int s.2)]) dX12_chance_78 3 rfl (congrArg (fun z => p4 + z) ic_1) (by decide) rfl) ?_
    refine sj (j_goto hJ (tgt := 10) dX12_chance_81 (by decide)) ?_
    refine sj (j_sub hJ (L' := [(0, .ref p0), (1, .int p1), (2, .long s.1), (4, .int (p4 + (1 : Int32)))]) [1, 2, 3, 0] rfl) ?_
    exact sj_end (fun h => h)
  · refine sj (j_lload_n hJ dX12_chance_59 rfl 2 rfl) ?_
    refine sj (j_iload hJ dX12_chance_60 3 rfl) ?_
    refine sj_callSip hJ [.int p4] (st := [.long s.1]) (fr' := 0) (lo' := 0) ml_X12_279 (by decide) (by decide) (Nat.le_of_ble_eq_true rfl) dX12_chance_62 rfl (fun _ h9 => ct_X12_primeOf h9) (fun v4 => ?_)
    refine sj (j_i2l hJ dX12_chance_65) ?_
    refine sj (j_lmul hJ dX12_chance_66) ?_
    refine sj (j_ldc2 hJ (v := 1000003) dX12_chance_67 wd_2220) ?_
    refine sj_rmL hJ dX12_chance_70 (fun v5 => ?_)
    refine sj (j_lstore_n hJ (L' := [(2, .long v5), (0, .ref p0), (1, .int p1), (4, .int p4), (5, .int p5), (6, .int s.2)]) dX12_chance_71 rfl (by decide) rfl) ?_
    refine sj (j_iinc hJ (L' := [(6, .int (s.2 + (1 : Int32))), (2, .long v5), (0, .ref p0), (1, .int p1), (4, .int p4), (5, .int p5)]) dX12_chance_72 5 rfl (congrArg (fun z => s.2 + z) ic_1) (by decide) rfl) ?_
    refine sj (j_goto hJ (tgt := 52) dX12_chance_75 (by decide)) ?_
    refine sj (j_sub hJ (L' := [(0, .ref p0), (1, .int p1), (2, .long v5), (4, .int p4), (5, .int p5), (6, .int (s.2 + (1 : Int32)))]) [2, 3, 1, 4, 5, 0] rfl) ?_
    exact sj_end (fun h => h)
set_option maxHeartbeats 4000000 in
set_option maxRecDepth 100000 in
theorem w_X12_chance_b47 {J : JT} {an : Option Value × St × Dy} (hI : Isj cX12_chance 7 RX12 "chance" 1 20 (some .int) an J) {β : Bu} (σ : St) (p0 : Nat) (p1 : Int32) (p2 : Int64) (p4 : Int32) (q0 : Int32) (δ : Dy) : SJ (m_X12_chance_b47 σ p0 p1 p2 p4 q0 δ) (PL (fun s : (Int64 × Int32) => J 10 [(0, .ref p0), (1, .int p1), (2, .long s.1), (4, .int s.2)] [] β σ δ) (PI σ an)) (J 47 [(0, .ref p0), (1, .int p1), (2, .long p2), (4, .int p4)] [.int q0] β σ δ) := by
  have hJ := hI.cor
  unfold m_X12_chance_b47
  refine sj (j_istore hJ (L' := [(5, .int q0), (0, .ref p0), (1, .int p1), (2, .long p2), (4, .int p4)]) dX12_chance_47 (by decide) rfl) ?_
  refine sj (j_iconst hJ (v := 0) dX12_chance_49 ic_0) ?_
  refine sj (j_istore hJ (L' := [(6, .int (0 : Int32)), (5, .int q0), (0, .ref p0), (1, .int p1), (2, .long p2), (4, .int p4)]) dX12_chance_50 (by decide) rfl) ?_
  refine sj (j_sub hJ (L' := [(0, .ref p0), (1, .int p1), (2, .long p2), (4, .int p4), (5, .int q0), (6, .int (0 : Int32))]) [2, 3, 4, 5, 1, 0] rfl) ?_
  exact w_X12_chance_b52 hI σ p0 p1 p2 p4 q0 (0 : Int32) δ
set_option maxHeartbeats 4000000 in
set_option maxRecDepth 100000 in
theorem w_X12_chance_b10 {J : JT} {an : Option Value × St × Dy} (hI : Isj cX12_chance 7 RX12 "chance" 1 20 (some .int) an J) {β : Bu} (σ : St) (p0 : Nat) (p1 : Int32) (p2 : Int64) (p4 : Int32) (δ : Dy) : SJ (m_X12_chance_b10 σ p0 p1 p2 p4 δ) (PI σ an) (J 10 [(0, .ref p0), (1, .int p1), (2, .long p2), (4, .int p4)] [] β σ δ) := by
  have hJ := hI.cor
  unfold m_X12_chance_b10
  refine sj_lp (G := fun s : (Int64 × Int32) => J 10 [(0, .ref p0), (1, .int p1), (2, .long s.1), (4, .int s.2)] [] β σ δ) (fun s => ?_) (p2, p4)
  refine sj (j_iload hJ dX12_chance_10 3 rfl) ?_
  refine sj (j_bipush hJ (v := 7) dX12_chance_12 ib_7) ?_
  refine sj_if (j_icmp_ge hJ (tgt := 84) dX12_chance_14 (by decide)) (fun _ => ?_) (fun _ => ?_)
  · refine sj (j_lload_n hJ dX12_chance_84 rfl 2 rfl) ?_
    refine sj (j_l2i hJ dX12_chance_85) ?_
    exact sj_iret hI dX12_chance_86 (fun h => h)
  · refine sj (j_iload_n hJ dX12_chance_17 rfl 1 rfl) ?_
    refine sj_if (j_if_eq hJ (tgt := 35) dX12_chance_18 (by decide)) (fun _ => ?_) (fun _ => ?_)
    · refine sj (j_aload_n hJ dX12_chance_35 rfl 0 rfl) ?_
      refine sj_gR hJ fl_X12_7 rfl dX12_chance_36 (fun v2 => ?_)
      refine sj (j_sipush hJ (v := 7031) dX12_chance_39 is_7031) ?_
      refine sj (j_iload hJ dX12_chance_42 3 rfl) ?_
      refine sj (j_iadd hJ dX12_chance_44) ?_
      refine sj_rI hJ dX12_chance_45 (fun v3 => ?_)
      refine sj (j_ineg hJ dX12_chance_46) ?_
      exact w_X12_chance_b47 hI σ p0 p1 s.1 s.2 (-v3) δ
    · refine sj (j_aload_n hJ dX12_chance_21 rfl 0 rfl) ?_
      refine sj_gR hJ fl_X12_7 rfl dX12_chance_22 (fun v6 => ?_)
      refine sj (j_sipush hJ (v := 7031) dX12_chance_25 is_7031) ?_
      refine sj (j_iload hJ dX12_chance_28 3 rfl) ?_
      refine sj (j_iadd hJ dX12_chance_30) ?_
      refine sj_rI hJ dX12_chance_31 (fun v7 => ?_)
      refine sj (j_goto hJ (tgt := 47) dX12_chance_32 (by decide)) ?_
      exact w_X12_chance_b47 hI σ p0 p1 s.1 s.2 v7 δ
set_option maxHeartbeats 4000000 in
set_option maxRecDepth 100000 in
theorem w_X12_chance {J : JT} {an : Option Value × St × Dy} (hI : Isj cX12_chance 7 RX12 "chance" 1 20 (some .int) an J) {β : Bu} (σ : St) (p0 : Nat) (p1 : Int32) (δ : Dy) : SJ (m_X12_chance σ p0 p1 δ) (PI σ an) (J 0 [(0, .ref p0), (1, .int p1)] [] β σ δ) := by
  have hJ := hI.cor
  unfold m_X12_chance
  refine sj (j_aload_n hJ dX12_chance_0 rfl 0 rfl) ?_
  refine sj (j_iconst hJ (v := 0) dX12_chance_1 ic_0) ?_
  refine sj_pI hJ fl_X12_118 rfl dX12_chance_2 (fun d1 => ?_)
  refine sj (j_lconst hJ (v := 1) dX12_chance_5 rfl) ?_
  refine sj (j_lstore_n hJ (L' := [(2, .long (1 : Int64)), (0, .ref p0), (1, .int p1)]) dX12_chance_6 rfl (by decide) rfl) ?_
  refine sj (j_iconst hJ (v := 0) dX12_chance_7 ic_0) ?_
  refine sj (j_istore hJ (L' := [(4, .int (0 : Int32)), (2, .long (1 : Int64)), (0, .ref p0), (1, .int p1)]) dX12_chance_8 (by decide) rfl) ?_
  refine sj (j_sub hJ (L' := [(0, .ref p0), (1, .int p1), (2, .long (1 : Int64)), (4, .int (0 : Int32))]) [2, 3, 1, 0] rfl) ?_
  exact w_X12_chance_b10 hI σ p0 p1 (1 : Int64) (0 : Int32) d1
theorem ct_X12_chance {σ : St} {p0 : Nat} {p1 : Int32} {δ : Dy} {r : (Int32 × Dy)} (h : m_X12_chance σ p0 p1 δ = some r) : CT yX12_chance cX12_chance 7 (some .int) 1 20 0 0 [.ref p0, .int p1] σ δ ((some (.int r.1)), σ, r.2) := CT_of (by decide +kernel) (Nat.le_of_ble_eq_true rfl) (fun J hI => w_X12_chance hI σ p0 p1 δ r h rfl)
