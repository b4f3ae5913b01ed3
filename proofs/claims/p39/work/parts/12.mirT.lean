def m_X6_advanceBodies (σ : St) (p0 : Nat) (p1 : Nat) (δ : Dy) : Option Dy :=
  (gR σ 6 p0 1).bind fun v1 =>
  (gI σ δ 3 p1 4).bind fun v2 =>
  (rA σ 104 v1 v2).bind fun v3 =>
  (gI σ δ 3 p1 5).bind fun v4 =>
  (gI σ δ 7 v3 6).bind fun v5 =>
  if v4 < v5 then
    (gI σ δ 3 p1 5).bind fun v6 =>
    (pI σ δ 3 p1 5 (v6 + (1 : Int32))).bind fun d7 =>
    (gR σ 7 v3 4).bind fun v8 =>
    (rI σ d7 v8 ((2 : Int32) * v4)).bind fun v9 =>
    (gR σ 3 p1 0).bind fun v10 =>
    (m_X6_resolve σ v9 v10 d7).bind fun v11 =>
    (gR σ 7 v3 4).bind fun v12 =>
    (rI σ d7 v12 (((2 : Int32) * v4) + (1 : Int32))).bind fun v13 =>
    (gR σ 3 p1 0).bind fun v14 =>
    (m_X6_resolve σ v13 v14 d7).bind fun v15 =>
    (gR σ 7 v3 3).bind fun v16 =>
    (rI σ d7 v16 v4).bind fun v17 =>
    if v17 = (-1 : Int32) then
      (chk σ 6 p0).bind fun _ => (m_X6_tellEqual σ p0 v11 v15 d7).bind fun v18 =>
      some v18
    else
      (gR σ 7 v3 3).bind fun v19 =>
      (rI σ d7 v19 v4).bind fun v20 =>
      (gI σ d7 3 p1 6).bind fun v21 =>
      (gL σ d7 3 p1 7).bind fun v22 =>
      (gL σ d7 3 p1 8).bind fun v23 =>
      (chk σ 6 p0).bind fun _ => (m_X6_tellToken σ p0 v20 v11 v15 v21 v22 v23 d7).bind fun v24 =>
      some v24
  else
    (gI σ δ 6 p0 3).bind fun v25 =>
    (pI σ δ 6 p0 3 (v25 - (1 : Int32))).bind fun d26 =>
    some d26
set_option maxHeartbeats 4000000 in
set_option maxRecDepth 100000 in
theorem w_X6_advanceBodies {J : JT} {an : Option Value × St × Dy} (hI : Isj cX6_advanceBodies 6 RX6 "advanceBodies" 3 77 none an J) {β : Bu} (σ : St) (p0 : Nat) (p1 : Nat) (δ : Dy) : SJ (m_X6_advanceBodies σ p0 p1 δ) (PV σ an) (J 0 [(0, .ref p0), (1, .ref p1)] [] β σ δ) := by
  have hJ := hI.cor
  unfold m_X6_advanceBodies
  refine sj (j_aload_n hJ dX6_advanceBodies_0 rfl 0 rfl) ?_
  refine sj_gR hJ fl_X6_35 rfl dX6_advanceBodies_1 (fun v1 => ?_)
  refine sj (j_aload_n hJ dX6_advanceBodies_4 rfl 1 rfl) ?_
  refine sj_gI hJ fl_X6_217 (Or.inl rfl) dX6_advanceBodies_5 (fun v2 => ?_)
  refine sj_rARu hJ dX6_advanceBodies_8 (fun v3 => ?_)
  refine sj (j_astore_n hJ (L' := [(2, .ref v3), (0, .ref p0), (1, .ref p1)]) dX6_advanceBodies_9 rfl (by decide) rfl) ?_
  refine sj (j_aload_n hJ dX6_advanceBodies_10 rfl 2 rfl) ?_
  refine sj_gI hJ fl_X6_80 (Or.inl rfl) dX6_advanceBodies_11 (fun v4 => ?_)
  refine sj (j_istore_n hJ (L' := [(3, .int v4), (2, .ref v3), (0, .ref p0), (1, .ref p1)]) dX6_advanceBodies_14 rfl (by decide) rfl) ?_
  refine sj (j_iload_n hJ dX6_advanceBodies_15 rfl 0 rfl) ?_
  refine sj (j_aload_n hJ dX6_advanceBodies_16 rfl 1 rfl) ?_
  refine sj_gI hJ fl_X6_237 (Or.inl rfl) dX6_advanceBodies_17 (fun v5 => ?_)
  refine sj_if (j_icmp_lt hJ (tgt := 34) dX6_advanceBodies_20 (by decide)) (fun _ => ?_) (fun _ => ?_)
  · refine sj (j_aload_n hJ dX6_advanceBodies_34 rfl 3 rfl) ?_
    refine sj (j_dup hJ dX6_advanceBodies_35 rfl) ?_
    refine sj_gI hJ fl_X6_80 (Or.inl rfl) dX6_advanceBodies_36 (fun v6 => ?_)
    refine sj (j_iconst hJ (v := 1) dX6_advanceBodies_39 ic_1) ?_
    refine sj (j_iadd hJ dX6_advanceBodies_40) ?_
    refine sj_pI hJ fl_X6_80 rfl dX6_advanceBodies_41 (fun d7 => ?_)
    refine sj (j_aload_n hJ dX6_advanceBodies_44 rfl 1 rfl) ?_
    refine sj_gR hJ fl_X6_240 rfl dX6_advanceBodies_45 (fun v8 => ?_)
    refine sj (j_iconst hJ (v := 2) dX6_advanceBodies_48 ic_2) ?_
    refine sj (j_iload_n hJ dX6_advanceBodies_49 rfl 0 rfl) ?_
    refine sj (j_imul hJ dX6_advanceBodies_50) ?_
    refine sj_rI hJ dX6_advanceBodies_51 (fun v9 => ?_)
    refine sj (j_aload_n hJ dX6_advanceBodies_52 rfl 3 rfl) ?_
    refine sj_gR hJ fl_X6_223 rfl dX6_advanceBodies_53 (fun v10 => ?_)
    refine sj_callSip hJ [.int v9, .ref v10] (st := []) (fr' := 1) (lo' := 20) ml_X6_170 (by decide) (by decide) (Nat.le_of_ble_eq_true rfl) dX6_advanceBodies_56 rfl (fun _ h9 => ct_X6_resolve h9) (fun v11 => ?_)
    refine sj (j_istore hJ (L' := [(4, .int v11), (3, .int v4), (2, .ref v3), (0, .ref p0), (1, .ref p1)]) dX6_advanceBodies_59 (by decide) rfl) ?_
    refine sj (j_aload_n hJ dX6_advanceBodies_61 rfl 2 rfl) ?_
    refine sj_gR hJ fl_X6_240 rfl dX6_advanceBodies_62 (fun v12 => ?_)
    refine sj (j_iconst hJ (v := 2) dX6_advanceBodies_65 ic_2) ?_
    refine sj (j_iload_n hJ dX6_advanceBodies_66 rfl 1 rfl) ?_
    refine sj (j_imul hJ dX6_advanceBodies_67) ?_
    refine sj (j_iconst hJ (v := 1) dX6_advanceBodies_68 ic_1) ?_
    refine sj (j_iadd hJ dX6_advanceBodies_69) ?_
    refine sj_rI hJ dX6_advanceBodies_70 (fun v13 => ?_)
    refine sj (j_aload_n hJ dX6_advanceBodies_71 rfl 4 rfl) ?_
    refine sj_gR hJ fl_X6_223 rfl dX6_advanceBodies_72 (fun v14 => ?_)
    refine sj_callSip hJ [.int v13, .ref v14] (st := []) (fr' := 1) (lo' := 20) ml_X6_170 (by decide) (by decide) (Nat.le_of_ble_eq_true rfl) dX6_advanceBodies_75 rfl (fun _ h9 => ct_X6_resolve h9) (fun v15 => ?_)
    refine sj (j_istore hJ (L' := [(5, .int v15), (4, .int v11), (3, .int v4), (2, .ref v3), (0, .ref p0), (1, .ref p1)]) dX6_advanceBodies_78 (by decide) rfl) ?_
    refine sj (j_aload_n hJ dX6_advanceBodies_80 rfl 3 rfl) ?_
    refine sj_gR hJ fl_X6_243 rfl dX6_advanceBodies_81 (fun v16 => ?_)
    refine sj (j_iload_n hJ dX6_advanceBodies_84 rfl 2 rfl) ?_
    refine sj_rI hJ dX6_advanceBodies_85 (fun v17 => ?_)
    refine sj (j_iconst hJ (v := -1) dX6_advanceBodies_86 ic_m1) ?_
    refine sj_if (j_icmp_ne hJ (tgt := 101) dX6_advanceBodies_87 (by decide)) (fun _ => ?_) (fun _ => ?_)
    · refine sj (j_aload_n hJ dX6_advanceBodies_90 rfl 4 rfl) ?_
      refine sj (j_iload hJ dX6_advanceBodies_91 1 rfl) ?_
      refine sj (j_iload hJ dX6_advanceBodies_93 0 rfl) ?_
      refine sj_callVv hJ [.int v11, .int v15] (st := []) (fr' := 2) (lo' := 52) ml_X6_246 hc_6 (by decide) (by decide) (Nat.le_of_ble_eq_true rfl) dX6_advanceBodies_95 rfl (fun _ h9 => ct_X6_tellEqual h9) (fun v18 => ?_)
      refine sj (j_goto hJ (tgt := 127) dX6_advanceBodies_98 (by decide)) ?_
      exact sj_vret hI dX6_advanceBodies_127 (fun h => h)
    · refine sj (j_aload_n hJ dX6_advanceBodies_101 rfl 4 rfl) ?_
      refine sj (j_aload_n hJ dX6_advanceBodies_102 rfl 3 rfl) ?_
      refine sj_gR hJ fl_X6_243 rfl dX6_advanceBodies_103 (fun v19 => ?_)
      refine sj (j_iload_n hJ dX6_advanceBodies_106 rfl 2 rfl) ?_
      refine sj_rI hJ dX6_advanceBodies_107 (fun v20 => ?_)
      refine sj (j_iload hJ dX6_advanceBodies_108 1 rfl) ?_
      refine sj (j_iload hJ dX6_advanceBodies_110 0 rfl) ?_
      refine sj (j_aload_n hJ dX6_advanceBodies_112 rfl 5 rfl) ?_
      refine sj_gI hJ fl_X6_220 (Or.inr rfl) dX6_advanceBodies_113 (fun v21 => ?_)
      refine sj (j_aload_n hJ dX6_advanceBodies_116 rfl 5 rfl) ?_
      refine sj_gL hJ fl_X6_83 rfl dX6_advanceBodies_117 (fun v22 => ?_)
      refine sj (j_aload_n hJ dX6_advanceBodies_120 rfl 5 rfl) ?_
      refine sj_gL hJ fl_X6_87 rfl dX6_advanceBodies_121 (fun v23 => ?_)
      refine sj_callVv hJ [.int v20, .int v11, .int v15, .int v21, .long v22, .long v23] (st := []) (fr' := 1) (lo' := 28) ml_X6_250 hc_6 (by decide) (by decide) (Nat.le_of_ble_eq_true rfl) dX6_advanceBodies_124 rfl (fun _ h9 => ct_X6_tellToken h9) (fun v24 => ?_)
      exact sj_vret hI dX6_advanceBodies_127 (fun h => h)
  · refine sj (j_aload_n hJ dX6_advanceBodies_23 rfl 2 rfl) ?_
    refine sj (j_dup hJ dX6_advanceBodies_24 rfl) ?_
    refine sj_gI hJ fl_X6_40 (Or.inl rfl) dX6_advanceBodies_25 (fun v25 => ?_)
    refine sj (j_iconst hJ (v := 1) dX6_advanceBodies_28 ic_1) ?_
    refine sj (j_isub hJ dX6_advanceBodies_29) ?_
    refine sj_pI hJ fl_X6_40 rfl dX6_advanceBodies_30 (fun d26 => ?_)
    exact sj_vret hI dX6_advanceBodies_33 (fun h => h)
theorem ct_X6_advanceBodies {σ : St} {p0 : Nat} {p1 : Nat} {δ : Dy} {r : Dy} (h : m_X6_advanceBodies σ p0 p1 δ = some r) : CT yX6_advanceBodies cX6_advanceBodies 6 none 3 77 0 0 [.ref p0, .ref p1] σ δ (none, σ, r) := CT_of (by decide +kernel) (Nat.le_of_ble_eq_true rfl) (fun J hI => w_X6_advanceBodies hI σ p0 p1 δ r h rfl)
def m_X6_advance (σ : St) (p0 : Nat) (δ : Dy) : Option Dy :=
  (gI σ δ 6 p0 3).bind fun v1 =>
  if v1 ≤ 0 then
    some δ
  else
    (gI σ δ 6 p0 3).bind fun v2 =>
    if v2 ≤ (183 : Int32) then
      (gR σ 6 p0 2).bind fun v3 =>
      (gI σ δ 6 p0 3).bind fun v4 =>
      (rA σ 105 v3 (v4 - (1 : Int32))).bind fun v5 =>
      (gI σ δ 3 v5 1).bind fun v6 =>
      if v6 = (0 : Int32) then
        (chk σ 6 p0).bind fun _ => (m_X6_advanceActive σ p0 v5 δ).bind fun v8 =>
        some v8
      else
      if v6 = (1 : Int32) then
        (chk σ 6 p0).bind fun _ => (m_X6_advanceWaking σ p0 v5 δ).bind fun v9 =>
        some v9
      else
      (chk σ 6 p0).bind fun _ => (m_X6_advanceBodies σ p0 v5 δ).bind fun v10 =>
      some v10
    else
      some δ
set_option maxHeartbeats 4000000 in
set_option maxRecDepth 100000 in
theorem w_X6_advance {J : JT} {an : Option Value × St × Dy} (hI : Isj cX6_advance 2 RX6 "advance" 5 134 none an J) {β : Bu} (σ : St) (p0 : Nat) (δ : Dy) : SJ (m_X6_advance σ p0 δ) (PV σ an) (J 0 [(0, .ref p0)] [] β σ δ) := by
  have hJ := hI.cor
  unfold m_X6_advance
  refine sj (j_aload_n hJ dX6_advance_0 rfl 0 rfl) ?_
  refine sj_gI hJ fl_X6_40 (Or.inl rfl) dX6_advance_1 (fun v1 => ?_)
  refine sj_if (j_if_le hJ (tgt := 17) dX6_advance_4 (by decide)) (fun _ => ?_) (fun _ => ?_)
  · exact sj_vret hI dX6_advance_17 (fun h => h)
  · refine sj (j_aload_n hJ dX6_advance_7 rfl 0 rfl) ?_
    refine sj_gI hJ fl_X6_40 (Or.inl rfl) dX6_advance_8 (fun v2 => ?_)
    refine sj (j_sipush hJ (v := 183) dX6_advance_11 is_183) ?_
    refine sj_if (j_icmp_le hJ (tgt := 18) dX6_advance_14 (by decide)) (fun _ => ?_) (fun _ => ?_)
    · refine sj (j_aload_n hJ dX6_advance_18 rfl 0 rfl) ?_
      refine sj_gR hJ fl_X6_13 rfl dX6_advance_19 (fun v3 => ?_)
      refine sj (j_aload_n hJ dX6_advance_22 rfl 0 rfl) ?_
      refine sj_gI hJ fl_X6_40 (Or.inl rfl) dX6_advance_23 (fun v4 => ?_)
      refine sj (j_iconst hJ (v := 1) dX6_advance_26 ic_1) ?_
      refine sj (j_isub hJ dX6_advance_27) ?_
      refine sj_rAFr hJ dX6_advance_28 (fun v5 => ?_)
      refine sj (j_astore_n hJ (L' := [(1, .ref v5), (0, .ref p0)]) dX6_advance_29 rfl (by decide) rfl) ?_
      refine sj (j_aload_n hJ dX6_advance_30 rfl 0 rfl) ?_
      refine sj_gI hJ fl_X6_71 (Or.inl rfl) dX6_advance_31 (fun v6 => ?_)
      refine sj_ifc (fun h7 => ?_) (fun h7_0 => ?_)
      · refine sj (fun k9 => j_lookup hJ dX6_advance_34 (off := 26) (by decide) (by rw [h7]; decide) (tgt := 60) (by decide) k9) ?_
        refine sj (j_aload_n hJ dX6_advance_60 rfl 1 rfl) ?_
        refine sj (j_aload_n hJ dX6_advance_61 rfl 0 rfl) ?_
        refine sj_callVv hJ [.ref v5] (st := []) (fr' := 4) (lo' := 102) ml_X6_116 hc_6 (by decide) (by decide) (Nat.le_of_ble_eq_true rfl) dX6_advance_62 rfl (fun _ h9 => ct_X6_advanceActive h9) (fun v8 => ?_)
        refine sj (j_goto hJ (tgt := 81) dX6_advance_65 (by decide)) ?_
        exact sj_vret hI dX6_advance_81 (fun h => h)
      refine sj_ifc (fun h7 => ?_) (fun h7_1 => ?_)
      · refine sj (fun k9 => j_lookup hJ dX6_advance_34 (off := 34) (by decide) (by rw [h7]; decide) (tgt := 68) (by decide) k9) ?_
        refine sj (j_aload_n hJ dX6_advance_68 rfl 1 rfl) ?_
        refine sj (j_aload_n hJ dX6_advance_69 rfl 0 rfl) ?_
        refine sj_callVv hJ [.ref v5] (st := []) (fr' := 2) (lo' := 44) ml_X6_120 hc_6 (by decide) (by decide) (Nat.le_of_ble_eq_true rfl) dX6_advance_70 rfl (fun _ h9 => ct_X6_advanceWaking h9) (fun v9 => ?_)
        refine sj (j_goto hJ (tgt := 81) dX6_advance_73 (by decide)) ?_
        exact sj_vret hI dX6_advance_81 (fun h => h)
      refine sj (fun k9 => j_lookup hJ dX6_advance_34 (off := 42) (by decide) (by show Op.lookupswitch.offset [(0, 26), (1, 34)] 42 _ = _; rw [lv_osw h7_0 (by decide), lv_osw h7_1 (by decide)]; rfl) (tgt := 76) (by decide) k9) ?_
      refine sj (j_aload_n hJ dX6_advance_76 rfl 1 rfl) ?_
      refine sj (j_aload_n hJ dX6_advance_77 rfl 0 rfl) ?_
      refine sj_callVv hJ [.ref v5] (st := []) (fr' := 3) (lo' := 77) ml_X6_123 hc_6 (by decide) (by decide) (Nat.le_of_ble_eq_true rfl) dX6_advance_78 rfl (fun _ h9 => ct_X6_advanceBodies h9) (fun v10 => ?_)
      exact sj_vret hI dX6_advance_81 (fun h => h)
    · exact sj_vret hI dX6_advance_17 (fun h => h)
theorem ct_X6_advance {σ : St} {p0 : Nat} {δ : Dy} {r : Dy} (h : m_X6_advance σ p0 δ = some r) : CT yX6_advance cX6_advance 2 none 5 134 0 0 [.ref p0] σ δ (none, σ, r) := CT_of (by decide +kernel) (Nat.le_of_ble_eq_true rfl) (fun J hI => w_X6_advance hI σ p0 δ r h rfl)
def m_X6_forget_b0 (σ : St) (p0 : Nat) (p1 : Int32) (δ : Dy) : Option Dy := lp (fun (s : (Dy)) =>
  (gI σ s 6 p0 7).bind fun v1 =>
  if v1 ≤ p1 then
    some (Sum.inr s)
  else
    (gI σ s 6 p0 7).bind fun v2 =>
    if v2 ≤ 0 then
      some (Sum.inr s)
    else
      (gR σ 6 p0 6).bind fun v3 =>
      (gI σ s 6 p0 7).bind fun v4 =>
      (rI σ s v3 (v4 - (1 : Int32))).bind fun v5 =>
      (rmI v5 (100 : Int32)).bind fun v6 =>
      (dvI v5 (100 : Int32)).bind fun v7 =>
      (dvI v7 (100 : Int32)).bind fun v8 =>
      (dvI v5 (100 : Int32)).bind fun v9 =>
      (rmI v9 (100 : Int32)).bind fun v10 =>
      (m_X6_historyRow σ v8 v10 v6 s).bind fun v11 =>
      (gR σ 6 p0 5).bind fun v12 =>
      (rL σ s v12 v11).bind fun v13 =>
      (m_X6_historyBit σ v6 s).bind fun v14 =>
      (wLo σ s v12 v11 (v13 &&& (v14 ^^^ (-1 : Int64)))).bind fun d15 =>
      (gI σ d15 6 p0 7).bind fun v16 =>
      (pI σ d15 6 p0 7 (v16 - (1 : Int32))).bind fun d17 =>
      some (Sum.inl d17)) (δ)
def m_X6_forget (σ : St) (p0 : Nat) (p1 : Int32) (δ : Dy) : Option Dy :=
  m_X6_forget_b0 σ p0 p1 δ
set_option maxHeartbeats 4000000 in
set_option maxRecDepth 100000 in
theorem w_X6_forget_b0 {J : JT} {an : Option Value × St × Dy} (hI : Isj cX6_forget 5 RX6 "forget" 1 22 none an J) {β : Bu} (σ : St) (p0 : Nat) (p1 : Int32) (δ : Dy) : SJ (m_X6_forget_b0 σ p0 p1 δ) (PV σ an) (J 0 [(0, .ref p0), (1, .int p1)] [] β σ δ) := by
  have hJ := hI.cor
  unfold m_X6_forget_b0
  refine sj_lp (G := fun s : (Dy) => J 0 [(0, .ref p0), (1, .int p1)] [] β σ s) (fun s => ?_) (δ)
  refine sj (j_aload_n hJ dX6_forget_0 rfl 0 rfl) ?_
  refine sj_gI hJ fl_X6_47 (Or.inl rfl) dX6_forget_1 (fun v1 => ?_)
  refine sj (j_iload_n hJ dX6_forget_4 rfl 1 rfl) ?_
  refine sj_if (j_icmp_le hJ (tgt := 83) dX6_forget_5 (by decide)) (fun _ => ?_) (fun _ => ?_)
  · exact sj_vret hI dX6_forget_83 (fun h => h)
  · refine sj (j_aload_n hJ dX6_forget_8 rfl 0 rfl) ?_
    refine sj_gI hJ fl_X6_47 (Or.inl rfl) dX6_forget_9 (fun v2 => ?_)
    refine sj_if (j_if_le hJ (tgt := 83) dX6_forget_12 (by decide)) (fun _ => ?_) (fun _ => ?_)
    · exact sj_vret hI dX6_forget_83 (fun h => h)
    · refine sj (j_aload_n hJ dX6_forget_15 rfl 0 rfl) ?_
      refine sj_gR hJ fl_X6_25 rfl dX6_forget_16 (fun v3 => ?_)
      refine sj (j_aload_n hJ dX6_forget_19 rfl 0 rfl) ?_
      refine sj_gI hJ fl_X6_47 (Or.inl rfl) dX6_forget_20 (fun v4 => ?_)
      refine sj (j_iconst hJ (v := 1) dX6_forget_23 ic_1) ?_
      refine sj (j_isub hJ dX6_forget_24) ?_
      refine sj_rI hJ dX6_forget_25 (fun v5 => ?_)
      refine sj (j_istore_n hJ (L' := [(2, .int v5), (0, .ref p0), (1, .int p1)]) dX6_forget_26 rfl (by decide) rfl) ?_
      refine sj (j_iload_n hJ dX6_forget_27 rfl 0 rfl) ?_
      refine sj (j_bipush hJ (v := 100) dX6_forget_28 ib_100) ?_
      refine sj_rmI hJ dX6_forget_30 (fun v6 => ?_)
      refine sj (j_istore_n hJ (L' := [(3, .int v6), (2, .int v5), (0, .ref p0), (1, .int p1)]) dX6_forget_31 rfl (by decide) rfl) ?_
      refine sj (j_iload_n hJ dX6_forget_32 rfl 1 rfl) ?_
      refine sj (j_bipush hJ (v := 100) dX6_forget_33 ib_100) ?_
      refine sj_dvI hJ dX6_forget_35 (fun v7 => ?_)
      refine sj (j_bipush hJ (v := 100) dX6_forget_36 ib_100) ?_
      refine sj_dvI hJ dX6_forget_38 (fun v8 => ?_)
      refine sj (j_iload_n hJ dX6_forget_39 rfl 1 rfl) ?_
      refine sj (j_bipush hJ (v := 100) dX6_forget_40 ib_100) ?_
      refine sj_dvI hJ dX6_forget_42 (fun v9 => ?_)
      refine sj (j_bipush hJ (v := 100) dX6_forget_43 ib_100) ?_
      refine sj_rmI hJ dX6_forget_45 (fun v10 => ?_)
      refine sj (j_iload_n hJ dX6_forget_46 rfl 0 rfl) ?_
      refine sj_callSip hJ [.int v8, .int v10, .int v6] (st := []) (fr' := 0) (lo' := 0) ml_X6_193 (by decide) (by decide) (Nat.le_of_ble_eq_true rfl) dX6_forget_47 rfl (fun _ h9 => ct_X6_historyRow h9) (fun v11 => ?_)
      refine sj (j_istore hJ (L' := [(4, .int v11), (3, .int v6), (2, .int v5), (0, .ref p0), (1, .int p1)]) dX6_forget_50 (by decide) rfl) ?_
      refine sj (j_aload_n hJ dX6_forget_52 rfl 3 rfl) ?_
      refine sj_gR hJ fl_X6_21 rfl dX6_forget_53 (fun v12 => ?_)
      refine sj (j_iload hJ dX6_forget_56 0 rfl) ?_
      refine sj (j_dup2 hJ dX6_forget_58 rfl rfl) ?_
      refine sj_rL hJ dX6_forget_59 (fun v13 => ?_)
      refine sj (j_iload_n hJ dX6_forget_60 rfl 1 rfl) ?_
      refine sj_callSlp hJ [.int v6] (st := [.long v13, .int v11, .ref v12]) (fr' := 0) (lo' := 0) ml_X6_197 (by decide) (by decide) (Nat.le_of_ble_eq_true rfl) dX6_forget_61 rfl (fun _ h9 => ct_X6_historyBit h9) (fun v14 => ?_)
      refine sj (j_ldc2 hJ (v := -1) dX6_forget_64 wd_771) ?_
      refine sj (j_lxor hJ dX6_forget_67) ?_
      refine sj (j_land hJ dX6_forget_68) ?_
      refine sj_wLo hJ dX6_forget_69 (fun d15 => ?_)
      refine sj (j_aload_n hJ dX6_forget_70 rfl 3 rfl) ?_
      refine sj (j_dup hJ dX6_forget_71 rfl) ?_
      refine sj_gI hJ fl_X6_47 (Or.inl rfl) dX6_forget_72 (fun v16 => ?_)
      refine sj (j_iconst hJ (v := 1) dX6_forget_75 ic_1) ?_
      refine sj (j_isub hJ dX6_forget_76) ?_
      refine sj_pI hJ fl_X6_47 rfl dX6_forget_77 (fun d17 => ?_)
      refine sj (j_goto hJ (tgt := 0) dX6_forget_80 (by decide)) ?_
      refine sj (j_sub hJ (L' := [(0, .ref p0), (1, .int p1)]) [3, 4] rfl) ?_
      exact sj_end (fun h => h)
set_option maxHeartbeats 4000000 in
set_option maxRecDepth 100000 in
theorem w_X6_forget {J : JT} {an : Option Value × St × Dy} (hI : Isj cX6_forget 5 RX6 "forget" 1 22 none an J) {β : Bu} (σ : St) (p0 : Nat) (p1 : Int32) (δ : Dy) : SJ (m_X6_forget σ p0 p1 δ) (PV σ an) (J 0 [(0, .ref p0), (1, .int p1)] [] β σ δ) := by
  have hJ := hI.cor
  unfold m_X6_forget
  exact w_X6_forget_b0 hI σ p0 p1 δ
theorem ct_X6_forget {σ : St} {p0 : Nat} {p1 : Int32} {δ : Dy} {r : Dy} (h : m_X6_forget σ p0 p1 δ = some r) : CT yX6_forget cX6_forget 5 none 1 22 0 0 [.ref p0, .int p1] σ δ (none, σ, r) := CT_of (by decide +kernel) (Nat.le_of_ble_eq_true rfl) (fun J hI => w_X6_forget hI σ p0 p1 δ r h rfl)
def m_X8_clear (σ : St) (p0 : Nat) (δ : Dy) : Option Dy :=
  (pI σ δ 8 p0 2 (0 : Int32)).bind fun d1 =>
  (pI σ d1 8 p0 10 (0 : Int32)).bind fun d2 =>
  (pI σ d2 8 p0 11 (0 : Int32)).bind fun d3 =>
  (pZ σ d3 8 p0 12 (0 : Int32)).bind fun d4 =>
  some d4
set_option maxHeartbeats 4000000 in
set_option maxRecDepth 100000 in
theorem w_X8_clear {J : JT} {an : Option Value × St × Dy} (hI : Isj cX8_clear 1 RX8 "clear" 0 0 none an J) {β : Bu} (σ : St) (p0 : Nat) (δ : Dy) : SJ (m_X8_clear σ p0 δ) (PV σ an) (J 0 [(0, .ref p0)] [] β σ δ) := by
  have hJ := hI.cor
  unfold m_X8_clear
  refine sj (j_aload_n hJ dX8_clear_0 rfl 0 rfl) ?_
  refine sj (j_iconst hJ (v := 0) dX8_clear_1 ic_0) ?_
  refine sj_pI hJ fl_X8_48 rfl dX8_clear_2 (fun d1 => ?_)
  refine sj (j_aload_n hJ dX8_clear_5 rfl 0 rfl) ?_
  refine sj (j_iconst hJ (v := 0) dX8_clear_6 ic_0) ?_
  refine sj_pI hJ fl_X8_52 rfl dX8_clear_7 (fun d2 => ?_)
  refine sj (j_aload_n hJ dX8_clear_10 rfl 0 rfl) ?_
  refine sj (j_iconst hJ (v := 0) dX8_clear_11 ic_0) ?_
  refine sj_pI hJ fl_X8_55 rfl dX8_clear_12 (fun d3 => ?_)
  refine sj (j_aload_n hJ dX8_clear_15 rfl 0 rfl) ?_
  refine sj (j_iconst hJ (v := 0) dX8_clear_16 ic_0) ?_
  refine sj_pZ hJ fl_X8_58 rfl dX8_clear_17 (fun d4 => ?_)
  exact sj_vret hI dX8_clear_20 (fun h => h)
theorem ct_X8_clear {σ : St} {p0 : Nat} {δ : Dy} {r : Dy} (h : m_X8_clear σ p0 δ = some r) : CT yX8_clear cX8_clear 1 none 0 0 0 0 [.ref p0] σ δ (none, σ, r) := CT_of (by decide +kernel) (Nat.le_of_ble_eq_true rfl) (fun J hI => w_X8_clear hI σ p0 δ r h rfl)
def m_X8_copyFrom (σ : St) (p0 : Nat) (p1 : Nat) (δ : Dy) : Option Dy :=
  (gI σ δ 8 p1 2).bind fun v1 =>
  (pI σ δ 8 p0 2 v1).bind fun d2 =>
  (gI σ d2 8 p1 10).bind fun v3 =>
  (pI σ d2 8 p0 10 v3).bind fun d4 =>
  (gI σ d4 8 p1 11).bind fun v5 =>
  (pI σ d4 8 p0 11 v5).bind fun d6 =>
  (gI σ d6 8 p1 12).bind fun v7 =>
  (pZ σ d6 8 p0 12 v7).bind fun d8 =>
  (gR σ 8 p1 0).bind fun v9 =>
  (gR σ 8 p0 0).bind fun v10 =>
  (cpI σ d8 v9 (0 : Int32) v10 (0 : Int32) (60 : Int32)).bind fun d11 =>
  (gR σ 8 p1 1).bind fun v12 =>
  (gR σ 8 p0 1).bind fun v13 =>
  (cpI σ d11 v12 (0 : Int32) v13 (0 : Int32) (60 : Int32)).bind fun d14 =>
  (gR σ 8 p1 3).bind fun v15 =>
  (gR σ 8 p0 3).bind fun v16 =>
  (cpI σ d14 v15 (0 : Int32) v16 (0 : Int32) (100 : Int32)).bind fun d17 =>
  (gR σ 8 p1 4).bind fun v18 =>
  (gR σ 8 p0 4).bind fun v19 =>
  (cpI σ d17 v18 (0 : Int32) v19 (0 : Int32) (100 : Int32)).bind fun d20 =>
  (gR σ 8 p1 5).bind fun v21 =>
  (gR σ 8 p0 5).bind fun v22 =>
  (cpI σ d20 v21 (0 : Int32) v22 (0 : Int32) (100 : Int32)).bind fun d23 =>
  (gR σ 8 p1 6).bind fun v24 =>
  (gR σ 8 p0 6).bind fun v25 =>
  (cpZ σ d23 v24 (0 : Int32) v25 (0 : Int32) (100 : Int32)).bind fun d26 =>
  (gR σ 8 p1 7).bind fun v27 =>
  (gR σ 8 p0 7).bind fun v28 =>
  (cpZ σ d26 v27 (0 : Int32) v28 (0 : Int32) (100 : Int32)).bind fun d29 =>
  (gR σ 8 p1 8).bind fun v30 =>
  (gR σ 8 p0 8).bind fun v31 =>
  (cpL σ d29 v30 (0 : Int32) v31 (0 : Int32) (100 : Int32)).bind fun d32 =>
  (gR σ 8 p1 9).bind fun v33 =>
  (gR σ 8 p0 9).bind fun v34 =>
  (cpL σ d32 v33 (0 : Int32) v34 (0 : Int32) (100 : Int32)).bind fun d35 =>
  some d35
set_option maxHeartbeats 4000000 in
set_option maxRecDepth 100000 in
theorem w_X8_copyFrom {J : JT} {an : Option Value × St × Dy} (hI : Isj cX8_copyFrom 2 RX8 "copyFrom" 1 59 none an J) {β : Bu} (σ : St) (p0 : Nat) (p1 : Nat) (δ : Dy) : SJ (m_X8_copyFrom σ p0 p1 δ) (PV σ an) (J 0 [(0, .ref p0), (1, .ref p1)] [] β σ δ) := by
  have hJ := hI.cor
  unfold m_X8_copyFrom
  refine sj (j_aload_n hJ dX8_copyFrom_0 rfl 0 rfl) ?_
  refine sj (j_aload_n hJ dX8_copyFrom_1 rfl 1 rfl) ?_
  refine sj_gI hJ fl_X8_48 (Or.inl rfl) dX8_copyFrom_2 (fun v1 => ?_)
  refine sj_pI hJ fl_X8_48 rfl dX8_copyFrom_5 (fun d2 => ?_)
  refine sj (j_aload_n hJ dX8_copyFrom_8 rfl 0 rfl) ?_
  refine sj (j_aload_n hJ dX8_copyFrom_9 rfl 1 rfl) ?_
  refine sj_gI hJ fl_X8_52 (Or.inl rfl) dX8_copyFrom_10 (fun v3 => ?_)
  refine sj_pI hJ fl_X8_52 rfl dX8_copyFrom_13 (fun d4 => ?_)
  refine sj (j_aload_n hJ dX8_copyFrom_16 rfl 0 rfl) ?_
  refine sj (j_aload_n hJ dX8_copyFrom_17 rfl 1 rfl) ?_
  refine sj_gI hJ fl_X8_55 (Or.inl rfl) dX8_copyFrom_18 (fun v5 => ?_)
  refine sj_pI hJ fl_X8_55 rfl dX8_copyFrom_21 (fun d6 => ?_)
  refine sj (j_aload_n hJ dX8_copyFrom_24 rfl 0 rfl) ?_
  refine sj (j_aload_n hJ dX8_copyFrom_25 rfl 1 rfl) ?_
  refine sj_gI hJ fl_X8_58 (Or.inr rfl) dX8_copyFrom_26 (fun v7 => ?_)
  refine sj_pZ hJ fl_X8_58 rfl dX8_copyFrom_29 (fun d8 => ?_)
  refine sj (j_aload_n hJ dX8_copyFrom_32 rfl 1 rfl) ?_
  refine sj_gR hJ fl_X8_9 rfl dX8_copyFrom_33 (fun v9 => ?_)
  refine sj (j_iconst hJ (v := 0) dX8_copyFrom_36 ic_0) ?_
  refine sj (j_aload_n hJ dX8_copyFrom_37 rfl 0 rfl) ?_
  refine sj_gR hJ fl_X8_9 rfl dX8_copyFrom_38 (fun v10 => ?_)
  refine sj (j_iconst hJ (v := 0) dX8_copyFrom_41 ic_0) ?_
  refine sj (j_bipush hJ (v := 60) dX8_copyFrom_42 ib_60) ?_
  refine sj_cpI hJ mm_X8_62 (by decide) (by decide) (Nat.le_of_ble_eq_true rfl) dX8_copyFrom_44 (fun d11 => ?_)
  refine sj (j_aload_n hJ dX8_copyFrom_47 rfl 1 rfl) ?_
  refine sj_gR hJ fl_X8_15 rfl dX8_copyFrom_48 (fun v12 => ?_)
  refine sj (j_iconst hJ (v := 0) dX8_copyFrom_51 ic_0) ?_
  refine sj (j_aload_n hJ dX8_copyFrom_52 rfl 0 rfl) ?_
  refine sj_gR hJ fl_X8_15 rfl dX8_copyFrom_53 (fun v13 => ?_)
  refine sj (j_iconst hJ (v := 0) dX8_copyFrom_56 ic_0) ?_
  refine sj (j_bipush hJ (v := 60) dX8_copyFrom_57 ib_60) ?_
  refine sj_cpI hJ mm_X8_62 (by decide) (by decide) (Nat.le_of_ble_eq_true rfl) dX8_copyFrom_59 (fun d14 => ?_)
  refine sj (j_aload_n hJ dX8_copyFrom_62 rfl 1 rfl) ?_
  refine sj_gR hJ fl_X8_18 rfl dX8_copyFrom_63 (fun v15 => ?_)
  refine sj (j_iconst hJ (v := 0) dX8_copyFrom_66 ic_0) ?_
  refine sj (j_aload_n hJ dX8_copyFrom_67 rfl 0 rfl) ?_
  refine sj_gR hJ fl_X8_18 rfl dX8_copyFrom_68 (fun v16 => ?_)
  refine sj (j_iconst hJ (v := 0) dX8_copyFrom_71 ic_0) ?_
  refine sj (j_bipush hJ (v := 100) dX8_copyFrom_72 ib_100) ?_
  refine sj_cpI hJ mm_X8_62 (by decide) (by decide) (Nat.le_of_ble_eq_true rfl) dX8_copyFrom_74 (fun d17 => ?_)
  refine sj (j_aload_n hJ dX8_copyFrom_77 rfl 1 rfl) ?_
  refine sj_gR hJ fl_X8_21 rfl dX8_copyFrom_78 (fun v18 => ?_)
  refine sj (j_iconst hJ (v := 0) dX8_copyFrom_81 ic_0) ?_
  refine sj (j_aload_n hJ dX8_copyFrom_82 rfl 0 rfl) ?_
  refine sj_gR hJ fl_X8_21 rfl dX8_copyFrom_83 (fun v19 => ?_)
  refine sj (j_iconst hJ (v := 0) dX8_copyFrom_86 ic_0) ?_
  refine sj (j_bipush hJ (v := 100) dX8_copyFrom_87 ib_100) ?_
  refine sj_cpI hJ mm_X8_62 (by decide) (by decide) (Nat.le_of_ble_eq_true rfl) dX8_copyFrom_89 (fun d20 => ?_)
  refine sj (j_aload_n hJ dX8_copyFrom_92 rfl 1 rfl) ?_
  refine sj_gR hJ fl_X8_24 rfl dX8_copyFrom_93 (fun v21 => ?_)
  refine sj (j_iconst hJ (v := 0) dX8_copyFrom_96 ic_0) ?_
  refine sj (j_aload_n hJ dX8_copyFrom_97 rfl 0 rfl) ?_
  refine sj_gR hJ fl_X8_24 rfl dX8_copyFrom_98 (fun v22 => ?_)
  refine sj (j_iconst hJ (v := 0) dX8_copyFrom_101 ic_0) ?_
  refine sj (j_bipush hJ (v := 100) dX8_copyFrom_102 ib_100) ?_
  refine sj_cpI hJ mm_X8_62 (by decide) (by decide) (Nat.le_of_ble_eq_true rfl) dX8_copyFrom_104 (fun d23 => ?_)
  refine sj (j_aload_n hJ dX8_copyFrom_107 rfl 1 rfl) ?_
  refine sj_gR hJ fl_X8_27 rfl dX8_copyFrom_108 (fun v24 => ?_)
  refine sj (j_iconst hJ (v := 0) dX8_copyFrom_111 ic_0) ?_
  refine sj (j_aload_n hJ dX8_copyFrom_112 rfl 0 rfl) ?_
  refine sj_gR hJ fl_X8_27 rfl dX8_copyFrom_113 (fun v25 => ?_)
  refine sj (j_iconst hJ (v := 0) dX8_copyFrom_116 ic_0) ?_
  refine sj (j_bipush hJ (v := 100) dX8_copyFrom_117 ib_100) ?_
  refine sj_cpZ hJ mm_X8_62 (by decide) (by decide) (Nat.le_of_ble_eq_true rfl) dX8_copyFrom_119 (fun d26 => ?_)
  refine sj (j_aload_n hJ dX8_copyFrom_122 rfl 1 rfl) ?_
  refine sj_gR hJ fl_X8_31 rfl dX8_copyFrom_123 (fun v27 => ?_)
  refine sj (j_iconst hJ (v := 0) dX8_copyFrom_126 ic_0) ?_
  refine sj (j_aload_n hJ dX8_copyFrom_127 rfl 0 rfl) ?_
  refine sj_gR hJ fl_X8_31 rfl dX8_copyFrom_128 (fun v28 => ?_)
  refine sj (j_iconst hJ (v := 0) dX8_copyFrom_131 ic_0) ?_
  refine sj (j_bipush hJ (v := 100) dX8_copyFrom_132 ib_100) ?_
  refine sj_cpZ hJ mm_X8_62 (by decide) (by decide) (Nat.le_of_ble_eq_true rfl) dX8_copyFrom_134 (fun d29 => ?_)
  refine sj (j_aload_n hJ dX8_copyFrom_137 rfl 1 rfl) ?_
  refine sj_gR hJ fl_X8_34 rfl dX8_copyFrom_138 (fun v30 => ?_)
  refine sj (j_iconst hJ (v := 0) dX8_copyFrom_141 ic_0) ?_
  refine sj (j_aload_n hJ dX8_copyFrom_142 rfl 0 rfl) ?_
  refine sj_gR hJ fl_X8_34 rfl dX8_copyFrom_143 (fun v31 => ?_)
  refine sj (j_iconst hJ (v := 0) dX8_copyFrom_146 ic_0) ?_
  refine sj (j_bipush hJ (v := 100) dX8_copyFrom_147 ib_100) ?_
  refine sj_cpL hJ mm_X8_62 (by decide) (by decide) (Nat.le_of_ble_eq_true rfl) dX8_copyFrom_149 (fun d32 => ?_)
  refine sj (j_aload_n hJ dX8_copyFrom_152 rfl 1 rfl) ?_
  refine sj_gR hJ fl_X8_38 rfl dX8_copyFrom_153 (fun v33 => ?_)
  refine sj (j_iconst hJ (v := 0) dX8_copyFrom_156 ic_0) ?_
  refine sj (j_aload_n hJ dX8_copyFrom_157 rfl 0 rfl) ?_
  refine sj_gR hJ fl_X8_38 rfl dX8_copyFrom_158 (fun v34 => ?_)
  refine sj (j_iconst hJ (v := 0) dX8_copyFrom_161 ic_0) ?_
  refine sj (j_bipush hJ (v := 100) dX8_copyFrom_162 ib_100) ?_
  refine sj_cpL hJ mm_X8_62 (by decide) (by decide) (Nat.le_of_ble_eq_true rfl) dX8_copyFrom_164 (fun d35 => ?_)
  exact sj_vret hI dX8_copyFrom_167 (fun h => h)
theorem ct_X8_copyFrom {σ : St} {p0 : Nat} {p1 : Nat} {δ : Dy} {r : Dy} (h : m_X8_copyFrom σ p0 p1 δ = some r) : CT yX8_copyFrom cX8_copyFrom 2 none 1 59 0 0 [.ref p0, .ref p1] σ δ (none, σ, r) := CT_of (by decide +kernel) (Nat.le_of_ble_eq_true rfl) (fun J hI => w_X8_copyFrom hI σ p0 p1 δ r h rfl)
def m_X8_save (σ : St) (p0 : Nat) (p1 : Nat) (δ : Dy) : Option Dy :=
  (gI σ δ 8 p0 2).bind fun v1 =>
  (pI σ δ 4 p1 8 v1).bind fun d2 =>
  (gI σ d2 8 p0 10).bind fun v3 =>
  (pI σ d2 4 p1 9 v3).bind fun d4 =>
  (gR σ 8 p0 0).bind fun v5 =>
  (gR σ 4 p1 5).bind fun v6 =>
  (cpI σ d4 v5 (0 : Int32) v6 (0 : Int32) (60 : Int32)).bind fun d7 =>
  (gR σ 8 p0 1).bind fun v8 =>
  (gR σ 4 p1 6).bind fun v9 =>
  (cpI σ d7 v8 (0 : Int32) v9 (0 : Int32) (60 : Int32)).bind fun d10 =>
  (gR σ 8 p0 7).bind fun v11 =>
  (gR σ 4 p1 7).bind fun v12 =>
  (cpZ σ d10 v11 (0 : Int32) v12 (0 : Int32) (100 : Int32)).bind fun d13 =>
  some d13
set_option maxHeartbeats 4000000 in
set_option maxRecDepth 100000 in
theorem w_X8_save {J : JT} {an : Option Value × St × Dy} (hI : Isj cX8_save 2 RX8 "save" 1 59 none an J) {β : Bu} (σ : St) (p0 : Nat) (p1 : Nat) (δ : Dy) : SJ (m_X8_save σ p0 p1 δ) (PV σ an) (J 0 [(0, .ref p0), (1, .ref p1)] [] β σ δ) := by
  have hJ := hI.cor
  unfold m_X8_save
  refine sj (j_aload_n hJ dX8_save_0 rfl 1 rfl) ?_
  refine sj (j_aload_n hJ dX8_save_1 rfl 0 rfl) ?_
  refine sj_gI hJ fl_X8_48 (Or.inl rfl) dX8_save_2 (fun v1 => ?_)
  refine sj_pI hJ fl_X8_68 rfl dX8_save_5 (fun d2 => ?_)
  refine sj (j_aload_n hJ dX8_save_8 rfl 1 rfl) ?_
  refine sj (j_aload_n hJ dX8_save_9 rfl 0 rfl) ?_
  refine sj_gI hJ fl_X8_52 (Or.inl rfl) dX8_save_10 (fun v3 => ?_)
  refine sj_pI hJ fl_X8_71 rfl dX8_save_13 (fun d4 => ?_)
  refine sj (j_aload_n hJ dX8_save_16 rfl 0 rfl) ?_
  refine sj_gR hJ fl_X8_9 rfl dX8_save_17 (fun v5 => ?_)
  refine sj (j_iconst hJ (v := 0) dX8_save_20 ic_0) ?_
  refine sj (j_aload_n hJ dX8_save_21 rfl 1 rfl) ?_
  refine sj_gR hJ fl_X8_72 rfl dX8_save_22 (fun v6 => ?_)
  refine sj (j_iconst hJ (v := 0) dX8_save_25 ic_0) ?_
  refine sj (j_bipush hJ (v := 60) dX8_save_26 ib_60) ?_
  refine sj_cpI hJ mm_X8_62 (by decide) (by decide) (Nat.le_of_ble_eq_true rfl) dX8_save_28 (fun d7 => ?_)
  refine sj (j_aload_n hJ dX8_save_31 rfl 0 rfl) ?_
  refine sj_gR hJ fl_X8_15 rfl dX8_save_32 (fun v8 => ?_)
  refine sj (j_iconst hJ (v := 0) dX8_save_35 ic_0) ?_
  refine sj (j_aload_n hJ dX8_save_36 rfl 1 rfl) ?_
  refine sj_gR hJ fl_X8_73 rfl dX8_save_37 (fun v9 => ?_)
  refine sj (j_iconst hJ (v := 0) dX8_save_40 ic_0) ?_
  refine sj (j_bipush hJ (v := 60) dX8_save_41 ib_60) ?_
  refine sj_cpI hJ mm_X8_62 (by decide) (by decide) (Nat.le_of_ble_eq_true rfl) dX8_save_43 (fun d10 => ?_)
  refine sj (j_aload_n hJ dX8_save_46 rfl 0 rfl) ?_
  refine sj_gR hJ fl_X8_31 rfl dX8_save_47 (fun v11 => ?_)
  refine sj (j_iconst hJ (v := 0) dX8_save_50 ic_0) ?_
  refine sj (j_aload_n hJ dX8_save_51 rfl 1 rfl) ?_
  refine sj_gR hJ fl_X8_74 rfl dX8_save_52 (fun v12 => ?_)
  refine sj (j_iconst hJ (v := 0) dX8_save_55 ic_0) ?_
  refine sj (j_bipush hJ (v := 100) dX8_save_56 ib_100) ?_
  refine sj_cpZ hJ mm_X8_62 (by decide) (by decide) (Nat.le_of_ble_eq_true rfl) dX8_save_58 (fun d13 => ?_)
  exact sj_vret hI dX8_save_61 (fun h => h)
theorem ct_X8_save {σ : St} {p0 : Nat} {p1 : Nat} {δ : Dy} {r : Dy} (h : m_X8_save σ p0 p1 δ = some r) : CT yX8_save cX8_save 2 none 1 59 0 0 [.ref p0, .ref p1] σ δ (none, σ, r) := CT_of (by decide +kernel) (Nat.le_of_ble_eq_true rfl) (fun J hI => w_X8_save hI σ p0 p1 δ r h rfl)
def m_X8_restore_b113 (σ : St) (p0 : Nat) (p1 : Nat) (p2 : Int32) (q0 : Nat) (q1 : Int32) (q2 : Int32) (δ : Dy) : Option ((Int32 × Dy) ⊕ Dy) :=
  (wZ σ δ q0 q1 q2).bind fun d6 =>
  some (Sum.inl ((p2 + (1 : Int32)), d6))
def m_X8_restore_b112 (σ : St) (p0 : Nat) (p1 : Nat) (p2 : Int32) (q0 : Nat) (q1 : Int32) (δ : Dy) : Option ((Int32 × Dy) ⊕ Dy) :=
  m_X8_restore_b113 σ p0 p1 p2 q0 q1 (0 : Int32) δ
def m_X8_restore_b78 (σ : St) (p0 : Nat) (p1 : Nat) (p2 : Int32) (δ : Dy) : Option Dy := lp (fun (s : (Int32 × Dy)) =>
  (gI σ s.2 8 p0 10).bind fun v3 =>
  if v3 ≤ s.1 then
    some (Sum.inr s.2)
  else
    (gR σ 8 p0 7).bind fun v4 =>
    (gI σ s.2 4 p1 9).bind fun v5 =>
    if v5 ≤ s.1 then
      m_X8_restore_b112 σ p0 p1 s.1 v4 s.1 s.2
    else
      (gR σ 4 p1 7).bind fun v7 =>
      (rZ σ s.2 v7 s.1).bind fun v8 =>
      if v8 = 0 then
        m_X8_restore_b112 σ p0 p1 s.1 v4 s.1 s.2
      else
        m_X8_restore_b113 σ p0 p1 s.1 v4 s.1 (1 : Int32) s.2) (p2, δ)
def m_X8_restore_b69 (σ : St) (p0 : Nat) (p1 : Nat) (p2 : Int32) (q0 : Nat) (q1 : Int32) (q2 : Int32) (δ : Dy) : Option ((Int32 × Dy) ⊕ Dy) :=
  (wI σ δ q0 q1 q2).bind fun d13 =>
  some (Sum.inl ((p2 + (1 : Int32)), d13))
def m_X8_restore_b48 (σ : St) (p0 : Nat) (p1 : Nat) (p2 : Int32) (p3 : Int32) (q0 : Nat) (q1 : Int32) (q2 : Int32) (δ : Dy) : Option ((Int32 × Dy) ⊕ Dy) :=
  (wI σ δ q0 q1 q2).bind fun d11 =>
  (gR σ 8 p0 1).bind fun v12 =>
  if p3 = 0 then
    m_X8_restore_b69 σ p0 p1 p2 v12 p2 (100 : Int32) d11
  else
    (gR σ 4 p1 6).bind fun v14 =>
    (rI σ d11 v14 p2).bind fun v15 =>
    m_X8_restore_b69 σ p0 p1 p2 v12 p2 v15 d11
def m_X8_restore_b28 (σ : St) (p0 : Nat) (p1 : Nat) (p2 : Int32) (q0 : Int32) (δ : Dy) : Option ((Int32 × Dy) ⊕ Dy) :=
  (gR σ 8 p0 0).bind fun v10 =>
  if q0 = 0 then
    m_X8_restore_b48 σ p0 p1 p2 q0 v10 p2 p2 δ
  else
    (gR σ 4 p1 5).bind fun v16 =>
    (rI σ δ v16 p2).bind fun v17 =>
    m_X8_restore_b48 σ p0 p1 p2 q0 v10 p2 v17 δ
def m_X8_restore_b7 (σ : St) (p0 : Nat) (p1 : Nat) (p2 : Int32) (δ : Dy) : Option Dy := lp (fun (s : (Int32 × Dy)) =>
  (gI σ s.2 8 p0 2).bind fun v2 =>
  if v2 ≤ s.1 then
    (m_X8_restore_b78 σ p0 p1 (0 : Int32) s.2).bind fun r => some (Sum.inr r)
  else
    (gI σ s.2 4 p1 8).bind fun v9 =>
    if v9 ≤ s.1 then
      m_X8_restore_b28 σ p0 p1 s.1 (0 : Int32) s.2
    else
      m_X8_restore_b28 σ p0 p1 s.1 (1 : Int32) s.2) (p2, δ)
def m_X8_restore (σ : St) (p0 : Nat) (p1 : Nat) (δ : Dy) : Option Dy :=
  (pZ σ δ 8 p0 12 (0 : Int32)).bind fun d1 =>
  m_X8_restore_b7 σ p0 p1 (0 : Int32) d1
set_option maxHeartbeats 4000000 in
set_option maxRecDepth 100000 in
theorem w_X8_restore_b113 {J : JT} {an : Option Value × St × Dy} (hI : Isj cX8_restore 4 RX8 "restore" 0 0 none an J) {β : Bu} (σ : St) (p0 : Nat) (p1 : Nat) (p2 : Int32) (q0 : Nat) (q1 : Int32) (q2 : Int32) (δ : Dy) : SJ (m_X8_restore_b113 σ p0 p1 p2 q0 q1 q2 δ) (PL (fun s : (Int32 × Dy) => J 78 [(0, .ref p0), (1, .ref p1), (2, .int s.1)] [] β σ s.2) (PV σ an)) (J 113 [(0, .ref p0), (1, .ref p1), (2, .int p2)] [.int q2, .int q1, .ref q0] β σ δ) := by
  have hJ := hI.cor
  unfold m_X8_restore_b113
  refine sj_wZ hJ dX8_restore_113 (fun d6 => ?_)
  refine sj (j_iinc hJ (L' := [(2, .int (p2 + (1 : Int32))), (0, .ref p0), (1, .ref p1)]) dX8_restore_114 2 rfl (congrArg (fun z => p2 + z) ic_1) (by decide) rfl) ?_
  refine sj (j_goto hJ (tgt := 78) dX8_restore_117 (by decide)) ?_
  refine sj (j_sub hJ (L' := [(0, .ref p0), (1, .ref p1), (2, .int (p2 + (1 : Int32)))]) [1, 2, 0] rfl) ?_
  exact sj_end (fun h => h)
set_option maxHeartbeats 4000000 in
set_option maxRecDepth 100000 in
theorem w_X8_restore_b112 {J : JT} {an : Option Value × St × Dy} (hI : Isj cX8_restore 4 RX8 "restore" 0 0 none an J) {β : Bu} (σ : St) (p0 : Nat) (p1 : Nat) (p2 : Int32) (q0 : Nat) (q1 : Int32) (δ : Dy) : SJ (m_X8_restore_b112 σ p0 p1 p2 q0 q1 δ) (PL (fun s : (Int32 × Dy) => J 78 [(0, .ref p0), (1, .ref p1), (2, .int s.1)] [] β σ s.2) (PV σ an)) (J 112 [(0, .ref p0), (1, .ref p1), (2, .int p2)] [.int q1, .ref q0] β σ δ) := by
  have hJ := hI.cor
  unfold m_X8_restore_b112
  refine sj (j_iconst hJ (v := 0) dX8_restore_112 ic_0) ?_
  exact w_X8_restore_b113 hI σ p0 p1 p2 q0 q1 (0 : Int32) δ
set_option maxHeartbeats 4000000 in
set_option maxRecDepth 100000 in
theorem w_X8_restore_b78 {J : JT} {an : Option Value × St × Dy} (hI : Isj cX8_restore 4 RX8 "restore" 0 0 none an J) {β : Bu} (σ : St) (p0 : Nat) (p1 : Nat) (p2 : Int32) (δ : Dy) : SJ (m_X8_restore_b78 σ p0 p1 p2 δ) (PV σ an) (J 78 [(0, .ref p0), (1, .ref p1), (2, .int p2)] [] β σ δ) := by
  have hJ := hI.cor
  unfold m_X8_restore_b78
  refine sj_lp (G := fun s : (Int32 × Dy) => J 78 [(0, .ref p0), (1, .ref p1), (2, .int s.1)] [] β σ s.2) (fun s => ?_) (p2, δ)
  refine sj (j_iload_n hJ dX8_restore_78 rfl 2 rfl) ?_
  refine sj (j_aload_n hJ dX8_restore_79 rfl 0 rfl) ?_
  refine sj_gI hJ fl_X8_52 (Or.inl rfl) dX8_restore_80 (fun v3 => ?_)
  refine sj_if (j_icmp_ge hJ (tgt := 120) dX8_restore_83 (by decide)) (fun _ => ?_) (fun _ => ?_)
  · exact sj_vret hI dX8_restore_120 (fun h => h)
  · refine sj (j_aload_n hJ dX8_restore_86 rfl 0 rfl) ?_
    refine sj_gR hJ fl_X8_31 rfl dX8_restore_87 (fun v4 => ?_)
    refine sj (j_iload_n hJ dX8_restore_90 rfl 2 rfl) ?_
    refine sj (j_iload_n hJ dX8_restore_91 rfl 2 rfl) ?_
    refine sj (j_aload_n hJ dX8_restore_92 rfl 1 rfl) ?_
    refine sj_gI hJ fl_X8_71 (Or.inl rfl) dX8_restore_93 (fun v5 => ?_)
    refine sj_if (j_icmp_ge hJ (tgt := 112) dX8_restore_96 (by decide)) (fun _ => ?_) (fun _ => ?_)
    · exact w_X8_restore_b112 hI σ p0 p1 s.1 v4 s.1 s.2
    · refine sj (j_aload_n hJ dX8_restore_99 rfl 1 rfl) ?_
      refine sj_gR hJ fl_X8_74 rfl dX8_restore_100 (fun v7 => ?_)
      refine sj (j_iload_n hJ dX8_restore_103 rfl 2 rfl) ?_
      refine sj_rZ hJ dX8_restore_104 (fun v8 => ?_)
      refine sj_if (j_if_eq hJ (tgt := 112) dX8_restore_105 (by decide)) (fun _ => ?_) (fun _ => ?_)
      · exact w_X8_restore_b112 hI σ p0 p1 s.1 v4 s.1 s.2
      · refine sj (j_iconst hJ (v := 1) dX8_restore_108 ic_1) ?_
        refine sj (j_goto hJ (tgt := 113) dX8_restore_109 (by decide)) ?_
        exact w_X8_restore_b113 hI σ p0 p1 s.1 v4 s.1 (1 : Int32) s.2
set_option maxHeartbeats 4000000 in
set_option maxRecDepth 100000 in
theorem w_X8_restore_b69 {J : JT} {an : Option Value × St × Dy} (hI : Isj cX8_restore 4 RX8 "restore" 0 0 none an J) {β : Bu} (σ : St) (p0 : Nat) (p1 : Nat) (p2 : Int32) (q0 : Nat) (q1 : Int32) (q2 : Int32) (δ : Dy) : SJ (m_X8_restore_b69 σ p0 p1 p2 q0 q1 q2 δ) (PL (fun s : (Int32 × Dy) => J 7 [(0, .ref p0), (1, .ref p1), (2, .int s.1)] [] β σ s.2) (PV σ an)) (J 69 [(0, .ref p0), (1, .ref p1), (2, .int p2)] [.int q2, .int q1, .ref q0] β σ δ) := by
  have hJ := hI.cor
  unfold m_X8_restore_b69
  refine sj_wI hJ dX8_restore_69 (fun d13 => ?_)
  refine sj (j_iinc hJ (L' := [(2, .int (p2 + (1 : Int32))), (0, .ref p0), (1, .ref p1)]) dX8_restore_70 2 rfl (congrArg (fun z => p2 + z) ic_1) (by decide) rfl) ?_
  refine sj (j_goto hJ (tgt := 7) dX8_restore_73 (by decide)) ?_
  refine sj (j_sub hJ (L' := [(0, .ref p0), (1, .ref p1), (2, .int (p2 + (1 : Int32)))]) [1, 2, 0] rfl) ?_
  exact sj_end (fun h => h)
set_option maxHeartbeats 4000000 in
set_option maxRecDepth 100000 in
theorem w_X8_restore_b48 {J : JT} {an : Option Value × St × Dy} (hI : Isj cX8_restore 4 RX8 "restore" 0 0 none an J) {β : Bu} (σ : St) (p0 : Nat) (p1 : Nat) (p2 : Int32) (p3 : Int32) (q0 : Nat) (q1 : Int32) (q2 : Int32) (δ : Dy) : SJ (m_X8_restore_b48 σ p0 p1 p2 p3 q0 q1 q2 δ) (PL (fun s : (Int32 × Dy) => J 7 [(0, .ref p0), (1, .ref p1), (2, .int s.1)] [] β σ s.2) (PV σ an)) (J 48 [(0, .ref p0), (1, .ref p1), (2, .int p2), (3, .int p3)] [.int q2, .int q1, .ref q0] β σ δ) := by
  have hJ := hI.cor
  unfold m_X8_restore_b48
  refine sj_wI hJ dX8_restore_48 (fun d11 => ?_)
  refine sj (j_aload_n hJ dX8_restore_49 rfl 0 rfl) ?_
  refine sj_gR hJ fl_X8_15 rfl dX8_restore_50 (fun v12 => ?_)
  refine sj (j_iload_n hJ dX8_restore_53 rfl 2 rfl) ?_
  refine sj (j_iload_n hJ dX8_restore_54 rfl 3 rfl) ?_
  refine sj_if (j_if_eq hJ (tgt := 67) dX8_restore_55 (by decide)) (fun _ => ?_) (fun _ => ?_)
  · refine sj (j_bipush hJ (v := 100) dX8_restore_67 ib_100) ?_
    refine sj (j_sub hJ (L' := [(0, .ref p0), (1, .ref p1), (2, .int p2)]) [0, 1, 2] rfl) ?_
    exact w_X8_restore_b69 hI σ p0 p1 p2 v12 p2 (100 : Int32) d11
  · refine sj (j_aload_n hJ dX8_restore_58 rfl 1 rfl) ?_
    refine sj_gR hJ fl_X8_73 rfl dX8_restore_59 (fun v14 => ?_)
    refine sj (j_iload_n hJ dX8_restore_62 rfl 2 rfl) ?_
    refine sj_rI hJ dX8_restore_63 (fun v15 => ?_)
    refine sj (j_goto hJ (tgt := 69) dX8_restore_64 (by decide)) ?_
    refine sj (j_sub hJ (L' := [(0, .ref p0), (1, .ref p1), (2, .int p2)]) [0, 1, 2] rfl) ?_
    exact w_X8_restore_b69 hI σ p0 p1 p2 v12 p2 v15 d11
set_option maxHeartbeats 4000000 in
set_option maxRecDepth 100000 in
theorem w_X8_restore_b28 {J : JT} {an : Option Value × St × Dy} (hI : Isj cX8_restore 4 RX8 "restore" 0 0 none an J) {β : Bu} (σ : St) (p0 : Nat) (p1 : Nat) (p2 : Int32) (q0 : Int32) (δ : Dy) : SJ (m_X8_restore_b28 σ p0 p1 p2 q0 δ) (PL (fun s : (Int32 × Dy) => J 7 [(0, .ref p0), (1, .ref p1), (2, .int s.1)] [] β σ s.2) (PV σ an)) (J 28 [(0, .ref p0), (1, .ref p1), (2, .int p2)] [.int q0] β σ δ) := by
  have hJ := hI.cor
  unfold m_X8_restore_b28
  refine sj (j_istore_n hJ (L' := [(3, .int q0), (0, .ref p0), (1, .ref p1), (2, .int p2)]) dX8_restore_28 rfl (by decide) rfl) ?_
  refine sj (j_aload_n hJ dX8_restore_29 rfl 1 rfl) ?_
  refine sj_gR hJ fl_X8_9 rfl dX8_restore_30 (fun v10 => ?_)
  refine sj (j_iload_n hJ dX8_restore_33 rfl 3 rfl) ?_
  refine sj (j_iload_n hJ dX8_restore_34 rfl 0 rfl) ?_
  refine sj_if (j_if_eq hJ (tgt := 47) dX8_restore_35 (by decide)) (fun _ => ?_) (fun _ => ?_)
  · refine sj (j_iload_n hJ dX8_restore_47 rfl 3 rfl) ?_
    refine sj (j_sub hJ (L' := [(0, .ref p0), (1, .ref p1), (2, .int p2), (3, .int q0)]) [1, 2, 3, 0] rfl) ?_
    exact w_X8_restore_b48 hI σ p0 p1 p2 q0 v10 p2 p2 δ
  · refine sj (j_aload_n hJ dX8_restore_38 rfl 2 rfl) ?_
    refine sj_gR hJ fl_X8_72 rfl dX8_restore_39 (fun v16 => ?_)
    refine sj (j_iload_n hJ dX8_restore_42 rfl 3 rfl) ?_
    refine sj_rI hJ dX8_restore_43 (fun v17 => ?_)
    refine sj (j_goto hJ (tgt := 48) dX8_restore_44 (by decide)) ?_
    refine sj (j_sub hJ (L' := [(0, .ref p0), (1, .ref p1), (2, .int p2), (3, .int q0)]) [1, 2, 3, 0] rfl) ?_
    exact w_X8_restore_b48 hI σ p0 p1 p2 q0 v10 p2 v17 δ
set_option maxHeartbeats 4000000 in
set_option maxRecDepth 100000 in
theorem w_X8_restore_b7 {J : JT} {an : Option Value × St × Dy} (hI : Isj cX8_restore 4 RX8 "restore" 0 0 none an J) {β : Bu} (σ : St) (p0 : Nat) (p1 : Nat) (p2 : Int32) (δ : Dy) : SJ (m_X8_restore_b7 σ p0 p1 p2 δ) (PV σ an) (J 7 [(0, .ref p0), (1, .ref p1), (2, .int p2)] [] β σ δ) := by
  have hJ := hI.cor
  unfold m_X8_restore_b7
  refine sj_lp (G := fun s : (Int32 × Dy) => J 7 [(0, .ref p0), (1, .ref p1), (2, .int s.1)] [] β σ s.2) (fun s => ?_) (p2, δ)
  refine sj (j_iload_n hJ dX8_restore_7 rfl 2 rfl) ?_
  refine sj (j_aload_n hJ dX8_restore_8 rfl 0 rfl) ?_
  refine sj_gI hJ fl_X8_48 (Or.inl rfl) dX8_restore_9 (fun v2 => ?_)
  refine sj_if (j_icmp_ge hJ (tgt := 76) dX8_restore_12 (by decide)) (fun _ => ?_) (fun _ => ?_)
  · refine sj (j_iconst hJ (v := 0) dX8_restore_76 ic_0) ?_
    refine sj (j_istore_n hJ (L' := [(2, .int (0 : Int32)), (0, .ref p0), (1, .ref p1)]) dX8_restore_77 rfl (by decide) rfl) ?_
    refine sj (j_sub hJ (L' := [(0, .ref p0), (1, .ref p1), (2, .int (0 : Int32))]) [1, 2, 0] rfl) ?_
    refine sj_map ?_
    exact w_X8_restore_b78 hI σ p0 p1 (0 : Int32) s.2
  · refine sj (j_iload_n hJ dX8_restore_15 rfl 2 rfl) ?_
    refine sj (j_aload_n hJ dX8_restore_16 rfl 1 rfl) ?_
    refine sj_gI hJ fl_X8_68 (Or.inl rfl) dX8_restore_17 (fun v9 => ?_)
    refine sj_if (j_icmp_ge hJ (tgt := 27) dX8_restore_20 (by decide)) (fun _ => ?_) (fun _ => ?_)
    · refine sj (j_iconst hJ (v := 0) dX8_restore_27 ic_0) ?_
      exact w_X8_restore_b28 hI σ p0 p1 s.1 (0 : Int32) s.2
    · refine sj (j_iconst hJ (v := 1) dX8_restore_23 ic_1) ?_
      refine sj (j_goto hJ (tgt := 28) dX8_restore_24 (by decide)) ?_
      exact w_X8_restore_b28 hI σ p0 p1 s.1 (1 : Int32) s.2
set_option maxHeartbeats 4000000 in
set_option maxRecDepth 100000 in
theorem w_X8_restore {J : JT} {an : Option Value × St × Dy} (hI : Isj cX8_restore 4 RX8 "restore" 0 0 none an J) {β : Bu} (σ : St) (p0 : Nat) (p1 : Nat) (δ : Dy) : SJ (m_X8_restore σ p0 p1 δ) (PV σ an) (J 0 [(0, .ref p0), (1, .ref p1)] [] β σ δ) := by
  have hJ := hI.cor
  unfold m_X8_restore
  refine sj (j_aload_n hJ dX8_restore_0 rfl 0 rfl) ?_
  refine sj (j_iconst hJ (v := 0) dX8_restore_1 ic_0) ?_
  refine sj_pZ hJ fl_X8_58 rfl dX8_restore_2 (fun d1 => ?_)
  refine sj (j_iconst hJ (v := 0) dX8_restore_5 ic_0) ?_
  refine sj (j_istore_n hJ (L' := [(2, .int (0 : Int32)), (0, .ref p0), (1, .ref p1)]) dX8_restore_6 rfl (by decide) rfl) ?_
  refine sj (j_sub hJ (L' := [(0, .ref p0), (1, .ref p1), (2, .int (0 : Int32))]) [1, 2, 0] rfl) ?_
  exact w_X8_restore_b7 hI σ p0 p1 (0 : Int32) d1
theorem ct_X8_restore {σ : St} {p0 : Nat} {p1 : Nat} {δ : Dy} {r : Dy} (h : m_X8_restore σ p0 p1 δ = some r) : CT yX8_restore cX8_restore 4 none 0 0 0 0 [.ref p0, .ref p1] σ δ (none, σ, r) := CT_of (by decide +kernel) (Nat.le_of_ble_eq_true rfl) (fun J hI => w_X8_restore hI σ p0 p1 δ r h rfl)
def m_X8_makeVariable (σ : St) (p0 : Nat) (δ : Dy) : Option (Int32 × Dy) :=
  (gI σ δ 8 p0 2).bind fun v1 =>
  if v1 < (60 : Int32) then
    (gR σ 8 p0 0).bind fun v2 =>
    (gI σ δ 8 p0 2).bind fun v3 =>
    (gI σ δ 8 p0 2).bind fun v4 =>
    (wI σ δ v2 v3 v4).bind fun d5 =>
    (gR σ 8 p0 1).bind fun v6 =>
    (gI σ d5 8 p0 2).bind fun v7 =>
    (wI σ d5 v6 v7 (100 : Int32)).bind fun d8 =>
    (gI σ d8 8 p0 2).bind fun v9 =>
    (pI σ d8 8 p0 2 (v9 + (1 : Int32))).bind fun d10 =>
    (gI σ d10 8 p0 2).bind fun v11 =>
    some ((v11 - (1 : Int32)), d10)
  else
    (pZ σ δ 8 p0 12 (1 : Int32)).bind fun d12 =>
    some ((-1 : Int32), d12)
set_option maxHeartbeats 4000000 in
set_option maxRecDepth 100000 in
theorem w_X8_makeVariable {J : JT} {an : Option Value × St × Dy} (hI : Isj cX8_makeVariable 1 RX8 "makeVariable" 0 0 (some .int) an J) {β : Bu} (σ : St) (p0 : Nat) (δ : Dy) : SJ (m_X8_makeVariable σ p0 δ) (PI σ an) (J 0 [(0, .ref p0)] [] β σ δ) := by
  have hJ := hI.cor
  unfold m_X8_makeVariable
  refine sj (j_aload_n hJ dX8_makeVariable_0 rfl 0 rfl) ?_
  refine sj_gI hJ fl_X8_48 (Or.inl rfl) dX8_makeVariable_1 (fun v1 => ?_)
  refine sj (j_bipush hJ (v := 60) dX8_makeVariable_4 ib_60) ?_
  refine sj_if (j_icmp_lt hJ (tgt := 16) dX8_makeVariable_6 (by decide)) (fun _ => ?_) (fun _ => ?_)
  · refine sj (j_aload_n hJ dX8_makeVariable_16 rfl 0 rfl) ?_
    refine sj_gR hJ fl_X8_9 rfl dX8_makeVariable_17 (fun v2 => ?_)
    refine sj (j_aload_n hJ dX8_makeVariable_20 rfl 0 rfl) ?_
    refine sj_gI hJ fl_X8_48 (Or.inl rfl) dX8_makeVariable_21 (fun v3 => ?_)
    refine sj (j_aload_n hJ dX8_makeVariable_24 rfl 0 rfl) ?_
    refine sj_gI hJ fl_X8_48 (Or.inl rfl) dX8_makeVariable_25 (fun v4 => ?_)
    refine sj_wI hJ dX8_makeVariable_28 (fun d5 => ?_)
    refine sj (j_aload_n hJ dX8_makeVariable_29 rfl 0 rfl) ?_
    refine sj_gR hJ fl_X8_15 rfl dX8_makeVariable_30 (fun v6 => ?_)
    refine sj (j_aload_n hJ dX8_makeVariable_33 rfl 0 rfl) ?_
    refine sj_gI hJ fl_X8_48 (Or.inl rfl) dX8_makeVariable_34 (fun v7 => ?_)
    refine sj (j_bipush hJ (v := 100) dX8_makeVariable_37 ib_100) ?_
    refine sj_wI hJ dX8_makeVariable_39 (fun d8 => ?_)
    refine sj (j_aload_n hJ dX8_makeVariable_40 rfl 0 rfl) ?_
    refine sj (j_dup hJ dX8_makeVariable_41 rfl) ?_
    refine sj_gI hJ fl_X8_48 (Or.inl rfl) dX8_makeVariable_42 (fun v9 => ?_)
    refine sj (j_iconst hJ (v := 1) dX8_makeVariable_45 ic_1) ?_
    refine sj (j_iadd hJ dX8_makeVariable_46) ?_
    refine sj_pI hJ fl_X8_48 rfl dX8_makeVariable_47 (fun d10 => ?_)
    refine sj (j_aload_n hJ dX8_makeVariable_50 rfl 0 rfl) ?_
    refine sj_gI hJ fl_X8_48 (Or.inl rfl) dX8_makeVariable_51 (fun v11 => ?_)
    refine sj (j_iconst hJ (v := 1) dX8_makeVariable_54 ic_1) ?_
    refine sj (j_isub hJ dX8_makeVariable_55) ?_
    exact sj_iret hI dX8_makeVariable_56 (fun h => h)
  · refine sj (j_aload_n hJ dX8_makeVariable_9 rfl 0 rfl) ?_
    refine sj (j_iconst hJ (v := 1) dX8_makeVariable_10 ic_1) ?_
    refine sj_pZ hJ fl_X8_58 rfl dX8_makeVariable_11 (fun d12 => ?_)
    refine sj (j_iconst hJ (v := -1) dX8_makeVariable_14 ic_m1) ?_
    exact sj_iret hI dX8_makeVariable_15 (fun h => h)
theorem ct_X8_makeVariable {σ : St} {p0 : Nat} {δ : Dy} {r : (Int32 × Dy)} (h : m_X8_makeVariable σ p0 δ = some r) : CT yX8_makeVariable cX8_makeVariable 1 (some .int) 0 0 0 0 [.ref p0] σ δ ((some (.int r.1)), σ, r.2) := CT_of (by decide +kernel) (Nat.le_of_ble_eq_true rfl) (fun J hI => w_X8_makeVariable hI σ p0 δ r h rfl)
def m_X8_dropPassing_b38 (σ : St) (p0 : Nat) (p1 : Int32) (q0 : Nat) (q1 : Int32) (q2 : Int32) (δ : Dy) : Option ((Int32 × Dy) ⊕ Dy) :=
  (wZ σ δ q0 q1 q2).bind fun d5 =>
  some (Sum.inl ((p1 + (1 : Int32)), d5))
def m_X8_dropPassing_b37 (σ : St) (p0 : Nat) (p1 : Int32) (q0 : Nat) (q1 : Int32) (δ : Dy) : Option ((Int32 × Dy) ⊕ Dy) :=
  m_X8_dropPassing_b38 σ p0 p1 q0 q1 (0 : Int32) δ
def m_X8_dropPassing_b2 (σ : St) (p0 : Nat) (p1 : Int32) (δ : Dy) : Option Dy := lp (fun (s : (Int32 × Dy)) =>
  (gI σ s.2 8 p0 10).bind fun v1 =>
  if v1 ≤ s.1 then
    some (Sum.inr s.2)
  else
    (gR σ 8 p0 7).bind fun v2 =>
    (gR σ 8 p0 7).bind fun v3 =>
    (rZ σ s.2 v3 s.1).bind fun v4 =>
    if v4 = 0 then
      m_X8_dropPassing_b37 σ p0 s.1 v2 s.1 s.2
    else
      (gR σ 8 p0 6).bind fun v6 =>
      (rZ σ s.2 v6 s.1).bind fun v7 =>
      if v7 = 0 then
        m_X8_dropPassing_b37 σ p0 s.1 v2 s.1 s.2
      else
        m_X8_dropPassing_b38 σ p0 s.1 v2 s.1 (1 : Int32) s.2) (p1, δ)
def m_X8_dropPassing (σ : St) (p0 : Nat) (δ : Dy) : Option Dy :=
  m_X8_dropPassing_b2 σ p0 (0 : Int32) δ
set_option maxHeartbeats 4000000 in
set_option maxRecDepth 100000 in
theorem w_X8_dropPassing_b38 {J : JT} {an : Option Value × St × Dy} (hI : Isj cX8_dropPassing 2 RX8 "dropPassing" 0 0 none an J) {β : Bu} (σ : St) (p0 : Nat) (p1 : Int32) (q0 : Nat) (q1 : Int32) (q2 : Int32) (δ : Dy) : SJ (m_X8_dropPassing_b38 σ p0 p1 q0 q1 q2 δ) (PL (fun s : (Int32 × Dy) => J 2 [(0, .ref p0), (1, .int s.1)] [] β σ s.2) (PV σ an)) (J 38 [(0, .ref p0), (1, .int p1)] [.int q2, .int q1, .ref q0] β σ δ) := by
  have hJ := hI.cor
  unfold m_X8_dropPassing_b38
  refine sj_wZ hJ dX8_dropPassing_38 (fun d5 => ?_)
  refine sj (j_iinc hJ (L' := [(1, .int (p1 + (1 : Int32))), (0, .ref p0)]) dX8_dropPassing_39 1 rfl (congrArg (fun z => p1 + z) ic_1) (by decide) rfl) ?_
  refine sj (j_goto hJ (tgt := 2) dX8_dropPassing_42 (by decide)) ?_
  refine sj (j_sub hJ (L' := [(0, .ref p0), (1, .int (p1 + (1 : Int32)))]) [1, 0] rfl) ?_
  exact sj_end (fun h => h)
set_option maxHeartbeats 4000000 in
set_option maxRecDepth 100000 in
theorem w_X8_dropPassing_b37 {J : JT} {an : Option Value × St × Dy} (hI : Isj cX8_dropPassing 2 RX8 "dropPassing" 0 0 none an J) {β : Bu} (σ : St) (p0 : Nat) (p1 : Int32) (q0 : Nat) (q1 : Int32) (δ : Dy) : SJ (m_X8_dropPassing_b37 σ p0 p1 q0 q1 δ) (PL (fun s : (Int32 × Dy) => J 2 [(0, .ref p0), (1, .int s.1)] [] β σ s.2) (PV σ an)) (J 37 [(0, .ref p0), (1, .int p1)] [.int q1, .ref q0] β σ δ) := by
  have hJ := hI.cor
  unfold m_X8_dropPassing_b37
  refine sj (j_iconst hJ (v := 0) dX8_dropPassing_37 ic_0) ?_
  exact w_X8_dropPassing_b38 hI σ p0 p1 q0 q1 (0 : Int32) δ
set_option maxHeartbeats 4000000 in
set_option maxRecDepth 100000 in
theorem w_X8_dropPassing_b2 {J : JT} {an : Option Value × St × Dy} (hI : Isj cX8_dropPassing 2 RX8 "dropPassing" 0 0 none an J) {β : Bu} (σ : St) (p0 : Nat) (p1 : Int32) (δ : Dy) : SJ (m_X8_dropPassing_b2 σ p0 p1 δ) (PV σ an) (J 2 [(0, .ref p0), (1, .int p1)] [] β σ δ) := by
  have hJ := hI.cor
  unfold m_X8_dropPassing_b2
  refine sj_lp (G := fun s : (Int32 × Dy) => J 2 [(0, .ref p0), (1, .int s.1)] [] β σ s.2) (fun s => ?_) (p1, δ)
  refine sj (j_iload_n hJ dX8_dropPassing_2 rfl 1 rfl) ?_
  refine sj (j_aload_n hJ dX8_dropPassing_3 rfl 0 rfl) ?_
  refine sj_gI hJ fl_X8_52 (Or.inl rfl) dX8_dropPassing_4 (fun v1 => ?_)
  refine sj_if (j_icmp_ge hJ (tgt := 45) dX8_dropPassing_7 (by decide)) (fun _ => ?_) (fun _ => ?_)
  · exact sj_vret hI dX8_dropPassing_45 (fun h => h)
  · refine sj (j_aload_n hJ dX8_dropPassing_10 rfl 0 rfl) ?_
    refine sj_gR hJ fl_X8_31 rfl dX8_dropPassing_11 (fun v2 => ?_)
    refine sj (j_iload_n hJ dX8_dropPassing_14 rfl 1 rfl) ?_
    refine sj (j_aload_n hJ dX8_dropPassing_15 rfl 0 rfl) ?_
    refine sj_gR hJ fl_X8_31 rfl dX8_dropPassing_16 (fun v3 => ?_)
    refine sj (j_iload_n hJ dX8_dropPassing_19 rfl 1 rfl) ?_
    refine sj_rZ hJ dX8_dropPassing_20 (fun v4 => ?_)
    refine sj_if (j_if_eq hJ (tgt := 37) dX8_dropPassing_21 (by decide)) (fun _ => ?_) (fun _ => ?_)
    · exact w_X8_dropPassing_b37 hI σ p0 s.1 v2 s.1 s.2
    · refine sj (j_aload_n hJ dX8_dropPassing_24 rfl 0 rfl) ?_
      refine sj_gR hJ fl_X8_27 rfl dX8_dropPassing_25 (fun v6 => ?_)
      refine sj (j_iload_n hJ dX8_dropPassing_28 rfl 1 rfl) ?_
      refine sj_rZ hJ dX8_dropPassing_29 (fun v7 => ?_)
      refine sj_if (j_if_eq hJ (tgt := 37) dX8_dropPassing_30 (by decide)) (fun _ => ?_) (fun _ => ?_)
      · exact w_X8_dropPassing_b37 hI σ p0 s.1 v2 s.1 s.2
      · refine sj (j_iconst hJ (v := 1) dX8_dropPassing_33 ic_1) ?_
        refine sj (j_goto hJ (tgt := 38) dX8_dropPassing_34 (by decide)) ?_
        exact w_X8_dropPassing_b38 hI σ p0 s.1 v2 s.1 (1 : Int32) s.2
set_option maxHeartbeats 4000000 in
set_option maxRecDepth 100000 in
theorem w_X8_dropPassing {J : JT} {an : Option Value × St × Dy} (hI : Isj cX8_dropPassing 2 RX8 "dropPassing" 0 0 none an J) {β : Bu} (σ : St) (p0 : Nat) (δ : Dy) : SJ (m_X8_dropPassing σ p0 δ) (PV σ an) (J 0 [(0, .ref p0)] [] β σ δ) := by
  have hJ := hI.cor
  unfold m_X8_dropPassing
  refine sj (j_iconst hJ (v := 0) dX8_dropPassing_0 ic_0) ?_
  refine sj (j_istore_n hJ (L' := [(1, .int (0 : Int32)), (0, .ref p0)]) dX8_dropPassing_1 rfl (by decide) rfl) ?_
  refine sj (j_sub hJ (L' := [(0, .ref p0), (1, .int (0 : Int32))]) [1, 0] rfl) ?_
  exact w_X8_dropPassing_b2 hI σ p0 (0 : Int32) δ
theorem ct_X8_dropPassing {σ : St} {p0 : Nat} {δ : Dy} {r : Dy} (h : m_X8_dropPassing σ p0 δ = some r) : CT yX8_dropPassing cX8_dropPassing 2 none 0 0 0 0 [.ref p0] σ δ (none, σ, r) := CT_of (by decide +kernel) (Nat.le_of_ble_eq_true rfl) (fun J hI => w_X8_dropPassing hI σ p0 δ r h rfl)
def m_X8_countStanding_b24 (σ : St) (p0 : Nat) (p1 : Int32) (p2 : Int32) (δ : Dy) : Option ((Int32 × Int32) ⊕ Int32) :=
  some (Sum.inl (p1, (p2 + (1 : Int32))))
def m_X8_countStanding_b4 (σ : St) (p0 : Nat) (p1 : Int32) (p2 : Int32) (δ : Dy) : Option Int32 := lp (fun (s : (Int32 × Int32)) =>
  (gI σ δ 8 p0 10).bind fun v1 =>
  if v1 ≤ s.2 then
    some (Sum.inr s.1)
  else
    (gR σ 8 p0 7).bind fun v2 =>
    (rZ σ δ v2 s.2).bind fun v3 =>
    if v3 = 0 then
      m_X8_countStanding_b24 σ p0 s.1 s.2 δ
    else
      m_X8_countStanding_b24 σ p0 (s.1 + (1 : Int32)) s.2 δ) (p1, p2)
def m_X8_countStanding (σ : St) (p0 : Nat) (δ : Dy) : Option Int32 :=
  m_X8_countStanding_b4 σ p0 (0 : Int32) (0 : Int32) δ
set_option maxHeartbeats 4000000 in
set_option maxRecDepth 100000 in
theorem w_X8_countStanding_b24 {J : JT} {an : Option Value × St × Dy} (hI : Isj cX8_countStanding 3 RX8 "countStanding" 0 0 (some .int) an J) {β : Bu} (σ : St) (p0 : Nat) (p1 : Int32) (p2 : Int32) (δ : Dy) : SJ (m_X8_countStanding_b24 σ p0 p1 p2 δ) (PL (fun s : (Int32 × Int32) => J 4 [(0, .ref p0), (1, .int s.1), (2, .int s.2)] [] β σ δ) (PIp σ δ an)) (J 24 [(0, .ref p0), (1, .int p1), (2, .int p2)] [] β σ δ) := by
  have hJ := hI.cor
  unfold m_X8_countStanding_b24
  refine sj (j_iinc hJ (L' := [(2, .int (p2 + (1 : Int32))), (0, .ref p0), (1, .int p1)]) dX8_countStanding_24 2 rfl (congrArg (fun z => p2 + z) ic_1) (by decide) rfl) ?_
  refine sj (j_goto hJ (tgt := 4) dX8_countStanding_27 (by decide)) ?_
  refine sj (j_sub hJ (L' := [(0, .ref p0), (1, .int p1), (2, .int (p2 + (1 : Int32)))]) [1, 2, 0] rfl) ?_
  exact sj_end (fun h => h)
set_option maxHeartbeats 4000000 in
set_option maxRecDepth 100000 in
theorem w_X8_countStanding_b4 {J : JT} {an : Option Value × St × Dy} (hI : Isj cX8_countStanding 3 RX8 "countStanding" 0 0 (some .int) an J) {β : Bu} (σ : St) (p0 : Nat) (p1 : Int32) (p2 : Int32) (δ : Dy) : SJ (m_X8_countStanding_b4 σ p0 p1 p2 δ) (PIp σ δ an) (J 4 [(0, .ref p0), (1, .int p1), (2, .int p2)] [] β σ δ) := by
  have hJ := hI.cor
  unfold m_X8_countStanding_b4
  refine sj_lp (G := fun s : (Int32 × Int32) => J 4 [(0, .ref p0), (1, .int s.1), (2, .int s.2)] [] β σ δ) (fun s => ?_) (p1, p2)
  refine sj (j_iload_n hJ dX8_countStanding_4 rfl 2 rfl) ?_
  refine sj (j_aload_n hJ dX8_countStanding_5 rfl 0 rfl) ?_
  refine sj_gI hJ fl_X8_52 (Or.inl rfl) dX8_countStanding_6 (fun v1 => ?_)
  refine sj_if (j_icmp_ge hJ (tgt := 30) dX8_countStanding_9 (by decide)) (fun _ => ?_) (fun _ => ?_)
  · refine sj (j_iload_n hJ dX8_countStanding_30 rfl 1 rfl) ?_
    exact sj_iret hI dX8_countStanding_31 (fun h => h)
  · refine sj (j_aload_n hJ dX8_countStanding_12 rfl 0 rfl) ?_
    refine sj_gR hJ fl_X8_31 rfl dX8_countStanding_13 (fun v2 => ?_)
    refine sj (j_iload_n hJ dX8_countStanding_16 rfl 2 rfl) ?_
    refine sj_rZ hJ dX8_countStanding_17 (fun v3 => ?_)
    refine sj_if (j_if_eq hJ (tgt := 24) dX8_countStanding_18 (by decide)) (fun _ => ?_) (fun _ => ?_)
    · exact w_X8_countStanding_b24 hI σ p0 s.1 s.2 δ
    · refine sj (j_iinc hJ (L' := [(1, .int (s.1 + (1 : Int32))), (0, .ref p0), (2, .int s.2)]) dX8_countStanding_21 1 rfl (congrArg (fun z => s.1 + z) ic_1) (by decide) rfl) ?_
      refine sj (j_sub hJ (L' := [(0, .ref p0), (1, .int (s.1 + (1 : Int32))), (2, .int s.2)]) [1, 0, 2] rfl) ?_
      exact w_X8_countStanding_b24 hI σ p0 (s.1 + (1 : Int32)) s.2 δ
set_option maxHeartbeats 4000000 in
set_option maxRecDepth 100000 in
theorem w_X8_countStanding {J : JT} {an : Option Value × St × Dy} (hI : Isj cX8_countStanding 3 RX8 "countStanding" 0 0 (some .int) an J) {β : Bu} (σ : St) (p0 : Nat) (δ : Dy) : SJ (m_X8_countStanding σ p0 δ) (PIp σ δ an) (J 0 [(0, .ref p0)] [] β σ δ) := by
  have hJ := hI.cor
  unfold m_X8_countStanding
  refine sj (j_iconst hJ (v := 0) dX8_countStanding_0 ic_0) ?_
  refine sj (j_istore_n hJ (L' := [(1, .int (0 : Int32)), (0, .ref p0)]) dX8_countStanding_1 rfl (by decide) rfl) ?_
  refine sj (j_iconst hJ (v := 0) dX8_countStanding_2 ic_0) ?_
  refine sj (j_istore_n hJ (L' := [(2, .int (0 : Int32)), (1, .int (0 : Int32)), (0, .ref p0)]) dX8_countStanding_3 rfl (by decide) rfl) ?_
  refine sj (j_sub hJ (L' := [(0, .ref p0), (1, .int (0 : Int32)), (2, .int (0 : Int32))]) [2, 1, 0] rfl) ?_
  exact w_X8_countStanding_b4 hI σ p0 (0 : Int32) (0 : Int32) δ
theorem ct_X8_countStanding {σ : St} {p0 : Nat} {δ : Dy} {r : Int32} (h : m_X8_countStanding σ p0 δ = some r) : CT yX8_countStanding cX8_countStanding 3 (some .int) 0 0 0 0 [.ref p0] σ δ ((some (.int r)), σ, δ) := CT_of (by decide +kernel) (Nat.le_of_ble_eq_true rfl) (fun J hI => w_X8_countStanding hI σ p0 δ r h rfl)
def m_X9_restart (σ : St) (p0 : Nat) (δ : Dy) : Option Dy :=
  (pI σ δ 9 p0 2 (0 : Int32)).bind fun d1 =>
  (pI σ d1 9 p0 3 (0 : Int32)).bind fun d2 =>
  (pI σ d2 9 p0 5 (0 : Int32)).bind fun d3 =>
  some d3
set_option maxHeartbeats 4000000 in
set_option maxRecDepth 100000 in
theorem w_X9_restart {J : JT} {an : Option Value × St × Dy} (hI : Isj cX9_restart 1 RX9 "restart" 0 0 none an J) {β : Bu} (σ : St) (p0 : Nat) (δ : Dy) : SJ (m_X9_restart σ p0 δ) (PV σ an) (J 0 [(0, .ref p0)] [] β σ δ) := by
  have hJ := hI.cor
  unfold m_X9_restart
  refine sj (j_aload_n hJ dX9_restart_0 rfl 0 rfl) ?_
  refine sj (j_iconst hJ (v := 0) dX9_restart_1 ic_0) ?_
  refine sj_pI hJ fl_X9_21 rfl dX9_restart_2 (fun d1 => ?_)
  refine sj (j_aload_n hJ dX9_restart_5 rfl 0 rfl) ?_
  refine sj (j_iconst hJ (v := 0) dX9_restart_6 ic_0) ?_
  refine sj_pI hJ fl_X9_25 rfl dX9_restart_7 (fun d2 => ?_)
  refine sj (j_aload_n hJ dX9_restart_10 rfl 0 rfl) ?_
  refine sj (j_iconst hJ (v := 0) dX9_restart_11 ic_0) ?_
  refine sj_pI hJ fl_X9_28 rfl dX9_restart_12 (fun d3 => ?_)
  exact sj_vret hI dX9_restart_15 (fun h => h)
theorem ct_X9_restart {σ : St} {p0 : Nat} {δ : Dy} {r : Dy} (h : m_X9_restart σ p0 δ = some r) : CT yX9_restart cX9_restart 1 none 0 0 0 0 [.ref p0] σ δ (none, σ, r) := CT_of (by decide +kernel) (Nat.le_of_ble_eq_true rfl) (fun J hI => w_X9_restart hI σ p0 δ r h rfl)
def m_X9_choose_b49 (σ : St) (p0 : Nat) (p1 : Int32) (p2 : Int32) (δ : Dy) : Option (Int32 × Dy) :=
  (gR σ 9 p0 1).bind fun v8 =>
  (wI σ δ v8 p2 p1).bind fun d9 =>
  (gR σ 9 p0 0).bind fun v10 =>
  (rI σ d9 v10 p2).bind fun v11 =>
  some (v11, d9)
def m_X9_choose (σ : St) (p0 : Nat) (p1 : Int32) (δ : Dy) : Option (Int32 × Dy) :=
  if p1 < (2 : Int32) then
    some ((0 : Int32), δ)
  else
    (gI σ δ 9 p0 3).bind fun v1 =>
    (gR σ 9 p0 0).bind fun v2 =>
    (aln σ 100 v2).bind fun v3 =>
    if v1 < v3 then
      (gI σ δ 9 p0 3).bind fun v4 =>
      (gI σ δ 9 p0 3).bind fun v5 =>
      (pI σ δ 9 p0 3 (v5 + (1 : Int32))).bind fun d6 =>
      (gI σ d6 9 p0 2).bind fun v7 =>
      if v4 < v7 then
        m_X9_choose_b49 σ p0 p1 v4 d6
      else
        (gR σ 9 p0 0).bind fun v12 =>
        (wI σ d6 v12 v4 (0 : Int32)).bind fun d13 =>
        m_X9_choose_b49 σ p0 p1 v4 d13
    else
      some ((0 : Int32), δ)
set_option maxHeartbeats 4000000 in
set_option maxRecDepth 100000 in
theorem w_X9_choose_b49 {J : JT} {an : Option Value × St × Dy} (hI : Isj cX9_choose 3 RX9 "choose" 0 0 (some .int) an J) {β : Bu} (σ : St) (p0 : Nat) (p1 : Int32) (p2 : Int32) (δ : Dy) : SJ (m_X9_choose_b49 σ p0 p1 p2 δ) (PI σ an) (J 49 [(0, .ref p0), (1, .int p1), (2, .int p2)] [] β σ δ) := by
  have hJ := hI.cor
  unfold m_X9_choose_b49
  refine sj (j_aload_n hJ dX9_choose_49 rfl 0 rfl) ?_
  refine sj_gR hJ fl_X9_15 rfl dX9_choose_50 (fun v8 => ?_)
  refine sj (j_iload_n hJ dX9_choose_53 rfl 2 rfl) ?_
  refine sj (j_iload_n hJ dX9_choose_54 rfl 1 rfl) ?_
  refine sj_wI hJ dX9_choose_55 (fun d9 => ?_)
  refine sj (j_aload_n hJ dX9_choose_56 rfl 0 rfl) ?_
  refine sj_gR hJ fl_X9_9 rfl dX9_choose_57 (fun v10 => ?_)
  refine sj (j_iload_n hJ dX9_choose_60 rfl 2 rfl) ?_
  refine sj_rI hJ dX9_choose_61 (fun v11 => ?_)
  exact sj_iret hI dX9_choose_62 (fun h => h)
set_option maxHeartbeats 4000000 in
set_option maxRecDepth 100000 in
theorem w_X9_choose {J : JT} {an : Option Value × St × Dy} (hI : Isj cX9_choose 3 RX9 "choose" 0 0 (some .int) an J) {β : Bu} (σ : St) (p0 : Nat) (p1 : Int32) (δ : Dy) : SJ (m_X9_choose σ p0 p1 δ) (PI σ an) (J 0 [(0, .ref p0), (1, .int p1)] [] β σ δ) := by
  have hJ := hI.cor
  unfold m_X9_choose
  refine sj (j_iload_n hJ dX9_choose_0 rfl 1 rfl) ?_
  refine sj (j_iconst hJ (v := 2) dX9_choose_1 ic_2) ?_
  refine sj_if (j_icmp_lt hJ (tgt := 17) dX9_choose_2 (by decide)) (fun _ => ?_) (fun _ => ?_)
  · refine sj (j_iconst hJ (v := 0) dX9_choose_17 ic_0) ?_
    exact sj_iret hI dX9_choose_18 (fun h => h)
  · refine sj (j_aload_n hJ dX9_choose_5 rfl 0 rfl) ?_
    refine sj_gI hJ fl_X9_25 (Or.inl rfl) dX9_choose_6 (fun v1 => ?_)
    refine sj (j_aload_n hJ dX9_choose_9 rfl 0 rfl) ?_
    refine sj_gR hJ fl_X9_9 rfl dX9_choose_10 (fun v2 => ?_)
    refine sj_alnI hJ dX9_choose_13 (fun v3 => ?_)
    refine sj_if (j_icmp_lt hJ (tgt := 19) dX9_choose_14 (by decide)) (fun _ => ?_) (fun _ => ?_)
    · refine sj (j_aload_n hJ dX9_choose_19 rfl 0 rfl) ?_
      refine sj_gI hJ fl_X9_25 (Or.inl rfl) dX9_choose_20 (fun v4 => ?_)
      refine sj (j_istore_n hJ (L' := [(2, .int v4), (0, .ref p0), (1, .int p1)]) dX9_choose_23 rfl (by decide) rfl) ?_
      refine sj (j_aload_n hJ dX9_choose_24 rfl 1 rfl) ?_
      refine sj (j_dup hJ dX9_choose_25 rfl) ?_
      refine sj_gI hJ fl_X9_25 (Or.inl rfl) dX9_choose_26 (fun v5 => ?_)
      refine sj (j_iconst hJ (v := 1) dX9_choose_29 ic_1) ?_
      refine sj (j_iadd hJ dX9_choose_30) ?_
      refine sj_pI hJ fl_X9_25 rfl dX9_choose_31 (fun d6 => ?_)
      refine sj (j_iload_n hJ dX9_choose_34 rfl 0 rfl) ?_
      refine sj (j_aload_n hJ dX9_choose_35 rfl 1 rfl) ?_
      refine sj_gI hJ fl_X9_21 (Or.inl rfl) dX9_choose_36 (fun v7 => ?_)
      refine sj_if (j_icmp_lt hJ (tgt := 49) dX9_choose_39 (by decide)) (fun _ => ?_) (fun _ => ?_)
      · refine sj (j_sub hJ (L' := [(0, .ref p0), (1, .int p1), (2, .int v4)]) [1, 2, 0] rfl) ?_
        exact w_X9_choose_b49 hI σ p0 p1 v4 d6
      · refine sj (j_aload_n hJ dX9_choose_42 rfl 1 rfl) ?_
        refine sj_gR hJ fl_X9_9 rfl dX9_choose_43 (fun v12 => ?_)
        refine sj (j_iload_n hJ dX9_choose_46 rfl 0 rfl) ?_
        refine sj (j_iconst hJ (v := 0) dX9_choose_47 ic_0) ?_
        refine sj_wI hJ dX9_choose_48 (fun d13 => ?_)
        refine sj (j_sub hJ (L' := [(0, .ref p0), (1, .int p1), (2, .int v4)]) [1, 2, 0] rfl) ?_
        exact w_X9_choose_b49 hI σ p0 p1 v4 d13
    · refine sj (j_iconst hJ (v := 0) dX9_choose_17 ic_0) ?_
      exact sj_iret hI dX9_choose_18 (fun h => h)
theorem ct_X9_choose {σ : St} {p0 : Nat} {p1 : Int32} {δ : Dy} {r : (Int32 × Dy)} (h : m_X9_choose σ p0 p1 δ = some r) : CT yX9_choose cX9_choose 3 (some .int) 0 0 0 0 [.ref p0, .int p1] σ δ ((some (.int r.1)), σ, r.2) := CT_of (by decide +kernel) (Nat.le_of_ble_eq_true rfl) (fun J hI => w_X9_choose hI σ p0 p1 δ r h rfl)
def m_X9_turn_b7 (σ : St) (p0 : Nat) (p1 : Int32) (δ : Dy) : Option (Int32 × Dy) := lp (fun (s : (Int32)) =>
  if s < 0 then
    some (Sum.inr ((0 : Int32), δ))
  else
    (gR σ 9 p0 0).bind fun v2 =>
    (rI σ δ v2 s).bind fun v3 =>
    (gR σ 9 p0 1).bind fun v4 =>
    (rI σ δ v4 s).bind fun v5 =>
    if v5 ≤ (v3 + (1 : Int32)) then
      some (Sum.inl (s + (-1 : Int32)))
    else
      (gR σ 9 p0 0).bind fun v6 =>
      (rI σ δ v6 s).bind fun v7 =>
      (wI σ δ v6 s (v7 + (1 : Int32))).bind fun d8 =>
      (pI σ d8 9 p0 2 (s + (1 : Int32))).bind fun d9 =>
      (pI σ d9 9 p0 3 (0 : Int32)).bind fun d10 =>
      some (Sum.inr ((1 : Int32), d10))) (p1)
def m_X9_turn (σ : St) (p0 : Nat) (δ : Dy) : Option (Int32 × Dy) :=
  (gI σ δ 9 p0 3).bind fun v1 =>
  m_X9_turn_b7 σ p0 (v1 - (1 : Int32)) δ
set_option maxHeartbeats 4000000 in
set_option maxRecDepth 100000 in
theorem w_X9_turn_b7 {J : JT} {an : Option Value × St × Dy} (hI : Isj cX9_turn 2 RX9 "turn" 0 0 (some .boolean) an J) {β : Bu} (σ : St) (p0 : Nat) (p1 : Int32) (δ : Dy) : SJ (m_X9_turn_b7 σ p0 p1 δ) (PI σ an) (J 7 [(0, .ref p0), (1, .int p1)] [] β σ δ) := by
  have hJ := hI.cor
  unfold m_X9_turn_b7
  refine sj_lp (G := fun s : (Int32) => J 7 [(0, .ref p0), (1, .int s)] [] β σ δ) (fun s => ?_) (p1)
  refine sj (j_iload_n hJ dX9_turn_7 rfl 1 rfl) ?_
  refine sj_if (j_if_lt hJ (tgt := 58) dX9_turn_8 (by decide)) (fun _ => ?_) (fun _ => ?_)
  · refine sj (j_iconst hJ (v := 0) dX9_turn_58 ic_0) ?_
    exact sj_zret hI (by decide) dX9_turn_59 (fun h => h)
  · refine sj (j_aload_n hJ dX9_turn_11 rfl 0 rfl) ?_
    refine sj_gR hJ fl_X9_9 rfl dX9_turn_12 (fun v2 => ?_)
    refine sj (j_iload_n hJ dX9_turn_15 rfl 1 rfl) ?_
    refine sj_rI hJ dX9_turn_16 (fun v3 => ?_)
    refine sj (j_iconst hJ (v := 1) dX9_turn_17 ic_1) ?_
    refine sj (j_iadd hJ dX9_turn_18) ?_
    refine sj (j_aload_n hJ dX9_turn_19 rfl 0 rfl) ?_
    refine sj_gR hJ fl_X9_15 rfl dX9_turn_20 (fun v4 => ?_)
    refine sj (j_iload_n hJ dX9_turn_23 rfl 1 rfl) ?_
    refine sj_rI hJ dX9_turn_24 (fun v5 => ?_)
    refine sj_if (j_icmp_ge hJ (tgt := 52) dX9_turn_25 (by decide)) (fun _ => ?_) (fun _ => ?_)
    · refine sj (j_iinc hJ (L' := [(1, .int (s + (-1 : Int32))), (0, .ref p0)]) dX9_turn_52 1 rfl (congrArg (fun z => s + z) ic_m1) (by decide) rfl) ?_
      refine sj (j_goto hJ (tgt := 7) dX9_turn_55 (by decide)) ?_
      refine sj (j_sub hJ (L' := [(0, .ref p0), (1, .int (s + (-1 : Int32)))]) [1, 0] rfl) ?_
      exact sj_end (fun h => h)
    · refine sj (j_aload_n hJ dX9_turn_28 rfl 0 rfl) ?_
      refine sj_gR hJ fl_X9_9 rfl dX9_turn_29 (fun v6 => ?_)
      refine sj (j_iload_n hJ dX9_turn_32 rfl 1 rfl) ?_
      refine sj (j_dup2 hJ dX9_turn_33 rfl rfl) ?_
      refine sj_rI hJ dX9_turn_34 (fun v7 => ?_)
      refine sj (j_iconst hJ (v := 1) dX9_turn_35 ic_1) ?_
      refine sj (j_iadd hJ dX9_turn_36) ?_
      refine sj_wI hJ dX9_turn_37 (fun d8 => ?_)
      refine sj (j_aload_n hJ dX9_turn_38 rfl 0 rfl) ?_
      refine sj (j_iload_n hJ dX9_turn_39 rfl 1 rfl) ?_
      refine sj (j_iconst hJ (v := 1) dX9_turn_40 ic_1) ?_
      refine sj (j_iadd hJ dX9_turn_41) ?_
      refine sj_pI hJ fl_X9_21 rfl dX9_turn_42 (fun d9 => ?_)
      refine sj (j_aload_n hJ dX9_turn_45 rfl 0 rfl) ?_
      refine sj (j_iconst hJ (v := 0) dX9_turn_46 ic_0) ?_
      refine sj_pI hJ fl_X9_25 rfl dX9_turn_47 (fun d10 => ?_)
      refine sj (j_iconst hJ (v := 1) dX9_turn_50 ic_1) ?_
      exact sj_zret hI (by decide) dX9_turn_51 (fun h => h)
set_option maxHeartbeats 4000000 in
set_option maxRecDepth 100000 in
theorem w_X9_turn {J : JT} {an : Option Value × St × Dy} (hI : Isj cX9_turn 2 RX9 "turn" 0 0 (some .boolean) an J) {β : Bu} (σ : St) (p0 : Nat) (δ : Dy) : SJ (m_X9_turn σ p0 δ) (PI σ an) (J 0 [(0, .ref p0)] [] β σ δ) := by
  have hJ := hI.cor
  unfold m_X9_turn
  refine sj (j_aload_n hJ dX9_turn_0 rfl 0 rfl) ?_
  refine sj_gI hJ fl_X9_25 (Or.inl rfl) dX9_turn_1 (fun v1 => ?_)
  refine sj (j_iconst hJ (v := 1) dX9_turn_4 ic_1) ?_
  refine sj (j_isub hJ dX9_turn_5) ?_
  refine sj (j_istore_n hJ (L' := [(1, .int (v1 - (1 : Int32))), (0, .ref p0)]) dX9_turn_6 rfl (by decide) rfl) ?_
  refine sj (j_sub hJ (L' := [(0, .ref p0), (1, .int (v1 - (1 : Int32)))]) [1, 0] rfl) ?_
  exact w_X9_turn_b7 hI σ p0 (v1 - (1 : Int32)) δ
theorem ct_X9_turn {σ : St} {p0 : Nat} {δ : Dy} {r : (Int32 × Dy)} (h : m_X9_turn σ p0 δ = some r) : CT yX9_turn cX9_turn 2 (some .boolean) 0 0 0 0 [.ref p0] σ δ ((some (.int r.1)), σ, r.2) := CT_of (by decide +kernel) (Nat.le_of_ble_eq_true rfl) (fun J hI => w_X9_turn hI σ p0 δ r h rfl)
def m_J7_rangeCheck_23922 (σ : St) (p0 : Int32) (p1 : Int32) (p2 : Int32) (δ : Dy) : Option Unit :=
  if p1 ≤ p2 then
    if 0 ≤ p1 then
      if p2 ≤ p0 then
        some ()
      else
        none
    else
      none
  else
    none
set_option maxHeartbeats 4000000 in
set_option maxRecDepth 100000 in
theorem w_J7_rangeCheck_23922 {J : JT} {an : Option Value × St × Dy} (hI : Isj cJ7_rangeCheck_23922 3 RJ7 "rangeCheck" 0 0 none an J) {β : Bu} (σ : St) (p0 : Int32) (p1 : Int32) (p2 : Int32) (δ : Dy) : SJ (m_J7_rangeCheck_23922 σ p0 p1 p2 δ) (PVp σ δ an) (J 0 [(0, .int p0), (1, .int p1), (2, .int p2)] [] β σ δ) := by
  have hJ := hI.cor
  unfold m_J7_rangeCheck_23922
  refine sj (j_iload_n hJ dJ7_rangeCheck_23922_0 rfl 1 rfl) ?_
  refine sj (j_iload_n hJ dJ7_rangeCheck_23922_1 rfl 2 rfl) ?_
  refine sj_if (j_icmp_le hJ (tgt := 46) dJ7_rangeCheck_23922_2 (by decide)) (fun _ => ?_) (fun _ => ?_)
  · refine sj (j_iload_n hJ dJ7_rangeCheck_23922_46 rfl 1 rfl) ?_
    refine sj_if (j_if_ge hJ (tgt := 59) dJ7_rangeCheck_23922_47 (by decide)) (fun _ => ?_) (fun _ => ?_)
    · refine sj (j_iload_n hJ dJ7_rangeCheck_23922_59 rfl 2 rfl) ?_
      refine sj (j_iload_n hJ dJ7_rangeCheck_23922_60 rfl 0 rfl) ?_
      refine sj_if (j_icmp_le hJ (tgt := 73) dJ7_rangeCheck_23922_61 (by decide)) (fun _ => ?_) (fun _ => ?_)
      · exact sj_vret hI dJ7_rangeCheck_23922_73 (fun h => h)
      · exact sj_none
    · exact sj_none
  · exact sj_none
theorem ct_J7_rangeCheck_23922 {σ : St} {p0 : Int32} {p1 : Int32} {p2 : Int32} {δ : Dy} {r : Unit} (h : m_J7_rangeCheck_23922 σ p0 p1 p2 δ = some r) : CT yJ7_rangeCheck_23922 cJ7_rangeCheck_23922 3 none 0 0 0 0 [.int p0, .int p1, .int p2] σ δ (none, σ, δ) := CT_of (by decide +kernel) (Nat.le_of_ble_eq_true rfl) (fun J hI => w_J7_rangeCheck_23922 hI σ p0 p1 p2 δ r h rfl)
def m_J7_fill_fda19_b10 (σ : St) (p0 : Nat) (p2 : Int32) (p3 : Int32) (p4 : Int32) (δ : Dy) : Option Dy := lp (fun (s : (Int32 × Dy)) =>
  if p2 ≤ s.1 then
    some (Sum.inr s.2)
  else
    (wI σ s.2 p0 s.1 p3).bind fun d3 =>
    some (Sum.inl ((s.1 + (1 : Int32)), d3))) (p4, δ)
def m_J7_fill_fda19 (σ : St) (p0 : Nat) (p1 : Int32) (p2 : Int32) (p3 : Int32) (δ : Dy) : Option Dy :=
  (aln σ 100 p0).bind fun v1 =>
  (m_J7_rangeCheck_23922 σ v1 p1 p2 δ).bind fun v2 =>
  m_J7_fill_fda19_b10 σ p0 p2 p3 p1 δ
set_option maxHeartbeats 4000000 in
set_option maxRecDepth 100000 in
theorem w_J7_fill_fda19_b10 {J : JT} {an : Option Value × St × Dy} (hI : Isj cJ7_fill_fda19 5 RJ7 "fill" 1 22 none an J) {β : Bu} (σ : St) (p0 : Nat) (p2 : Int32) (p3 : Int32) (p4 : Int32) (δ : Dy) : SJ (m_J7_fill_fda19_b10 σ p0 p2 p3 p4 δ) (PV σ an) (J 10 [(0, .ref p0), (2, .int p2), (3, .int p3), (4, .int p4)] [] β σ δ) := by
  have hJ := hI.cor
  unfold m_J7_fill_fda19_b10
  refine sj_lp (G := fun s : (Int32 × Dy) => J 10 [(0, .ref p0), (2, .int p2), (3, .int p3), (4, .int s.1)] [] β σ s.2) (fun s => ?_) (p4, δ)
  refine sj (j_iload hJ dJ7_fill_fda19_10 3 rfl) ?_
  refine sj (j_iload_n hJ dJ7_fill_fda19_12 rfl 1 rfl) ?_
  refine sj_if (j_icmp_ge hJ (tgt := 27) dJ7_fill_fda19_13 (by decide)) (fun _ => ?_) (fun _ => ?_)
  · exact sj_vret hI dJ7_fill_fda19_27 (fun h => h)
  · refine sj (j_aload_n hJ dJ7_fill_fda19_16 rfl 0 rfl) ?_
    refine sj (j_iload hJ dJ7_fill_fda19_17 3 rfl) ?_
    refine sj (j_iload_n hJ dJ7_fill_fda19_19 rfl 2 rfl) ?_
    refine sj_wI hJ dJ7_fill_fda19_20 (fun d3 => ?_)
    refine sj (j_iinc hJ (L' := [(4, .int (s.1 + (1 : Int32))), (0, .ref p0), (2, .int p2), (3, .int p3)]) dJ7_fill_fda19_21 3 rfl (congrArg (fun z => s.1 + z) ic_1) (by decide) rfl) ?_
    refine sj (j_goto hJ (tgt := 10) dJ7_fill_fda19_24 (by decide)) ?_
    refine sj (j_sub hJ (L' := [(0, .ref p0), (2, .int p2), (3, .int p3), (4, .int (s.1 + (1 : Int32)))]) [1, 2, 3, 0] rfl) ?_
    exact sj_end (fun h => h)
set_option maxHeartbeats 4000000 in
set_option maxRecDepth 100000 in
theorem w_J7_fill_fda19 {J : JT} {an : Option Value × St × Dy} (hI : Isj cJ7_fill_fda19 5 RJ7 "fill" 1 22 none an J) {β : Bu} (σ : St) (p0 : Nat) (p1 : Int32) (p2 : Int32) (p3 : Int32) (δ : Dy) : SJ (m_J7_fill_fda19 σ p0 p1 p2 p3 δ) (PV σ an) (J 0 [(0, .ref p0), (1, .int p1), (2, .int p2), (3, .int p3)] [] β σ δ) := by
  have hJ := hI.cor
  unfold m_J7_fill_fda19
  refine sj (j_aload_n hJ dJ7_fill_fda19_0 rfl 0 rfl) ?_
  refine sj_alnI hJ dJ7_fill_fda19_1 (fun v1 => ?_)
  refine sj (j_iload_n hJ dJ7_fill_fda19_2 rfl 1 rfl) ?_
  refine sj (j_iload_n hJ dJ7_fill_fda19_3 rfl 2 rfl) ?_
  refine sj_callSvp hJ [.int v1, .int p1, .int p2] (st := []) (fr' := 0) (lo' := 0) ml_J7_13 (by decide) (by decide) (Nat.le_of_ble_eq_true rfl) dJ7_fill_fda19_4 rfl (fun _ h9 => ct_J7_rangeCheck_23922 h9) (fun v2 => ?_)
  refine sj (j_iload_n hJ dJ7_fill_fda19_7 rfl 1 rfl) ?_
  refine sj (j_istore hJ (L' := [(4, .int p1), (0, .ref p0), (1, .int p1), (2, .int p2), (3, .int p3)]) dJ7_fill_fda19_8 (by decide) rfl) ?_
  refine sj (j_sub hJ (L' := [(0, .ref p0), (2, .int p2), (3, .int p3), (4, .int p1)]) [1, 3, 4, 0] rfl) ?_
  exact w_J7_fill_fda19_b10 hI σ p0 p2 p3 p1 δ
theorem ct_J7_fill_fda19 {σ : St} {p0 : Nat} {p1 : Int32} {p2 : Int32} {p3 : Int32} {δ : Dy} {r : Dy} (h : m_J7_fill_fda19 σ p0 p1 p2 p3 δ = some r) : CT yJ7_fill_fda19 cJ7_fill_fda19 5 none 1 22 0 0 [.ref p0, .int p1, .int p2, .int p3] σ δ (none, σ, r) := CT_of (by decide +kernel) (Nat.le_of_ble_eq_true rfl) (fun J hI => w_J7_fill_fda19 hI σ p0 p1 p2 p3 δ r h rfl)
def m_X9_recordTokens_b155 (σ : St) (p0 : Nat) (p1 : Nat) (p2 : Int32) (p3 : Int32) (p4 : Int32) (δ : Dy) : Option ((Int32 × Int32 × Dy) ⊕ Dy) :=
  some (Sum.inl (p3, (p4 + (1 : Int32)), δ))
def m_X9_recordTokens_b143 (σ : St) (p0 : Nat) (p1 : Nat) (p2 : Int32) (p3 : Int32) (p4 : Int32) (p5 : Int32) (p6 : Int32) (δ : Dy) : Option ((Int32 × Int32 × Dy) ⊕ Dy) :=
  (gR σ 9 p0 4).bind fun v14 =>
  (wI σ δ v14 p6 p5).bind fun d15 =>
  m_X9_recordTokens_b155 σ p0 p1 p2 (p3 + (1 : Int32)) p4 d15
def m_X9_recordTokens_b101 (σ : St) (p0 : Nat) (p1 : Nat) (p2 : Int32) (p3 : Int32) (p4 : Int32) (p5 : Int32) (p6 : Int32) (δ : Dy) : Option ((Int32 × Int32 × Dy) ⊕ Dy) := lp (fun (s : (Int32 × Dy)) =>
  if s.1 ≤ p2 then
    (m_X9_recordTokens_b143 σ p0 p1 p2 p3 p4 p5 s.1 s.2).bind fun r => some (Sum.inr r)
  else
    (gR σ 9 p0 4).bind fun v16 =>
    (rI σ s.2 v16 (s.1 - (1 : Int32))).bind fun v17 =>
    if v17 ≤ p5 then
      (m_X9_recordTokens_b143 σ p0 p1 p2 p3 p4 p5 s.1 s.2).bind fun r => some (Sum.inr r)
    else
      (gR σ 9 p0 4).bind fun v18 =>
      (gR σ 9 p0 4).bind fun v19 =>
      (rI σ s.2 v19 (s.1 - (1 : Int32))).bind fun v20 =>
      (wI σ s.2 v18 s.1 v20).bind fun d21 =>
      some (Sum.inl ((s.1 + (-1 : Int32)), d21))) (p6, δ)
def m_X9_recordTokens_b51 (σ : St) (p0 : Nat) (p1 : Nat) (p2 : Int32) (p3 : Int32) (p4 : Int32) (q0 : Int32) (q1 : Int32) (δ : Dy) : Option ((Int32 × Int32 × Dy) ⊕ Dy) :=
  (gR σ 8 p1 4).bind fun v8 =>
  (rI σ δ v8 p4).bind fun v9 =>
  (chk σ 8 p1).bind fun _ => (m_X8_form σ p1 v9 δ).bind fun v10 =>
  (gR σ 8 p1 5).bind fun v11 =>
  (rI σ δ v11 p4).bind fun v12 =>
  (chk σ 8 p1).bind fun _ => (m_X8_form σ p1 v12 δ).bind fun v13 =>
  m_X9_recordTokens_b101 σ p0 p1 p2 p3 p4 (((((((q0 + q1) <<< ((10 : Int32) &&& 31)) + v10) + (99 : Int32)) <<< ((10 : Int32) &&& 31)) + v13) + (99 : Int32)) p3 δ
def m_X9_recordTokens_b5 (σ : St) (p0 : Nat) (p1 : Nat) (p2 : Int32) (p3 : Int32) (p4 : Int32) (δ : Dy) : Option Dy := lp (fun (s : (Int32 × Int32 × Dy)) =>
  (gI σ s.2.2 8 p1 10).bind fun v1 =>
  if v1 ≤ s.2.1 then
    some (Sum.inr s.2.2)
  else
    (gR σ 8 p1 7).bind fun v2 =>
    (rZ σ s.2.2 v2 s.2.1).bind fun v3 =>
    if v3 = 0 then
      m_X9_recordTokens_b155 σ p0 p1 p2 s.1 s.2.1 s.2.2
    else
      (gR σ 8 p1 3).bind fun v4 =>
      (rI σ s.2.2 v4 s.2.1).bind fun v5 =>
      (gR σ 8 p1 6).bind fun v6 =>
      (rZ σ s.2.2 v6 s.2.1).bind fun v7 =>
      if v7 = 0 then
        m_X9_recordTokens_b51 σ p0 p1 p2 s.1 s.2.1 ((2 : Int32) * v5) (0 : Int32) s.2.2
      else
        m_X9_recordTokens_b51 σ p0 p1 p2 s.1 s.2.1 ((2 : Int32) * v5) (1 : Int32) s.2.2) (p3, p4, δ)
def m_X9_recordTokens (σ : St) (p0 : Nat) (p1 : Nat) (p2 : Int32) (δ : Dy) : Option Dy :=
  m_X9_recordTokens_b5 σ p0 p1 p2 p2 (0 : Int32) δ
set_option maxHeartbeats 4000000 in
set_option maxRecDepth 100000 in
theorem w_X9_recordTokens_b155 {J : JT} {an : Option Value × St × Dy} (hI : Isj cX9_recordTokens 7 RX9 "recordTokens" 1 23 none an J) {β : Bu} (σ : St) (p0 : Nat) (p1 : Nat) (p2 : Int32) (p3 : Int32) (p4 : Int32) (δ : Dy) : SJ (m_X9_recordTokens_b155 σ p0 p1 p2 p3 p4 δ) (PL (fun s : (Int32 × Int32 × Dy) => J 5 [(0, .ref p0), (1, .ref p1), (2, .int p2), (3, .int s.1), (4, .int s.2.1)] [] β σ s.2.2) (PV σ an)) (J 155 [(0, .ref p0), (1, .ref p1), (2, .int p2), (3, .int p3), (4, .int p4)] [] β σ δ) := by
  have hJ := hI.cor
  unfold m_X9_recordTokens_b155
  refine sj (j_iinc hJ (L' := [(4, .int (p4 + (1 : Int32))), (0, .ref p0), (1, .ref p1), (2, .int p2), (3, .int p3)]) dX9_recordTokens_155 4 rfl (congrArg (fun z => p4 + z) ic_1) (by decide) rfl) ?_
  refine sj (j_goto hJ (tgt := 5) dX9_recordTokens_158 (by decide)) ?_
  refine sj (j_sub hJ (L' := [(0, .ref p0), (1, .ref p1), (2, .int p2), (3, .int p3), (4, .int (p4 + (1 : Int32)))]) [1, 2, 3, 4, 0] rfl) ?_
  exact sj_end (fun h => h)
set_option maxHeartbeats 4000000 in
set_option maxRecDepth 100000 in
theorem w_X9_recordTokens_b143 {J : JT} {an : Option Value × St × Dy} (hI : Isj cX9_recordTokens 7 RX9 "recordTokens" 1 23 none an J) {β : Bu} (σ : St) (p0 : Nat) (p1 : Nat) (p2 : Int32) (p3 : Int32) (p4 : Int32) (p5 : Int32) (p6 : Int32) (δ : Dy) : SJ (m_X9_recordTokens_b143 σ p0 p1 p2 p3 p4 p5 p6 δ) (PL (fun s : (Int32 × Int32 × Dy) => J 5 [(0, .ref p0), (1, .ref p1), (2, .int p2), (3, .int s.1), (4, .int s.2.1)] [] β σ s.2.2) (PV σ an)) (J 143 [(0, .ref p0), (1, .ref p1), (2, .int p2), (3, .int p3), (4, .int p4), (5, .int p5), (6, .int p6)] [] β σ δ) := by
  have hJ := hI.cor
  unfold m_X9_recordTokens_b143
  refine sj (j_aload_n hJ dX9_recordTokens_143 rfl 0 rfl) ?_
  refine sj_gR hJ fl_X9_18 rfl dX9_recordTokens_144 (fun v14 => ?_)
  refine sj (j_iload hJ dX9_recordTokens_147 6 rfl) ?_
  refine sj (j_iload hJ dX9_recordTokens_149 5 rfl) ?_
  refine sj_wI hJ dX9_recordTokens_151 (fun d15 => ?_)
  refine sj (j_iinc hJ (L' := [(3, .int (p3 + (1 : Int32))), (0, .ref p0), (1, .ref p1), (2, .int p2), (4, .int p4), (5, .int p5), (6, .int p6)]) dX9_recordTokens_152 3 rfl (congrArg (fun z => p3 + z) ic_1) (by decide) rfl) ?_
  refine sj (j_sub hJ (L' := [(0, .ref p0), (1, .ref p1), (2, .int p2), (3, .int (p3 + (1 : Int32))), (4, .int p4)]) [1, 2, 3, 0, 4] rfl) ?_
  exact w_X9_recordTokens_b155 hI σ p0 p1 p2 (p3 + (1 : Int32)) p4 d15
set_option maxHeartbeats 4000000 in
set_option maxRecDepth 100000 in
theorem w_X9_recordTokens_b101 {J : JT} {an : Option Value × St × Dy} (hI : Isj cX9_recordTokens 7 RX9 "recordTokens" 1 23 none an J) {β : Bu} (σ : St) (p0 : Nat) (p1 : Nat) (p2 : Int32) (p3 : Int32) (p4 : Int32) (p5 : Int32) (p6 : Int32) (δ : Dy) : SJ (m_X9_recordTokens_b101 σ p0 p1 p2 p3 p4 p5 p6 δ) (PL (fun s : (Int32 × Int32 × Dy) => J 5 [(0, .ref p0), (1, .ref p1), (2, .int p2), (3, .int s.1), (4, .int s.2.1)] [] β σ s.2.2) (PV σ an)) (J 101 [(0, .ref p0), (1, .ref p1), (2, .int p2), (3, .int p3), (4, .int p4), (5, .int p5), (6, .int p6)] [] β σ δ) := by
  have hJ := hI.cor
  unfold m_X9_recordTokens_b101
  refine sj_lp (G := fun s : (Int32 × Dy) => J 101 [(0, .ref p0), (1, .ref p1), (2, .int p2), (3, .int p3), (4, .int p4), (5, .int p5), (6, .int s.1)] [] β σ s.2) (fun s => ?_) (p6, δ)
  refine sj (j_iload hJ dX9_recordTokens_101 6 rfl) ?_
  refine sj (j_iload_n hJ dX9_recordTokens_103 rfl 2 rfl) ?_
  refine sj_if (j_icmp_le hJ (tgt := 143) dX9_recordTokens_104 (by decide)) (fun _ => ?_) (fun _ => ?_)
  · refine sj_map ?_
    exact w_X9_recordTokens_b143 hI σ p0 p1 p2 p3 p4 p5 s.1 s.2
  · refine sj (j_aload_n hJ dX9_recordTokens_107 rfl 0 rfl) ?_
    refine sj_gR hJ fl_X9_18 rfl dX9_recordTokens_108 (fun v16 => ?_)
    refine sj (j_iload hJ dX9_recordTokens_111 6 rfl) ?_
    refine sj (j_iconst hJ (v := 1) dX9_recordTokens_113 ic_1) ?_
    refine sj (j_isub hJ dX9_recordTokens_114) ?_
    refine sj_rI hJ dX9_recordTokens_115 (fun v17 => ?_)
    refine sj (j_iload hJ dX9_recordTokens_116 5 rfl) ?_
    refine sj_if (j_icmp_le hJ (tgt := 143) dX9_recordTokens_118 (by decide)) (fun _ => ?_) (fun _ => ?_)
    · refine sj_map ?_
      exact w_X9_recordTokens_b143 hI σ p0 p1 p2 p3 p4 p5 s.1 s.2
    · refine sj (j_aload_n hJ dX9_recordTokens_121 rfl 0 rfl) ?_
      refine sj_gR hJ fl_X9_18 rfl dX9_recordTokens_122 (fun v18 => ?_)
      refine sj (j_iload hJ dX9_recordTokens_125 6 rfl) ?_
      refine sj (j_aload_n hJ dX9_recordTokens_127 rfl 0 rfl) ?_
      refine sj_gR hJ fl_X9_18 rfl dX9_recordTokens_128 (fun v19 => ?_)
      refine sj (j_iload hJ dX9_recordTokens_131 6 rfl) ?_
      refine sj (j_iconst hJ (v := 1) dX9_recordTokens_133 ic_1) ?_
      refine sj (j_isub hJ dX9_recordTokens_134) ?_
      refine sj_rI hJ dX9_recordTokens_135 (fun v20 => ?_)
      refine sj_wI hJ dX9_recordTokens_136 (fun d21 => ?_)
      refine sj (j_iinc hJ (L' := [(6, .int (s.1 + (-1 : Int32))), (0, .ref p0), (1, .ref p1), (2, .int p2), (3, .int p3), (4, .int p4), (5, .int p5)]) dX9_recordTokens_137 6 rfl (congrArg (fun z => s.1 + z) ic_m1) (by decide) rfl) ?_
      refine sj (j_goto hJ (tgt := 101) dX9_recordTokens_140 (by decide)) ?_
      refine sj (j_sub hJ (L' := [(0, .ref p0), (1, .ref p1), (2, .int p2), (3, .int p3), (4, .int p4), (5, .int p5), (6, .int (s.1 + (-1 : Int32)))]) [1, 2, 3, 4, 5, 6, 0] rfl) ?_
      exact sj_end (fun h => h)
set_option maxHeartbeats 4000000 in
set_option maxRecDepth 100000 in
theorem w_X9_recordTokens_b51 {J : JT} {an : Option Value × St × Dy} (hI : Isj cX9_recordTokens 7 RX9 "recordTokens" 1 23 none an J) {β : Bu} (σ : St) (p0 : Nat) (p1 : Nat) (p2 : Int32) (p3 : Int32) (p4 : Int32) (q0 : Int32) (q1 : Int32) (δ : Dy) : SJ (m_X9_recordTokens_b51 σ p0 p1 p2 p3 p4 q0 q1 δ) (PL (fun s : (Int32 × Int32 × Dy) => J 5 [(0, .ref p0), (1, .ref p1), (2, .int p2), (3, .int s.1), (4, .int s.2.1)] [] β σ s.2.2) (PV σ an)) (J 51 [(0, .ref p0), (1, .ref p1), (2, .int p2), (3, .int p3), (4, .int p4)] [.int q1, .int q0] β σ δ) := by
  have hJ := hI.cor
  unfold m_X9_recordTokens_b51
  refine sj (j_iadd hJ dX9_recordTokens_51) ?_
  refine sj (j_istore hJ (L' := [(5, .int (q0 + q1)), (0, .ref p0), (1, .ref p1), (2, .int p2), (3, .int p3), (4, .int p4)]) dX9_recordTokens_52 (by decide) rfl) ?_
  refine sj (j_iload hJ dX9_recordTokens_54 0 rfl) ?_
  refine sj (j_bipush hJ (v := 10) dX9_recordTokens_56 ib_10) ?_
  refine sj (j_ishl hJ dX9_recordTokens_58) ?_
  refine sj (j_aload_n hJ dX9_recordTokens_59 rfl 2 rfl) ?_
  refine sj (j_aload_n hJ dX9_recordTokens_60 rfl 2 rfl) ?_
  refine sj_gR hJ fl_X9_72 rfl dX9_recordTokens_61 (fun v8 => ?_)
  refine sj (j_iload hJ dX9_recordTokens_64 5 rfl) ?_
  refine sj_rI hJ dX9_recordTokens_66 (fun v9 => ?_)
  refine sj_callVip hJ [.int v9] (st := [.int ((q0 + q1) <<< ((10 : Int32) &&& 31))]) (fr' := 0) (lo' := 0) ml_X9_47 hc_8 (by decide) (by decide) (Nat.le_of_ble_eq_true rfl) dX9_recordTokens_67 rfl (fun _ h9 => ct_X8_form h9) (fun v10 => ?_)
  refine sj (j_iadd hJ dX9_recordTokens_70) ?_
  refine sj (j_bipush hJ (v := 99) dX9_recordTokens_71 ib_99) ?_
  refine sj (j_iadd hJ dX9_recordTokens_73) ?_
  refine sj (j_istore hJ (L' := [(5, .int ((((q0 + q1) <<< ((10 : Int32) &&& 31)) + v10) + (99 : Int32))), (0, .ref p0), (1, .ref p1), (2, .int p2), (3, .int p3), (4, .int p4)]) dX9_recordTokens_74 (by decide) rfl) ?_
  refine sj (j_iload hJ dX9_recordTokens_76 0 rfl) ?_
  refine sj (j_bipush hJ (v := 10) dX9_recordTokens_78 ib_10) ?_
  refine sj (j_ishl hJ dX9_recordTokens_80) ?_
  refine sj (j_aload_n hJ dX9_recordTokens_81 rfl 2 rfl) ?_
  refine sj (j_aload_n hJ dX9_recordTokens_82 rfl 2 rfl) ?_
  refine sj_gR hJ fl_X9_75 rfl dX9_recordTokens_83 (fun v11 => ?_)
  refine sj (j_iload hJ dX9_recordTokens_86 5 rfl) ?_
  refine sj_rI hJ dX9_recordTokens_88 (fun v12 => ?_)
  refine sj_callVip hJ [.int v12] (st := [.int (((((q0 + q1) <<< ((10 : Int32) &&& 31)) + v10) + (99 : Int32)) <<< ((10 : Int32) &&& 31))]) (fr' := 0) (lo' := 0) ml_X9_47 hc_8 (by decide) (by decide) (Nat.le_of_ble_eq_true rfl) dX9_recordTokens_89 rfl (fun _ h9 => ct_X8_form h9) (fun v13 => ?_)
  refine sj (j_iadd hJ dX9_recordTokens_92) ?_
  refine sj (j_bipush hJ (v := 99) dX9_recordTokens_93 ib_99) ?_
  refine sj (j_iadd hJ dX9_recordTokens_95) ?_
  refine sj (j_istore hJ (L' := [(5, .int (((((((q0 + q1) <<< ((10 : Int32) &&& 31)) + v10) + (99 : Int32)) <<< ((10 : Int32) &&& 31)) + v13) + (99 : Int32))), (0, .ref p0), (1, .ref p1), (2, .int p2), (3, .int p3), (4, .int p4)]) dX9_recordTokens_96 (by decide) rfl) ?_
  refine sj (j_iload_n hJ dX9_recordTokens_98 rfl 4 rfl) ?_
  refine sj (j_istore hJ (L' := [(6, .int p3), (5, .int (((((((q0 + q1) <<< ((10 : Int32) &&& 31)) + v10) + (99 : Int32)) <<< ((10 : Int32) &&& 31)) + v13) + (99 : Int32))), (0, .ref p0), (1, .ref p1), (2, .int p2), (3, .int p3), (4, .int p4)]) dX9_recordTokens_99 (by decide) rfl) ?_
  refine sj (j_sub hJ (L' := [(0, .ref p0), (1, .ref p1), (2, .int p2), (3, .int p3), (4, .int p4), (5, .int (((((((q0 + q1) <<< ((10 : Int32) &&& 31)) + v10) + (99 : Int32)) <<< ((10 : Int32) &&& 31)) + v13) + (99 : Int32))), (6, .int p3)]) [2, 3, 4, 5, 6, 1, 0] rfl) ?_
  exact w_X9_recordTokens_b101 hI σ p0 p1 p2 p3 p4 (((((((q0 + q1) <<< ((10 : Int32) &&& 31)) + v10) + (99 : Int32)) <<< ((10 : Int32) &&& 31)) + v13) + (99 : Int32)) p3 δ
set_option maxHeartbeats 4000000 in
set_option maxRecDepth 100000 in
theorem w_X9_recordTokens_b5 {J : JT} {an : Option Value × St × Dy} (hI : Isj cX9_recordTokens 7 RX9 "recordTokens" 1 23 none an J) {β : Bu} (σ : St) (p0 : Nat) (p1 : Nat) (p2 : Int32) (p3 : Int32) (p4 : Int32) (δ : Dy) : SJ (m_X9_recordTokens_b5 σ p0 p1 p2 p3 p4 δ) (PV σ an) (J 5 [(0, .ref p0), (1, .ref p1), (2, .int p2), (3, .int p3), (4, .int p4)] [] β σ δ) := by
  have hJ := hI.cor
  unfold m_X9_recordTokens_b5
  refine sj_lp (G := fun s : (Int32 × Int32 × Dy) => J 5 [(0, .ref p0), (1, .ref p1), (2, .int p2), (3, .int s.1), (4, .int s.2.1)] [] β σ s.2.2) (fun s => ?_) (p3, p4, δ)
  refine sj (j_iload hJ dX9_recordTokens_5 4 rfl) ?_
  refine sj (j_aload_n hJ dX9_recordTokens_7 rfl 1 rfl) ?_
  refine sj_gI hJ fl_X9_59 (Or.inl rfl) dX9_recordTokens_8 (fun v1 => ?_)
  refine sj_if (j_icmp_ge hJ (tgt := 161) dX9_recordTokens_11 (by decide)) (fun _ => ?_) (fun _ => ?_)
  · exact sj_vret hI dX9_recordTokens_161 (fun h => h)
  · refine sj (j_aload_n hJ dX9_recordTokens_14 rfl 1 rfl) ?_
    refine sj_gR hJ fl_X9_62 rfl dX9_recordTokens_15 (fun v2 => ?_)
    refine sj (j_iload hJ dX9_recordTokens_18 4 rfl) ?_
    refine sj_rZ hJ dX9_recordTokens_20 (fun v3 => ?_)
    refine sj_if (j_if_ne hJ (tgt := 27) dX9_recordTokens_21 (by decide)) (fun _ => ?_) (fun _ => ?_)
    · refine sj (j_goto hJ (tgt := 155) dX9_recordTokens_24 (by decide)) ?_
      exact w_X9_recordTokens_b155 hI σ p0 p1 p2 s.1 s.2.1 s.2.2
    · refine sj (j_iconst hJ (v := 2) dX9_recordTokens_27 ic_2) ?_
      refine sj (j_aload_n hJ dX9_recordTokens_28 rfl 1 rfl) ?_
      refine sj_gR hJ fl_X9_66 rfl dX9_recordTokens_29 (fun v4 => ?_)
      refine sj (j_iload hJ dX9_recordTokens_32 4 rfl) ?_
      refine sj_rI hJ dX9_recordTokens_34 (fun v5 => ?_)
      refine sj (j_imul hJ dX9_recordTokens_35) ?_
      refine sj (j_aload_n hJ dX9_recordTokens_36 rfl 1 rfl) ?_
      refine sj_gR hJ fl_X9_69 rfl dX9_recordTokens_37 (fun v6 => ?_)
      refine sj (j_iload hJ dX9_recordTokens_40 4 rfl) ?_
      refine sj_rZ hJ dX9_recordTokens_42 (fun v7 => ?_)
      refine sj_if (j_if_eq hJ (tgt := 50) dX9_recordTokens_43 (by decide)) (fun _ => ?_) (fun _ => ?_)
      · refine sj (j_iconst hJ (v := 0) dX9_recordTokens_50 ic_0) ?_
        exact w_X9_recordTokens_b51 hI σ p0 p1 p2 s.1 s.2.1 ((2 : Int32) * v5) (0 : Int32) s.2.2
      · refine sj (j_iconst hJ (v := 1) dX9_recordTokens_46 ic_1) ?_
        refine sj (j_goto hJ (tgt := 51) dX9_recordTokens_47 (by decide)) ?_
        exact w_X9_recordTokens_b51 hI σ p0 p1 p2 s.1 s.2.1 ((2 : Int32) * v5) (1 : Int32) s.2.2
set_option maxHeartbeats 4000000 in
set_option maxRecDepth 100000 in
theorem w_X9_recordTokens {J : JT} {an : Option Value × St × Dy} (hI : Isj cX9_recordTokens 7 RX9 "recordTokens" 1 23 none an J) {β : Bu} (σ : St) (p0 : Nat) (p1 : Nat) (p2 : Int32) (δ : Dy) : SJ (m_X9_recordTokens σ p0 p1 p2 δ) (PV σ an) (J 0 [(0, .ref p0), (1, .ref p1), (2, .int p2)] [] β σ δ) := by
  have hJ := hI.cor
  unfold m_X9_recordTokens
  refine sj (j_iload_n hJ dX9_recordTokens_0 rfl 2 rfl) ?_
  refine sj (j_istore_n hJ (L' := [(3, .int p2), (0, .ref p0), (1, .ref p1), (2, .int p2)]) dX9_recordTokens_1 rfl (by decide) rfl) ?_
  refine sj (j_iconst hJ (v := 0) dX9_recordTokens_2 ic_0) ?_
  refine sj (j_istore hJ (L' := [(4, .int (0 : Int32)), (3, .int p2), (0, .ref p0), (1, .ref p1), (2, .int p2)]) dX9_recordTokens_3 (by decide) rfl) ?_
  refine sj (j_sub hJ (L' := [(0, .ref p0), (1, .ref p1), (2, .int p2), (3, .int p2), (4, .int (0 : Int32))]) [2, 3, 4, 1, 0] rfl) ?_
  exact w_X9_recordTokens_b5 hI σ p0 p1 p2 p2 (0 : Int32) δ
theorem ct_X9_recordTokens {σ : St} {p0 : Nat} {p1 : Nat} {p2 : Int32} {δ : Dy} {r : Dy} (h : m_X9_recordTokens σ p0 p1 p2 δ = some r) : CT yX9_recordTokens cX9_recordTokens 7 none 1 23 0 0 [.ref p0, .ref p1, .int p2] σ δ (none, σ, r) := CT_of (by decide +kernel) (Nat.le_of_ble_eq_true rfl) (fun J hI => w_X9_recordTokens hI σ p0 p1 p2 δ r h rfl)
def m_X9_isSame_b2 (σ : St) (p0 : Nat) (p1 : Int32) (p2 : Int32) (p3 : Int32) (δ : Dy) : Option Int32 := lp (fun (s : (Int32)) =>
  if (162 : Int32) ≤ s then
    some (Sum.inr (1 : Int32))
  else
    (gR σ 9 p0 4).bind fun v1 =>
    (rI σ δ v1 (p1 + s)).bind fun v2 =>
    (gR σ 9 p0 4).bind fun v3 =>
    (rI σ δ v3 (p2 + s)).bind fun v4 =>
    if v2 = v4 then
      some (Sum.inl (s + (1 : Int32)))
    else
      some (Sum.inr (0 : Int32))) (p3)
def m_X9_isSame (σ : St) (p0 : Nat) (p1 : Int32) (p2 : Int32) (δ : Dy) : Option Int32 :=
  m_X9_isSame_b2 σ p0 p1 p2 (0 : Int32) δ
set_option maxHeartbeats 4000000 in
set_option maxRecDepth 100000 in
theorem w_X9_isSame_b2 {J : JT} {an : Option Value × St × Dy} (hI : Isj cX9_isSame 4 RX9 "isSame" 0 0 (some .boolean) an J) {β : Bu} (σ : St) (p0 : Nat) (p1 : Int32) (p2 : Int32) (p3 : Int32) (δ : Dy) : SJ (m_X9_isSame_b2 σ p0 p1 p2 p3 δ) (PIp σ δ an) (J 2 [(0, .ref p0), (1, .int p1), (2, .int p2), (3, .int p3)] [] β σ δ) := by
  have hJ := hI.cor
  unfold m_X9_isSame_b2
  refine sj_lp (G := fun s : (Int32) => J 2 [(0, .ref p0), (1, .int p1), (2, .int p2), (3, .int s)] [] β σ δ) (fun s => ?_) (p3)
  refine sj (j_iload_n hJ dX9_isSame_2 rfl 3 rfl) ?_
  refine sj (j_sipush hJ (v := 162) dX9_isSame_3 is_162) ?_
  refine sj_if (j_icmp_ge hJ (tgt := 36) dX9_isSame_6 (by decide)) (fun _ => ?_) (fun _ => ?_)
  · refine sj (j_iconst hJ (v := 1) dX9_isSame_36 ic_1) ?_
    exact sj_zret hI (by decide) dX9_isSame_37 (fun h => h)
  · refine sj (j_aload_n hJ dX9_isSame_9 rfl 0 rfl) ?_
    refine sj_gR hJ fl_X9_18 rfl dX9_isSame_10 (fun v1 => ?_)
    refine sj (j_iload_n hJ dX9_isSame_13 rfl 1 rfl) ?_
    refine sj (j_iload_n hJ dX9_isSame_14 rfl 3 rfl) ?_
    refine sj (j_iadd hJ dX9_isSame_15) ?_
    refine sj_rI hJ dX9_isSame_16 (fun v2 => ?_)
    refine sj (j_aload_n hJ dX9_isSame_17 rfl 0 rfl) ?_
    refine sj_gR hJ fl_X9_18 rfl dX9_isSame_18 (fun v3 => ?_)
    refine sj (j_iload_n hJ dX9_isSame_21 rfl 2 rfl) ?_
    refine sj (j_iload_n hJ dX9_isSame_22 rfl 3 rfl) ?_
    refine sj (j_iadd hJ dX9_isSame_23) ?_
    refine sj_rI hJ dX9_isSame_24 (fun v4 => ?_)
    refine sj_if (j_icmp_eq hJ (tgt := 30) dX9_isSame_25 (by decide)) (fun _ => ?_) (fun _ => ?_)
    · refine sj (j_iinc hJ (L' := [(3, .int (s + (1 : Int32))), (0, .ref p0), (1, .int p1), (2, .int p2)]) dX9_isSame_30 3 rfl (congrArg (fun z => s + z) ic_1) (by decide) rfl) ?_
      refine sj (j_goto hJ (tgt := 2) dX9_isSame_33 (by decide)) ?_
      refine sj (j_sub hJ (L' := [(0, .ref p0), (1, .int p1), (2, .int p2), (3, .int (s + (1 : Int32)))]) [1, 2, 3, 0] rfl) ?_
      exact sj_end (fun h => h)
    · refine sj (j_iconst hJ (v := 0) dX9_isSame_28 ic_0) ?_
      exact sj_zret hI (by decide) dX9_isSame_29 (fun h => h)
set_option maxHeartbeats 4000000 in
set_option maxRecDepth 100000 in
theorem w_X9_isSame {J : JT} {an : Option Value × St × Dy} (hI : Isj cX9_isSame 4 RX9 "isSame" 0 0 (some .boolean) an J) {β : Bu} (σ : St) (p0 : Nat) (p1 : Int32) (p2 : Int32) (δ : Dy) : SJ (m_X9_isSame σ p0 p1 p2 δ) (PIp σ δ an) (J 0 [(0, .ref p0), (1, .int p1), (2, .int p2)] [] β σ δ) := by
  have hJ := hI.cor
  unfold m_X9_isSame
  refine sj (j_iconst hJ (v := 0) dX9_isSame_0 ic_0) ?_
  refine sj (j_istore_n hJ (L' := [(3, .int (0 : Int32)), (0, .ref p0), (1, .int p1), (2, .int p2)]) dX9_isSame_1 rfl (by decide) rfl) ?_
  refine sj (j_sub hJ (L' := [(0, .ref p0), (1, .int p1), (2, .int p2), (3, .int (0 : Int32))]) [1, 2, 3, 0] rfl) ?_
  exact w_X9_isSame_b2 hI σ p0 p1 p2 (0 : Int32) δ
theorem ct_X9_isSame {σ : St} {p0 : Nat} {p1 : Int32} {p2 : Int32} {δ : Dy} {r : Int32} (h : m_X9_isSame σ p0 p1 p2 δ = some r) : CT yX9_isSame cX9_isSame 4 (some .boolean) 0 0 0 0 [.ref p0, .int p1, .int p2] σ δ ((some (.int r)), σ, δ) := CT_of (by decide +kernel) (Nat.le_of_ble_eq_true rfl) (fun J hI => w_X9_isSame hI σ p0 p1 p2 δ r h rfl)
def m_X9_record_b137 (σ : St) (p0 : Nat) (p3 : Int32) (p4 : Int32) (δ : Dy) : Option Dy := lp (fun (s : (Int32)) =>
  (gI σ δ 9 p0 5).bind fun v12 =>
  if v12 ≤ s then
    (gI σ δ 9 p0 5).bind fun v13 =>
    (pI σ δ 9 p0 5 (v13 + (1 : Int32))).bind fun d14 =>
    some (Sum.inr d14)
  else
    (chk σ 9 p0).bind fun _ => (m_X9_isSame σ p0 (s * (162 : Int32)) p3 δ).bind fun v15 =>
    if v15 = 0 then
      some (Sum.inl (s + (1 : Int32)))
    else
      some (Sum.inr δ)) (p4)
def m_X9_record_b123 (σ : St) (p0 : Nat) (p1 : Nat) (p3 : Int32) (δ : Dy) : Option Dy :=
  (chk σ 9 p0).bind fun _ => (m_X9_recordTokens σ p0 p1 ((p3 + (2 : Int32)) + (60 : Int32)) δ).bind fun v11 =>
  m_X9_record_b137 σ p0 p3 (0 : Int32) v11
def m_X9_record_b116 (σ : St) (p0 : Nat) (p1 : Nat) (p2 : Int32) (p3 : Int32) (p4 : Int32) (q0 : Nat) (q1 : Int32) (q2 : Int32) (δ : Dy) : Option ((Int32 × Dy) ⊕ Dy) :=
  (wI σ δ q0 q1 q2).bind fun d18 =>
  some (Sum.inl ((p4 + (1 : Int32)), d18))
def m_X9_record_b66 (σ : St) (p0 : Nat) (p1 : Nat) (p2 : Int32) (p3 : Int32) (p4 : Int32) (δ : Dy) : Option Dy := lp (fun (s : (Int32 × Dy)) =>
  if p2 ≤ s.1 then
    (m_X9_record_b123 σ p0 p1 p3 s.2).bind fun r => some (Sum.inr r)
  else
    if (60 : Int32) ≤ s.1 then
      (m_X9_record_b123 σ p0 p1 p3 s.2).bind fun r => some (Sum.inr r)
    else
      (chk σ 8 p1).bind fun _ => (m_X8_form σ p1 ((400 : Int32) + s.1) s.2).bind fun v16 =>
      (gR σ 9 p0 4).bind fun v17 =>
      if (400 : Int32) ≤ v16 then
        m_X9_record_b116 σ p0 p1 p2 p3 s.1 v17 ((p3 + (2 : Int32)) + s.1) (100 : Int32) s.2
      else
        m_X9_record_b116 σ p0 p1 p2 p3 s.1 v17 ((p3 + (2 : Int32)) + s.1) v16 s.2) (p4, δ)
def m_X9_record_b50 (σ : St) (p0 : Nat) (p1 : Nat) (p2 : Int32) (p3 : Int32) (q0 : Nat) (q1 : Int32) (q2 : Int32) (δ : Dy) : Option Dy :=
  (wI σ δ q0 q1 q2).bind fun d7 =>
  (gR σ 9 p0 4).bind fun v8 =>
  (chk σ 8 p1).bind fun _ => (m_X8_countStanding σ p1 d7).bind fun v9 =>
  (wI σ d7 v8 (p3 + (1 : Int32)) v9).bind fun d10 =>
  m_X9_record_b66 σ p0 p1 p2 p3 (0 : Int32) d10
def m_X9_record (σ : St) (p0 : Nat) (p1 : Nat) (p2 : Int32) (δ : Dy) : Option Dy :=
  (gI σ δ 9 p0 5).bind fun v1 =>
  if v1 < (8 : Int32) then
    (gI σ δ 9 p0 5).bind fun v2 =>
    (gR σ 9 p0 4).bind fun v3 =>
    (m_J7_fill_fda19 σ v3 (v2 * (162 : Int32)) ((v2 * (162 : Int32)) + (162 : Int32)) (0 : Int32) δ).bind fun v4 =>
    (gR σ 9 p0 4).bind fun v5 =>
    (gI σ v4 8 p1 12).bind fun v6 =>
    if v6 = 0 then
      m_X9_record_b50 σ p0 p1 p2 (v2 * (162 : Int32)) v5 (v2 * (162 : Int32)) (0 : Int32) v4
    else
      m_X9_record_b50 σ p0 p1 p2 (v2 * (162 : Int32)) v5 (v2 * (162 : Int32)) (1 : Int32) v4
  else
    some δ
set_option maxHeartbeats 4000000 in
set_option maxRecDepth 100000 in
theorem w_X9_record_b137 {J : JT} {an : Option Value × St × Dy} (hI : Isj cX9_record 6 RX9 "record" 2 49 none an J) {β : Bu} (σ : St) (p0 : Nat) (p3 : Int32) (p4 : Int32) (δ : Dy) : SJ (m_X9_record_b137 σ p0 p3 p4 δ) (PV σ an) (J 137 [(0, .ref p0), (3, .int p3), (4, .int p4)] [] β σ δ) := by
  have hJ := hI.cor
  unfold m_X9_record_b137
  refine sj_lp (G := fun s : (Int32) => J 137 [(0, .ref p0), (3, .int p3), (4, .int s)] [] β σ δ) (fun s => ?_) (p4)
  refine sj (j_iload hJ dX9_record_137 2 rfl) ?_
  refine sj (j_aload_n hJ dX9_record_139 rfl 0 rfl) ?_
  refine sj_gI hJ fl_X9_28 (Or.inl rfl) dX9_record_140 (fun v12 => ?_)
  refine sj_if (j_icmp_ge hJ (tgt := 167) dX9_record_143 (by decide)) (fun _ => ?_) (fun _ => ?_)
  · refine sj (j_aload_n hJ dX9_record_167 rfl 0 rfl) ?_
    refine sj (j_dup hJ dX9_record_168 rfl) ?_
    refine sj_gI hJ fl_X9_28 (Or.inl rfl) dX9_record_169 (fun v13 => ?_)
    refine sj (j_iconst hJ (v := 1) dX9_record_172 ic_1) ?_
    refine sj (j_iadd hJ dX9_record_173) ?_
    refine sj_pI hJ fl_X9_28 rfl dX9_record_174 (fun d14 => ?_)
    exact sj_vret hI dX9_record_177 (fun h => h)
  · refine sj (j_aload_n hJ dX9_record_146 rfl 0 rfl) ?_
    refine sj (j_iload hJ dX9_record_147 2 rfl) ?_
    refine sj (j_sipush hJ (v := 162) dX9_record_149 is_162) ?_
    refine sj (j_imul hJ dX9_record_152) ?_
    refine sj (j_iload_n hJ dX9_record_153 rfl 1 rfl) ?_
    refine sj_callVip hJ [.int (s * (162 : Int32)), .int p3] (st := []) (fr' := 0) (lo' := 0) ml_X9_55 hc_9 (by decide) (by decide) (Nat.le_of_ble_eq_true rfl) dX9_record_154 rfl (fun _ h9 => ct_X9_isSame h9) (fun v15 => ?_)
    refine sj_if (j_if_eq hJ (tgt := 161) dX9_record_157 (by decide)) (fun _ => ?_) (fun _ => ?_)
    · refine sj (j_iinc hJ (L' := [(4, .int (s + (1 : Int32))), (0, .ref p0), (3, .int p3)]) dX9_record_161 2 rfl (congrArg (fun z => s + z) ic_1) (by decide) rfl) ?_
      refine sj (j_goto hJ (tgt := 137) dX9_record_164 (by decide)) ?_
      refine sj (j_sub hJ (L' := [(0, .ref p0), (3, .int p3), (4, .int (s + (1 : Int32)))]) [1, 2, 0] rfl) ?_
      exact sj_end (fun h => h)
    · exact sj_vret hI dX9_record_160 (fun h => h)
set_option maxHeartbeats 4000000 in
set_option maxRecDepth 100000 in
theorem w_X9_record_b123 {J : JT} {an : Option Value × St × Dy} (hI : Isj cX9_record 6 RX9 "record" 2 49 none an J) {β : Bu} (σ : St) (p0 : Nat) (p1 : Nat) (p3 : Int32) (δ : Dy) : SJ (m_X9_record_b123 σ p0 p1 p3 δ) (PV σ an) (J 123 [(0, .ref p0), (1, .ref p1), (3, .int p3)] [] β σ δ) := by
  have hJ := hI.cor
  unfold m_X9_record_b123
  refine sj (j_aload_n hJ dX9_record_123 rfl 0 rfl) ?_
  refine sj (j_aload_n hJ dX9_record_124 rfl 1 rfl) ?_
  refine sj (j_iload_n hJ dX9_record_125 rfl 2 rfl) ?_
  refine sj (j_iconst hJ (v := 2) dX9_record_126 ic_2) ?_
  refine sj (j_iadd hJ dX9_record_127) ?_
  refine sj (j_bipush hJ (v := 60) dX9_record_128 ib_60) ?_
  refine sj (j_iadd hJ dX9_record_130) ?_
  refine sj_callVv hJ [.ref p1, .int ((p3 + (2 : Int32)) + (60 : Int32))] (st := []) (fr' := 1) (lo' := 23) ml_X9_51 hc_9 (by decide) (by decide) (Nat.le_of_ble_eq_true rfl) dX9_record_131 rfl (fun _ h9 => ct_X9_recordTokens h9) (fun v11 => ?_)
  refine sj (j_iconst hJ (v := 0) dX9_record_134 ic_0) ?_
  refine sj (j_istore hJ (L' := [(4, .int (0 : Int32)), (0, .ref p0), (1, .ref p1), (3, .int p3)]) dX9_record_135 (by decide) rfl) ?_
  refine sj (j_sub hJ (L' := [(0, .ref p0), (3, .int p3), (4, .int (0 : Int32))]) [1, 3, 0] rfl) ?_
  exact w_X9_record_b137 hI σ p0 p3 (0 : Int32) v11
set_option maxHeartbeats 4000000 in
set_option maxRecDepth 100000 in
theorem w_X9_record_b116 {J : JT} {an : Option Value × St × Dy} (hI : Isj cX9_record 6 RX9 "record" 2 49 none an J) {β : Bu} (σ : St) (p0 : Nat) (p1 : Nat) (p2 : Int32) (p3 : Int32) (p4 : Int32) (q0 : Nat) (q1 : Int32) (q2 : Int32) (δ : Dy) : SJ (m_X9_record_b116 σ p0 p1 p2 p3 p4 q0 q1 q2 δ) (PL (fun s : (Int32 × Dy) => J 66 [(0, .ref p0), (1, .ref p1), (2, .int p2), (3, .int p3), (4, .int s.1)] [] β σ s.2) (PV σ an)) (J 116 [(0, .ref p0), (1, .ref p1), (2, .int p2), (3, .int p3), (4, .int p4)] [.int q2, .int q1, .ref q0] β σ δ) := by
  have hJ := hI.cor
  unfold m_X9_record_b116
  refine sj_wI hJ dX9_record_116 (fun d18 => ?_)
  refine sj (j_iinc hJ (L' := [(4, .int (p4 + (1 : Int32))), (0, .ref p0), (1, .ref p1), (2, .int p2), (3, .int p3)]) dX9_record_117 4 rfl (congrArg (fun z => p4 + z) ic_1) (by decide) rfl) ?_
  refine sj (j_goto hJ (tgt := 66) dX9_record_120 (by decide)) ?_
  refine sj (j_sub hJ (L' := [(0, .ref p0), (1, .ref p1), (2, .int p2), (3, .int p3), (4, .int (p4 + (1 : Int32)))]) [1, 2, 3, 4, 0] rfl) ?_
  exact sj_end (fun h => h)
set_option maxHeartbeats 4000000 in
set_option maxRecDepth 100000 in
theorem w_X9_record_b66 {J : JT} {an : Option Value × St × Dy} (hI : Isj cX9_record 6 RX9 "record" 2 49 none an J) {β : Bu} (σ : St) (p0 : Nat) (p1 : Nat) (p2 : Int32) (p3 : Int32) (p4 : Int32) (δ : Dy) : SJ (m_X9_record_b66 σ p0 p1 p2 p3 p4 δ) (PV σ an) (J 66 [(0, .ref p0), (1, .ref p1), (2, .int p2), (3, .int p3), (4, .int p4)] [] β σ δ) := by
  have hJ := hI.cor
  unfold m_X9_record_b66
  refine sj_lp (G := fun s : (Int32 × Dy) => J 66 [(0, .ref p0), (1, .ref p1), (2, .int p2), (3, .int p3), (4, .int s.1)] [] β σ s.2) (fun s => ?_) (p4, δ)
  refine sj (j_iload hJ dX9_record_66 4 rfl) ?_
  refine sj (j_iload_n hJ dX9_record_68 rfl 2 rfl) ?_
  refine sj_if (j_icmp_ge hJ (tgt := 123) dX9_record_69 (by decide)) (fun _ => ?_) (fun _ => ?_)
  · refine sj (j_sub hJ (L' := [(0, .ref p0), (1, .ref p1), (3, .int p3)]) [0, 1, 3] rfl) ?_
    refine sj_map ?_
    exact w_X9_record_b123 hI σ p0 p1 p3 s.2
  · refine sj (j_iload hJ dX9_record_72 4 rfl) ?_
    refine sj (j_bipush hJ (v := 60) dX9_record_74 ib_60) ?_
    refine sj_if (j_icmp_ge hJ (tgt := 123) dX9_record_76 (by decide)) (fun _ => ?_) (fun _ => ?_)
    · refine sj (j_sub hJ (L' := [(0, .ref p0), (1, .ref p1), (3, .int p3)]) [0, 1, 3] rfl) ?_
      refine sj_map ?_
      exact w_X9_record_b123 hI σ p0 p1 p3 s.2
    · refine sj (j_aload_n hJ dX9_record_79 rfl 1 rfl) ?_
      refine sj (j_sipush hJ (v := 400) dX9_record_80 is_400) ?_
      refine sj (j_iload hJ dX9_record_83 4 rfl) ?_
      refine sj (j_iadd hJ dX9_record_85) ?_
      refine sj_callVip hJ [.int ((400 : Int32) + s.1)] (st := []) (fr' := 0) (lo' := 0) ml_X9_47 hc_8 (by decide) (by decide) (Nat.le_of_ble_eq_true rfl) dX9_record_86 rfl (fun _ h9 => ct_X8_form h9) (fun v16 => ?_)
      refine sj (j_istore hJ (L' := [(5, .int v16), (0, .ref p0), (1, .ref p1), (2, .int p2), (3, .int p3), (4, .int s.1)]) dX9_record_89 (by decide) rfl) ?_
      refine sj (j_aload_n hJ dX9_record_91 rfl 1 rfl) ?_
      refine sj_gR hJ fl_X9_18 rfl dX9_record_92 (fun v17 => ?_)
      refine sj (j_iload_n hJ dX9_record_95 rfl 4 rfl) ?_
      refine sj (j_iconst hJ (v := 2) dX9_record_96 ic_2) ?_
      refine sj (j_iadd hJ dX9_record_97) ?_
      refine sj (j_iload hJ dX9_record_98 5 rfl) ?_
      refine sj (j_iadd hJ dX9_record_100) ?_
      refine sj (j_iload hJ dX9_record_101 0 rfl) ?_
      refine sj (j_sipush hJ (v := 400) dX9_record_103 is_400) ?_
      refine sj_if (j_icmp_ge hJ (tgt := 114) dX9_record_106 (by decide)) (fun _ => ?_) (fun _ => ?_)
      · refine sj (j_bipush hJ (v := 100) dX9_record_114 ib_100) ?_
        refine sj (j_sub hJ (L' := [(0, .ref p0), (1, .ref p1), (2, .int p2), (3, .int p3), (4, .int s.1)]) [1, 2, 3, 4, 5] rfl) ?_
        exact w_X9_record_b116 hI σ p0 p1 p2 p3 s.1 v17 ((p3 + (2 : Int32)) + s.1) (100 : Int32) s.2
      · refine sj (j_iload hJ dX9_record_109 0 rfl) ?_
        refine sj (j_goto hJ (tgt := 116) dX9_record_111 (by decide)) ?_
        refine sj (j_sub hJ (L' := [(0, .ref p0), (1, .ref p1), (2, .int p2), (3, .int p3), (4, .int s.1)]) [1, 2, 3, 4, 5] rfl) ?_
        exact w_X9_record_b116 hI σ p0 p1 p2 p3 s.1 v17 ((p3 + (2 : Int32)) + s.1) v16 s.2
set_option maxHeartbeats 4000000 in
set_option maxRecDepth 100000 in
theorem w_X9_record_b50 {J : JT} {an : Option Value × St × Dy} (hI : Isj cX9_record 6 RX9 "record" 2 49 none an J) {β : Bu} (σ : St) (p0 : Nat) (p1 : Nat) (p2 : Int32) (p3 : Int32) (q0 : Nat) (q1 : Int32) (q2 : Int32) (δ : Dy) : SJ (m_X9_record_b50 σ p0 p1 p2 p3 q0 q1 q2 δ) (PV σ an) (J 50 [(0, .ref p0), (1, .ref p1), (2, .int p2), (3, .int p3)] [.int q2, .int q1, .ref q0] β σ δ) := by
  have hJ := hI.cor
  unfold m_X9_record_b50
  refine sj_wI hJ dX9_record_50 (fun d7 => ?_)
  refine sj (j_aload_n hJ dX9_record_51 rfl 0 rfl) ?_
  refine sj_gR hJ fl_X9_18 rfl dX9_record_52 (fun v8 => ?_)
  refine sj (j_iload_n hJ dX9_record_55 rfl 3 rfl) ?_
  refine sj (j_iconst hJ (v := 1) dX9_record_56 ic_1) ?_
  refine sj (j_iadd hJ dX9_record_57) ?_
  refine sj (j_aload_n hJ dX9_record_58 rfl 1 rfl) ?_
  refine sj_callVip hJ [] (st := [.int (p3 + (1 : Int32)), .ref v8]) (fr' := 0) (lo' := 0) ml_X9_43 hc_8 (by decide) (by decide) (Nat.le_of_ble_eq_true rfl) dX9_record_59 rfl (fun _ h9 => ct_X8_countStanding h9) (fun v9 => ?_)
  refine sj_wI hJ dX9_record_62 (fun d10 => ?_)
  refine sj (j_iconst hJ (v := 0) dX9_record_63 ic_0) ?_
  refine sj (j_istore hJ (L' := [(4, .int (0 : Int32)), (0, .ref p0), (1, .ref p1), (2, .int p2), (3, .int p3)]) dX9_record_64 (by decide) rfl) ?_
  refine sj (j_sub hJ (L' := [(0, .ref p0), (1, .ref p1), (2, .int p2), (3, .int p3), (4, .int (0 : Int32))]) [1, 2, 3, 4, 0] rfl) ?_
  exact w_X9_record_b66 hI σ p0 p1 p2 p3 (0 : Int32) d10
set_option maxHeartbeats 4000000 in
set_option maxRecDepth 100000 in
theorem w_X9_record {J : JT} {an : Option Value × St × Dy} (hI : Isj cX9_record 6 RX9 "record" 2 49 none an J) {β : Bu} (σ : St) (p0 : Nat) (p1 : Nat) (p2 : Int32) (δ : Dy) : SJ (m_X9_record σ p0 p1 p2 δ) (PV σ an) (J 0 [(0, .ref p0), (1, .ref p1), (2, .int p2)] [] β σ δ) := by
  have hJ := hI.cor
  unfold m_X9_record
  refine sj (j_aload_n hJ dX9_record_0 rfl 0 rfl) ?_
  refine sj_gI hJ fl_X9_28 (Or.inl rfl) dX9_record_1 (fun v1 => ?_)
  refine sj (j_bipush hJ (v := 8) dX9_record_4 ib_8) ?_
  refine sj_if (j_icmp_lt hJ (tgt := 10) dX9_record_6 (by decide)) (fun _ => ?_) (fun _ => ?_)
  · refine sj (j_aload_n hJ dX9_record_10 rfl 0 rfl) ?_
    refine sj_gI hJ fl_X9_28 (Or.inl rfl) dX9_record_11 (fun v2 => ?_)
    refine sj (j_sipush hJ (v := 162) dX9_record_14 is_162) ?_
    refine sj (j_imul hJ dX9_record_17) ?_
    refine sj (j_istore_n hJ (L' := [(3, .int (v2 * (162 : Int32))), (0, .ref p0), (1, .ref p1), (2, .int p2)]) dX9_record_18 rfl (by decide) rfl) ?_
    refine sj (j_aload_n hJ dX9_record_19 rfl 1 rfl) ?_
    refine sj_gR hJ fl_X9_18 rfl dX9_record_20 (fun v3 => ?_)
    refine sj (j_iload_n hJ dX9_record_23 rfl 0 rfl) ?_
    refine sj (j_iload_n hJ dX9_record_24 rfl 0 rfl) ?_
    refine sj (j_sipush hJ (v := 162) dX9_record_25 is_162) ?_
    refine sj (j_iadd hJ dX9_record_28) ?_
    refine sj (j_iconst hJ (v := 0) dX9_record_29 ic_0) ?_
    refine sj_callSv hJ [.ref v3, .int (v2 * (162 : Int32)), .int ((v2 * (162 : Int32)) + (162 : Int32)), .int (0 : Int32)] (st := []) (fr' := 1) (lo' := 22) ml_X9_31 (by decide) (by decide) (Nat.le_of_ble_eq_true rfl) dX9_record_30 rfl (fun _ h9 => ct_J7_fill_fda19 h9) (fun v4 => ?_)
    refine sj (j_aload_n hJ dX9_record_33 rfl 1 rfl) ?_
    refine sj_gR hJ fl_X9_18 rfl dX9_record_34 (fun v5 => ?_)
    refine sj (j_iload_n hJ dX9_record_37 rfl 0 rfl) ?_
    refine sj (j_aload_n hJ dX9_record_38 rfl 2 rfl) ?_
    refine sj_gI hJ fl_X9_37 (Or.inr rfl) dX9_record_39 (fun v6 => ?_)
    refine sj_if (j_if_eq hJ (tgt := 49) dX9_record_42 (by decide)) (fun _ => ?_) (fun _ => ?_)
    · refine sj (j_iconst hJ (v := 0) dX9_record_49 ic_0) ?_
      refine sj (j_sub hJ (L' := [(0, .ref p0), (1, .ref p1), (2, .int p2), (3, .int (v2 * (162 : Int32)))]) [1, 2, 3, 0] rfl) ?_
      exact w_X9_record_b50 hI σ p0 p1 p2 (v2 * (162 : Int32)) v5 (v2 * (162 : Int32)) (0 : Int32) v4
    · refine sj (j_iconst hJ (v := 1) dX9_record_45 ic_1) ?_
      refine sj (j_goto hJ (tgt := 50) dX9_record_46 (by decide)) ?_
      refine sj (j_sub hJ (L' := [(0, .ref p0), (1, .ref p1), (2, .int p2), (3, .int (v2 * (162 : Int32)))]) [1, 2, 3, 0] rfl) ?_
      exact w_X9_record_b50 hI σ p0 p1 p2 (v2 * (162 : Int32)) v5 (v2 * (162 : Int32)) (1 : Int32) v4
  · exact sj_vret hI dX9_record_9 (fun h => h)
theorem ct_X9_record {σ : St} {p0 : Nat} {p1 : Nat} {p2 : Int32} {δ : Dy} {r : Dy} (h : m_X9_record σ p0 p1 p2 δ = some r) : CT yX9_record cX9_record 6 none 2 49 0 0 [.ref p0, .ref p1, .int p2] σ δ (none, σ, r) := CT_of (by decide +kernel) (Nat.le_of_ble_eq_true rfl) (fun J hI => w_X9_record hI σ p0 p1 p2 δ r h rfl)
def m_X10_clear (σ : St) (p0 : Nat) (δ : Dy) : Option Dy :=
  (gR σ 10 p0 1).bind fun v1 =>
  (chk σ 8 v1).bind fun _ => (m_X8_clear σ v1 δ).bind fun v2 =>
  (gR σ 10 p0 2).bind fun v3 =>
  (chk σ 6 v3).bind fun _ => (m_X6_clear σ v3 v2).bind fun v4 =>
  (gR σ 10 p0 3).bind fun v5 =>
  (chk σ 2 v5).bind fun _ => (m_X2_clear σ v5 v4).bind fun v6 =>
  (gR σ 10 p0 4).bind fun v7 =>
  (m_J7_fill_53178 σ v7 (-1 : Int32) v6).bind fun v8 =>
  (gR σ 10 p0 5).bind fun v9 =>
  (m_J7_fill_53178 σ v9 (0 : Int32) v8).bind fun v10 =>
  (gR σ 10 p0 6).bind fun v11 =>
  (rA σ 103 v11 (0 : Int32)).bind fun v12 =>
  (chk σ 4 v12).bind fun _ => (m_X4_open σ v12 v10).bind fun v13 =>
  (pI σ v13 10 p0 10 (0 : Int32)).bind fun d14 =>
  (pI σ d14 10 p0 11 (0 : Int32)).bind fun d15 =>
  some d15
set_option maxHeartbeats 4000000 in
set_option maxRecDepth 100000 in
theorem w_X10_clear {J : JT} {an : Option Value × St × Dy} (hI : Isj cX10_clear 1 RX10 "clear" 2 44 none an J) {β : Bu} (σ : St) (p0 : Nat) (δ : Dy) : SJ (m_X10_clear σ p0 δ) (PV σ an) (J 0 [(0, .ref p0)] [] β σ δ) := by
  have hJ := hI.cor
  unfold m_X10_clear
  refine sj (j_aload_n hJ dX10_clear_0 rfl 0 rfl) ?_
  refine sj_gR hJ fl_X10_12 rfl dX10_clear_1 (fun v1 => ?_)
  refine sj_callVv hJ [] (st := []) (fr' := 0) (lo' := 0) ml_X10_65 hc_8 (by decide) (by decide) (Nat.le_of_ble_eq_true rfl) dX10_clear_4 rfl (fun _ h9 => ct_X8_clear h9) (fun v2 => ?_)
  refine sj (j_aload_n hJ dX10_clear_7 rfl 0 rfl) ?_
  refine sj_gR hJ fl_X10_54 rfl dX10_clear_8 (fun v3 => ?_)
  refine sj_callVv hJ [] (st := []) (fr' := 1) (lo' := 24) ml_X10_68 hc_6 (by decide) (by decide) (Nat.le_of_ble_eq_true rfl) dX10_clear_11 rfl (fun _ h9 => ct_X6_clear h9) (fun v4 => ?_)
  refine sj (j_aload_n hJ dX10_clear_14 rfl 0 rfl) ?_
  refine sj_gR hJ fl_X10_21 rfl dX10_clear_15 (fun v5 => ?_)
  refine sj_callVv hJ [] (st := []) (fr' := 1) (lo' := 23) ml_X10_69 hc_2 (by decide) (by decide) (Nat.le_of_ble_eq_true rfl) dX10_clear_18 rfl (fun _ h9 => ct_X2_clear h9) (fun v6 => ?_)
  refine sj (j_aload_n hJ dX10_clear_21 rfl 0 rfl) ?_
  refine sj_gR hJ fl_X10_25 rfl dX10_clear_22 (fun v7 => ?_)
  refine sj (j_iconst hJ (v := -1) dX10_clear_25 ic_m1) ?_
  refine sj_callSv hJ [.ref v7, .int (-1 : Int32)] (st := []) (fr' := 0) (lo' := 0) ml_X10_59 (by decide) (by decide) (Nat.le_of_ble_eq_true rfl) dX10_clear_26 rfl (fun _ h9 => ct_J7_fill_53178 h9) (fun v8 => ?_)
  refine sj (j_aload_n hJ dX10_clear_29 rfl 0 rfl) ?_
  refine sj_gR hJ fl_X10_29 rfl dX10_clear_30 (fun v9 => ?_)
  refine sj (j_iconst hJ (v := 0) dX10_clear_33 ic_0) ?_
  refine sj_callSv hJ [.ref v9, .int (0 : Int32)] (st := []) (fr' := 0) (lo' := 0) ml_X10_59 (by decide) (by decide) (Nat.le_of_ble_eq_true rfl) dX10_clear_34 rfl (fun _ h9 => ct_J7_fill_53178 h9) (fun v10 => ?_)
  refine sj (j_aload_n hJ dX10_clear_37 rfl 0 rfl) ?_
  refine sj_gR hJ fl_X10_34 rfl dX10_clear_38 (fun v11 => ?_)
  refine sj (j_iconst hJ (v := 0) dX10_clear_41 ic_0) ?_
  refine sj_rALv hJ dX10_clear_42 (fun v12 => ?_)
  refine sj_callVv hJ [] (st := []) (fr' := 0) (lo' := 0) ml_X10_70 hc_4 (by decide) (by decide) (Nat.le_of_ble_eq_true rfl) dX10_clear_43 rfl (fun _ h9 => ct_X4_open h9) (fun v13 => ?_)
  refine sj (j_aload_n hJ dX10_clear_46 rfl 0 rfl) ?_
  refine sj (j_iconst hJ (v := 0) dX10_clear_47 ic_0) ?_
  refine sj_pI hJ fl_X10_73 rfl dX10_clear_48 (fun d14 => ?_)
  refine sj (j_aload_n hJ dX10_clear_51 rfl 0 rfl) ?_
  refine sj (j_iconst hJ (v := 0) dX10_clear_52 ic_0) ?_
  refine sj_pI hJ fl_X10_77 rfl dX10_clear_53 (fun d15 => ?_)
  exact sj_vret hI dX10_clear_56 (fun h => h)
theorem ct_X10_clear {σ : St} {p0 : Nat} {δ : Dy} {r : Dy} (h : m_X10_clear σ p0 δ = some r) : CT yX10_clear cX10_clear 1 none 2 44 0 0 [.ref p0] σ δ (none, σ, r) := CT_of (by decide +kernel) (Nat.le_of_ble_eq_true rfl) (fun J hI => w_X10_clear hI σ p0 δ r h rfl)
def m_X10_copyFrom (σ : St) (p0 : Nat) (p1 : Nat) (δ : Dy) : Option Dy :=
  (gR σ 10 p0 1).bind fun v1 =>
  (gR σ 10 p1 1).bind fun v2 =>
  (chk σ 8 v1).bind fun _ => (m_X8_copyFrom σ v1 v2 δ).bind fun v3 =>
  (gR σ 10 p0 2).bind fun v4 =>
  (gR σ 10 p1 2).bind fun v5 =>
  (chk σ 6 v4).bind fun _ => (m_X6_copyFrom σ v4 v5 v3).bind fun v6 =>
  (gR σ 10 p0 3).bind fun v7 =>
  (gR σ 10 p1 3).bind fun v8 =>
  (chk σ 2 v7).bind fun _ => (m_X2_copyFrom σ v7 v8 v6).bind fun v9 =>
  (gR σ 10 p1 4).bind fun v10 =>
  (gR σ 10 p0 4).bind fun v11 =>
  (cpI σ v9 v10 (0 : Int32) v11 (0 : Int32) (6 : Int32)).bind fun d12 =>
  (gR σ 10 p1 5).bind fun v13 =>
  (gR σ 10 p0 5).bind fun v14 =>
  (gR σ 10 p0 5).bind fun v15 =>
  (aln σ 100 v15).bind fun v16 =>
  (cpI σ d12 v13 (0 : Int32) v14 (0 : Int32) v16).bind fun d17 =>
  (gR σ 10 p0 6).bind fun v18 =>
  (rA σ 103 v18 (0 : Int32)).bind fun v19 =>
  (chk σ 4 v19).bind fun _ => (m_X4_open σ v19 d17).bind fun v20 =>
  (gR σ 10 p0 6).bind fun v21 =>
  (rA σ 103 v21 (0 : Int32)).bind fun v22 =>
  (gR σ 4 v22 3).bind fun v23 =>
  (gR σ 10 p1 6).bind fun v24 =>
  (rA σ 103 v24 (0 : Int32)).bind fun v25 =>
  (gR σ 4 v25 3).bind fun v26 =>
  (chk σ 1 v23).bind fun _ => (m_X1_addAll σ v23 v26 v20).bind fun v27 =>
  (gI σ v27 10 p1 10).bind fun v28 =>
  (pI σ v27 10 p0 10 v28).bind fun d29 =>
  (gI σ d29 10 p1 11).bind fun v30 =>
  (pI σ d29 10 p0 11 v30).bind fun d31 =>
  some d31
set_option maxHeartbeats 4000000 in
set_option maxRecDepth 100000 in
theorem w_X10_copyFrom {J : JT} {an : Option Value × St × Dy} (hI : Isj cX10_copyFrom 2 RX10 "copyFrom" 2 81 none an J) {β : Bu} (σ : St) (p0 : Nat) (p1 : Nat) (δ : Dy) : SJ (m_X10_copyFrom σ p0 p1 δ) (PV σ an) (J 0 [(0, .ref p0), (1, .ref p1)] [] β σ δ) := by
  have hJ := hI.cor
  unfold m_X10_copyFrom
  refine sj (j_aload_n hJ dX10_copyFrom_0 rfl 0 rfl) ?_
  refine sj_gR hJ fl_X10_12 rfl dX10_copyFrom_1 (fun v1 => ?_)
  refine sj (j_aload_n hJ dX10_copyFrom_4 rfl 1 rfl) ?_
  refine sj_gR hJ fl_X10_12 rfl dX10_copyFrom_5 (fun v2 => ?_)
  refine sj_callVv hJ [.ref v2] (st := []) (fr' := 1) (lo' := 59) ml_X10_80 hc_8 (by decide) (by decide) (Nat.le_of_ble_eq_true rfl) dX10_copyFrom_8 rfl (fun _ h9 => ct_X8_copyFrom h9) (fun v3 => ?_)
  refine sj (j_aload_n hJ dX10_copyFrom_11 rfl 0 rfl) ?_
  refine sj_gR hJ fl_X10_54 rfl dX10_copyFrom_12 (fun v4 => ?_)
  refine sj (j_aload_n hJ dX10_copyFrom_15 rfl 1 rfl) ?_
  refine sj_gR hJ fl_X10_54 rfl dX10_copyFrom_16 (fun v5 => ?_)
  refine sj_callVv hJ [.ref v5] (st := []) (fr' := 1) (lo' := 59) ml_X10_84 hc_6 (by decide) (by decide) (Nat.le_of_ble_eq_true rfl) dX10_copyFrom_19 rfl (fun _ h9 => ct_X6_copyFrom h9) (fun v6 => ?_)
  refine sj (j_aload_n hJ dX10_copyFrom_22 rfl 0 rfl) ?_
  refine sj_gR hJ fl_X10_21 rfl dX10_copyFrom_23 (fun v7 => ?_)
  refine sj (j_aload_n hJ dX10_copyFrom_26 rfl 1 rfl) ?_
  refine sj_gR hJ fl_X10_21 rfl dX10_copyFrom_27 (fun v8 => ?_)
  refine sj_callVv hJ [.ref v8] (st := []) (fr' := 1) (lo' := 59) ml_X10_87 hc_2 (by decide) (by decide) (Nat.le_of_ble_eq_true rfl) dX10_copyFrom_30 rfl (fun _ h9 => ct_X2_copyFrom h9) (fun v9 => ?_)
  refine sj (j_aload_n hJ dX10_copyFrom_33 rfl 1 rfl) ?_
  refine sj_gR hJ fl_X10_25 rfl dX10_copyFrom_34 (fun v10 => ?_)
  refine sj (j_iconst hJ (v := 0) dX10_copyFrom_37 ic_0) ?_
  refine sj (j_aload_n hJ dX10_copyFrom_38 rfl 0 rfl) ?_
  refine sj_gR hJ fl_X10_25 rfl dX10_copyFrom_39 (fun v11 => ?_)
  refine sj (j_iconst hJ (v := 0) dX10_copyFrom_42 ic_0) ?_
  refine sj (j_bipush hJ (v := 6) dX10_copyFrom_43 ib_6) ?_
  refine sj_cpI hJ mm_X10_90 (by decide) (by decide) (Nat.le_of_ble_eq_true rfl) dX10_copyFrom_45 (fun d12 => ?_)
  refine sj (j_aload_n hJ dX10_copyFrom_48 rfl 1 rfl) ?_
  refine sj_gR hJ fl_X10_29 rfl dX10_copyFrom_49 (fun v13 => ?_)
  refine sj (j_iconst hJ (v := 0) dX10_copyFrom_52 ic_0) ?_
  refine sj (j_aload_n hJ dX10_copyFrom_53 rfl 0 rfl) ?_
  refine sj_gR hJ fl_X10_29 rfl dX10_copyFrom_54 (fun v14 => ?_)
  refine sj (j_iconst hJ (v := 0) dX10_copyFrom_57 ic_0) ?_
  refine sj (j_aload_n hJ dX10_copyFrom_58 rfl 0 rfl) ?_
  refine sj_gR hJ fl_X10_29 rfl dX10_copyFrom_59 (fun v15 => ?_)
  refine sj_alnI hJ dX10_copyFrom_62 (fun v16 => ?_)
  refine sj_cpI hJ mm_X10_90 (by decide) (by decide) (Nat.le_of_ble_eq_true rfl) dX10_copyFrom_63 (fun d17 => ?_)
  refine sj (j_aload_n hJ dX10_copyFrom_66 rfl 0 rfl) ?_
  refine sj_gR hJ fl_X10_34 rfl dX10_copyFrom_67 (fun v18 => ?_)
  refine sj (j_iconst hJ (v := 0) dX10_copyFrom_70 ic_0) ?_
  refine sj_rALv hJ dX10_copyFrom_71 (fun v19 => ?_)
  refine sj_callVv hJ [] (st := []) (fr' := 0) (lo' := 0) ml_X10_70 hc_4 (by decide) (by decide) (Nat.le_of_ble_eq_true rfl) dX10_copyFrom_72 rfl (fun _ h9 => ct_X4_open h9) (fun v20 => ?_)
  refine sj (j_aload_n hJ dX10_copyFrom_75 rfl 0 rfl) ?_
  refine sj_gR hJ fl_X10_34 rfl dX10_copyFrom_76 (fun v21 => ?_)
  refine sj (j_iconst hJ (v := 0) dX10_copyFrom_79 ic_0) ?_
  refine sj_rALv hJ dX10_copyFrom_80 (fun v22 => ?_)
  refine sj_gR hJ fl_X10_96 rfl dX10_copyFrom_81 (fun v23 => ?_)
  refine sj (j_aload_n hJ dX10_copyFrom_84 rfl 1 rfl) ?_
  refine sj_gR hJ fl_X10_34 rfl dX10_copyFrom_85 (fun v24 => ?_)
  refine sj (j_iconst hJ (v := 0) dX10_copyFrom_88 ic_0) ?_
  refine sj_rALv hJ dX10_copyFrom_89 (fun v25 => ?_)
  refine sj_gR hJ fl_X10_96 rfl dX10_copyFrom_90 (fun v26 => ?_)
  refine sj_callVv hJ [.ref v26] (st := []) (fr' := 1) (lo' := 59) ml_X10_100 hc_1 (by decide) (by decide) (Nat.le_of_ble_eq_true rfl) dX10_copyFrom_93 rfl (fun _ h9 => ct_X1_addAll h9) (fun v27 => ?_)
  refine sj (j_aload_n hJ dX10_copyFrom_96 rfl 0 rfl) ?_
  refine sj (j_aload_n hJ dX10_copyFrom_97 rfl 1 rfl) ?_
  refine sj_gI hJ fl_X10_73 (Or.inl rfl) dX10_copyFrom_98 (fun v28 => ?_)
  refine sj_pI hJ fl_X10_73 rfl dX10_copyFrom_101 (fun d29 => ?_)
  refine sj (j_aload_n hJ dX10_copyFrom_104 rfl 0 rfl) ?_
  refine sj (j_aload_n hJ dX10_copyFrom_105 rfl 1 rfl) ?_
  refine sj_gI hJ fl_X10_77 (Or.inl rfl) dX10_copyFrom_106 (fun v30 => ?_)
  refine sj_pI hJ fl_X10_77 rfl dX10_copyFrom_109 (fun d31 => ?_)
  exact sj_vret hI dX10_copyFrom_112 (fun h => h)
theorem ct_X10_copyFrom {σ : St} {p0 : Nat} {p1 : Nat} {δ : Dy} {r : Dy} (h : m_X10_copyFrom σ p0 p1 δ = some r) : CT yX10_copyFrom cX10_copyFrom 2 none 2 81 0 0 [.ref p0, .ref p1] σ δ (none, σ, r) := CT_of (by decide +kernel) (Nat.le_of_ble_eq_true rfl) (fun J hI => w_X10_copyFrom hI σ p0 p1 δ r h rfl)
def m_X10_forNext (σ : St) (p0 : Nat) (δ : Dy) : Option Int32 :=
  (gR σ 10 p0 6).bind fun v1 =>
  (rA σ 103 v1 (0 : Int32)).bind fun v2 =>
  (gR σ 4 v2 3).bind fun v3 =>
  (gI σ δ 1 v3 4).bind fun v4 =>
  some v4
set_option maxHeartbeats 4000000 in
set_option maxRecDepth 100000 in
theorem w_X10_forNext {J : JT} {an : Option Value × St × Dy} (hI : Isj cX10_forNext 1 RX10 "forNext" 0 0 (some .int) an J) {β : Bu} (σ : St) (p0 : Nat) (δ : Dy) : SJ (m_X10_forNext σ p0 δ) (PIp σ δ an) (J 0 [(0, .ref p0)] [] β σ δ) := by
  have hJ := hI.cor
  unfold m_X10_forNext
  refine sj (j_aload_n hJ dX10_forNext_0 rfl 0 rfl) ?_
  refine sj_gR hJ fl_X10_34 rfl dX10_forNext_1 (fun v1 => ?_)
  refine sj (j_iconst hJ (v := 0) dX10_forNext_4 ic_0) ?_
  refine sj_rALv hJ dX10_forNext_5 (fun v2 => ?_)
  refine sj_gR hJ fl_X10_96 rfl dX10_forNext_6 (fun v3 => ?_)
  refine sj_gI hJ fl_X10_106 (Or.inl rfl) dX10_forNext_9 (fun v4 => ?_)
  exact sj_iret hI dX10_forNext_12 (fun h => h)
theorem ct_X10_forNext {σ : St} {p0 : Nat} {δ : Dy} {r : Int32} (h : m_X10_forNext σ p0 δ = some r) : CT yX10_forNext cX10_forNext 1 (some .int) 0 0 0 0 [.ref p0] σ δ ((some (.int r)), σ, δ) := CT_of (by decide +kernel) (Nat.le_of_ble_eq_true rfl) (fun J hI => w_X10_forNext hI σ p0 δ r h rfl)
def m_X10_admit (σ : St) (p0 : Nat) (p1 : Int32) (p2 : Int32) (p3 : Int32) (δ : Dy) : Option Dy :=
  (gR σ 10 p0 7).bind fun v1 =>
  (chk σ 0 v1).bind fun _ => (m_X0_take σ v1 p1 p2 p3 δ).bind fun v2 =>
  (gR σ 10 p0 7).bind fun v3 =>
  (pL σ v2 0 v3 2 (0 : Int64)).bind fun d4 =>
  (gR σ 10 p0 7).bind fun v5 =>
  (pL σ d4 0 v5 3 (0 : Int64)).bind fun d6 =>
  (gR σ 10 p0 6).bind fun v7 =>
  (rA σ 103 v7 (0 : Int32)).bind fun v8 =>
  (gR σ 4 v8 3).bind fun v9 =>
  (gR σ 10 p0 7).bind fun v10 =>
  (chk σ 1 v9).bind fun _ => (m_X1_add σ v9 p1 v10 d6).bind fun v11 =>
  some v11
set_option maxHeartbeats 4000000 in
set_option maxRecDepth 100000 in
theorem w_X10_admit {J : JT} {an : Option Value × St × Dy} (hI : Isj cX10_admit 4 RX10 "\x61dmit" 2 81 none an J) {β : Bu} (σ : St) (p0 : Nat) (p1 : Int32) (p2 : Int32) (p3 : Int32) (δ : Dy) : SJ (m_X10_admit σ p0 p1 p2 p3 δ) (PV σ an) (J 0 [(0, .ref p0), (1, .int p1), (2, .int p2), (3, .int p3)] [] β σ δ) := by
  have hJ := hI.cor
  unfold m_X10_admit
  refine sj (j_aload_n hJ dX10_admit_0 rfl 0 rfl) ?_
  refine sj_gR hJ fl_X10_41 rfl dX10_admit_1 (fun v1 => ?_)
  refine sj (j_iload_n hJ dX10_admit_4 rfl 1 rfl) ?_
  refine sj (j_iload_n hJ dX10_admit_5 rfl 2 rfl) ?_
  refine sj (j_iload_n hJ dX10_admit_6 rfl 3 rfl) ?_
  refine sj_callVv hJ [.int p1, .int p2, .int p3] (st := []) (fr' := 0) (lo' := 0) ml_X10_109 hc_0 (by decide) (by decide) (Nat.le_of_ble_eq_true rfl) dX10_admit_7 rfl (fun _ h9 => ct_X0_take h9) (fun v2 => ?_)
  refine sj (j_aload_n hJ dX10_admit_10 rfl 0 rfl) ?_
  refine sj_gR hJ fl_X10_41 rfl dX10_admit_11 (fun v3 => ?_)
  refine sj (j_lconst hJ (v := 0) dX10_admit_14 rfl) ?_
  refine sj_pL hJ fl_X10_113 rfl dX10_admit_15 (fun d4 => ?_)
  refine sj (j_aload_n hJ dX10_admit_18 rfl 0 rfl) ?_
  refine sj_gR hJ fl_X10_41 rfl dX10_admit_19 (fun v5 => ?_)
  refine sj (j_lconst hJ (v := 0) dX10_admit_22 rfl) ?_
  refine sj_pL hJ fl_X10_117 rfl dX10_admit_23 (fun d6 => ?_)
  refine sj (j_aload_n hJ dX10_admit_26 rfl 0 rfl) ?_
  refine sj_gR hJ fl_X10_34 rfl dX10_admit_27 (fun v7 => ?_)
  refine sj (j_iconst hJ (v := 0) dX10_admit_30 ic_0) ?_
  refine sj_rALv hJ dX10_admit_31 (fun v8 => ?_)
  refine sj_gR hJ fl_X10_96 rfl dX10_admit_32 (fun v9 => ?_)
  refine sj (j_iload_n hJ dX10_admit_35 rfl 1 rfl) ?_
  refine sj (j_aload_n hJ dX10_admit_36 rfl 0 rfl) ?_
  refine sj_gR hJ fl_X10_41 rfl dX10_admit_37 (fun v10 => ?_)
  refine sj_callVv hJ [.int p1, .ref v10] (st := []) (fr' := 1) (lo' := 59) ml_X10_120 hc_1 (by decide) (by decide) (Nat.le_of_ble_eq_true rfl) dX10_admit_40 rfl (fun _ h9 => ct_X1_add h9) (fun v11 => ?_)
  exact sj_vret hI dX10_admit_43 (fun h => h)
theorem ct_X10_admit {σ : St} {p0 : Nat} {p1 : Int32} {p2 : Int32} {p3 : Int32} {δ : Dy} {r : Dy} (h : m_X10_admit σ p0 p1 p2 p3 δ = some r) : CT yX10_admit cX10_admit 4 none 2 81 0 0 [.ref p0, .int p1, .int p2, .int p3] σ δ (none, σ, r) := CT_of (by decide +kernel) (Nat.le_of_ble_eq_true rfl) (fun J hI => w_X10_admit hI σ p0 p1 p2 p3 δ r h rfl)
def m_X10_giveUp (σ : St) (p0 : Nat) (p1 : Nat) (δ : Dy) : Option Dy :=
  (gR σ 10 p0 2).bind fun v1 =>
  (chk σ 6 v1).bind fun _ => (m_X6_stop σ v1 δ).bind fun v2 =>
  (gI σ v2 10 p0 8).bind fun v3 =>
  if v3 = 0 then
    (pZ σ v2 10 p0 9 (1 : Int32)).bind fun d4 =>
    some d4
  else
    (gR σ 10 p0 1).bind fun v5 =>
    (chk σ 8 v5).bind fun _ => (m_X8_restore σ v5 p1 v2).bind fun v6 =>
    (gR σ 10 p0 2).bind fun v7 =>
    (gI σ v6 4 p1 10).bind fun v8 =>
    (chk σ 6 v7).bind fun _ => (m_X6_forget σ v7 v8 v6).bind fun v9 =>
    (gI σ v9 10 p0 8).bind fun v10 =>
    (pI σ v9 10 p0 8 (v10 - (1 : Int32))).bind fun d11 =>
    (gR σ 4 p1 4).bind fun v12 =>
    (gR σ 10 p0 7).bind fun v13 =>
    (chk σ 1 v12).bind fun _ => (m_X1_read σ v12 (0 : Int32) v13 d11).bind fun v14 =>
    (gR σ 10 p0 6).bind fun v15 =>
    (gI σ v14 10 p0 8).bind fun v16 =>
    (rA σ 103 v15 v16).bind fun v17 =>
    (gR σ 4 v17 0).bind fun v18 =>
    (gR σ 10 p0 7).bind fun v19 =>
    (gI σ v14 0 v19 1).bind fun v20 =>
    (gR σ 10 p0 7).bind fun v21 =>
    (chk σ 1 v18).bind fun _ => (m_X1_add σ v18 v20 v21 v14).bind fun v22 =>
    some v22
set_option maxHeartbeats 4000000 in
set_option maxRecDepth 100000 in
theorem w_X10_giveUp {J : JT} {an : Option Value × St × Dy} (hI : Isj cX10_giveUp 2 RX10 "giveUp" 2 81 none an J) {β : Bu} (σ : St) (p0 : Nat) (p1 : Nat) (δ : Dy) : SJ (m_X10_giveUp σ p0 p1 δ) (PV σ an) (J 0 [(0, .ref p0), (1, .ref p1)] [] β σ δ) := by
  have hJ := hI.cor
  unfold m_X10_giveUp
  refine sj (j_aload_n hJ dX10_giveUp_0 rfl 0 rfl) ?_
  refine sj_gR hJ fl_X10_54 rfl dX10_giveUp_1 (fun v1 => ?_)
  refine sj_callVv hJ [] (st := []) (fr' := 0) (lo' := 0) ml_X10_181 hc_6 (by decide) (by decide) (Nat.le_of_ble_eq_true rfl) dX10_giveUp_4 rfl (fun _ h9 => ct_X6_stop h9) (fun v2 => ?_)
  refine sj (j_aload_n hJ dX10_giveUp_7 rfl 0 rfl) ?_
  refine sj_gI hJ fl_X10_139 (Or.inl rfl) dX10_giveUp_8 (fun v3 => ?_)
  refine sj_if (j_if_ne hJ (tgt := 20) dX10_giveUp_11 (by decide)) (fun _ => ?_) (fun _ => ?_)
  · refine sj (j_aload_n hJ dX10_giveUp_14 rfl 0 rfl) ?_
    refine sj (j_iconst hJ (v := 1) dX10_giveUp_15 ic_1) ?_
    refine sj_pZ hJ fl_X10_142 rfl dX10_giveUp_16 (fun d4 => ?_)
    exact sj_vret hI dX10_giveUp_19 (fun h => h)
  · refine sj (j_aload_n hJ dX10_giveUp_20 rfl 0 rfl) ?_
    refine sj_gR hJ fl_X10_12 rfl dX10_giveUp_21 (fun v5 => ?_)
    refine sj (j_aload_n hJ dX10_giveUp_24 rfl 1 rfl) ?_
    refine sj_callVv hJ [.ref p1] (st := []) (fr' := 0) (lo' := 0) ml_X10_184 hc_8 (by decide) (by decide) (Nat.le_of_ble_eq_true rfl) dX10_giveUp_25 rfl (fun _ h9 => ct_X8_restore h9) (fun v6 => ?_)
    refine sj (j_aload_n hJ dX10_giveUp_28 rfl 0 rfl) ?_
    refine sj_gR hJ fl_X10_54 rfl dX10_giveUp_29 (fun v7 => ?_)
    refine sj (j_aload_n hJ dX10_giveUp_32 rfl 1 rfl) ?_
    refine sj_gI hJ fl_X10_187 (Or.inl rfl) dX10_giveUp_33 (fun v8 => ?_)
    refine sj_callVv hJ [.int v8] (st := []) (fr' := 1) (lo' := 22) ml_X10_190 hc_6 (by decide) (by decide) (Nat.le_of_ble_eq_true rfl) dX10_giveUp_36 rfl (fun _ h9 => ct_X6_forget h9) (fun v9 => ?_)
    refine sj (j_aload_n hJ dX10_giveUp_39 rfl 0 rfl) ?_
    refine sj (j_dup hJ dX10_giveUp_40 rfl) ?_
    refine sj_gI hJ fl_X10_139 (Or.inl rfl) dX10_giveUp_41 (fun v10 => ?_)
    refine sj (j_iconst hJ (v := 1) dX10_giveUp_44 ic_1) ?_
    refine sj (j_isub hJ dX10_giveUp_45) ?_
    refine sj_pI hJ fl_X10_139 rfl dX10_giveUp_46 (fun d11 => ?_)
    refine sj (j_aload_n hJ dX10_giveUp_49 rfl 1 rfl) ?_
    refine sj_gR hJ fl_X10_194 rfl dX10_giveUp_50 (fun v12 => ?_)
    refine sj (j_iconst hJ (v := 0) dX10_giveUp_53 ic_0) ?_
    refine sj (j_aload_n hJ dX10_giveUp_54 rfl 0 rfl) ?_
    refine sj_gR hJ fl_X10_41 rfl dX10_giveUp_55 (fun v13 => ?_)
    refine sj_callVv hJ [.int (0 : Int32), .ref v13] (st := []) (fr' := 1) (lo' := 59) ml_X10_197 hc_1 (by decide) (by decide) (Nat.le_of_ble_eq_true rfl) dX10_giveUp_58 rfl (fun _ h9 => ct_X1_read h9) (fun v14 => ?_)
    refine sj (j_aload_n hJ dX10_giveUp_61 rfl 0 rfl) ?_
    refine sj_gR hJ fl_X10_34 rfl dX10_giveUp_62 (fun v15 => ?_)
    refine sj (j_aload_n hJ dX10_giveUp_65 rfl 0 rfl) ?_
    refine sj_gI hJ fl_X10_139 (Or.inl rfl) dX10_giveUp_66 (fun v16 => ?_)
    refine sj_rALv hJ dX10_giveUp_69 (fun v17 => ?_)
    refine sj_gR hJ fl_X10_124 rfl dX10_giveUp_70 (fun v18 => ?_)
    refine sj (j_aload_n hJ dX10_giveUp_73 rfl 0 rfl) ?_
    refine sj_gR hJ fl_X10_41 rfl dX10_giveUp_74 (fun v19 => ?_)
    refine sj_gI hJ fl_X10_200 (Or.inl rfl) dX10_giveUp_77 (fun v20 => ?_)
    refine sj (j_aload_n hJ dX10_giveUp_80 rfl 0 rfl) ?_
    refine sj_gR hJ fl_X10_41 rfl dX10_giveUp_81 (fun v21 => ?_)
    refine sj_callVv hJ [.int v20, .ref v21] (st := []) (fr' := 1) (lo' := 59) ml_X10_120 hc_1 (by decide) (by decide) (Nat.le_of_ble_eq_true rfl) dX10_giveUp_84 rfl (fun _ h9 => ct_X1_add h9) (fun v22 => ?_)
    exact sj_vret hI dX10_giveUp_87 (fun h => h)
theorem ct_X10_giveUp {σ : St} {p0 : Nat} {p1 : Nat} {δ : Dy} {r : Dy} (h : m_X10_giveUp σ p0 p1 δ = some r) : CT yX10_giveUp cX10_giveUp 2 none 2 81 0 0 [.ref p0, .ref p1] σ δ (none, σ, r) := CT_of (by decide +kernel) (Nat.le_of_ble_eq_true rfl) (fun J hI => w_X10_giveUp hI σ p0 p1 δ r h rfl)
def m_X10_dare (σ : St) (p0 : Nat) (p1 : Nat) (p2 : Int32) (p3 : Int32) (δ : Dy) : Option Dy :=
  (gI σ δ 10 p0 8).bind fun v1 =>
  if v1 < (3 : Int32) then
    (gI σ δ 10 p0 8).bind fun v2 =>
    (pI σ δ 10 p0 8 (v2 + (1 : Int32))).bind fun d3 =>
    (gR σ 10 p0 6).bind fun v4 =>
    (gI σ d3 10 p0 8).bind fun v5 =>
    (rA σ 103 v4 v5).bind fun v6 =>
    (chk σ 4 v6).bind fun _ => (m_X4_open σ v6 d3).bind fun v7 =>
    (gR σ 10 p0 1).bind fun v8 =>
    (chk σ 8 v8).bind fun _ => (m_X8_save σ v8 v6 v7).bind fun v9 =>
    (gR σ 10 p0 2).bind fun v10 =>
    (gI σ v9 6 v10 7).bind fun v11 =>
    (pI σ v9 4 v6 10 v11).bind fun d12 =>
    (gR σ 4 v6 4).bind fun v13 =>
    (pI σ d12 1 v13 4 (0 : Int32)).bind fun d14 =>
    (gR σ 4 v6 4).bind fun v15 =>
    (gR σ 10 p0 7).bind fun v16 =>
    (chk σ 1 v15).bind fun _ => (m_X1_add σ v15 p3 v16 d14).bind fun v17 =>
    (gR σ 4 v6 0).bind fun v18 =>
    (gR σ 10 p0 7).bind fun v19 =>
    (chk σ 1 v18).bind fun _ => (m_X1_add σ v18 p2 v19 v17).bind fun v20 =>
    some v20
  else
    (gR σ 4 p1 0).bind fun v21 =>
    (gR σ 10 p0 7).bind fun v22 =>
    (chk σ 1 v21).bind fun _ => (m_X1_add σ v21 p3 v22 δ).bind fun v23 =>
    some v23
set_option maxHeartbeats 4000000 in
set_option maxRecDepth 100000 in
theorem w_X10_dare {J : JT} {an : Option Value × St × Dy} (hI : Isj cX10_dare 5 RX10 "dare" 2 81 none an J) {β : Bu} (σ : St) (p0 : Nat) (p1 : Nat) (p2 : Int32) (p3 : Int32) (δ : Dy) : SJ (m_X10_dare σ p0 p1 p2 p3 δ) (PV σ an) (J 0 [(0, .ref p0), (1, .ref p1), (2, .int p2), (3, .int p3)] [] β σ δ) := by
  have hJ := hI.cor
  unfold m_X10_dare
  refine sj (j_aload_n hJ dX10_dare_0 rfl 0 rfl) ?_
  refine sj_gI hJ fl_X10_139 (Or.inl rfl) dX10_dare_1 (fun v1 => ?_)
  refine sj (j_iconst hJ (v := 3) dX10_dare_4 ic_3) ?_
  refine sj_if (j_icmp_lt hJ (tgt := 21) dX10_dare_5 (by decide)) (fun _ => ?_) (fun _ => ?_)
  · refine sj (j_aload_n hJ dX10_dare_21 rfl 0 rfl) ?_
    refine sj (j_dup hJ dX10_dare_22 rfl) ?_
    refine sj_gI hJ fl_X10_139 (Or.inl rfl) dX10_dare_23 (fun v2 => ?_)
    refine sj (j_iconst hJ (v := 1) dX10_dare_26 ic_1) ?_
    refine sj (j_iadd hJ dX10_dare_27) ?_
    refine sj_pI hJ fl_X10_139 rfl dX10_dare_28 (fun d3 => ?_)
    refine sj (j_aload_n hJ dX10_dare_31 rfl 0 rfl) ?_
    refine sj_gR hJ fl_X10_34 rfl dX10_dare_32 (fun v4 => ?_)
    refine sj (j_aload_n hJ dX10_dare_35 rfl 0 rfl) ?_
    refine sj_gI hJ fl_X10_139 (Or.inl rfl) dX10_dare_36 (fun v5 => ?_)
    refine sj_rALv hJ dX10_dare_39 (fun v6 => ?_)
    refine sj (j_astore hJ (L' := [(4, .ref v6), (0, .ref p0), (1, .ref p1), (2, .int p2), (3, .int p3)]) dX10_dare_40 (by decide) rfl) ?_
    refine sj (j_aload hJ dX10_dare_42 0 rfl) ?_
    refine sj_callVv hJ [] (st := []) (fr' := 0) (lo' := 0) ml_X10_70 hc_4 (by decide) (by decide) (Nat.le_of_ble_eq_true rfl) dX10_dare_44 rfl (fun _ h9 => ct_X4_open h9) (fun v7 => ?_)
    refine sj (j_aload_n hJ dX10_dare_47 rfl 1 rfl) ?_
    refine sj_gR hJ fl_X10_12 rfl dX10_dare_48 (fun v8 => ?_)
    refine sj (j_aload hJ dX10_dare_51 0 rfl) ?_
    refine sj_callVv hJ [.ref v6] (st := []) (fr' := 1) (lo' := 59) ml_X10_268 hc_8 (by decide) (by decide) (Nat.le_of_ble_eq_true rfl) dX10_dare_53 rfl (fun _ h9 => ct_X8_save h9) (fun v9 => ?_)
    refine sj (j_aload hJ dX10_dare_56 0 rfl) ?_
    refine sj (j_aload_n hJ dX10_dare_58 rfl 1 rfl) ?_
    refine sj_gR hJ fl_X10_54 rfl dX10_dare_59 (fun v10 => ?_)
    refine sj_gI hJ fl_X10_271 (Or.inl rfl) dX10_dare_62 (fun v11 => ?_)
    refine sj_pI hJ fl_X10_187 rfl dX10_dare_65 (fun d12 => ?_)
    refine sj (j_aload hJ dX10_dare_68 0 rfl) ?_
    refine sj_gR hJ fl_X10_194 rfl dX10_dare_70 (fun v13 => ?_)
    refine sj (j_iconst hJ (v := 0) dX10_dare_73 ic_0) ?_
    refine sj_pI hJ fl_X10_106 rfl dX10_dare_74 (fun d14 => ?_)
    refine sj (j_aload hJ dX10_dare_77 0 rfl) ?_
    refine sj_gR hJ fl_X10_194 rfl dX10_dare_79 (fun v15 => ?_)
    refine sj (j_iload_n hJ dX10_dare_82 rfl 4 rfl) ?_
    refine sj (j_aload_n hJ dX10_dare_83 rfl 1 rfl) ?_
    refine sj_gR hJ fl_X10_41 rfl dX10_dare_84 (fun v16 => ?_)
    refine sj_callVv hJ [.int p3, .ref v16] (st := []) (fr' := 1) (lo' := 59) ml_X10_120 hc_1 (by decide) (by decide) (Nat.le_of_ble_eq_true rfl) dX10_dare_87 rfl (fun _ h9 => ct_X1_add h9) (fun v17 => ?_)
    refine sj (j_aload hJ dX10_dare_90 0 rfl) ?_
    refine sj_gR hJ fl_X10_124 rfl dX10_dare_92 (fun v18 => ?_)
    refine sj (j_iload_n hJ dX10_dare_95 rfl 3 rfl) ?_
    refine sj (j_aload_n hJ dX10_dare_96 rfl 1 rfl) ?_
    refine sj_gR hJ fl_X10_41 rfl dX10_dare_97 (fun v19 => ?_)
    refine sj_callVv hJ [.int p2, .ref v19] (st := []) (fr' := 1) (lo' := 59) ml_X10_120 hc_1 (by decide) (by decide) (Nat.le_of_ble_eq_true rfl) dX10_dare_100 rfl (fun _ h9 => ct_X1_add h9) (fun v20 => ?_)
    exact sj_vret hI dX10_dare_103 (fun h => h)
  · refine sj (j_aload_n hJ dX10_dare_8 rfl 1 rfl) ?_
    refine sj_gR hJ fl_X10_124 rfl dX10_dare_9 (fun v21 => ?_)
    refine sj (j_iload_n hJ dX10_dare_12 rfl 3 rfl) ?_
    refine sj (j_aload_n hJ dX10_dare_13 rfl 0 rfl) ?_
    refine sj_gR hJ fl_X10_41 rfl dX10_dare_14 (fun v22 => ?_)
    refine sj_callVv hJ [.int p3, .ref v22] (st := []) (fr' := 1) (lo' := 59) ml_X10_120 hc_1 (by decide) (by decide) (Nat.le_of_ble_eq_true rfl) dX10_dare_17 rfl (fun _ h9 => ct_X1_add h9) (fun v23 => ?_)
    exact sj_vret hI dX10_dare_20 (fun h => h)
theorem ct_X10_dare {σ : St} {p0 : Nat} {p1 : Nat} {p2 : Int32} {p3 : Int32} {δ : Dy} {r : Dy} (h : m_X10_dare σ p0 p1 p2 p3 δ = some r) : CT yX10_dare cX10_dare 5 none 2 81 0 0 [.ref p0, .ref p1, .int p2, .int p3] σ δ (none, σ, r) := CT_of (by decide +kernel) (Nat.le_of_ble_eq_true rfl) (fun J hI => w_X10_dare hI σ p0 p1 p2 p3 δ r h rfl)
def m_X10_enter (σ : St) (p0 : Nat) (p1 : Nat) (p2 : Int32) (p3 : Int32) (p4 : Int32) (δ : Dy) : Option Dy :=
  if p2 = (-1 : Int32) then
    some δ
  else
    (gR σ 10 p0 7).bind fun v1 =>
    (chk σ 0 v1).bind fun _ => (m_X0_take σ v1 p2 p3 p4 δ).bind fun v2 =>
    (gR σ 4 p1 0).bind fun v3 =>
    (gR σ 10 p0 7).bind fun v4 =>
    (chk σ 1 v3).bind fun _ => (m_X1_add σ v3 p2 v4 v2).bind fun v5 =>
    some v5
set_option maxHeartbeats 4000000 in
set_option maxRecDepth 100000 in
theorem w_X10_enter {J : JT} {an : Option Value × St × Dy} (hI : Isj cX10_enter 5 RX10 "enter" 2 81 none an J) {β : Bu} (σ : St) (p0 : Nat) (p1 : Nat) (p2 : Int32) (p3 : Int32) (p4 : Int32) (δ : Dy) : SJ (m_X10_enter σ p0 p1 p2 p3 p4 δ) (PV σ an) (J 0 [(0, .ref p0), (1, .ref p1), (2, .int p2), (3, .int p3), (4, .int p4)] [] β σ δ) := by
  have hJ := hI.cor
  unfold m_X10_enter
  refine sj (j_iload_n hJ dX10_enter_0 rfl 2 rfl) ?_
  refine sj (j_iconst hJ (v := -1) dX10_enter_1 ic_m1) ?_
  refine sj_if (j_icmp_ne hJ (tgt := 6) dX10_enter_2 (by decide)) (fun _ => ?_) (fun _ => ?_)
  · exact sj_vret hI dX10_enter_5 (fun h => h)
  · refine sj (j_aload_n hJ dX10_enter_6 rfl 0 rfl) ?_
    refine sj_gR hJ fl_X10_41 rfl dX10_enter_7 (fun v1 => ?_)
    refine sj (j_iload_n hJ dX10_enter_10 rfl 2 rfl) ?_
    refine sj (j_iload_n hJ dX10_enter_11 rfl 3 rfl) ?_
    refine sj (j_iload hJ dX10_enter_12 4 rfl) ?_
    refine sj_callVv hJ [.int p2, .int p3, .int p4] (st := []) (fr' := 0) (lo' := 0) ml_X10_109 hc_0 (by decide) (by decide) (Nat.le_of_ble_eq_true rfl) dX10_enter_14 rfl (fun _ h9 => ct_X0_take h9) (fun v2 => ?_)
    refine sj (j_aload_n hJ dX10_enter_17 rfl 1 rfl) ?_
    refine sj_gR hJ fl_X10_124 rfl dX10_enter_18 (fun v3 => ?_)
    refine sj (j_iload_n hJ dX10_enter_21 rfl 2 rfl) ?_
    refine sj (j_aload_n hJ dX10_enter_22 rfl 0 rfl) ?_
    refine sj_gR hJ fl_X10_41 rfl dX10_enter_23 (fun v4 => ?_)
    refine sj_callVv hJ [.int p2, .ref v4] (st := []) (fr' := 1) (lo' := 59) ml_X10_120 hc_1 (by decide) (by decide) (Nat.le_of_ble_eq_true rfl) dX10_enter_26 rfl (fun _ h9 => ct_X1_add h9) (fun v5 => ?_)
    exact sj_vret hI dX10_enter_29 (fun h => h)
theorem ct_X10_enter {σ : St} {p0 : Nat} {p1 : Nat} {p2 : Int32} {p3 : Int32} {p4 : Int32} {δ : Dy} {r : Dy} (h : m_X10_enter σ p0 p1 p2 p3 p4 δ = some r) : CT yX10_enter cX10_enter 5 none 2 81 0 0 [.ref p0, .ref p1, .int p2, .int p3, .int p4] σ δ (none, σ, r) := CT_of (by decide +kernel) (Nat.le_of_ble_eq_true rfl) (fun J hI => w_X10_enter hI σ p0 p1 p2 p3 p4 δ r h rfl)
def m_X10_conceal (σ : St) (p0 : Nat) (p1 : Nat) (p2 : Int32) (p3 : Int32) (δ : Dy) : Option Dy :=
  (gR σ 10 p0 1).bind fun v1 =>
  (chk σ 8 v1).bind fun _ => (m_X8_makeVariable σ v1 δ).bind fun v2 =>
  if v2.1 = (-1 : Int32) then
    some v2.2
  else
    if p2 < 0 then
      some v2.2
    else
      if p2 < (4 : Int32) then
        (gR σ 10 p0 7).bind fun v3 =>
        (gR σ 0 v3 0).bind fun v4 =>
        (wI σ v2.2 v4 p2 ((400 : Int32) + v2.1)).bind fun d5 =>
        (gR σ 4 p1 0).bind fun v6 =>
        (gR σ 10 p0 7).bind fun v7 =>
        (chk σ 1 v6).bind fun _ => (m_X1_add σ v6 p3 v7 d5).bind fun v8 =>
        some v8
      else
        some v2.2
set_option maxHeartbeats 4000000 in
set_option maxRecDepth 100000 in
theorem w_X10_conceal {J : JT} {an : Option Value × St × Dy} (hI : Isj cX10_conceal 5 RX10 "conceal" 2 81 none an J) {β : Bu} (σ : St) (p0 : Nat) (p1 : Nat) (p2 : Int32) (p3 : Int32) (δ : Dy) : SJ (m_X10_conceal σ p0 p1 p2 p3 δ) (PV σ an) (J 0 [(0, .ref p0), (1, .ref p1), (2, .int p2), (3, .int p3)] [] β σ δ) := by
  have hJ := hI.cor
  unfold m_X10_conceal
  refine sj (j_aload_n hJ dX10_conceal_0 rfl 0 rfl) ?_
  refine sj_gR hJ fl_X10_12 rfl dX10_conceal_1 (fun v1 => ?_)
  refine sj_callVi hJ [] (st := []) (fr' := 0) (lo' := 0) ml_X10_261 hc_8 (by decide) (by decide) (Nat.le_of_ble_eq_true rfl) dX10_conceal_4 rfl (fun _ h9 => ct_X8_makeVariable h9) (fun v2 => ?_)
  refine sj (j_istore hJ (L' := [(4, .int v2.1), (0, .ref p0), (1, .ref p1), (2, .int p2), (3, .int p3)]) dX10_conceal_7 (by decide) rfl) ?_
  refine sj (j_iload hJ dX10_conceal_9 0 rfl) ?_
  refine sj (j_iconst hJ (v := -1) dX10_conceal_11 ic_m1) ?_
  refine sj_if (j_icmp_eq hJ (tgt := 24) dX10_conceal_12 (by decide)) (fun _ => ?_) (fun _ => ?_)
  · exact sj_vret hI dX10_conceal_24 (fun h => h)
  · refine sj (j_iload_n hJ dX10_conceal_15 rfl 3 rfl) ?_
    refine sj_if (j_if_lt hJ (tgt := 24) dX10_conceal_16 (by decide)) (fun _ => ?_) (fun _ => ?_)
    · exact sj_vret hI dX10_conceal_24 (fun h => h)
    · refine sj (j_iload_n hJ dX10_conceal_19 rfl 3 rfl) ?_
      refine sj (j_iconst hJ (v := 4) dX10_conceal_20 ic_4) ?_
      refine sj_if (j_icmp_lt hJ (tgt := 25) dX10_conceal_21 (by decide)) (fun _ => ?_) (fun _ => ?_)
      · refine sj (j_aload_n hJ dX10_conceal_25 rfl 1 rfl) ?_
        refine sj_gR hJ fl_X10_41 rfl dX10_conceal_26 (fun v3 => ?_)
        refine sj_gR hJ fl_X10_265 rfl dX10_conceal_29 (fun v4 => ?_)
        refine sj (j_iload_n hJ dX10_conceal_32 rfl 3 rfl) ?_
        refine sj (j_sipush hJ (v := 400) dX10_conceal_33 is_400) ?_
        refine sj (j_iload hJ dX10_conceal_36 0 rfl) ?_
        refine sj (j_iadd hJ dX10_conceal_38) ?_
        refine sj_wI hJ dX10_conceal_39 (fun d5 => ?_)
        refine sj (j_aload_n hJ dX10_conceal_40 rfl 2 rfl) ?_
        refine sj_gR hJ fl_X10_124 rfl dX10_conceal_41 (fun v6 => ?_)
        refine sj (j_iload_n hJ dX10_conceal_44 rfl 4 rfl) ?_
        refine sj (j_aload_n hJ dX10_conceal_45 rfl 1 rfl) ?_
        refine sj_gR hJ fl_X10_41 rfl dX10_conceal_46 (fun v7 => ?_)
        refine sj_callVv hJ [.int p3, .ref v7] (st := []) (fr' := 1) (lo' := 59) ml_X10_120 hc_1 (by decide) (by decide) (Nat.le_of_ble_eq_true rfl) dX10_conceal_49 rfl (fun _ h9 => ct_X1_add h9) (fun v8 => ?_)
        exact sj_vret hI dX10_conceal_52 (fun h => h)
      · exact sj_vret hI dX10_conceal_24 (fun h => h)
theorem ct_X10_conceal {σ : St} {p0 : Nat} {p1 : Nat} {p2 : Int32} {p3 : Int32} {δ : Dy} {r : Dy} (h : m_X10_conceal σ p0 p1 p2 p3 δ = some r) : CT yX10_conceal cX10_conceal 5 none 2 81 0 0 [.ref p0, .ref p1, .int p2, .int p3] σ δ (none, σ, r) := CT_of (by decide +kernel) (Nat.le_of_ble_eq_true rfl) (fun J hI => w_X10_conceal hI σ p0 p1 p2 p3 δ r h rfl)
def m_X10_isEntailed (σ : St) (p0 : Nat) (p1 : Int32) (δ : Dy) : Option Int32 :=
  (gR σ 10 p0 1).bind fun v1 =>
  (gR σ 10 p0 0).bind fun v2 =>
  (gR σ 5 v2 1).bind fun v3 =>
  (rI σ δ v3 p1).bind fun v4 =>
  (gR σ 10 p0 7).bind fun v5 =>
  (gR σ 10 p0 0).bind fun v6 =>
  (gR σ 5 v6 2).bind fun v7 =>
  (rI σ δ v7 p1).bind fun v8 =>
  (chk σ 0 v5).bind fun _ => (m_X0_look σ v5 v8 δ).bind fun v9 =>
  (gR σ 10 p0 7).bind fun v10 =>
  (gR σ 10 p0 0).bind fun v11 =>
  (gR σ 5 v11 3).bind fun v12 =>
  (rI σ δ v12 p1).bind fun v13 =>
  (chk σ 0 v10).bind fun _ => (m_X0_look σ v10 v13 δ).bind fun v14 =>
  (chk σ 8 v1).bind fun _ => (m_X8_isEntailed σ v1 v4 v9 v14 δ).bind fun v15 =>
  (zo v15).bind fun _ => some v15
set_option maxHeartbeats 4000000 in
set_option maxRecDepth 100000 in
theorem w_X10_isEntailed {J : JT} {an : Option Value × St × Dy} (hI : Isj cX10_isEntailed 2 RX10 "isEntailed" 3 75 (some .boolean) an J) {β : Bu} (σ : St) (p0 : Nat) (p1 : Int32) (δ : Dy) : SJ (m_X10_isEntailed σ p0 p1 δ) (PIp σ δ an) (J 0 [(0, .ref p0), (1, .int p1)] [] β σ δ) := by
  have hJ := hI.cor
  unfold m_X10_isEntailed
  refine sj (j_aload_n hJ dX10_isEntailed_0 rfl 0 rfl) ?_
  refine sj_gR hJ fl_X10_12 rfl dX10_isEntailed_1 (fun v1 => ?_)
  refine sj (j_aload_n hJ dX10_isEntailed_4 rfl 0 rfl) ?_
  refine sj_gR hJ fl_X10_45 rfl dX10_isEntailed_5 (fun v2 => ?_)
  refine sj_gR hJ fl_X10_214 rfl dX10_isEntailed_8 (fun v3 => ?_)
  refine sj (j_iload_n hJ dX10_isEntailed_11 rfl 1 rfl) ?_
  refine sj_rI hJ dX10_isEntailed_12 (fun v4 => ?_)
  refine sj (j_aload_n hJ dX10_isEntailed_13 rfl 0 rfl) ?_
  refine sj_gR hJ fl_X10_41 rfl dX10_isEntailed_14 (fun v5 => ?_)
  refine sj (j_aload_n hJ dX10_isEntailed_17 rfl 0 rfl) ?_
  refine sj_gR hJ fl_X10_45 rfl dX10_isEntailed_18 (fun v6 => ?_)
  refine sj_gR hJ fl_X10_217 rfl dX10_isEntailed_21 (fun v7 => ?_)
  refine sj (j_iload_n hJ dX10_isEntailed_24 rfl 1 rfl) ?_
  refine sj_rI hJ dX10_isEntailed_25 (fun v8 => ?_)
  refine sj_callVip hJ [.int v8] (st := [.int v4, .ref v1]) (fr' := 1) (lo' := 20) ml_X10_220 hc_0 (by decide) (by decide) (Nat.le_of_ble_eq_true rfl) dX10_isEntailed_26 rfl (fun _ h9 => ct_X0_look h9) (fun v9 => ?_)
  refine sj (j_aload_n hJ dX10_isEntailed_29 rfl 0 rfl) ?_
  refine sj_gR hJ fl_X10_41 rfl dX10_isEntailed_30 (fun v10 => ?_)
  refine sj (j_aload_n hJ dX10_isEntailed_33 rfl 0 rfl) ?_
  refine sj_gR hJ fl_X10_45 rfl dX10_isEntailed_34 (fun v11 => ?_)
  refine sj_gR hJ fl_X10_223 rfl dX10_isEntailed_37 (fun v12 => ?_)
  refine sj (j_iload_n hJ dX10_isEntailed_40 rfl 1 rfl) ?_
  refine sj_rI hJ dX10_isEntailed_41 (fun v13 => ?_)
  refine sj_callVip hJ [.int v13] (st := [.int v9, .int v4, .ref v1]) (fr' := 1) (lo' := 20) ml_X10_220 hc_0 (by decide) (by decide) (Nat.le_of_ble_eq_true rfl) dX10_isEntailed_42 rfl (fun _ h9 => ct_X0_look h9) (fun v14 => ?_)
  refine sj_callVip hJ [.int v4, .int v9, .int v14] (st := []) (fr' := 2) (lo' := 49) ml_X10_284 hc_8 (by decide) (by decide) (Nat.le_of_ble_eq_true rfl) dX10_isEntailed_45 rfl (fun _ h9 => ct_X8_isEntailed h9) (fun v15 => ?_)
  exact sj_zretG hI dX10_isEntailed_48 (fun h => h)
theorem ct_X10_isEntailed {σ : St} {p0 : Nat} {p1 : Int32} {δ : Dy} {r : Int32} (h : m_X10_isEntailed σ p0 p1 δ = some r) : CT yX10_isEntailed cX10_isEntailed 2 (some .boolean) 3 75 0 0 [.ref p0, .int p1] σ δ ((some (.int r)), σ, δ) := CT_of (by decide +kernel) (Nat.le_of_ble_eq_true rfl) (fun J hI => w_X10_isEntailed hI σ p0 p1 δ r h rfl)
def m_X10_sideOf (σ : St) (p0 : Nat) (p1 : Int32) (δ : Dy) : Option Int32 :=
  (gR σ 10 p0 0).bind fun v1 =>
  (gR σ 5 v1 0).bind fun v2 =>
  (rI σ δ v2 p1).bind fun v3 =>
  if v3 = (4 : Int32) then
    (chk σ 10 p0).bind fun _ => (m_X10_isEntailed σ p0 p1 δ).bind fun v4 =>
    if v4 = 0 then
      some (-1 : Int32)
    else
      some (0 : Int32)
  else
    (gR σ 10 p0 0).bind fun v5 =>
    (gR σ 5 v5 0).bind fun v6 =>
    (rI σ δ v6 p1).bind fun v7 =>
    if v7 = (5 : Int32) then
      (gR σ 10 p0 0).bind fun v8 =>
      (gR σ 5 v8 5).bind fun v9 =>
      (rI σ δ v9 p1).bind fun v10 =>
      (chk σ 10 p0).bind fun _ => (m_X10_isEntailed σ p0 v10 δ).bind fun v11 =>
      (gR σ 10 p0 0).bind fun v12 =>
      (gR σ 5 v12 4).bind fun v13 =>
      (rI σ δ v13 p1).bind fun v14 =>
      (chk σ 10 p0).bind fun _ => (m_X10_isEntailed σ p0 v14 δ).bind fun v15 =>
      if v15 = 0 then
        if v11 = 0 then
          some (-1 : Int32)
        else
          some (1 : Int32)
      else
        if v11 = 0 then
          some (0 : Int32)
        else
          (gR σ 10 p0 0).bind fun v16 =>
          (gR σ 5 v16 2).bind fun v17 =>
          (rI σ δ v17 p1).bind fun v18 =>
          (gR σ 10 p0 0).bind fun v19 =>
          (gR σ 5 v19 3).bind fun v20 =>
          (rI σ δ v20 p1).bind fun v21 =>
          if v18 = v21 then
            (gR σ 10 p0 5).bind fun v22 =>
            (rI σ δ v22 (((2 : Int32) * p1) + (1 : Int32))).bind fun v23 =>
            (gR σ 10 p0 5).bind fun v24 =>
            (rI σ δ v24 ((2 : Int32) * p1)).bind fun v25 =>
            if v25 ≤ v23 then
              some (0 : Int32)
            else
              some (1 : Int32)
          else
            if v18 ≤ v21 then
              some (1 : Int32)
            else
              some (0 : Int32)
    else
      some (-1 : Int32)
set_option maxHeartbeats 4000000 in
set_option maxRecDepth 100000 in
theorem w_X10_sideOf {J : JT} {an : Option Value × St × Dy} (hI : Isj cX10_sideOf 5 RX10 "sideOf" 4 96 (some .int) an J) {β : Bu} (σ : St) (p0 : Nat) (p1 : Int32) (δ : Dy) : SJ (m_X10_sideOf σ p0 p1 δ) (PIp σ δ an) (J 0 [(0, .ref p0), (1, .int p1)] [] β σ δ) := by
  have hJ := hI.cor
  unfold m_X10_sideOf
  refine sj (j_aload_n hJ dX10_sideOf_0 rfl 0 rfl) ?_
  refine sj_gR hJ fl_X10_45 rfl dX10_sideOf_1 (fun v1 => ?_)
  refine sj_gR hJ fl_X10_209 rfl dX10_sideOf_4 (fun v2 => ?_)
  refine sj (j_iload_n hJ dX10_sideOf_7 rfl 1 rfl) ?_
  refine sj_rI hJ dX10_sideOf_8 (fun v3 => ?_)
  refine sj (j_iconst hJ (v := 4) dX10_sideOf_9 ic_4) ?_
  refine sj_if (j_icmp_ne hJ (tgt := 27) dX10_sideOf_10 (by decide)) (fun _ => ?_) (fun _ => ?_)
  · refine sj (j_aload_n hJ dX10_sideOf_13 rfl 0 rfl) ?_
    refine sj (j_iload_n hJ dX10_sideOf_14 rfl 1 rfl) ?_
    refine sj_callVip hJ [.int p1] (st := []) (fr' := 3) (lo' := 75) ml_X10_280 hc_10 (by decide) (by decide) (Nat.le_of_ble_eq_true rfl) dX10_sideOf_15 rfl (fun _ h9 => ct_X10_isEntailed h9) (fun v4 => ?_)
    refine sj_if (j_if_eq hJ (tgt := 25) dX10_sideOf_18 (by decide)) (fun _ => ?_) (fun _ => ?_)
    · refine sj (j_iconst hJ (v := -1) dX10_sideOf_25 ic_m1) ?_
      exact sj_iret hI dX10_sideOf_26 (fun h => h)
    · refine sj (j_iconst hJ (v := 0) dX10_sideOf_21 ic_0) ?_
      refine sj (j_goto hJ (tgt := 26) dX10_sideOf_22 (by decide)) ?_
      exact sj_iret hI dX10_sideOf_26 (fun h => h)
  · refine sj (j_aload_n hJ dX10_sideOf_27 rfl 0 rfl) ?_
    refine sj_gR hJ fl_X10_45 rfl dX10_sideOf_28 (fun v5 => ?_)
    refine sj_gR hJ fl_X10_209 rfl dX10_sideOf_31 (fun v6 => ?_)
    refine sj (j_iload_n hJ dX10_sideOf_34 rfl 1 rfl) ?_
    refine sj_rI hJ dX10_sideOf_35 (fun v7 => ?_)
    refine sj (j_iconst hJ (v := 5) dX10_sideOf_36 ic_5) ?_
    refine sj_if (j_icmp_eq hJ (tgt := 42) dX10_sideOf_37 (by decide)) (fun _ => ?_) (fun _ => ?_)
    · refine sj (j_aload_n hJ dX10_sideOf_42 rfl 0 rfl) ?_
      refine sj (j_aload_n hJ dX10_sideOf_43 rfl 0 rfl) ?_
      refine sj_gR hJ fl_X10_45 rfl dX10_sideOf_44 (fun v8 => ?_)
      refine sj_gR hJ fl_X10_229 rfl dX10_sideOf_47 (fun v9 => ?_)
      refine sj (j_iload_n hJ dX10_sideOf_50 rfl 1 rfl) ?_
      refine sj_rI hJ dX10_sideOf_51 (fun v10 => ?_)
      refine sj_callVip hJ [.int v10] (st := []) (fr' := 3) (lo' := 75) ml_X10_280 hc_10 (by decide) (by decide) (Nat.le_of_ble_eq_true rfl) dX10_sideOf_52 rfl (fun _ h9 => ct_X10_isEntailed h9) (fun v11 => ?_)
      refine sj (j_istore_n hJ (L' := [(2, .int v11), (0, .ref p0), (1, .int p1)]) dX10_sideOf_55 rfl (by decide) rfl) ?_
      refine sj (j_aload_n hJ dX10_sideOf_56 rfl 1 rfl) ?_
      refine sj (j_aload_n hJ dX10_sideOf_57 rfl 1 rfl) ?_
      refine sj_gR hJ fl_X10_45 rfl dX10_sideOf_58 (fun v12 => ?_)
      refine sj_gR hJ fl_X10_226 rfl dX10_sideOf_61 (fun v13 => ?_)
      refine sj (j_iload_n hJ dX10_sideOf_64 rfl 2 rfl) ?_
      refine sj_rI hJ dX10_sideOf_65 (fun v14 => ?_)
      refine sj_callVip hJ [.int v14] (st := []) (fr' := 3) (lo' := 75) ml_X10_280 hc_10 (by decide) (by decide) (Nat.le_of_ble_eq_true rfl) dX10_sideOf_66 rfl (fun _ h9 => ct_X10_isEntailed h9) (fun v15 => ?_)
      refine sj_if (j_if_ne hJ (tgt := 82) dX10_sideOf_69 (by decide)) (fun _ => ?_) (fun _ => ?_)
      · refine sj (j_iload_n hJ dX10_sideOf_72 rfl 0 rfl) ?_
        refine sj_if (j_if_eq hJ (tgt := 80) dX10_sideOf_73 (by decide)) (fun _ => ?_) (fun _ => ?_)
        · refine sj (j_iconst hJ (v := -1) dX10_sideOf_80 ic_m1) ?_
          exact sj_iret hI dX10_sideOf_81 (fun h => h)
        · refine sj (j_iconst hJ (v := 1) dX10_sideOf_76 ic_1) ?_
          refine sj (j_goto hJ (tgt := 81) dX10_sideOf_77 (by decide)) ?_
          exact sj_iret hI dX10_sideOf_81 (fun h => h)
      · refine sj (j_iload_n hJ dX10_sideOf_82 rfl 0 rfl) ?_
        refine sj_if (j_if_ne hJ (tgt := 88) dX10_sideOf_83 (by decide)) (fun _ => ?_) (fun _ => ?_)
        · refine sj (j_iconst hJ (v := 0) dX10_sideOf_86 ic_0) ?_
          exact sj_iret hI dX10_sideOf_87 (fun h => h)
        · refine sj (j_aload_n hJ dX10_sideOf_88 rfl 1 rfl) ?_
          refine sj_gR hJ fl_X10_45 rfl dX10_sideOf_89 (fun v16 => ?_)
          refine sj_gR hJ fl_X10_217 rfl dX10_sideOf_92 (fun v17 => ?_)
          refine sj (j_iload_n hJ dX10_sideOf_95 rfl 2 rfl) ?_
          refine sj_rI hJ dX10_sideOf_96 (fun v18 => ?_)
          refine sj (j_istore_n hJ (L' := [(3, .int v18), (2, .int v11), (0, .ref p0), (1, .int p1)]) dX10_sideOf_97 rfl (by decide) rfl) ?_
          refine sj (j_aload_n hJ dX10_sideOf_98 rfl 2 rfl) ?_
          refine sj_gR hJ fl_X10_45 rfl dX10_sideOf_99 (fun v19 => ?_)
          refine sj_gR hJ fl_X10_223 rfl dX10_sideOf_102 (fun v20 => ?_)
          refine sj (j_iload_n hJ dX10_sideOf_105 rfl 3 rfl) ?_
          refine sj_rI hJ dX10_sideOf_106 (fun v21 => ?_)
          refine sj (j_istore hJ (L' := [(4, .int v21), (3, .int v18), (2, .int v11), (0, .ref p0), (1, .int p1)]) dX10_sideOf_107 (by decide) rfl) ?_
          refine sj (j_iload_n hJ dX10_sideOf_109 rfl 1 rfl) ?_
          refine sj (j_iload hJ dX10_sideOf_110 0 rfl) ?_
          refine sj_if (j_icmp_eq hJ (tgt := 127) dX10_sideOf_112 (by decide)) (fun _ => ?_) (fun _ => ?_)
          · refine sj (j_aload_n hJ dX10_sideOf_127 rfl 3 rfl) ?_
            refine sj_gR hJ fl_X10_29 rfl dX10_sideOf_128 (fun v22 => ?_)
            refine sj (j_iconst hJ (v := 2) dX10_sideOf_131 ic_2) ?_
            refine sj (j_iload_n hJ dX10_sideOf_132 rfl 4 rfl) ?_
            refine sj (j_imul hJ dX10_sideOf_133) ?_
            refine sj (j_iconst hJ (v := 1) dX10_sideOf_134 ic_1) ?_
            refine sj (j_iadd hJ dX10_sideOf_135) ?_
            refine sj_rI hJ dX10_sideOf_136 (fun v23 => ?_)
            refine sj (j_aload_n hJ dX10_sideOf_137 rfl 3 rfl) ?_
            refine sj_gR hJ fl_X10_29 rfl dX10_sideOf_138 (fun v24 => ?_)
            refine sj (j_iconst hJ (v := 2) dX10_sideOf_141 ic_2) ?_
            refine sj (j_iload_n hJ dX10_sideOf_142 rfl 4 rfl) ?_
            refine sj (j_imul hJ dX10_sideOf_143) ?_
            refine sj_rI hJ dX10_sideOf_144 (fun v25 => ?_)
            refine sj_if (j_icmp_ge hJ (tgt := 152) dX10_sideOf_145 (by decide)) (fun _ => ?_) (fun _ => ?_)
            · refine sj (j_iconst hJ (v := 0) dX10_sideOf_152 ic_0) ?_
              exact sj_iret hI dX10_sideOf_153 (fun h => h)
            · refine sj (j_iconst hJ (v := 1) dX10_sideOf_148 ic_1) ?_
              refine sj (j_goto hJ (tgt := 153) dX10_sideOf_149 (by decide)) ?_
              exact sj_iret hI dX10_sideOf_153 (fun h => h)
          · refine sj (j_iload_n hJ dX10_sideOf_115 rfl 1 rfl) ?_
            refine sj (j_iload hJ dX10_sideOf_116 0 rfl) ?_
            refine sj_if (j_icmp_le hJ (tgt := 125) dX10_sideOf_118 (by decide)) (fun _ => ?_) (fun _ => ?_)
            · refine sj (j_iconst hJ (v := 1) dX10_sideOf_125 ic_1) ?_
              exact sj_iret hI dX10_sideOf_126 (fun h => h)
            · refine sj (j_iconst hJ (v := 0) dX10_sideOf_121 ic_0) ?_
              refine sj (j_goto hJ (tgt := 126) dX10_sideOf_122 (by decide)) ?_
              exact sj_iret hI dX10_sideOf_126 (fun h => h)
    · refine sj (j_iconst hJ (v := -1) dX10_sideOf_40 ic_m1) ?_
      exact sj_iret hI dX10_sideOf_41 (fun h => h)
theorem ct_X10_sideOf {σ : St} {p0 : Nat} {p1 : Int32} {δ : Dy} {r : Int32} (h : m_X10_sideOf σ p0 p1 δ = some r) : CT yX10_sideOf cX10_sideOf 5 (some .int) 4 96 0 0 [.ref p0, .int p1] σ δ ((some (.int r)), σ, δ) := CT_of (by decide +kernel) (Nat.le_of_ble_eq_true rfl) (fun J hI => w_X10_sideOf hI σ p0 p1 δ r h rfl)
def m_X10_ask_b159 (σ : St) (p0 : Nat) (p1 : Nat) (p4 : Int32) (δ : Dy) : Option Dy :=
  (gR σ 4 p1 0).bind fun v16 =>
  (gR σ 10 p0 0).bind fun v17 =>
  (gR σ 5 v17 4).bind fun v18 =>
  (rI σ δ v18 p4).bind fun v19 =>
  (gR σ 10 p0 7).bind fun v20 =>
  (chk σ 1 v16).bind fun _ => (m_X1_add σ v16 v19 v20 δ).bind fun v21 =>
  some v21
def m_X10_ask_b75 (σ : St) (p0 : Nat) (p1 : Nat) (p4 : Int32) (δ : Dy) : Option Dy :=
  (gR σ 10 p0 0).bind fun v13 =>
  (gR σ 5 v13 1).bind fun v14 =>
  (rI σ δ v14 p4).bind fun v15 =>
  if v15 < (10 : Int32) then
    m_X10_ask_b159 σ p0 p1 p4 δ
  else
    (gR σ 10 p0 7).bind fun v22 =>
    (gR σ 10 p0 0).bind fun v23 =>
    (gR σ 5 v23 2).bind fun v24 =>
    (rI σ δ v24 p4).bind fun v25 =>
    (chk σ 0 v22).bind fun _ => (m_X0_look σ v22 v25 δ).bind fun v26 =>
    (gR σ 10 p0 7).bind fun v27 =>
    (gR σ 10 p0 0).bind fun v28 =>
    (gR σ 5 v28 3).bind fun v29 =>
    (rI σ δ v29 p4).bind fun v30 =>
    (chk σ 0 v27).bind fun _ => (m_X0_look σ v27 v30 δ).bind fun v31 =>
    (gR σ 10 p0 7).bind fun v32 =>
    (gR σ 10 p0 1).bind fun v33 =>
    (gR σ 10 p0 1).bind fun v34 =>
    (chk σ 8 v34).bind fun _ => (m_X8_lowest σ v34 (v15 - (10 : Int32)) v26 v31 δ).bind fun v35 =>
    (chk σ 0 v32).bind fun _ => (m_X0_include σ v32 v33 v35 δ).bind fun v36 =>
    m_X10_ask_b159 σ p0 p1 p4 v36
def m_X10_ask_b59 (σ : St) (p0 : Nat) (p1 : Nat) (p2 : Int32) (p3 : Int32) (q0 : Int32) (δ : Dy) : Option Dy :=
  (gR σ 10 p0 5).bind fun v10 =>
  (rI σ δ v10 (((2 : Int32) * p2) + p3)).bind fun v11 =>
  (wI σ δ v10 (((2 : Int32) * p2) + p3) (v11 + (1 : Int32))).bind fun d12 =>
  m_X10_ask_b75 σ p0 p1 q0 d12
def m_X10_ask (σ : St) (p0 : Nat) (p1 : Nat) (p2 : Int32) (p3 : Int32) (δ : Dy) : Option Dy :=
  if p3 = (-1 : Int32) then
    (gR σ 4 p1 1).bind fun v1 =>
    (gR σ 10 p0 7).bind fun v2 =>
    (chk σ 1 v1).bind fun _ => (m_X1_add σ v1 p2 v2 δ).bind fun v3 =>
    some v3
  else
    (gR σ 10 p0 0).bind fun v4 =>
    (gR σ 5 v4 0).bind fun v5 =>
    (rI σ δ v5 p2).bind fun v6 =>
    if v6 = (5 : Int32) then
      if p3 = 0 then
        (gR σ 10 p0 0).bind fun v7 =>
        (gR σ 5 v7 4).bind fun v8 =>
        (rI σ δ v8 p2).bind fun v9 =>
        m_X10_ask_b59 σ p0 p1 p2 p3 v9 δ
      else
        (gR σ 10 p0 0).bind fun v37 =>
        (gR σ 5 v37 5).bind fun v38 =>
        (rI σ δ v38 p2).bind fun v39 =>
        m_X10_ask_b59 σ p0 p1 p2 p3 v39 δ
    else
      m_X10_ask_b75 σ p0 p1 p2 δ
set_option maxHeartbeats 4000000 in
set_option maxRecDepth 100000 in
theorem w_X10_ask_b159 {J : JT} {an : Option Value × St × Dy} (hI : Isj cX10_ask 8 RX10 "ask" 2 81 none an J) {β : Bu} (σ : St) (p0 : Nat) (p1 : Nat) (p4 : Int32) (δ : Dy) : SJ (m_X10_ask_b159 σ p0 p1 p4 δ) (PV σ an) (J 159 [(0, .ref p0), (1, .ref p1), (4, .int p4)] [] β σ δ) := by
  have hJ := hI.cor
  unfold m_X10_ask_b159
  refine sj (j_aload_n hJ dX10_ask_159 rfl 1 rfl) ?_
  refine sj_gR hJ fl_X10_124 rfl dX10_ask_160 (fun v16 => ?_)
  refine sj (j_aload_n hJ dX10_ask_163 rfl 0 rfl) ?_
  refine sj_gR hJ fl_X10_45 rfl dX10_ask_164 (fun v17 => ?_)
  refine sj_gR hJ fl_X10_226 rfl dX10_ask_167 (fun v18 => ?_)
  refine sj (j_iload hJ dX10_ask_170 2 rfl) ?_
  refine sj_rI hJ dX10_ask_172 (fun v19 => ?_)
  refine sj (j_aload_n hJ dX10_ask_173 rfl 0 rfl) ?_
  refine sj_gR hJ fl_X10_41 rfl dX10_ask_174 (fun v20 => ?_)
  refine sj_callVv hJ [.int v19, .ref v20] (st := []) (fr' := 1) (lo' := 59) ml_X10_120 hc_1 (by decide) (by decide) (Nat.le_of_ble_eq_true rfl) dX10_ask_177 rfl (fun _ h9 => ct_X1_add h9) (fun v21 => ?_)
  exact sj_vret hI dX10_ask_180 (fun h => h)
set_option maxHeartbeats 4000000 in
set_option maxRecDepth 100000 in
theorem w_X10_ask_b75 {J : JT} {an : Option Value × St × Dy} (hI : Isj cX10_ask 8 RX10 "ask" 2 81 none an J) {β : Bu} (σ : St) (p0 : Nat) (p1 : Nat) (p4 : Int32) (δ : Dy) : SJ (m_X10_ask_b75 σ p0 p1 p4 δ) (PV σ an) (J 75 [(0, .ref p0), (1, .ref p1), (4, .int p4)] [] β σ δ) := by
  have hJ := hI.cor
  unfold m_X10_ask_b75
  refine sj (j_aload_n hJ dX10_ask_75 rfl 0 rfl) ?_
  refine sj_gR hJ fl_X10_45 rfl dX10_ask_76 (fun v13 => ?_)
  refine sj_gR hJ fl_X10_214 rfl dX10_ask_79 (fun v14 => ?_)
  refine sj (j_iload hJ dX10_ask_82 2 rfl) ?_
  refine sj_rI hJ dX10_ask_84 (fun v15 => ?_)
  refine sj (j_istore hJ (L' := [(5, .int v15), (0, .ref p0), (1, .ref p1), (4, .int p4)]) dX10_ask_85 (by decide) rfl) ?_
  refine sj (j_iload hJ dX10_ask_87 0 rfl) ?_
  refine sj (j_bipush hJ (v := 10) dX10_ask_89 ib_10) ?_
  refine sj_if (j_icmp_lt hJ (tgt := 159) dX10_ask_91 (by decide)) (fun _ => ?_) (fun _ => ?_)
  · refine sj (j_sub hJ (L' := [(0, .ref p0), (1, .ref p1), (4, .int p4)]) [1, 2, 3] rfl) ?_
    exact w_X10_ask_b159 hI σ p0 p1 p4 δ
  · refine sj (j_aload_n hJ dX10_ask_94 rfl 1 rfl) ?_
    refine sj_gR hJ fl_X10_41 rfl dX10_ask_95 (fun v22 => ?_)
    refine sj (j_aload_n hJ dX10_ask_98 rfl 1 rfl) ?_
    refine sj_gR hJ fl_X10_45 rfl dX10_ask_99 (fun v23 => ?_)
    refine sj_gR hJ fl_X10_217 rfl dX10_ask_102 (fun v24 => ?_)
    refine sj (j_iload hJ dX10_ask_105 3 rfl) ?_
    refine sj_rI hJ dX10_ask_107 (fun v25 => ?_)
    refine sj_callVip hJ [.int v25] (st := []) (fr' := 1) (lo' := 20) ml_X10_220 hc_0 (by decide) (by decide) (Nat.le_of_ble_eq_true rfl) dX10_ask_108 rfl (fun _ h9 => ct_X0_look h9) (fun v26 => ?_)
    refine sj (j_istore hJ (L' := [(6, .int v26), (5, .int v15), (0, .ref p0), (1, .ref p1), (4, .int p4)]) dX10_ask_111 (by decide) rfl) ?_
    refine sj (j_aload_n hJ dX10_ask_113 rfl 2 rfl) ?_
    refine sj_gR hJ fl_X10_41 rfl dX10_ask_114 (fun v27 => ?_)
    refine sj (j_aload_n hJ dX10_ask_117 rfl 2 rfl) ?_
    refine sj_gR hJ fl_X10_45 rfl dX10_ask_118 (fun v28 => ?_)
    refine sj_gR hJ fl_X10_223 rfl dX10_ask_121 (fun v29 => ?_)
    refine sj (j_iload hJ dX10_ask_124 4 rfl) ?_
    refine sj_rI hJ dX10_ask_126 (fun v30 => ?_)
    refine sj_callVip hJ [.int v30] (st := []) (fr' := 1) (lo' := 20) ml_X10_220 hc_0 (by decide) (by decide) (Nat.le_of_ble_eq_true rfl) dX10_ask_127 rfl (fun _ h9 => ct_X0_look h9) (fun v31 => ?_)
    refine sj (j_istore hJ (L' := [(7, .int v31), (6, .int v26), (5, .int v15), (0, .ref p0), (1, .ref p1), (4, .int p4)]) dX10_ask_130 (by decide) rfl) ?_
    refine sj (j_aload_n hJ dX10_ask_132 rfl 3 rfl) ?_
    refine sj_gR hJ fl_X10_41 rfl dX10_ask_133 (fun v32 => ?_)
    refine sj (j_aload_n hJ dX10_ask_136 rfl 3 rfl) ?_
    refine sj_gR hJ fl_X10_12 rfl dX10_ask_137 (fun v33 => ?_)
    refine sj (j_aload_n hJ dX10_ask_140 rfl 3 rfl) ?_
    refine sj_gR hJ fl_X10_12 rfl dX10_ask_141 (fun v34 => ?_)
    refine sj (j_iload hJ dX10_ask_144 2 rfl) ?_
    refine sj (j_bipush hJ (v := 10) dX10_ask_146 ib_10) ?_
    refine sj (j_isub hJ dX10_ask_148) ?_
    refine sj (j_iload hJ dX10_ask_149 1 rfl) ?_
    refine sj (j_iload hJ dX10_ask_151 0 rfl) ?_
    refine sj_callVip hJ [.int (v15 - (10 : Int32)), .int v26, .int v31] (st := [.ref v33, .ref v32]) (fr' := 1) (lo' := 23) ml_X10_272 hc_8 (by decide) (by decide) (Nat.le_of_ble_eq_true rfl) dX10_ask_153 rfl (fun _ h9 => ct_X8_lowest h9) (fun v35 => ?_)
    refine sj_callVv hJ [.ref v33, .int v35] (st := []) (fr' := 1) (lo' := 20) ml_X10_276 hc_0 (by decide) (by decide) (Nat.le_of_ble_eq_true rfl) dX10_ask_156 rfl (fun _ h9 => ct_X0_include h9) (fun v36 => ?_)
    refine sj (j_sub hJ (L' := [(0, .ref p0), (1, .ref p1), (4, .int p4)]) [3, 4, 5] rfl) ?_
    exact w_X10_ask_b159 hI σ p0 p1 p4 v36
set_option maxHeartbeats 4000000 in
set_option maxRecDepth 100000 in
theorem w_X10_ask_b59 {J : JT} {an : Option Value × St × Dy} (hI : Isj cX10_ask 8 RX10 "ask" 2 81 none an J) {β : Bu} (σ : St) (p0 : Nat) (p1 : Nat) (p2 : Int32) (p3 : Int32) (q0 : Int32) (δ : Dy) : SJ (m_X10_ask_b59 σ p0 p1 p2 p3 q0 δ) (PV σ an) (J 59 [(0, .ref p0), (1, .ref p1), (2, .int p2), (3, .int p3)] [.int q0] β σ δ) := by
  have hJ := hI.cor
  unfold m_X10_ask_b59
  refine sj (j_istore hJ (L' := [(4, .int q0), (0, .ref p0), (1, .ref p1), (2, .int p2), (3, .int p3)]) dX10_ask_59 (by decide) rfl) ?_
  refine sj (j_aload_n hJ dX10_ask_61 rfl 1 rfl) ?_
  refine sj_gR hJ fl_X10_29 rfl dX10_ask_62 (fun v10 => ?_)
  refine sj (j_iconst hJ (v := 2) dX10_ask_65 ic_2) ?_
  refine sj (j_iload_n hJ dX10_ask_66 rfl 3 rfl) ?_
  refine sj (j_imul hJ dX10_ask_67) ?_
  refine sj (j_iload_n hJ dX10_ask_68 rfl 4 rfl) ?_
  refine sj (j_iadd hJ dX10_ask_69) ?_
  refine sj (j_dup2 hJ dX10_ask_70 rfl rfl) ?_
  refine sj_rI hJ dX10_ask_71 (fun v11 => ?_)
  refine sj (j_iconst hJ (v := 1) dX10_ask_72 ic_1) ?_
  refine sj (j_iadd hJ dX10_ask_73) ?_
  refine sj_wI hJ dX10_ask_74 (fun d12 => ?_)
  refine sj (j_sub hJ (L' := [(0, .ref p0), (1, .ref p1), (4, .int q0)]) [1, 2, 0] rfl) ?_
  exact w_X10_ask_b75 hI σ p0 p1 q0 d12
set_option maxHeartbeats 4000000 in
set_option maxRecDepth 100000 in
theorem w_X10_ask {J : JT} {an : Option Value × St × Dy} (hI : Isj cX10_ask 8 RX10 "ask" 2 81 none an J) {β : Bu} (σ : St) (p0 : Nat) (p1 : Nat) (p2 : Int32) (p3 : Int32) (δ : Dy) : SJ (m_X10_ask σ p0 p1 p2 p3 δ) (PV σ an) (J 0 [(0, .ref p0), (1, .ref p1), (2, .int p2), (3, .int p3)] [] β σ δ) := by
  have hJ := hI.cor
  unfold m_X10_ask
  refine sj (j_iload_n hJ dX10_ask_0 rfl 3 rfl) ?_
  refine sj (j_iconst hJ (v := -1) dX10_ask_1 ic_m1) ?_
  refine sj_if (j_icmp_ne hJ (tgt := 18) dX10_ask_2 (by decide)) (fun _ => ?_) (fun _ => ?_)
  · refine sj (j_aload_n hJ dX10_ask_5 rfl 1 rfl) ?_
    refine sj_gR hJ fl_X10_127 rfl dX10_ask_6 (fun v1 => ?_)
    refine sj (j_iload_n hJ dX10_ask_9 rfl 2 rfl) ?_
    refine sj (j_aload_n hJ dX10_ask_10 rfl 0 rfl) ?_
    refine sj_gR hJ fl_X10_41 rfl dX10_ask_11 (fun v2 => ?_)
    refine sj_callVv hJ [.int p2, .ref v2] (st := []) (fr' := 1) (lo' := 59) ml_X10_120 hc_1 (by decide) (by decide) (Nat.le_of_ble_eq_true rfl) dX10_ask_14 rfl (fun _ h9 => ct_X1_add h9) (fun v3 => ?_)
    exact sj_vret hI dX10_ask_17 (fun h => h)
  · refine sj (j_iload_n hJ dX10_ask_18 rfl 2 rfl) ?_
    refine sj (j_istore hJ (L' := [(4, .int p2), (0, .ref p0), (1, .ref p1), (2, .int p2), (3, .int p3)]) dX10_ask_19 (by decide) rfl) ?_
    refine sj (j_aload_n hJ dX10_ask_21 rfl 1 rfl) ?_
    refine sj_gR hJ fl_X10_45 rfl dX10_ask_22 (fun v4 => ?_)
    refine sj_gR hJ fl_X10_209 rfl dX10_ask_25 (fun v5 => ?_)
    refine sj (j_iload_n hJ dX10_ask_28 rfl 3 rfl) ?_
    refine sj_rI hJ dX10_ask_29 (fun v6 => ?_)
    refine sj (j_iconst hJ (v := 5) dX10_ask_30 ic_5) ?_
    refine sj_if (j_icmp_ne hJ (tgt := 75) dX10_ask_31 (by decide)) (fun _ => ?_) (fun _ => ?_)
    · refine sj (j_iload_n hJ dX10_ask_34 rfl 4 rfl) ?_
      refine sj_if (j_if_ne hJ (tgt := 50) dX10_ask_35 (by decide)) (fun _ => ?_) (fun _ => ?_)
      · refine sj (j_aload_n hJ dX10_ask_38 rfl 1 rfl) ?_
        refine sj_gR hJ fl_X10_45 rfl dX10_ask_39 (fun v7 => ?_)
        refine sj_gR hJ fl_X10_226 rfl dX10_ask_42 (fun v8 => ?_)
        refine sj (j_iload_n hJ dX10_ask_45 rfl 3 rfl) ?_
        refine sj_rI hJ dX10_ask_46 (fun v9 => ?_)
        refine sj (j_goto hJ (tgt := 59) dX10_ask_47 (by decide)) ?_
        refine sj (j_sub hJ (L' := [(0, .ref p0), (1, .ref p1), (2, .int p2), (3, .int p3)]) [1, 2, 3, 4] rfl) ?_
        exact w_X10_ask_b59 hI σ p0 p1 p2 p3 v9 δ
      · refine sj (j_aload_n hJ dX10_ask_50 rfl 1 rfl) ?_
        refine sj_gR hJ fl_X10_45 rfl dX10_ask_51 (fun v37 => ?_)
        refine sj_gR hJ fl_X10_229 rfl dX10_ask_54 (fun v38 => ?_)
        refine sj (j_iload_n hJ dX10_ask_57 rfl 3 rfl) ?_
        refine sj_rI hJ dX10_ask_58 (fun v39 => ?_)
        refine sj (j_sub hJ (L' := [(0, .ref p0), (1, .ref p1), (2, .int p2), (3, .int p3)]) [1, 2, 3, 4] rfl) ?_
        exact w_X10_ask_b59 hI σ p0 p1 p2 p3 v39 δ
    · refine sj (j_sub hJ (L' := [(0, .ref p0), (1, .ref p1), (4, .int p2)]) [1, 2, 0] rfl) ?_
      exact w_X10_ask_b75 hI σ p0 p1 p2 δ
theorem ct_X10_ask {σ : St} {p0 : Nat} {p1 : Nat} {p2 : Int32} {p3 : Int32} {δ : Dy} {r : Dy} (h : m_X10_ask σ p0 p1 p2 p3 δ = some r) : CT yX10_ask cX10_ask 8 none 2 81 0 0 [.ref p0, .ref p1, .int p2, .int p3] σ δ (none, σ, r) := CT_of (by decide +kernel) (Nat.le_of_ble_eq_true rfl) (fun J hI => w_X10_ask hI σ p0 p1 p2 p3 δ r h rfl)
def m_X10_act_b231 (σ : St) (p0 : Nat) (q0 : Nat) (q1 : Int32) (q2 : Int32) (q3 : Int32) (q4 : Int32) (δ : Dy) : Option Dy :=
  (gR σ 10 p0 7).bind fun v35 =>
  (gL σ δ 0 v35 2).bind fun v36 =>
  (gR σ 10 p0 7).bind fun v37 =>
  (gL σ δ 0 v37 3).bind fun v38 =>
  (chk σ 6 q0).bind fun _ => (m_X6_tellToken σ q0 q1 q2 q3 q4 v36 v38 δ).bind fun v39 =>
  some v39
def m_X10_act_b210 (σ : St) (p0 : Nat) (p5 : Int32) (p6 : Int32) (p7 : Int32) (p8 : Int32) (δ : Dy) : Option Dy :=
  (gR σ 10 p0 2).bind fun v34 =>
  if p5 = (2 : Int32) then
    m_X10_act_b231 σ p0 v34 p6 p7 p8 (1 : Int32) δ
  else
    m_X10_act_b231 σ p0 v34 p6 p7 p8 (0 : Int32) δ
def m_X10_act_b274 (σ : St) (p0 : Nat) (p1 : Nat) (p4 : Int32) (δ : Dy) : Option Dy :=
  (chk σ 10 p0).bind fun _ => (m_X10_sideOf σ p0 p4 δ).bind fun v44 =>
  (chk σ 10 p0).bind fun _ => (m_X10_ask σ p0 p1 p4 v44 δ).bind fun v45 =>
  some v45
def m_X10_act_b385 (σ : St) (p0 : Nat) (q0 : Nat) (q1 : Int32) (δ : Dy) : Option Dy :=
  (gR σ 10 p0 7).bind fun v60 =>
  (chk σ 1 q0).bind fun _ => (m_X1_add σ q0 q1 v60 δ).bind fun v61 =>
  some v61
def m_X10_act_b407 (σ : St) (p0 : Nat) (p1 : Nat) (p4 : Int32) (δ : Dy) : Option Dy :=
  (gR σ 4 p1 1).bind fun v63 =>
  (gR σ 10 p0 7).bind fun v64 =>
  (chk σ 1 v63).bind fun _ => (m_X1_add σ v63 p4 v64 δ).bind fun v65 =>
  some v65
def m_X10_act (σ : St) (p0 : Nat) (p1 : Nat) (p2 : Int32) (δ : Dy) : Option Dy :=
  (gR σ 4 p1 0).bind fun v1 =>
  (gR σ 10 p0 7).bind fun v2 =>
  (chk σ 1 v1).bind fun _ => (m_X1_read σ v1 p2 v2 δ).bind fun v3 =>
  (chk σ 1 v1).bind fun _ => (m_X1_drop σ v1 p2 v3).bind fun v4 =>
  (gR σ 10 p0 1).bind fun v5 =>
  (chk σ 8 v5).bind fun _ => (m_X8_mayAct σ v5 v4).bind fun v6 =>
  if v6.1 = 0 then
    some v6.2
  else
    (gR σ 10 p0 7).bind fun v7 =>
    (gI σ v6.2 0 v7 1).bind fun v8 =>
    (gR σ 10 p0 0).bind fun v9 =>
    (gR σ 5 v9 0).bind fun v10 =>
    (rI σ v6.2 v10 v8).bind fun v11 =>
    (gR σ 10 p0 0).bind fun v12 =>
    (gR σ 5 v12 1).bind fun v13 =>
    (rI σ v6.2 v13 v8).bind fun v14 =>
    (gR σ 10 p0 7).bind fun v15 =>
    (gR σ 10 p0 0).bind fun v16 =>
    (gR σ 5 v16 2).bind fun v17 =>
    (rI σ v6.2 v17 v8).bind fun v18 =>
    (chk σ 0 v15).bind fun _ => (m_X0_look σ v15 v18 v6.2).bind fun v19 =>
    (gR σ 10 p0 7).bind fun v20 =>
    (gR σ 10 p0 0).bind fun v21 =>
    (gR σ 5 v21 3).bind fun v22 =>
    (rI σ v6.2 v22 v8).bind fun v23 =>
    (chk σ 0 v20).bind fun _ => (m_X0_look σ v20 v23 v6.2).bind fun v24 =>
    (gR σ 10 p0 0).bind fun v25 =>
    (gR σ 5 v25 4).bind fun v26 =>
    (rI σ v6.2 v26 v8).bind fun v27 =>
    (gR σ 10 p0 0).bind fun v28 =>
    (gR σ 5 v28 5).bind fun v29 =>
    (rI σ v6.2 v29 v8).bind fun v30 =>
    if v11 = (0 : Int32) then
      (gR σ 10 p0 2).bind fun v32 =>
      (chk σ 6 v32).bind fun _ => (m_X6_tellEqual σ v32 v19 v24 v6.2).bind fun v33 =>
      some v33
    else
    if v11 = (1 : Int32) then
      m_X10_act_b210 σ p0 v11 v14 v19 v24 v6.2
    else
    if v11 = (2 : Int32) then
      m_X10_act_b210 σ p0 v11 v14 v19 v24 v6.2
    else
    if v11 = (3 : Int32) then
      (gR σ 10 p0 7).bind fun v40 =>
      (chk σ 1 v1).bind fun _ => (m_X1_add σ v1 v27 v40 v6.2).bind fun v41 =>
      (gR σ 10 p0 7).bind fun v42 =>
      (chk σ 1 v1).bind fun _ => (m_X1_add σ v1 v30 v42 v41).bind fun v43 =>
      some v43
    else
    if v11 = (4 : Int32) then
      m_X10_act_b274 σ p0 p1 v8 v6.2
    else
    if v11 = (5 : Int32) then
      m_X10_act_b274 σ p0 p1 v8 v6.2
    else
    if v11 = (6 : Int32) then
      (chk σ 10 p0).bind fun _ => (m_X10_conceal σ p0 p1 v14 v27 v6.2).bind fun v46 =>
      some v46
    else
    if v11 = (7 : Int32) then
      (gR σ 10 p0 4).bind fun v47 =>
      (rI σ v6.2 v47 v14).bind fun v48 =>
      (chk σ 10 p0).bind fun _ => (m_X10_enter σ p0 p1 v48 v19 v24 v6.2).bind fun v49 =>
      some v49
    else
    if v11 = (8 : Int32) then
      (gR σ 4 p1 3).bind fun v50 =>
      (gR σ 10 p0 7).bind fun v51 =>
      (chk σ 1 v50).bind fun _ => (m_X1_add σ v50 v27 v51 v6.2).bind fun v52 =>
      some v52
    else
    if v11 = (9 : Int32) then
      (gR σ 10 p0 7).bind fun v53 =>
      (chk σ 1 v1).bind fun _ => (m_X1_add σ v1 v27 v53 v6.2).bind fun v54 =>
      (gR σ 4 p1 3).bind fun v55 =>
      (gR σ 10 p0 7).bind fun v56 =>
      (chk σ 1 v55).bind fun _ => (m_X1_add σ v55 v8 v56 v54).bind fun v57 =>
      some v57
    else
    if v11 = (12 : Int32) then
      (gR σ 10 p0 3).bind fun v58 =>
      (chk σ 2 v58).bind fun _ => (m_X2_isFirst σ v58 v19 v24 v6.2).bind fun v59 =>
      if v59.1 = 0 then
        m_X10_act_b385 σ p0 v1 v30 v59.2
      else
        m_X10_act_b385 σ p0 v1 v27 v59.2
    else
    if v11 = (13 : Int32) then
      (chk σ 10 p0).bind fun _ => (m_X10_dare σ p0 p1 v27 v30 v6.2).bind fun v62 =>
      some v62
    else
    m_X10_act_b407 σ p0 p1 v8 v6.2
set_option maxHeartbeats 4000000 in
set_option maxRecDepth 100000 in
theorem w_X10_act_b231 {J : JT} {an : Option Value × St × Dy} (hI : Isj cX10_act 11 RX10 "act" 5 120 none an J) {β : Bu} (σ : St) (p0 : Nat) (q0 : Nat) (q1 : Int32) (q2 : Int32) (q3 : Int32) (q4 : Int32) (δ : Dy) : SJ (m_X10_act_b231 σ p0 q0 q1 q2 q3 q4 δ) (PV σ an) (J 231 [(0, .ref p0)] [.int q4, .int q3, .int q2, .int q1, .ref q0] β σ δ) := by
  have hJ := hI.cor
  unfold m_X10_act_b231
  refine sj (j_aload_n hJ dX10_act_231 rfl 0 rfl) ?_
  refine sj_gR hJ fl_X10_41 rfl dX10_act_232 (fun v35 => ?_)
  refine sj_gL hJ fl_X10_113 rfl dX10_act_235 (fun v36 => ?_)
  refine sj (j_aload_n hJ dX10_act_238 rfl 0 rfl) ?_
  refine sj_gR hJ fl_X10_41 rfl dX10_act_239 (fun v37 => ?_)
  refine sj_gL hJ fl_X10_117 rfl dX10_act_242 (fun v38 => ?_)
  refine sj_callVv hJ [.int q1, .int q2, .int q3, .int q4, .long v36, .long v38] (st := []) (fr' := 1) (lo' := 28) ml_X10_236 hc_6 (by decide) (by decide) (Nat.le_of_ble_eq_true rfl) dX10_act_245 rfl (fun _ h9 => ct_X6_tellToken h9) (fun v39 => ?_)
  refine sj (j_goto hJ (tgt := 420) dX10_act_248 (by decide)) ?_
  exact sj_vret hI dX10_act_420 (fun h => h)
set_option maxHeartbeats 4000000 in
set_option maxRecDepth 100000 in
theorem w_X10_act_b210 {J : JT} {an : Option Value × St × Dy} (hI : Isj cX10_act 11 RX10 "act" 5 120 none an J) {β : Bu} (σ : St) (p0 : Nat) (p5 : Int32) (p6 : Int32) (p7 : Int32) (p8 : Int32) (δ : Dy) : SJ (m_X10_act_b210 σ p0 p5 p6 p7 p8 δ) (PV σ an) (J 210 [(0, .ref p0), (5, .int p5), (6, .int p6), (7, .int p7), (8, .int p8)] [] β σ δ) := by
  have hJ := hI.cor
  unfold m_X10_act_b210
  refine sj (j_aload_n hJ dX10_act_210 rfl 0 rfl) ?_
  refine sj_gR hJ fl_X10_54 rfl dX10_act_211 (fun v34 => ?_)
  refine sj (j_iload hJ dX10_act_214 2 rfl) ?_
  refine sj (j_iload hJ dX10_act_216 3 rfl) ?_
  refine sj (j_iload hJ dX10_act_218 4 rfl) ?_
  refine sj (j_iload hJ dX10_act_220 1 rfl) ?_
  refine sj (j_iconst hJ (v := 2) dX10_act_222 ic_2) ?_
  refine sj_if (j_icmp_ne hJ (tgt := 230) dX10_act_223 (by decide)) (fun _ => ?_) (fun _ => ?_)
  · refine sj (j_iconst hJ (v := 1) dX10_act_226 ic_1) ?_
    refine sj (j_goto hJ (tgt := 231) dX10_act_227 (by decide)) ?_
    refine sj (j_sub hJ (L' := [(0, .ref p0)]) [0] rfl) ?_
    exact w_X10_act_b231 hI σ p0 v34 p6 p7 p8 (1 : Int32) δ
  · refine sj (j_iconst hJ (v := 0) dX10_act_230 ic_0) ?_
    refine sj (j_sub hJ (L' := [(0, .ref p0)]) [0] rfl) ?_
    exact w_X10_act_b231 hI σ p0 v34 p6 p7 p8 (0 : Int32) δ
set_option maxHeartbeats 4000000 in
set_option maxRecDepth 100000 in
theorem w_X10_act_b274 {J : JT} {an : Option Value × St × Dy} (hI : Isj cX10_act 11 RX10 "act" 5 120 none an J) {β : Bu} (σ : St) (p0 : Nat) (p1 : Nat) (p4 : Int32) (δ : Dy) : SJ (m_X10_act_b274 σ p0 p1 p4 δ) (PV σ an) (J 274 [(0, .ref p0), (1, .ref p1), (4, .int p4)] [] β σ δ) := by
  have hJ := hI.cor
  unfold m_X10_act_b274
  refine sj (j_aload_n hJ dX10_act_274 rfl 0 rfl) ?_
  refine sj (j_aload_n hJ dX10_act_275 rfl 1 rfl) ?_
  refine sj (j_iload hJ dX10_act_276 2 rfl) ?_
  refine sj (j_aload_n hJ dX10_act_278 rfl 0 rfl) ?_
  refine sj (j_iload hJ dX10_act_279 2 rfl) ?_
  refine sj_callVip hJ [.int p4] (st := [.int p4, .ref p1, .ref p0]) (fr' := 4) (lo' := 96) ml_X10_240 hc_10 (by decide) (by decide) (Nat.le_of_ble_eq_true rfl) dX10_act_281 rfl (fun _ h9 => ct_X10_sideOf h9) (fun v44 => ?_)
  refine sj_callVv hJ [.ref p1, .int p4, .int v44] (st := []) (fr' := 2) (lo' := 81) ml_X10_243 hc_10 (by decide) (by decide) (Nat.le_of_ble_eq_true rfl) dX10_act_284 rfl (fun _ h9 => ct_X10_ask h9) (fun v45 => ?_)
  refine sj (j_goto hJ (tgt := 420) dX10_act_287 (by decide)) ?_
  exact sj_vret hI dX10_act_420 (fun h => h)
set_option maxHeartbeats 4000000 in
set_option maxRecDepth 100000 in
theorem w_X10_act_b385 {J : JT} {an : Option Value × St × Dy} (hI : Isj cX10_act 11 RX10 "act" 5 120 none an J) {β : Bu} (σ : St) (p0 : Nat) (q0 : Nat) (q1 : Int32) (δ : Dy) : SJ (m_X10_act_b385 σ p0 q0 q1 δ) (PV σ an) (J 385 [(0, .ref p0)] [.int q1, .ref q0] β σ δ) := by
  have hJ := hI.cor
  unfold m_X10_act_b385
  refine sj (j_aload_n hJ dX10_act_385 rfl 0 rfl) ?_
  refine sj_gR hJ fl_X10_41 rfl dX10_act_386 (fun v60 => ?_)
  refine sj_callVv hJ [.int q1, .ref v60] (st := []) (fr' := 1) (lo' := 59) ml_X10_120 hc_1 (by decide) (by decide) (Nat.le_of_ble_eq_true rfl) dX10_act_389 rfl (fun _ h9 => ct_X1_add h9) (fun v61 => ?_)
  refine sj (j_goto hJ (tgt := 420) dX10_act_392 (by decide)) ?_
  exact sj_vret hI dX10_act_420 (fun h => h)
set_option maxHeartbeats 4000000 in
set_option maxRecDepth 100000 in
theorem w_X10_act_b407 {J : JT} {an : Option Value × St × Dy} (hI : Isj cX10_act 11 RX10 "act" 5 120 none an J) {β : Bu} (σ : St) (p0 : Nat) (p1 : Nat) (p4 : Int32) (δ : Dy) : SJ (m_X10_act_b407 σ p0 p1 p4 δ) (PV σ an) (J 407 [(0, .ref p0), (1, .ref p1), (4, .int p4)] [] β σ δ) := by
  have hJ := hI.cor
  unfold m_X10_act_b407
  refine sj (j_aload_n hJ dX10_act_407 rfl 1 rfl) ?_
  refine sj_gR hJ fl_X10_127 rfl dX10_act_408 (fun v63 => ?_)
  refine sj (j_iload hJ dX10_act_411 2 rfl) ?_
  refine sj (j_aload_n hJ dX10_act_413 rfl 0 rfl) ?_
  refine sj_gR hJ fl_X10_41 rfl dX10_act_414 (fun v64 => ?_)
  refine sj_callVv hJ [.int p4, .ref v64] (st := []) (fr' := 1) (lo' := 59) ml_X10_120 hc_1 (by decide) (by decide) (Nat.le_of_ble_eq_true rfl) dX10_act_417 rfl (fun _ h9 => ct_X1_add h9) (fun v65 => ?_)
  exact sj_vret hI dX10_act_420 (fun h => h)
set_option maxHeartbeats 4000000 in
set_option maxRecDepth 100000 in
theorem w_X10_act {J : JT} {an : Option Value × St × Dy} (hI : Isj cX10_act 11 RX10 "act" 5 120 none an J) {β : Bu} (σ : St) (p0 : Nat) (p1 : Nat) (p2 : Int32) (δ : Dy) : SJ (m_X10_act σ p0 p1 p2 δ) (PV σ an) (J 0 [(0, .ref p0), (1, .ref p1), (2, .int p2)] [] β σ δ) := by
  have hJ := hI.cor
  unfold m_X10_act
  refine sj (j_aload_n hJ dX10_act_0 rfl 1 rfl) ?_
  refine sj_gR hJ fl_X10_124 rfl dX10_act_1 (fun v1 => ?_)
  refine sj (j_astore_n hJ (L' := [(3, .ref v1), (0, .ref p0), (1, .ref p1), (2, .int p2)]) dX10_act_4 rfl (by decide) rfl) ?_
  refine sj (j_aload_n hJ dX10_act_5 rfl 0 rfl) ?_
  refine sj (j_iload_n hJ dX10_act_6 rfl 3 rfl) ?_
  refine sj (j_aload_n hJ dX10_act_7 rfl 1 rfl) ?_
  refine sj_gR hJ fl_X10_41 rfl dX10_act_8 (fun v2 => ?_)
  refine sj_callVv hJ [.int p2, .ref v2] (st := []) (fr' := 1) (lo' := 59) ml_X10_197 hc_1 (by decide) (by decide) (Nat.le_of_ble_eq_true rfl) dX10_act_11 rfl (fun _ h9 => ct_X1_read h9) (fun v3 => ?_)
  refine sj (j_aload_n hJ dX10_act_14 rfl 0 rfl) ?_
  refine sj (j_iload_n hJ dX10_act_15 rfl 3 rfl) ?_
  refine sj_callVv hJ [.int p2] (st := []) (fr' := 1) (lo' := 59) ml_X10_203 hc_1 (by decide) (by decide) (Nat.le_of_ble_eq_true rfl) dX10_act_16 rfl (fun _ h9 => ct_X1_drop h9) (fun v4 => ?_)
  refine sj (j_aload_n hJ dX10_act_19 rfl 1 rfl) ?_
  refine sj_gR hJ fl_X10_12 rfl dX10_act_20 (fun v5 => ?_)
  refine sj_callVi hJ [] (st := []) (fr' := 0) (lo' := 0) ml_X10_206 hc_8 (by decide) (by decide) (Nat.le_of_ble_eq_true rfl) dX10_act_23 rfl (fun _ h9 => ct_X8_mayAct h9) (fun v6 => ?_)
  refine sj_if (j_if_ne hJ (tgt := 30) dX10_act_26 (by decide)) (fun _ => ?_) (fun _ => ?_)
  · exact sj_vret hI dX10_act_29 (fun h => h)
  · refine sj (j_aload_n hJ dX10_act_30 rfl 1 rfl) ?_
    refine sj_gR hJ fl_X10_41 rfl dX10_act_31 (fun v7 => ?_)
    refine sj_gI hJ fl_X10_200 (Or.inl rfl) dX10_act_34 (fun v8 => ?_)
    refine sj (j_istore hJ (L' := [(4, .int v8), (3, .ref v1), (0, .ref p0), (1, .ref p1), (2, .int p2)]) dX10_act_37 (by decide) rfl) ?_
    refine sj (j_aload_n hJ dX10_act_39 rfl 2 rfl) ?_
    refine sj_gR hJ fl_X10_45 rfl dX10_act_40 (fun v9 => ?_)
    refine sj_gR hJ fl_X10_209 rfl dX10_act_43 (fun v10 => ?_)
    refine sj (j_iload hJ dX10_act_46 0 rfl) ?_
    refine sj_rI hJ dX10_act_48 (fun v11 => ?_)
    refine sj (j_istore hJ (L' := [(5, .int v11), (4, .int v8), (3, .ref v1), (0, .ref p0), (1, .ref p1), (2, .int p2)]) dX10_act_49 (by decide) rfl) ?_
    refine sj (j_aload_n hJ dX10_act_51 rfl 3 rfl) ?_
    refine sj_gR hJ fl_X10_45 rfl dX10_act_52 (fun v12 => ?_)
    refine sj_gR hJ fl_X10_214 rfl dX10_act_55 (fun v13 => ?_)
    refine sj (j_iload hJ dX10_act_58 1 rfl) ?_
    refine sj_rI hJ dX10_act_60 (fun v14 => ?_)
    refine sj (j_istore hJ (L' := [(6, .int v14), (5, .int v11), (4, .int v8), (3, .ref v1), (0, .ref p0), (1, .ref p1), (2, .int p2)]) dX10_act_61 (by decide) rfl) ?_
    refine sj (j_aload_n hJ dX10_act_63 rfl 4 rfl) ?_
    refine sj_gR hJ fl_X10_41 rfl dX10_act_64 (fun v15 => ?_)
    refine sj (j_aload_n hJ dX10_act_67 rfl 4 rfl) ?_
    refine sj_gR hJ fl_X10_45 rfl dX10_act_68 (fun v16 => ?_)
    refine sj_gR hJ fl_X10_217 rfl dX10_act_71 (fun v17 => ?_)
    refine sj (j_iload hJ dX10_act_74 2 rfl) ?_
    refine sj_rI hJ dX10_act_76 (fun v18 => ?_)
    refine sj_callVip hJ [.int v18] (st := []) (fr' := 1) (lo' := 20) ml_X10_220 hc_0 (by decide) (by decide) (Nat.le_of_ble_eq_true rfl) dX10_act_77 rfl (fun _ h9 => ct_X0_look h9) (fun v19 => ?_)
    refine sj (j_istore hJ (L' := [(7, .int v19), (6, .int v14), (5, .int v11), (4, .int v8), (3, .ref v1), (0, .ref p0), (1, .ref p1), (2, .int p2)]) dX10_act_80 (by decide) rfl) ?_
    refine sj (j_aload_n hJ dX10_act_82 rfl 5 rfl) ?_
    refine sj_gR hJ fl_X10_41 rfl dX10_act_83 (fun v20 => ?_)
    refine sj (j_aload_n hJ dX10_act_86 rfl 5 rfl) ?_
    refine sj_gR hJ fl_X10_45 rfl dX10_act_87 (fun v21 => ?_)
    refine sj_gR hJ fl_X10_223 rfl dX10_act_90 (fun v22 => ?_)
    refine sj (j_iload hJ dX10_act_93 3 rfl) ?_
    refine sj_rI hJ dX10_act_95 (fun v23 => ?_)
    refine sj_callVip hJ [.int v23] (st := []) (fr' := 1) (lo' := 20) ml_X10_220 hc_0 (by decide) (by decide) (Nat.le_of_ble_eq_true rfl) dX10_act_96 rfl (fun _ h9 => ct_X0_look h9) (fun v24 => ?_)
    refine sj (j_istore hJ (L' := [(8, .int v24), (7, .int v19), (6, .int v14), (5, .int v11), (4, .int v8), (3, .ref v1), (0, .ref p0), (1, .ref p1), (2, .int p2)]) dX10_act_99 (by decide) rfl) ?_
    refine sj (j_aload_n hJ dX10_act_101 rfl 6 rfl) ?_
    refine sj_gR hJ fl_X10_45 rfl dX10_act_102 (fun v25 => ?_)
    refine sj_gR hJ fl_X10_226 rfl dX10_act_105 (fun v26 => ?_)
    refine sj (j_iload hJ dX10_act_108 4 rfl) ?_
    refine sj_rI hJ dX10_act_110 (fun v27 => ?_)
    refine sj (j_istore hJ (L' := [(9, .int v27), (8, .int v24), (7, .int v19), (6, .int v14), (5, .int v11), (4, .int v8), (3, .ref v1), (0, .ref p0), (1, .ref p1), (2, .int p2)]) dX10_act_111 (by decide) rfl) ?_
    refine sj (j_aload_n hJ dX10_act_113 rfl 7 rfl) ?_
    refine sj_gR hJ fl_X10_45 rfl dX10_act_114 (fun v28 => ?_)
    refine sj_gR hJ fl_X10_229 rfl dX10_act_117 (fun v29 => ?_)
    refine sj (j_iload hJ dX10_act_120 5 rfl) ?_
    refine sj_rI hJ dX10_act_122 (fun v30 => ?_)
    refine sj (j_istore hJ (L' := [(10, .int v30), (9, .int v27), (8, .int v24), (7, .int v19), (6, .int v14), (5, .int v11), (4, .int v8), (3, .ref v1), (0, .ref p0), (1, .ref p1), (2, .int p2)]) dX10_act_123 (by decide) rfl) ?_
    refine sj (j_iload hJ dX10_act_125 5 rfl) ?_
    refine sj_ifc (fun h31 => ?_) (fun h31_0 => ?_)
    · refine sj (fun k9 => j_tableIn hJ dX10_act_127 (off := 69) (by rw [h31]; decide) (by rw [h31]; decide) (by rw [h31]; decide) (tgt := 196) (by decide) k9) ?_
      refine sj (j_aload_n hJ dX10_act_196 rfl 8 rfl) ?_
      refine sj_gR hJ fl_X10_54 rfl dX10_act_197 (fun v32 => ?_)
      refine sj (j_iload hJ dX10_act_200 3 rfl) ?_
      refine sj (j_iload hJ dX10_act_202 2 rfl) ?_
      refine sj_callVv hJ [.int v19, .int v24] (st := []) (fr' := 2) (lo' := 52) ml_X10_232 hc_6 (by decide) (by decide) (Nat.le_of_ble_eq_true rfl) dX10_act_204 rfl (fun _ h9 => ct_X6_tellEqual h9) (fun v33 => ?_)
      refine sj (j_goto hJ (tgt := 420) dX10_act_207 (by decide)) ?_
      exact sj_vret hI dX10_act_420 (fun h => h)
    refine sj_ifc (fun h31 => ?_) (fun h31_1 => ?_)
    · refine sj (fun k9 => j_tableIn hJ dX10_act_127 (off := 83) (by rw [h31]; decide) (by rw [h31]; decide) (by rw [h31]; decide) (tgt := 210) (by decide) k9) ?_
      refine sj (j_sub hJ (L' := [(0, .ref p0), (5, .int v11), (6, .int v14), (7, .int v19), (8, .int v24)]) [8, 5, 4, 3, 2] rfl) ?_
      exact w_X10_act_b210 hI σ p0 v11 v14 v19 v24 v6.2
    refine sj_ifc (fun h31 => ?_) (fun h31_2 => ?_)
    · refine sj (fun k9 => j_tableIn hJ dX10_act_127 (off := 83) (by rw [h31]; decide) (by rw [h31]; decide) (by rw [h31]; decide) (tgt := 210) (by decide) k9) ?_
      refine sj (j_sub hJ (L' := [(0, .ref p0), (5, .int v11), (6, .int v14), (7, .int v19), (8, .int v24)]) [8, 5, 4, 3, 2] rfl) ?_
      exact w_X10_act_b210 hI σ p0 v11 v14 v19 v24 v6.2
    refine sj_ifc (fun h31 => ?_) (fun h31_3 => ?_)
    · refine sj (fun k9 => j_tableIn hJ dX10_act_127 (off := 124) (by rw [h31]; decide) (by rw [h31]; decide) (by rw [h31]; decide) (tgt := 251) (by decide) k9) ?_
      refine sj (j_aload_n hJ dX10_act_251 rfl 7 rfl) ?_
      refine sj (j_iload hJ dX10_act_252 1 rfl) ?_
      refine sj (j_aload_n hJ dX10_act_254 rfl 8 rfl) ?_
      refine sj_gR hJ fl_X10_41 rfl dX10_act_255 (fun v40 => ?_)
      refine sj_callVv hJ [.int v27, .ref v40] (st := []) (fr' := 1) (lo' := 59) ml_X10_120 hc_1 (by decide) (by decide) (Nat.le_of_ble_eq_true rfl) dX10_act_258 rfl (fun _ h9 => ct_X1_add h9) (fun v41 => ?_)
      refine sj (j_aload_n hJ dX10_act_261 rfl 7 rfl) ?_
      refine sj (j_iload hJ dX10_act_262 0 rfl) ?_
      refine sj (j_aload_n hJ dX10_act_264 rfl 8 rfl) ?_
      refine sj_gR hJ fl_X10_41 rfl dX10_act_265 (fun v42 => ?_)
      refine sj_callVv hJ [.int v30, .ref v42] (st := []) (fr' := 1) (lo' := 59) ml_X10_120 hc_1 (by decide) (by decide) (Nat.le_of_ble_eq_true rfl) dX10_act_268 rfl (fun _ h9 => ct_X1_add h9) (fun v43 => ?_)
      refine sj (j_goto hJ (tgt := 420) dX10_act_271 (by decide)) ?_
      exact sj_vret hI dX10_act_420 (fun h => h)
    refine sj_ifc (fun h31 => ?_) (fun h31_4 => ?_)
    · refine sj (fun k9 => j_tableIn hJ dX10_act_127 (off := 147) (by rw [h31]; decide) (by rw [h31]; decide) (by rw [h31]; decide) (tgt := 274) (by decide) k9) ?_
      refine sj (j_sub hJ (L' := [(0, .ref p0), (1, .ref p1), (4, .int v8)]) [8, 9, 6] rfl) ?_
      exact w_X10_act_b274 hI σ p0 p1 v8 v6.2
    refine sj_ifc (fun h31 => ?_) (fun h31_5 => ?_)
    · refine sj (fun k9 => j_tableIn hJ dX10_act_127 (off := 147) (by rw [h31]; decide) (by rw [h31]; decide) (by rw [h31]; decide) (tgt := 274) (by decide) k9) ?_
      refine sj (j_sub hJ (L' := [(0, .ref p0), (1, .ref p1), (4, .int v8)]) [8, 9, 6] rfl) ?_
      exact w_X10_act_b274 hI σ p0 p1 v8 v6.2
    refine sj_ifc (fun h31 => ?_) (fun h31_6 => ?_)
    · refine sj (fun k9 => j_tableIn hJ dX10_act_127 (off := 163) (by rw [h31]; decide) (by rw [h31]; decide) (by rw [h31]; decide) (tgt := 290) (by decide) k9) ?_
      refine sj (j_aload_n hJ dX10_act_290 rfl 8 rfl) ?_
      refine sj (j_aload_n hJ dX10_act_291 rfl 9 rfl) ?_
      refine sj (j_iload hJ dX10_act_292 4 rfl) ?_
      refine sj (j_iload hJ dX10_act_294 1 rfl) ?_
      refine sj_callVv hJ [.ref p1, .int v14, .int v27] (st := []) (fr' := 2) (lo' := 81) ml_X10_247 hc_10 (by decide) (by decide) (Nat.le_of_ble_eq_true rfl) dX10_act_296 rfl (fun _ h9 => ct_X10_conceal h9) (fun v46 => ?_)
      refine sj (j_goto hJ (tgt := 420) dX10_act_299 (by decide)) ?_
      exact sj_vret hI dX10_act_420 (fun h => h)
    refine sj_ifc (fun h31 => ?_) (fun h31_7 => ?_)
    · refine sj (fun k9 => j_tableIn hJ dX10_act_127 (off := 175) (by rw [h31]; decide) (by rw [h31]; decide) (by rw [h31]; decide) (tgt := 302) (by decide) k9) ?_
      refine sj (j_aload_n hJ dX10_act_302 rfl 8 rfl) ?_
      refine sj (j_aload_n hJ dX10_act_303 rfl 9 rfl) ?_
      refine sj (j_aload_n hJ dX10_act_304 rfl 8 rfl) ?_
      refine sj_gR hJ fl_X10_25 rfl dX10_act_305 (fun v47 => ?_)
      refine sj (j_iload hJ dX10_act_308 4 rfl) ?_
      refine sj_rI hJ dX10_act_310 (fun v48 => ?_)
      refine sj (j_iload hJ dX10_act_311 3 rfl) ?_
      refine sj (j_iload hJ dX10_act_313 2 rfl) ?_
      refine sj_callVv hJ [.ref p1, .int v48, .int v19, .int v24] (st := []) (fr' := 2) (lo' := 81) ml_X10_250 hc_10 (by decide) (by decide) (Nat.le_of_ble_eq_true rfl) dX10_act_315 rfl (fun _ h9 => ct_X10_enter h9) (fun v49 => ?_)
      refine sj (j_goto hJ (tgt := 420) dX10_act_318 (by decide)) ?_
      exact sj_vret hI dX10_act_420 (fun h => h)
    refine sj_ifc (fun h31 => ?_) (fun h31_8 => ?_)
    · refine sj (fun k9 => j_tableIn hJ dX10_act_127 (off := 194) (by rw [h31]; decide) (by rw [h31]; decide) (by rw [h31]; decide) (tgt := 321) (by decide) k9) ?_
      refine sj (j_aload_n hJ dX10_act_321 rfl 9 rfl) ?_
      refine sj_gR hJ fl_X10_96 rfl dX10_act_322 (fun v50 => ?_)
      refine sj (j_iload hJ dX10_act_325 1 rfl) ?_
      refine sj (j_aload_n hJ dX10_act_327 rfl 8 rfl) ?_
      refine sj_gR hJ fl_X10_41 rfl dX10_act_328 (fun v51 => ?_)
      refine sj_callVv hJ [.int v27, .ref v51] (st := []) (fr' := 1) (lo' := 59) ml_X10_120 hc_1 (by decide) (by decide) (Nat.le_of_ble_eq_true rfl) dX10_act_331 rfl (fun _ h9 => ct_X1_add h9) (fun v52 => ?_)
      refine sj (j_goto hJ (tgt := 420) dX10_act_334 (by decide)) ?_
      exact sj_vret hI dX10_act_420 (fun h => h)
    refine sj_ifc (fun h31 => ?_) (fun h31_9 => ?_)
    · refine sj (fun k9 => j_tableIn hJ dX10_act_127 (off := 210) (by rw [h31]; decide) (by rw [h31]; decide) (by rw [h31]; decide) (tgt := 337) (by decide) k9) ?_
      refine sj (j_aload_n hJ dX10_act_337 rfl 7 rfl) ?_
      refine sj (j_iload hJ dX10_act_338 1 rfl) ?_
      refine sj (j_aload_n hJ dX10_act_340 rfl 8 rfl) ?_
      refine sj_gR hJ fl_X10_41 rfl dX10_act_341 (fun v53 => ?_)
      refine sj_callVv hJ [.int v27, .ref v53] (st := []) (fr' := 1) (lo' := 59) ml_X10_120 hc_1 (by decide) (by decide) (Nat.le_of_ble_eq_true rfl) dX10_act_344 rfl (fun _ h9 => ct_X1_add h9) (fun v54 => ?_)
      refine sj (j_aload_n hJ dX10_act_347 rfl 9 rfl) ?_
      refine sj_gR hJ fl_X10_96 rfl dX10_act_348 (fun v55 => ?_)
      refine sj (j_iload hJ dX10_act_351 6 rfl) ?_
      refine sj (j_aload_n hJ dX10_act_353 rfl 8 rfl) ?_
      refine sj_gR hJ fl_X10_41 rfl dX10_act_354 (fun v56 => ?_)
      refine sj_callVv hJ [.int v8, .ref v56] (st := []) (fr' := 1) (lo' := 59) ml_X10_120 hc_1 (by decide) (by decide) (Nat.le_of_ble_eq_true rfl) dX10_act_357 rfl (fun _ h9 => ct_X1_add h9) (fun v57 => ?_)
      refine sj (j_goto hJ (tgt := 420) dX10_act_360 (by decide)) ?_
      exact sj_vret hI dX10_act_420 (fun h => h)
    refine sj_ifc (fun h31 => ?_) (fun h31_12 => ?_)
    · refine sj (fun k9 => j_tableIn hJ dX10_act_127 (off := 236) (by rw [h31]; decide) (by rw [h31]; decide) (by rw [h31]; decide) (tgt := 363) (by decide) k9) ?_
      refine sj (j_aload_n hJ dX10_act_363 rfl 7 rfl) ?_
      refine sj (j_aload_n hJ dX10_act_364 rfl 8 rfl) ?_
      refine sj_gR hJ fl_X10_21 rfl dX10_act_365 (fun v58 => ?_)
      refine sj (j_iload hJ dX10_act_368 3 rfl) ?_
      refine sj (j_iload hJ dX10_act_370 2 rfl) ?_
      refine sj_callVi hJ [.int v19, .int v24] (st := [.ref v1]) (fr' := 1) (lo' := 24) ml_X10_254 hc_2 (by decide) (by decide) (Nat.le_of_ble_eq_true rfl) dX10_act_372 rfl (fun _ h9 => ct_X2_isFirst h9) (fun v59 => ?_)
      refine sj_if (j_if_eq hJ (tgt := 383) dX10_act_375 (by decide)) (fun _ => ?_) (fun _ => ?_)
      · refine sj (j_iload hJ dX10_act_383 0 rfl) ?_
        refine sj (j_sub hJ (L' := [(0, .ref p0)]) [8] rfl) ?_
        exact w_X10_act_b385 hI σ p0 v1 v30 v59.2
      · refine sj (j_iload hJ dX10_act_378 1 rfl) ?_
        refine sj (j_goto hJ (tgt := 385) dX10_act_380 (by decide)) ?_
        refine sj (j_sub hJ (L' := [(0, .ref p0)]) [8] rfl) ?_
        exact w_X10_act_b385 hI σ p0 v1 v27 v59.2
    refine sj_ifc (fun h31 => ?_) (fun h31_13 => ?_)
    · refine sj (fun k9 => j_tableIn hJ dX10_act_127 (off := 268) (by rw [h31]; decide) (by rw [h31]; decide) (by rw [h31]; decide) (tgt := 395) (by decide) k9) ?_
      refine sj (j_aload_n hJ dX10_act_395 rfl 8 rfl) ?_
      refine sj (j_aload_n hJ dX10_act_396 rfl 9 rfl) ?_
      refine sj (j_iload hJ dX10_act_397 1 rfl) ?_
      refine sj (j_iload hJ dX10_act_399 0 rfl) ?_
      refine sj_callVv hJ [.ref p1, .int v27, .int v30] (st := []) (fr' := 2) (lo' := 81) ml_X10_258 hc_10 (by decide) (by decide) (Nat.le_of_ble_eq_true rfl) dX10_act_401 rfl (fun _ h9 => ct_X10_dare h9) (fun v62 => ?_)
      refine sj (j_goto hJ (tgt := 420) dX10_act_404 (by decide)) ?_
      exact sj_vret hI dX10_act_420 (fun h => h)
    refine sj (G' := J 407 [(10, .int v30), (9, .int v27), (8, .int v24), (7, .int v19), (6, .int v14), (5, .int v11), (4, .int v8), (3, .ref v1), (0, .ref p0), (1, .ref p1), (2, .int p2)] [] β σ v6.2) (fun k9 => ?_) ?_
    · have g0 : (v11).toInt ≠ 0 := fun q => h31_0 (Int32.toInt_inj.mp (q.trans (by decide)))
      have g1 : (v11).toInt ≠ 1 := fun q => h31_1 (Int32.toInt_inj.mp (q.trans (by decide)))
      have g2 : (v11).toInt ≠ 2 := fun q => h31_2 (Int32.toInt_inj.mp (q.trans (by decide)))
      have g3 : (v11).toInt ≠ 3 := fun q => h31_3 (Int32.toInt_inj.mp (q.trans (by decide)))
      have g4 : (v11).toInt ≠ 4 := fun q => h31_4 (Int32.toInt_inj.mp (q.trans (by decide)))
      have g5 : (v11).toInt ≠ 5 := fun q => h31_5 (Int32.toInt_inj.mp (q.trans (by decide)))
      have g6 : (v11).toInt ≠ 6 := fun q => h31_6 (Int32.toInt_inj.mp (q.trans (by decide)))
      have g7 : (v11).toInt ≠ 7 := fun q => h31_7 (Int32.toInt_inj.mp (q.trans (by decide)))
      have g8 : (v11).toInt ≠ 8 := fun q => h31_8 (Int32.toInt_inj.mp (q.trans (by decide)))
      have g9 : (v11).toInt ≠ 9 := fun q => h31_9 (Int32.toInt_inj.mp (q.trans (by decide)))
      have g12 : (v11).toInt ≠ 12 := fun q => h31_12 (Int32.toInt_inj.mp (q.trans (by decide)))
      have g13 : (v11).toInt ≠ 13 := fun q => h31_13 (Int32.toInt_inj.mp (q.trans (by decide)))
      by_cases hlo : (v11).toInt < 0 ∨ 13 < (v11).toInt
      · exact j_tableOut hJ dX10_act_127 hlo (tgt := 407) (by decide) k9
      · have hg : (v11).toInt = 10 ∨ (v11).toInt = 11 := by omega
        rcases hg with hg | hg <;> exact j_tableIn hJ dX10_act_127 (off := 280) (by omega) (by omega) (by rw [hg]; decide) (tgt := 407) (by decide) k9
    refine sj (j_sub hJ (L' := [(0, .ref p0), (1, .ref p1), (4, .int v8)]) [8, 9, 6] rfl) ?_
    exact w_X10_act_b407 hI σ p0 p1 v8 v6.2
theorem ct_X10_act {σ : St} {p0 : Nat} {p1 : Nat} {p2 : Int32} {δ : Dy} {r : Dy} (h : m_X10_act σ p0 p1 p2 δ = some r) : CT yX10_act cX10_act 11 none 5 120 0 0 [.ref p0, .ref p1, .int p2] σ δ (none, σ, r) := CT_of (by decide +kernel) (Nat.le_of_ble_eq_true rfl) (fun J hI => w_X10_act hI σ p0 p1 p2 δ r h rfl)
def m_X10_goOn_b71 (σ : St) (p0 : Nat) (p1 : Nat) (p2 : Nat) (p3 : Int32) (p4 : Int32) (δ : Dy) : Option ((Int32 × Int32 × Dy) ⊕ (Int32 × Dy)) :=
  some (Sum.inl (p3, (p4 + (-1 : Int32)), δ))
def m_X10_goOn_b13 (σ : St) (p0 : Nat) (p1 : Nat) (p2 : Nat) (p3 : Int32) (p4 : Int32) (δ : Dy) : Option (Int32 × Dy) := lp (fun (s : (Int32 × Int32 × Dy)) =>
  if s.2.1 ≤ 0 then
    (gR σ 4 p1 0).bind fun v3 =>
    (gI σ s.2.2 1 v3 4).bind fun v4 =>
    if v4 ≤ 0 then
      some (Sum.inr ((0 : Int32), s.2.2))
    else
      some (Sum.inr ((1 : Int32), s.2.2))
  else
    (gR σ 10 p0 7).bind fun v5 =>
    (chk σ 1 p2).bind fun _ => (m_X1_read σ p2 s.1 v5 s.2.2).bind fun v6 =>
    (gR σ 10 p0 7).bind fun v7 =>
    (gI σ v6 0 v7 1).bind fun v8 =>
    (chk σ 10 p0).bind fun _ => (m_X10_sideOf σ p0 v8 v6).bind fun v9 =>
    if v9 = (-1 : Int32) then
      m_X10_goOn_b71 σ p0 p1 p2 (s.1 + (1 : Int32)) s.2.1 v6
    else
      (gR σ 4 p1 0).bind fun v10 =>
      (gR σ 10 p0 7).bind fun v11 =>
      (gI σ v6 0 v11 1).bind fun v12 =>
      (gR σ 10 p0 7).bind fun v13 =>
      (chk σ 1 v10).bind fun _ => (m_X1_add σ v10 v12 v13 v6).bind fun v14 =>
      (chk σ 1 p2).bind fun _ => (m_X1_drop σ p2 s.1 v14).bind fun v15 =>
      m_X10_goOn_b71 σ p0 p1 p2 s.1 s.2.1 v15) (p3, p4, δ)
def m_X10_goOn (σ : St) (p0 : Nat) (p1 : Nat) (δ : Dy) : Option (Int32 × Dy) :=
  (gR σ 4 p1 1).bind fun v1 =>
  (gI σ δ 1 v1 4).bind fun v2 =>
  m_X10_goOn_b13 σ p0 p1 v1 (0 : Int32) v2 δ
set_option maxHeartbeats 4000000 in
set_option maxRecDepth 100000 in
theorem w_X10_goOn_b71 {J : JT} {an : Option Value × St × Dy} (hI : Isj cX10_goOn 5 RX10 "goOn" 5 120 (some .boolean) an J) {β : Bu} (σ : St) (p0 : Nat) (p1 : Nat) (p2 : Nat) (p3 : Int32) (p4 : Int32) (δ : Dy) : SJ (m_X10_goOn_b71 σ p0 p1 p2 p3 p4 δ) (PL (fun s : (Int32 × Int32 × Dy) => J 13 [(0, .ref p0), (1, .ref p1), (2, .ref p2), (3, .int s.1), (4, .int s.2.1)] [] β σ s.2.2) (PI σ an)) (J 71 [(0, .ref p0), (1, .ref p1), (2, .ref p2), (3, .int p3), (4, .int p4)] [] β σ δ) := by
  have hJ := hI.cor
  unfold m_X10_goOn_b71
  refine sj (j_iinc hJ (L' := [(4, .int (p4 + (-1 : Int32))), (0, .ref p0), (1, .ref p1), (2, .ref p2), (3, .int p3)]) dX10_goOn_71 4 rfl (congrArg (fun z => p4 + z) ic_m1) (by decide) rfl) ?_
  refine sj (j_goto hJ (tgt := 13) dX10_goOn_74 (by decide)) ?_
  refine sj (j_sub hJ (L' := [(0, .ref p0), (1, .ref p1), (2, .ref p2), (3, .int p3), (4, .int (p4 + (-1 : Int32)))]) [1, 2, 3, 4, 0] rfl) ?_
  exact sj_end (fun h => h)
set_option maxHeartbeats 4000000 in
set_option maxRecDepth 100000 in
theorem w_X10_goOn_b13 {J : JT} {an : Option Value × St × Dy} (hI : Isj cX10_goOn 5 RX10 "goOn" 5 120 (some .boolean) an J) {β : Bu} (σ : St) (p0 : Nat) (p1 : Nat) (p2 : Nat) (p3 : Int32) (p4 : Int32) (δ : Dy) : SJ (m_X10_goOn_b13 σ p0 p1 p2 p3 p4 δ) (PI σ an) (J 13 [(0, .ref p0), (1, .ref p1), (2, .ref p2), (3, .int p3), (4, .int p4)] [] β σ δ) := by
  have hJ := hI.cor
  unfold m_X10_goOn_b13
  refine sj_lp (G := fun s : (Int32 × Int32 × Dy) => J 13 [(0, .ref p0), (1, .ref p1), (2, .ref p2), (3, .int s.1), (4, .int s.2.1)] [] β σ s.2.2) (fun s => ?_) (p3, p4, δ)
  refine sj (j_iload hJ dX10_goOn_13 4 rfl) ?_
  refine sj_if (j_if_le hJ (tgt := 77) dX10_goOn_15 (by decide)) (fun _ => ?_) (fun _ => ?_)
  · refine sj (j_aload_n hJ dX10_goOn_77 rfl 1 rfl) ?_
    refine sj_gR hJ fl_X10_124 rfl dX10_goOn_78 (fun v3 => ?_)
    refine sj_gI hJ fl_X10_106 (Or.inl rfl) dX10_goOn_81 (fun v4 => ?_)
    refine sj_if (j_if_le hJ (tgt := 91) dX10_goOn_84 (by decide)) (fun _ => ?_) (fun _ => ?_)
    · refine sj (j_iconst hJ (v := 0) dX10_goOn_91 ic_0) ?_
      exact sj_zret hI (by decide) dX10_goOn_92 (fun h => h)
    · refine sj (j_iconst hJ (v := 1) dX10_goOn_87 ic_1) ?_
      refine sj (j_goto hJ (tgt := 92) dX10_goOn_88 (by decide)) ?_
      exact sj_zret hI (by decide) dX10_goOn_92 (fun h => h)
  · refine sj (j_aload_n hJ dX10_goOn_18 rfl 2 rfl) ?_
    refine sj (j_iload_n hJ dX10_goOn_19 rfl 3 rfl) ?_
    refine sj (j_aload_n hJ dX10_goOn_20 rfl 0 rfl) ?_
    refine sj_gR hJ fl_X10_41 rfl dX10_goOn_21 (fun v5 => ?_)
    refine sj_callVv hJ [.int s.1, .ref v5] (st := []) (fr' := 1) (lo' := 59) ml_X10_197 hc_1 (by decide) (by decide) (Nat.le_of_ble_eq_true rfl) dX10_goOn_24 rfl (fun _ h9 => ct_X1_read h9) (fun v6 => ?_)
    refine sj (j_aload_n hJ dX10_goOn_27 rfl 0 rfl) ?_
    refine sj (j_aload_n hJ dX10_goOn_28 rfl 0 rfl) ?_
    refine sj_gR hJ fl_X10_41 rfl dX10_goOn_29 (fun v7 => ?_)
    refine sj_gI hJ fl_X10_200 (Or.inl rfl) dX10_goOn_32 (fun v8 => ?_)
    refine sj_callVip hJ [.int v8] (st := []) (fr' := 4) (lo' := 96) ml_X10_240 hc_10 (by decide) (by decide) (Nat.le_of_ble_eq_true rfl) dX10_goOn_35 rfl (fun _ h9 => ct_X10_sideOf h9) (fun v9 => ?_)
    refine sj (j_iconst hJ (v := -1) dX10_goOn_38 ic_m1) ?_
    refine sj_if (j_icmp_ne hJ (tgt := 48) dX10_goOn_39 (by decide)) (fun _ => ?_) (fun _ => ?_)
    · refine sj (j_iinc hJ (L' := [(3, .int (s.1 + (1 : Int32))), (0, .ref p0), (1, .ref p1), (2, .ref p2), (4, .int s.2.1)]) dX10_goOn_42 3 rfl (congrArg (fun z => s.1 + z) ic_1) (by decide) rfl) ?_
      refine sj (j_goto hJ (tgt := 71) dX10_goOn_45 (by decide)) ?_
      refine sj (j_sub hJ (L' := [(0, .ref p0), (1, .ref p1), (2, .ref p2), (3, .int (s.1 + (1 : Int32))), (4, .int s.2.1)]) [1, 2, 3, 0, 4] rfl) ?_
      exact w_X10_goOn_b71 hI σ p0 p1 p2 (s.1 + (1 : Int32)) s.2.1 v6
    · refine sj (j_aload_n hJ dX10_goOn_48 rfl 1 rfl) ?_
      refine sj_gR hJ fl_X10_124 rfl dX10_goOn_49 (fun v10 => ?_)
      refine sj (j_aload_n hJ dX10_goOn_52 rfl 0 rfl) ?_
      refine sj_gR hJ fl_X10_41 rfl dX10_goOn_53 (fun v11 => ?_)
      refine sj_gI hJ fl_X10_200 (Or.inl rfl) dX10_goOn_56 (fun v12 => ?_)
      refine sj (j_aload_n hJ dX10_goOn_59 rfl 0 rfl) ?_
      refine sj_gR hJ fl_X10_41 rfl dX10_goOn_60 (fun v13 => ?_)
      refine sj_callVv hJ [.int v12, .ref v13] (st := []) (fr' := 1) (lo' := 59) ml_X10_120 hc_1 (by decide) (by decide) (Nat.le_of_ble_eq_true rfl) dX10_goOn_63 rfl (fun _ h9 => ct_X1_add h9) (fun v14 => ?_)
      refine sj (j_aload_n hJ dX10_goOn_66 rfl 2 rfl) ?_
      refine sj (j_iload_n hJ dX10_goOn_67 rfl 3 rfl) ?_
      refine sj_callVv hJ [.int s.1] (st := []) (fr' := 1) (lo' := 59) ml_X10_203 hc_1 (by decide) (by decide) (Nat.le_of_ble_eq_true rfl) dX10_goOn_68 rfl (fun _ h9 => ct_X1_drop h9) (fun v15 => ?_)
      exact w_X10_goOn_b71 hI σ p0 p1 p2 s.1 s.2.1 v15
set_option maxHeartbeats 4000000 in
set_option maxRecDepth 100000 in
theorem w_X10_goOn {J : JT} {an : Option Value × St × Dy} (hI : Isj cX10_goOn 5 RX10 "goOn" 5 120 (some .boolean) an J) {β : Bu} (σ : St) (p0 : Nat) (p1 : Nat) (δ : Dy) : SJ (m_X10_goOn σ p0 p1 δ) (PI σ an) (J 0 [(0, .ref p0), (1, .ref p1)] [] β σ δ) := by
  have hJ := hI.cor
  unfold m_X10_goOn
  refine sj (j_aload_n hJ dX10_goOn_0 rfl 1 rfl) ?_
  refine sj_gR hJ fl_X10_127 rfl dX10_goOn_1 (fun v1 => ?_)
  refine sj (j_astore_n hJ (L' := [(2, .ref v1), (0, .ref p0), (1, .ref p1)]) dX10_goOn_4 rfl (by decide) rfl) ?_
  refine sj (j_iconst hJ (v := 0) dX10_goOn_5 ic_0) ?_
  refine sj (j_istore_n hJ (L' := [(3, .int (0 : Int32)), (2, .ref v1), (0, .ref p0), (1, .ref p1)]) dX10_goOn_6 rfl (by decide) rfl) ?_
  refine sj (j_aload_n hJ dX10_goOn_7 rfl 1 rfl) ?_
  refine sj_gI hJ fl_X10_106 (Or.inl rfl) dX10_goOn_8 (fun v2 => ?_)
  refine sj (j_istore hJ (L' := [(4, .int v2), (3, .int (0 : Int32)), (2, .ref v1), (0, .ref p0), (1, .ref p1)]) dX10_goOn_11 (by decide) rfl) ?_
  refine sj (j_sub hJ (L' := [(0, .ref p0), (1, .ref p1), (2, .ref v1), (3, .int (0 : Int32)), (4, .int v2)]) [3, 4, 2, 1, 0] rfl) ?_
  exact w_X10_goOn_b13 hI σ p0 p1 v1 (0 : Int32) v2 δ
theorem ct_X10_goOn {σ : St} {p0 : Nat} {p1 : Nat} {δ : Dy} {r : (Int32 × Dy)} (h : m_X10_goOn σ p0 p1 δ = some r) : CT yX10_goOn cX10_goOn 5 (some .boolean) 5 120 0 0 [.ref p0, .ref p1] σ δ ((some (.int r.1)), σ, r.2) := CT_of (by decide +kernel) (Nat.le_of_ble_eq_true rfl) (fun J hI => w_X10_goOn hI σ p0 p1 δ r h rfl)
def m_X10_assume_b109 (σ : St) (p0 : Nat) (p1 : Nat) (p2 : Nat) (p3 : Int32) (δ : Dy) : Option ((Int32 × Dy) ⊕ (Int32 × Dy)) :=
  some (Sum.inl ((p3 + (1 : Int32)), δ))
def m_X10_assume_b7 (σ : St) (p0 : Nat) (p1 : Nat) (p2 : Nat) (p3 : Int32) (δ : Dy) : Option (Int32 × Dy) := lp (fun (s : (Int32 × Dy)) =>
  (gI σ s.2 1 p2 4).bind fun v2 =>
  if v2 ≤ s.1 then
    some (Sum.inr ((0 : Int32), s.2))
  else
    (gR σ 10 p0 7).bind fun v3 =>
    (chk σ 1 p2).bind fun _ => (m_X1_read σ p2 s.1 v3 s.2).bind fun v4 =>
    (gR σ 10 p0 0).bind fun v5 =>
    (gR σ 5 v5 0).bind fun v6 =>
    (gR σ 10 p0 7).bind fun v7 =>
    (gI σ v4 0 v7 1).bind fun v8 =>
    (rI σ v4 v6 v8).bind fun v9 =>
    if v9 = (11 : Int32) then
      (gR σ 10 p0 7).bind fun v10 =>
      (gI σ v4 0 v10 1).bind fun v11 =>
      (chk σ 10 p0).bind fun _ => (m_X10_isEntailed σ p0 v11 v4).bind fun v12 =>
      if v12 = 0 then
        (gR σ 4 p1 2).bind fun v13 =>
        (gR σ 10 p0 7).bind fun v14 =>
        (gI σ v4 0 v14 1).bind fun v15 =>
        (gR σ 10 p0 7).bind fun v16 =>
        (chk σ 1 v13).bind fun _ => (m_X1_add σ v13 v15 v16 v4).bind fun v17 =>
        (gR σ 4 p1 0).bind fun v18 =>
        (gR σ 10 p0 0).bind fun v19 =>
        (gR σ 5 v19 4).bind fun v20 =>
        (gR σ 10 p0 7).bind fun v21 =>
        (gI σ v17 0 v21 1).bind fun v22 =>
        (rI σ v17 v20 v22).bind fun v23 =>
        (gR σ 10 p0 7).bind fun v24 =>
        (chk σ 1 v18).bind fun _ => (m_X1_add σ v18 v23 v24 v17).bind fun v25 =>
        (chk σ 1 p2).bind fun _ => (m_X1_drop σ p2 s.1 v25).bind fun v26 =>
        some (Sum.inr ((1 : Int32), v26))
      else
        m_X10_assume_b109 σ p0 p1 p2 s.1 v4
    else
      m_X10_assume_b109 σ p0 p1 p2 s.1 v4) (p3, δ)
def m_X10_assume (σ : St) (p0 : Nat) (p1 : Nat) (δ : Dy) : Option (Int32 × Dy) :=
  (gR σ 4 p1 1).bind fun v1 =>
  m_X10_assume_b7 σ p0 p1 v1 (0 : Int32) δ
set_option maxHeartbeats 4000000 in
set_option maxRecDepth 100000 in
theorem w_X10_assume_b109 {J : JT} {an : Option Value × St × Dy} (hI : Isj cX10_assume 4 RX10 "assume" 4 96 (some .boolean) an J) {β : Bu} (σ : St) (p0 : Nat) (p1 : Nat) (p2 : Nat) (p3 : Int32) (δ : Dy) : SJ (m_X10_assume_b109 σ p0 p1 p2 p3 δ) (PL (fun s : (Int32 × Dy) => J 7 [(0, .ref p0), (1, .ref p1), (2, .ref p2), (3, .int s.1)] [] β σ s.2) (PI σ an)) (J 109 [(0, .ref p0), (1, .ref p1), (2, .ref p2), (3, .int p3)] [] β σ δ) := by
  have hJ := hI.cor
  unfold m_X10_assume_b109
  refine sj (j_iinc hJ (L' := [(3, .int (p3 + (1 : Int32))), (0, .ref p0), (1, .ref p1), (2, .ref p2)]) dX10_assume_109 3 rfl (congrArg (fun z => p3 + z) ic_1) (by decide) rfl) ?_
  refine sj (j_goto hJ (tgt := 7) dX10_assume_112 (by decide)) ?_
  refine sj (j_sub hJ (L' := [(0, .ref p0), (1, .ref p1), (2, .ref p2), (3, .int (p3 + (1 : Int32)))]) [1, 2, 3, 0] rfl) ?_
  exact sj_end (fun h => h)
set_option maxHeartbeats 4000000 in
set_option maxRecDepth 100000 in
theorem w_X10_assume_b7 {J : JT} {an : Option Value × St × Dy} (hI : Isj cX10_assume 4 RX10 "assume" 4 96 (some .boolean) an J) {β : Bu} (σ : St) (p0 : Nat) (p1 : Nat) (p2 : Nat) (p3 : Int32) (δ : Dy) : SJ (m_X10_assume_b7 σ p0 p1 p2 p3 δ) (PI σ an) (J 7 [(0, .ref p0), (1, .ref p1), (2, .ref p2), (3, .int p3)] [] β σ δ) := by
  have hJ := hI.cor
  unfold m_X10_assume_b7
  refine sj_lp (G := fun s : (Int32 × Dy) => J 7 [(0, .ref p0), (1, .ref p1), (2, .ref p2), (3, .int s.1)] [] β σ s.2) (fun s => ?_) (p3, δ)
  refine sj (j_iload_n hJ dX10_assume_7 rfl 3 rfl) ?_
  refine sj (j_aload_n hJ dX10_assume_8 rfl 2 rfl) ?_
  refine sj_gI hJ fl_X10_106 (Or.inl rfl) dX10_assume_9 (fun v2 => ?_)
  refine sj_if (j_icmp_ge hJ (tgt := 115) dX10_assume_12 (by decide)) (fun _ => ?_) (fun _ => ?_)
  · refine sj (j_iconst hJ (v := 0) dX10_assume_115 ic_0) ?_
    exact sj_zret hI (by decide) dX10_assume_116 (fun h => h)
  · refine sj (j_aload_n hJ dX10_assume_15 rfl 2 rfl) ?_
    refine sj (j_iload_n hJ dX10_assume_16 rfl 3 rfl) ?_
    refine sj (j_aload_n hJ dX10_assume_17 rfl 0 rfl) ?_
    refine sj_gR hJ fl_X10_41 rfl dX10_assume_18 (fun v3 => ?_)
    refine sj_callVv hJ [.int s.1, .ref v3] (st := []) (fr' := 1) (lo' := 59) ml_X10_197 hc_1 (by decide) (by decide) (Nat.le_of_ble_eq_true rfl) dX10_assume_21 rfl (fun _ h9 => ct_X1_read h9) (fun v4 => ?_)
    refine sj (j_aload_n hJ dX10_assume_24 rfl 0 rfl) ?_
    refine sj_gR hJ fl_X10_45 rfl dX10_assume_25 (fun v5 => ?_)
    refine sj_gR hJ fl_X10_209 rfl dX10_assume_28 (fun v6 => ?_)
    refine sj (j_aload_n hJ dX10_assume_31 rfl 0 rfl) ?_
    refine sj_gR hJ fl_X10_41 rfl dX10_assume_32 (fun v7 => ?_)
    refine sj_gI hJ fl_X10_200 (Or.inl rfl) dX10_assume_35 (fun v8 => ?_)
    refine sj_rI hJ dX10_assume_38 (fun v9 => ?_)
    refine sj (j_bipush hJ (v := 11) dX10_assume_39 ib_11) ?_
    refine sj_if (j_icmp_ne hJ (tgt := 109) dX10_assume_41 (by decide)) (fun _ => ?_) (fun _ => ?_)
    · refine sj (j_aload_n hJ dX10_assume_44 rfl 0 rfl) ?_
      refine sj (j_aload_n hJ dX10_assume_45 rfl 0 rfl) ?_
      refine sj_gR hJ fl_X10_41 rfl dX10_assume_46 (fun v10 => ?_)
      refine sj_gI hJ fl_X10_200 (Or.inl rfl) dX10_assume_49 (fun v11 => ?_)
      refine sj_callVip hJ [.int v11] (st := []) (fr' := 3) (lo' := 75) ml_X10_280 hc_10 (by decide) (by decide) (Nat.le_of_ble_eq_true rfl) dX10_assume_52 rfl (fun _ h9 => ct_X10_isEntailed h9) (fun v12 => ?_)
      refine sj_if (j_if_ne hJ (tgt := 109) dX10_assume_55 (by decide)) (fun _ => ?_) (fun _ => ?_)
      · refine sj (j_aload_n hJ dX10_assume_58 rfl 1 rfl) ?_
        refine sj_gR hJ fl_X10_130 rfl dX10_assume_59 (fun v13 => ?_)
        refine sj (j_aload_n hJ dX10_assume_62 rfl 0 rfl) ?_
        refine sj_gR hJ fl_X10_41 rfl dX10_assume_63 (fun v14 => ?_)
        refine sj_gI hJ fl_X10_200 (Or.inl rfl) dX10_assume_66 (fun v15 => ?_)
        refine sj (j_aload_n hJ dX10_assume_69 rfl 0 rfl) ?_
        refine sj_gR hJ fl_X10_41 rfl dX10_assume_70 (fun v16 => ?_)
        refine sj_callVv hJ [.int v15, .ref v16] (st := []) (fr' := 1) (lo' := 59) ml_X10_120 hc_1 (by decide) (by decide) (Nat.le_of_ble_eq_true rfl) dX10_assume_73 rfl (fun _ h9 => ct_X1_add h9) (fun v17 => ?_)
        refine sj (j_aload_n hJ dX10_assume_76 rfl 1 rfl) ?_
        refine sj_gR hJ fl_X10_124 rfl dX10_assume_77 (fun v18 => ?_)
        refine sj (j_aload_n hJ dX10_assume_80 rfl 0 rfl) ?_
        refine sj_gR hJ fl_X10_45 rfl dX10_assume_81 (fun v19 => ?_)
        refine sj_gR hJ fl_X10_226 rfl dX10_assume_84 (fun v20 => ?_)
        refine sj (j_aload_n hJ dX10_assume_87 rfl 0 rfl) ?_
        refine sj_gR hJ fl_X10_41 rfl dX10_assume_88 (fun v21 => ?_)
        refine sj_gI hJ fl_X10_200 (Or.inl rfl) dX10_assume_91 (fun v22 => ?_)
        refine sj_rI hJ dX10_assume_94 (fun v23 => ?_)
        refine sj (j_aload_n hJ dX10_assume_95 rfl 0 rfl) ?_
        refine sj_gR hJ fl_X10_41 rfl dX10_assume_96 (fun v24 => ?_)
        refine sj_callVv hJ [.int v23, .ref v24] (st := []) (fr' := 1) (lo' := 59) ml_X10_120 hc_1 (by decide) (by decide) (Nat.le_of_ble_eq_true rfl) dX10_assume_99 rfl (fun _ h9 => ct_X1_add h9) (fun v25 => ?_)
        refine sj (j_aload_n hJ dX10_assume_102 rfl 2 rfl) ?_
        refine sj (j_iload_n hJ dX10_assume_103 rfl 3 rfl) ?_
        refine sj_callVv hJ [.int s.1] (st := []) (fr' := 1) (lo' := 59) ml_X10_203 hc_1 (by decide) (by decide) (Nat.le_of_ble_eq_true rfl) dX10_assume_104 rfl (fun _ h9 => ct_X1_drop h9) (fun v26 => ?_)
        refine sj (j_iconst hJ (v := 1) dX10_assume_107 ic_1) ?_
        exact sj_zret hI (by decide) dX10_assume_108 (fun h => h)
      · exact w_X10_assume_b109 hI σ p0 p1 p2 s.1 v4
    · exact w_X10_assume_b109 hI σ p0 p1 p2 s.1 v4
set_option maxHeartbeats 4000000 in
set_option maxRecDepth 100000 in
theorem w_X10_assume {J : JT} {an : Option Value × St × Dy} (hI : Isj cX10_assume 4 RX10 "assume" 4 96 (some .boolean) an J) {β : Bu} (σ : St) (p0 : Nat) (p1 : Nat) (δ : Dy) : SJ (m_X10_assume σ p0 p1 δ) (PI σ an) (J 0 [(0, .ref p0), (1, .ref p1)] [] β σ δ) := by
  have hJ := hI.cor
  unfold m_X10_assume
  refine sj (j_aload_n hJ dX10_assume_0 rfl 1 rfl) ?_
  refine sj_gR hJ fl_X10_127 rfl dX10_assume_1 (fun v1 => ?_)
  refine sj (j_astore_n hJ (L' := [(2, .ref v1), (0, .ref p0), (1, .ref p1)]) dX10_assume_4 rfl (by decide) rfl) ?_
  refine sj (j_iconst hJ (v := 0) dX10_assume_5 ic_0) ?_
  refine sj (j_istore_n hJ (L' := [(3, .int (0 : Int32)), (2, .ref v1), (0, .ref p0), (1, .ref p1)]) dX10_assume_6 rfl (by decide) rfl) ?_
  refine sj (j_sub hJ (L' := [(0, .ref p0), (1, .ref p1), (2, .ref v1), (3, .int (0 : Int32))]) [2, 3, 1, 0] rfl) ?_
  exact w_X10_assume_b7 hI σ p0 p1 v1 (0 : Int32) δ
theorem ct_X10_assume {σ : St} {p0 : Nat} {p1 : Nat} {δ : Dy} {r : (Int32 × Dy)} (h : m_X10_assume σ p0 p1 δ = some r) : CT yX10_assume cX10_assume 4 (some .boolean) 4 96 0 0 [.ref p0, .ref p1] σ δ ((some (.int r.1)), σ, r.2) := CT_of (by decide +kernel) (Nat.le_of_ble_eq_true rfl) (fun J hI => w_X10_assume hI σ p0 p1 δ r h rfl)
