def m_X0_init (σ : St) (p0 : Nat) (δ : Dy) : Option (St × Dy) :=
  (nwA σ 100 (4 : Int32) 4).bind fun s1 =>
  (pR s1 0 p0 0 (sn σ)).bind fun s2 =>
  some (s2, (nwD σ δ))
set_option maxHeartbeats 4000000 in
set_option maxRecDepth 100000 in
theorem w_X0_init {J : JT} {an : Option Value × St × Dy} (hI : Isj cX0_init 1 RX0 "<init>" 1 20 none an J) (σ : St) (p0 : Nat) (δ : Dy) : SJ (m_X0_init σ p0 δ) (PVA an) (J 0 [(0, .ref p0)] [] (1, 4) σ δ) := by
  have hJ := hI.cor
  unfold m_X0_init
  refine sj (j_aload_n hJ dX0_init_0 rfl 0 rfl) ?_
  refine sj (j_objInit hJ mo_X0_3 (by decide) (by decide) (Nat.le_of_ble_eq_true rfl) dX0_init_1) ?_
  refine sj (j_aload_n hJ dX0_init_4 rfl 0 rfl) ?_
  refine sj (j_iconst hJ (v := 4) dX0_init_5 ic_4) ?_
  refine sj_naI hJ (N := 4) wd_97 (by decide) (Nat.le_of_ble_eq_true rfl) (Nat.le_of_ble_eq_true rfl) dX0_init_6 (fun s1 => ?_)
  refine sj_pR hJ fr_X0_9 rfl dX0_init_8 (fun s2 => ?_)
  exact sj_vret hI dX0_init_11 (fun h => h)
theorem ct_X0_init {σ : St} {p0 : Nat} {δ : Dy} {r : St × Dy} (h : m_X0_init σ p0 δ = some r) : CT yX0_init cX0_init 1 none 1 20 1 4 [.ref p0] σ δ (none, r.1, r.2) := CT_of (by decide +kernel) (Nat.le_of_ble_eq_true rfl) (fun J hI => w_X0_init hI σ p0 δ r h rfl)
def m_X1_init_b15 (σ : St) (p0 : Nat) (q0 : Nat) (q1 : Int32) (δ : Dy) : Option (St × Dy) :=
  (pI σ δ 1 q0 0 q1).bind fun d1 =>
  (gI σ d1 1 p0 0).bind fun v2 =>
  (nwA σ 100 v2 120).bind fun s3 =>
  (pR s3 1 p0 1 (sn σ)).bind fun s4 =>
  (gI s4 (nwD σ d1) 1 p0 0).bind fun v5 =>
  (nwA s4 100 ((4 : Int32) * v5) 480).bind fun s6 =>
  (pR s6 1 p0 2 (sn s4)).bind fun s7 =>
  (gI s7 (nwD s4 (nwD σ d1)) 1 p0 0).bind fun v8 =>
  (nwA s7 102 ((2 : Int32) * v8) 240).bind fun s9 =>
  (pR s9 1 p0 3 (sn s7)).bind fun s10 =>
  some (s10, (nwD s7 (nwD s4 (nwD σ d1))))
def m_X1_init (σ : St) (p0 : Nat) (p1 : Int32) (δ : Dy) : Option (St × Dy) :=
  if (1 : Int32) ≤ p1 then
    m_X1_init_b15 σ p0 p0 p1 δ
  else
    m_X1_init_b15 σ p0 p0 (1 : Int32) δ
set_option maxHeartbeats 4000000 in
set_option maxRecDepth 100000 in
theorem w_X1_init_b15 {J : JT} {an : Option Value × St × Dy} (hI : Isj cX1_init 2 RX1 "<init>" 1 20 none an J) (σ : St) (p0 : Nat) (q0 : Nat) (q1 : Int32) (δ : Dy) : SJ (m_X1_init_b15 σ p0 q0 q1 δ) (PVA an) (J 15 [(0, .ref p0)] [.int q1, .ref q0] (3, 840) σ δ) := by
  have hJ := hI.cor
  unfold m_X1_init_b15
  refine sj_pIF hJ fl_X1_9 rfl rfl rfl dX1_init_15 (fun d1 => ?_)
  refine sj (j_aload_n hJ dX1_init_18 rfl 0 rfl) ?_
  refine sj (j_aload_n hJ dX1_init_19 rfl 0 rfl) ?_
  refine sj_gI hJ fl_X1_9 (Or.inl rfl) dX1_init_20 (fun v2 => ?_)
  refine sj_naI hJ (N := 120) wd_97 (by decide) (Nat.le_of_ble_eq_true rfl) (Nat.le_of_ble_eq_true rfl) dX1_init_23 (fun s3 => ?_)
  refine sj_pR hJ fr_X1_15 rfl dX1_init_25 (fun s4 => ?_)
  refine sj (j_aload_n hJ dX1_init_28 rfl 0 rfl) ?_
  refine sj (j_iconst hJ (v := 4) dX1_init_29 ic_4) ?_
  refine sj (j_aload_n hJ dX1_init_30 rfl 0 rfl) ?_
  refine sj_gI hJ fl_X1_9 (Or.inl rfl) dX1_init_31 (fun v5 => ?_)
  refine sj (j_imul hJ dX1_init_34) ?_
  refine sj_naI hJ (N := 480) wd_97 (by decide) (Nat.le_of_ble_eq_true rfl) (Nat.le_of_ble_eq_true rfl) dX1_init_35 (fun s6 => ?_)
  refine sj_pR hJ fr_X1_19 rfl dX1_init_37 (fun s7 => ?_)
  refine sj (j_aload_n hJ dX1_init_40 rfl 0 rfl) ?_
  refine sj (j_iconst hJ (v := 2) dX1_init_41 ic_2) ?_
  refine sj (j_aload_n hJ dX1_init_42 rfl 0 rfl) ?_
  refine sj_gI hJ fl_X1_9 (Or.inl rfl) dX1_init_43 (fun v8 => ?_)
  refine sj (j_imul hJ dX1_init_46) ?_
  refine sj_naL hJ (N := 240) wd_258 (by decide) (Nat.le_of_ble_eq_true rfl) (Nat.le_of_ble_eq_true rfl) dX1_init_47 (fun s9 => ?_)
  refine sj_pR hJ fr_X1_22 rfl dX1_init_49 (fun s10 => ?_)
  exact sj_vret hI dX1_init_52 (fun h => h)
set_option maxHeartbeats 4000000 in
set_option maxRecDepth 100000 in
theorem w_X1_init {J : JT} {an : Option Value × St × Dy} (hI : Isj cX1_init 2 RX1 "<init>" 1 20 none an J) (σ : St) (p0 : Nat) (p1 : Int32) (δ : Dy) : SJ (m_X1_init σ p0 p1 δ) (PVA an) (J 0 [(0, .ref p0), (1, .int p1)] [] (3, 840) σ δ) := by
  have hJ := hI.cor
  unfold m_X1_init
  refine sj (j_aload_n hJ dX1_init_0 rfl 0 rfl) ?_
  refine sj (j_objInit hJ mo_X1_3 (by decide) (by decide) (Nat.le_of_ble_eq_true rfl) dX1_init_1) ?_
  refine sj (j_aload_n hJ dX1_init_4 rfl 0 rfl) ?_
  refine sj (j_iload_n hJ dX1_init_5 rfl 1 rfl) ?_
  refine sj (j_iconst hJ (v := 1) dX1_init_6 ic_1) ?_
  refine sj_if (j_icmp_ge hJ (tgt := 14) dX1_init_7 (by decide)) (fun _ => ?_) (fun _ => ?_)
  · refine sj (j_iload_n hJ dX1_init_14 rfl 1 rfl) ?_
    refine sj (j_sub hJ (L' := [(0, .ref p0)]) [0] rfl) ?_
    exact w_X1_init_b15 hI σ p0 p0 p1 δ
  · refine sj (j_iconst hJ (v := 1) dX1_init_10 ic_1) ?_
    refine sj (j_goto hJ (tgt := 15) dX1_init_11 (by decide)) ?_
    refine sj (j_sub hJ (L' := [(0, .ref p0)]) [0] rfl) ?_
    exact w_X1_init_b15 hI σ p0 p0 (1 : Int32) δ
theorem ct_X1_init {σ : St} {p0 : Nat} {p1 : Int32} {δ : Dy} {r : St × Dy} (h : m_X1_init σ p0 p1 δ = some r) : CT yX1_init cX1_init 2 none 1 20 3 840 [.ref p0, .int p1] σ δ (none, r.1, r.2) := CT_of (by decide +kernel) (Nat.le_of_ble_eq_true rfl) (fun J hI => w_X1_init hI σ p0 p1 δ r h rfl)
def m_X2_init (σ : St) (p0 : Nat) (δ : Dy) : Option (St × Dy) :=
  (nwA σ 100 (7 : Int32) 7).bind fun s1 =>
  (pR s1 2 p0 0 (sn σ)).bind fun s2 =>
  (pI s2 (nwD σ δ) 2 p0 1 (1 : Int32)).bind fun d3 =>
  some (s2, d3)
set_option maxHeartbeats 4000000 in
set_option maxRecDepth 100000 in
theorem w_X2_init {J : JT} {an : Option Value × St × Dy} (hI : Isj cX2_init 1 RX2 "<init>" 1 20 none an J) (σ : St) (p0 : Nat) (δ : Dy) : SJ (m_X2_init σ p0 δ) (PVA an) (J 0 [(0, .ref p0)] [] (1, 7) σ δ) := by
  have hJ := hI.cor
  unfold m_X2_init
  refine sj (j_aload_n hJ dX2_init_0 rfl 0 rfl) ?_
  refine sj (j_objInit hJ mo_X2_3 (by decide) (by decide) (Nat.le_of_ble_eq_true rfl) dX2_init_1) ?_
  refine sj (j_aload_n hJ dX2_init_4 rfl 0 rfl) ?_
  refine sj (j_prm hJ wd_265 dX2_init_5) ?_
  refine sj (j_prmLen hJ dX2_init_8) ?_
  refine sj_naI hJ (N := 7) wd_97 (by decide) (Nat.le_of_ble_eq_true rfl) (Nat.le_of_ble_eq_true rfl) dX2_init_9 (fun s1 => ?_)
  refine sj_pR hJ fr_X2_15 rfl dX2_init_11 (fun s2 => ?_)
  refine sj (j_aload_n hJ dX2_init_14 rfl 0 rfl) ?_
  refine sj (j_iconst hJ (v := 1) dX2_init_15 ic_1) ?_
  refine sj_pI hJ fl_X2_18 rfl dX2_init_16 (fun d3 => ?_)
  exact sj_vret hI dX2_init_19 (fun h => h)
theorem ct_X2_init {σ : St} {p0 : Nat} {δ : Dy} {r : St × Dy} (h : m_X2_init σ p0 δ = some r) : CT yX2_init cX2_init 1 none 1 20 1 7 [.ref p0] σ δ (none, r.1, r.2) := CT_of (by decide +kernel) (Nat.le_of_ble_eq_true rfl) (fun J hI => w_X2_init hI σ p0 δ r h rfl)
def m_X3_init (σ : St) (p0 : Nat) (δ : Dy) : Option (St × Dy) :=
  (nwA σ 100 (4 : Int32) 4).bind fun s1 =>
  (pR s1 3 p0 0 (sn σ)).bind fun s2 =>
  some (s2, (nwD σ δ))
set_option maxHeartbeats 4000000 in
set_option maxRecDepth 100000 in
theorem w_X3_init {J : JT} {an : Option Value × St × Dy} (hI : Isj cX3_init 1 RX3 "<init>" 1 20 none an J) (σ : St) (p0 : Nat) (δ : Dy) : SJ (m_X3_init σ p0 δ) (PVA an) (J 0 [(0, .ref p0)] [] (1, 4) σ δ) := by
  have hJ := hI.cor
  unfold m_X3_init
  refine sj (j_aload_n hJ dX3_init_0 rfl 0 rfl) ?_
  refine sj (j_objInit hJ mo_X3_3 (by decide) (by decide) (Nat.le_of_ble_eq_true rfl) dX3_init_1) ?_
  refine sj (j_aload_n hJ dX3_init_4 rfl 0 rfl) ?_
  refine sj (j_iconst hJ (v := 4) dX3_init_5 ic_4) ?_
  refine sj_naI hJ (N := 4) wd_97 (by decide) (Nat.le_of_ble_eq_true rfl) (Nat.le_of_ble_eq_true rfl) dX3_init_6 (fun s1 => ?_)
  refine sj_pR hJ fr_X3_9 rfl dX3_init_8 (fun s2 => ?_)
  exact sj_vret hI dX3_init_11 (fun h => h)
theorem ct_X3_init {σ : St} {p0 : Nat} {δ : Dy} {r : St × Dy} (h : m_X3_init σ p0 δ = some r) : CT yX3_init cX3_init 1 none 1 20 1 4 [.ref p0] σ δ (none, r.1, r.2) := CT_of (by decide +kernel) (Nat.le_of_ble_eq_true rfl) (fun J hI => w_X3_init hI σ p0 δ r h rfl)
def m_X4_init (σ : St) (p0 : Nat) (δ : Dy) : Option (St × Dy) :=
  (nwO σ 1).bind fun s1 =>
  (m_X1_init s1 (sn σ) (120 : Int32) (nwD σ δ)).bind fun v2 =>
  (pR v2.1 4 p0 0 (sn σ)).bind fun s3 =>
  (nwO s3 1).bind fun s4 =>
  (m_X1_init s4 (sn s3) (60 : Int32) (nwD s3 v2.2)).bind fun v5 =>
  (pR v5.1 4 p0 1 (sn s3)).bind fun s6 =>
  (nwO s6 1).bind fun s7 =>
  (m_X1_init s7 (sn s6) (60 : Int32) (nwD s6 v5.2)).bind fun v8 =>
  (pR v8.1 4 p0 2 (sn s6)).bind fun s9 =>
  (nwO s9 1).bind fun s10 =>
  (m_X1_init s10 (sn s9) (60 : Int32) (nwD s9 v8.2)).bind fun v11 =>
  (pR v11.1 4 p0 3 (sn s9)).bind fun s12 =>
  (nwO s12 1).bind fun s13 =>
  (m_X1_init s13 (sn s12) (1 : Int32) (nwD s12 v11.2)).bind fun v14 =>
  (pR v14.1 4 p0 4 (sn s12)).bind fun s15 =>
  (nwA s15 100 (60 : Int32) 60).bind fun s16 =>
  (pR s16 4 p0 5 (sn s15)).bind fun s17 =>
  (nwA s17 100 (60 : Int32) 60).bind fun s18 =>
  (pR s18 4 p0 6 (sn s17)).bind fun s19 =>
  (nwA s19 101 (100 : Int32) 100).bind fun s20 =>
  (pR s20 4 p0 7 (sn s19)).bind fun s21 =>
  some (s21, (nwD s19 (nwD s17 (nwD s15 v14.2))))
set_option maxHeartbeats 4000000 in
set_option maxRecDepth 100000 in
theorem w_X4_init {J : JT} {an : Option Value × St × Dy} (hI : Isj cX4_init 1 RX4 "<init>" 2 41 none an J) (σ : St) (p0 : Nat) (δ : Dy) : SJ (m_X4_init σ p0 δ) (PVA an) (J 0 [(0, .ref p0)] [] (23, 4445) σ δ) := by
  have hJ := hI.cor
  unfold m_X4_init
  refine sj (j_aload_n hJ dX4_init_0 rfl 0 rfl) ?_
  refine sj (j_objInit hJ mo_X4_3 (by decide) (by decide) (Nat.le_of_ble_eq_true rfl) dX4_init_1) ?_
  refine sj (j_aload_n hJ dX4_init_4 rfl 0 rfl) ?_
  refine sj_new hJ (N := 5) nw_X4_9 rfl (Nat.le_of_ble_eq_true rfl) (Nat.le_of_ble_eq_true rfl) dX4_init_5 (fun s1 => ?_)
  refine sj (j_dup hJ dX4_init_8 rfl) ?_
  refine sj (j_bipush hJ (v := 120) dX4_init_9 ib_120) ?_
  refine sj_callI hJ [.int (120 : Int32)] (st := [.ref (sn σ), .ref p0]) (fr' := 1) (lo' := 20) (mc' := 3) (ms' := 840) mi_X4_11 (by decide) (by decide) (Nat.le_of_ble_eq_true rfl) (Nat.le_of_ble_eq_true rfl) (Nat.le_of_ble_eq_true rfl) dX4_init_11 rfl (fun _ h9 => ct_X1_init h9) (fun v2 => ?_)
  refine sj_pR hJ fr_X4_14 rfl dX4_init_14 (fun s3 => ?_)
  refine sj (j_aload_n hJ dX4_init_17 rfl 0 rfl) ?_
  refine sj_new hJ (N := 5) nw_X4_9 rfl (Nat.le_of_ble_eq_true rfl) (Nat.le_of_ble_eq_true rfl) dX4_init_18 (fun s4 => ?_)
  refine sj (j_dup hJ dX4_init_21 rfl) ?_
  refine sj (j_bipush hJ (v := 60) dX4_init_22 ib_60) ?_
  refine sj_callI hJ [.int (60 : Int32)] (st := [.ref (sn s3), .ref p0]) (fr' := 1) (lo' := 20) (mc' := 3) (ms' := 840) mi_X4_11 (by decide) (by decide) (Nat.le_of_ble_eq_true rfl) (Nat.le_of_ble_eq_true rfl) (Nat.le_of_ble_eq_true rfl) dX4_init_24 rfl (fun _ h9 => ct_X1_init h9) (fun v5 => ?_)
  refine sj_pR hJ fr_X4_20 rfl dX4_init_27 (fun s6 => ?_)
  refine sj (j_aload_n hJ dX4_init_30 rfl 0 rfl) ?_
  refine sj_new hJ (N := 5) nw_X4_9 rfl (Nat.le_of_ble_eq_true rfl) (Nat.le_of_ble_eq_true rfl) dX4_init_31 (fun s7 => ?_)
  refine sj (j_dup hJ dX4_init_34 rfl) ?_
  refine sj (j_bipush hJ (v := 60) dX4_init_35 ib_60) ?_
  refine sj_callI hJ [.int (60 : Int32)] (st := [.ref (sn s6), .ref p0]) (fr' := 1) (lo' := 20) (mc' := 3) (ms' := 840) mi_X4_11 (by decide) (by decide) (Nat.le_of_ble_eq_true rfl) (Nat.le_of_ble_eq_true rfl) (Nat.le_of_ble_eq_true rfl) dX4_init_37 rfl (fun _ h9 => ct_X1_init h9) (fun v8 => ?_)
  refine sj_pR hJ fr_X4_23 rfl dX4_init_40 (fun s9 => ?_)
  refine sj (j_aload_n hJ dX4_init_43 rfl 0 rfl) ?_
  refine sj_new hJ (N := 5) nw_X4_9 rfl (Nat.le_of_ble_eq_true rfl) (Nat.le_of_ble_eq_true rfl) dX4_init_44 (fun s10 => ?_)
  refine sj (j_dup hJ dX4_init_47 rfl) ?_
  refine sj (j_bipush hJ (v := 60) dX4_init_48 ib_60) ?_
  refine sj_callI hJ [.int (60 : Int32)] (st := [.ref (sn s9), .ref p0]) (fr' := 1) (lo' := 20) (mc' := 3) (ms' := 840) mi_X4_11 (by decide) (by decide) (Nat.le_of_ble_eq_true rfl) (Nat.le_of_ble_eq_true rfl) (Nat.le_of_ble_eq_true rfl) dX4_init_50 rfl (fun _ h9 => ct_X1_init h9) (fun v11 => ?_)
  refine sj_pR hJ fr_X4_26 rfl dX4_init_53 (fun s12 => ?_)
  refine sj (j_aload_n hJ dX4_init_56 rfl 0 rfl) ?_
  refine sj_new hJ (N := 5) nw_X4_9 rfl (Nat.le_of_ble_eq_true rfl) (Nat.le_of_ble_eq_true rfl) dX4_init_57 (fun s13 => ?_)
  refine sj (j_dup hJ dX4_init_60 rfl) ?_
  refine sj (j_iconst hJ (v := 1) dX4_init_61 ic_1) ?_
  refine sj_callI hJ [.int (1 : Int32)] (st := [.ref (sn s12), .ref p0]) (fr' := 1) (lo' := 20) (mc' := 3) (ms' := 840) mi_X4_11 (by decide) (by decide) (Nat.le_of_ble_eq_true rfl) (Nat.le_of_ble_eq_true rfl) (Nat.le_of_ble_eq_true rfl) dX4_init_62 rfl (fun _ h9 => ct_X1_init h9) (fun v14 => ?_)
  refine sj_pR hJ fr_X4_29 rfl dX4_init_65 (fun s15 => ?_)
  refine sj (j_aload_n hJ dX4_init_68 rfl 0 rfl) ?_
  refine sj (j_bipush hJ (v := 60) dX4_init_69 ib_60) ?_
  refine sj_naI hJ (N := 60) wd_97 (by decide) (Nat.le_of_ble_eq_true rfl) (Nat.le_of_ble_eq_true rfl) dX4_init_71 (fun s16 => ?_)
  refine sj_pR hJ fr_X4_32 rfl dX4_init_73 (fun s17 => ?_)
  refine sj (j_aload_n hJ dX4_init_76 rfl 0 rfl) ?_
  refine sj (j_bipush hJ (v := 60) dX4_init_77 ib_60) ?_
  refine sj_naI hJ (N := 60) wd_97 (by decide) (Nat.le_of_ble_eq_true rfl) (Nat.le_of_ble_eq_true rfl) dX4_init_79 (fun s18 => ?_)
  refine sj_pR hJ fr_X4_36 rfl dX4_init_81 (fun s19 => ?_)
  refine sj (j_aload_n hJ dX4_init_84 rfl 0 rfl) ?_
  refine sj (j_bipush hJ (v := 100) dX4_init_85 ib_100) ?_
  refine sj_naZ hJ (N := 100) wd_173 (by decide) (Nat.le_of_ble_eq_true rfl) (Nat.le_of_ble_eq_true rfl) dX4_init_87 (fun s20 => ?_)
  refine sj_pR hJ fr_X4_39 rfl dX4_init_89 (fun s21 => ?_)
  exact sj_vret hI dX4_init_92 (fun h => h)
theorem ct_X4_init {σ : St} {p0 : Nat} {δ : Dy} {r : St × Dy} (h : m_X4_init σ p0 δ = some r) : CT yX4_init cX4_init 1 none 2 41 23 4445 [.ref p0] σ δ (none, r.1, r.2) := CT_of (by decide +kernel) (Nat.le_of_ble_eq_true rfl) (fun J hI => w_X4_init hI σ p0 δ r h rfl)
def m_X5_init (σ : St) (p0 : Nat) (δ : Dy) : Option (St × Dy) :=
  (nwA σ 100 (60 : Int32) 60).bind fun s1 =>
  (pR s1 5 p0 0 (sn σ)).bind fun s2 =>
  (nwA s2 100 (60 : Int32) 60).bind fun s3 =>
  (pR s3 5 p0 1 (sn s2)).bind fun s4 =>
  (nwA s4 100 (60 : Int32) 60).bind fun s5 =>
  (pR s5 5 p0 2 (sn s4)).bind fun s6 =>
  (nwA s6 100 (60 : Int32) 60).bind fun s7 =>
  (pR s7 5 p0 3 (sn s6)).bind fun s8 =>
  (nwA s8 100 (60 : Int32) 60).bind fun s9 =>
  (pR s9 5 p0 4 (sn s8)).bind fun s10 =>
  (nwA s10 100 (60 : Int32) 60).bind fun s11 =>
  (pR s11 5 p0 5 (sn s10)).bind fun s12 =>
  some (s12, (nwD s10 (nwD s8 (nwD s6 (nwD s4 (nwD s2 (nwD σ δ)))))))
set_option maxHeartbeats 4000000 in
set_option maxRecDepth 100000 in
theorem w_X5_init {J : JT} {an : Option Value × St × Dy} (hI : Isj cX5_init 1 RX5 "<init>" 1 20 none an J) (σ : St) (p0 : Nat) (δ : Dy) : SJ (m_X5_init σ p0 δ) (PVA an) (J 0 [(0, .ref p0)] [] (6, 360) σ δ) := by
  have hJ := hI.cor
  unfold m_X5_init
  refine sj (j_aload_n hJ dX5_init_0 rfl 0 rfl) ?_
  refine sj (j_objInit hJ mo_X5_3 (by decide) (by decide) (Nat.le_of_ble_eq_true rfl) dX5_init_1) ?_
  refine sj (j_aload_n hJ dX5_init_4 rfl 0 rfl) ?_
  refine sj (j_bipush hJ (v := 60) dX5_init_5 ib_60) ?_
  refine sj_naI hJ (N := 60) wd_97 (by decide) (Nat.le_of_ble_eq_true rfl) (Nat.le_of_ble_eq_true rfl) dX5_init_7 (fun s1 => ?_)
  refine sj_pR hJ fr_X5_9 rfl dX5_init_9 (fun s2 => ?_)
  refine sj (j_aload_n hJ dX5_init_12 rfl 0 rfl) ?_
  refine sj (j_bipush hJ (v := 60) dX5_init_13 ib_60) ?_
  refine sj_naI hJ (N := 60) wd_97 (by decide) (Nat.le_of_ble_eq_true rfl) (Nat.le_of_ble_eq_true rfl) dX5_init_15 (fun s3 => ?_)
  refine sj_pR hJ fr_X5_15 rfl dX5_init_17 (fun s4 => ?_)
  refine sj (j_aload_n hJ dX5_init_20 rfl 0 rfl) ?_
  refine sj (j_bipush hJ (v := 60) dX5_init_21 ib_60) ?_
  refine sj_naI hJ (N := 60) wd_97 (by decide) (Nat.le_of_ble_eq_true rfl) (Nat.le_of_ble_eq_true rfl) dX5_init_23 (fun s5 => ?_)
  refine sj_pR hJ fr_X5_18 rfl dX5_init_25 (fun s6 => ?_)
  refine sj (j_aload_n hJ dX5_init_28 rfl 0 rfl) ?_
  refine sj (j_bipush hJ (v := 60) dX5_init_29 ib_60) ?_
  refine sj_naI hJ (N := 60) wd_97 (by decide) (Nat.le_of_ble_eq_true rfl) (Nat.le_of_ble_eq_true rfl) dX5_init_31 (fun s7 => ?_)
  refine sj_pR hJ fr_X5_21 rfl dX5_init_33 (fun s8 => ?_)
  refine sj (j_aload_n hJ dX5_init_36 rfl 0 rfl) ?_
  refine sj (j_bipush hJ (v := 60) dX5_init_37 ib_60) ?_
  refine sj_naI hJ (N := 60) wd_97 (by decide) (Nat.le_of_ble_eq_true rfl) (Nat.le_of_ble_eq_true rfl) dX5_init_39 (fun s9 => ?_)
  refine sj_pR hJ fr_X5_24 rfl dX5_init_41 (fun s10 => ?_)
  refine sj (j_aload_n hJ dX5_init_44 rfl 0 rfl) ?_
  refine sj (j_bipush hJ (v := 60) dX5_init_45 ib_60) ?_
  refine sj_naI hJ (N := 60) wd_97 (by decide) (Nat.le_of_ble_eq_true rfl) (Nat.le_of_ble_eq_true rfl) dX5_init_47 (fun s11 => ?_)
  refine sj_pR hJ fr_X5_27 rfl dX5_init_49 (fun s12 => ?_)
  exact sj_vret hI dX5_init_52 (fun h => h)
theorem ct_X5_init {σ : St} {p0 : Nat} {δ : Dy} {r : St × Dy} (h : m_X5_init σ p0 δ = some r) : CT yX5_init cX5_init 1 none 1 20 6 360 [.ref p0] σ δ (none, r.1, r.2) := CT_of (by decide +kernel) (Nat.le_of_ble_eq_true rfl) (fun J hI => w_X5_init hI σ p0 δ r h rfl)
def m_X6_init_b58 (σ : St) (p0 : Nat) (p3 : Int32) (δ : Dy) : Option (St × Dy) := lp (fun (s : (Nat × Int32 × St × Dy)) =>
  if s.1 < 184 then
  (gR s.2.2.1 6 p0 2).bind fun v13 =>
  (aln s.2.2.1 105 v13).bind fun v14 =>
  if v14 ≤ s.2.1 then
    some (Sum.inr (s.2.2.1, s.2.2.2))
  else
    (gR s.2.2.1 6 p0 2).bind fun v15 =>
    (nwO s.2.2.1 3).bind fun s16 =>
    (m_X3_init s16 (sn s.2.2.1) (nwD s.2.2.1 s.2.2.2)).bind fun v17 =>
    (wA v17.1 105 3 v15 s.2.1 (sn s.2.2.1)).bind fun s18 =>
    some (Sum.inl (s.1 + 1, (s.2.1 + (1 : Int32)), s18, v17.2))
  else none) (0, p3, σ, δ)
def m_X6_init (σ : St) (p0 : Nat) (p1 : Nat) (p2 : Nat) (δ : Dy) : Option (St × Dy) :=
  (nwA σ 105 (183 : Int32) 183).bind fun s1 =>
  (pR s1 6 p0 2 (sn σ)).bind fun s2 =>
  (nwA s2 100 (4 : Int32) 4).bind fun s3 =>
  (pR s3 6 p0 4 (sn s2)).bind fun s4 =>
  (nwA s4 102 (1600 : Int32) 1600).bind fun s5 =>
  (pR s5 6 p0 5 (sn s4)).bind fun s6 =>
  (nwA s6 100 (60 : Int32) 60).bind fun s7 =>
  (pR s7 6 p0 6 (sn s6)).bind fun s8 =>
  (nwA s8 100 (8 : Int32) 8).bind fun s9 =>
  (pR s9 6 p0 8 (sn s8)).bind fun s10 =>
  (pR s10 6 p0 0 p1).bind fun s11 =>
  (pR s11 6 p0 1 p2).bind fun s12 =>
  m_X6_init_b58 s12 p0 (0 : Int32) (nwD s8 (nwD s6 (nwD s4 (nwD s2 (nwD σ δ)))))
set_option maxHeartbeats 4000000 in
set_option maxRecDepth 100000 in
theorem w_X6_init_b58 {J : JT} {an : Option Value × St × Dy} (hI : Isj cX6_init 4 RX6 "<init>" 2 40 none an J) (σ : St) (p0 : Nat) (p3 : Int32) (δ : Dy) : SJ (m_X6_init_b58 σ p0 p3 δ) (PVA an) (J 58 [(0, .ref p0), (3, .int p3)] [] (368, 2392) σ δ) := by
  have hJ := hI.cor
  unfold m_X6_init_b58
  refine sj_lp (G := fun s : (Nat × Int32 × St × Dy) => J 58 [(0, .ref p0), (3, .int s.2.1)] [] (0 + 2 * (184 - s.1), 0 + 13 * (184 - s.1)) s.2.2.1 s.2.2.2) (fun s => ?_) (0, p3, σ, δ)
  refine sj_ifc (fun hk => ?_) (fun _ => sj_none)
  refine sj (j_iload_n hJ dX6_init_58 rfl 1 rfl) ?_
  refine sj (j_aload_n hJ dX6_init_59 rfl 0 rfl) ?_
  refine sj_gR hJ fl_X6_13 rfl dX6_init_60 (fun v13 => ?_)
  refine sj_alnFr hJ dX6_init_63 (fun v14 => ?_)
  refine sj_if (j_icmp_ge hJ (tgt := 86) dX6_init_64 (by decide)) (fun _ => ?_) (fun _ => ?_)
  · exact sj_vret hI dX6_init_86 (fun h => h)
  · refine sj (j_aload_n hJ dX6_init_67 rfl 0 rfl) ?_
    refine sj_gR hJ fl_X6_13 rfl dX6_init_68 (fun v15 => ?_)
    refine sj (j_iload_n hJ dX6_init_71 rfl 1 rfl) ?_
    refine sj_new hJ (N := 9) nw_X6_11 rfl (by dsimp only; omega) (by dsimp only; omega) dX6_init_72 (fun s16 => ?_)
    refine sj (j_dup hJ dX6_init_75 rfl) ?_
    refine sj_callI hJ [] (st := [.ref (sn s.2.2.1), .int s.2.1, .ref v15]) (fr' := 1) (lo' := 20) (mc' := 1) (ms' := 4) mi_X6_39 (by decide) (by decide) (Nat.le_of_ble_eq_true rfl) (by dsimp only; omega) (by dsimp only; omega) dX6_init_76 rfl (fun _ h9 => ct_X3_init h9) (fun v17 => ?_)
    refine sj_wAFr hJ dX6_init_79 (fun s18 => ?_)
    refine sj (j_iinc hJ (L' := [(3, .int (s.2.1 + (1 : Int32))), (0, .ref p0)]) dX6_init_80 1 rfl (congrArg (fun z => s.2.1 + z) ic_1) (by decide) rfl) ?_
    refine sj (j_goto hJ (tgt := 58) dX6_init_83 (by decide)) ?_
    refine sj (j_sub hJ (L' := [(0, .ref p0), (3, .int (s.2.1 + (1 : Int32)))]) [1, 0] rfl) ?_
    refine sj (j_beta hJ (β' := (0 + 2 * (184 - (s.1 + 1)), 0 + 13 * (184 - (s.1 + 1)))) (by dsimp only; omega) (by dsimp only; omega)) ?_
    exact sj_end (fun h => h)
set_option maxHeartbeats 4000000 in
set_option maxRecDepth 100000 in
theorem w_X6_init {J : JT} {an : Option Value × St × Dy} (hI : Isj cX6_init 4 RX6 "<init>" 2 40 none an J) (σ : St) (p0 : Nat) (p1 : Nat) (p2 : Nat) (δ : Dy) : SJ (m_X6_init σ p0 p1 p2 δ) (PVA an) (J 0 [(0, .ref p0), (1, .ref p1), (2, .ref p2)] [] (373, 4247) σ δ) := by
  have hJ := hI.cor
  unfold m_X6_init
  refine sj (j_aload_n hJ dX6_init_0 rfl 0 rfl) ?_
  refine sj (j_objInit hJ mo_X6_3 (by decide) (by decide) (Nat.le_of_ble_eq_true rfl) dX6_init_1) ?_
  refine sj (j_aload_n hJ dX6_init_4 rfl 0 rfl) ?_
  refine sj (j_sipush hJ (v := 183) dX6_init_5 is_183) ?_
  refine sj_naFr hJ (N := 183) wd_310 (by decide) (Nat.le_of_ble_eq_true rfl) (Nat.le_of_ble_eq_true rfl) dX6_init_8 (fun s1 => ?_)
  refine sj_pR hJ fr_X6_13 rfl dX6_init_11 (fun s2 => ?_)
  refine sj (j_aload_n hJ dX6_init_14 rfl 0 rfl) ?_
  refine sj (j_iconst hJ (v := 4) dX6_init_15 ic_4) ?_
  refine sj_naI hJ (N := 4) wd_97 (by decide) (Nat.le_of_ble_eq_true rfl) (Nat.le_of_ble_eq_true rfl) dX6_init_16 (fun s3 => ?_)
  refine sj_pR hJ fr_X6_17 rfl dX6_init_18 (fun s4 => ?_)
  refine sj (j_aload_n hJ dX6_init_21 rfl 0 rfl) ?_
  refine sj (j_sipush hJ (v := 1600) dX6_init_22 is_1600) ?_
  refine sj_naL hJ (N := 1600) wd_258 (by decide) (Nat.le_of_ble_eq_true rfl) (Nat.le_of_ble_eq_true rfl) dX6_init_25 (fun s5 => ?_)
  refine sj_pR hJ fr_X6_21 rfl dX6_init_27 (fun s6 => ?_)
  refine sj (j_aload_n hJ dX6_init_30 rfl 0 rfl) ?_
  refine sj (j_bipush hJ (v := 60) dX6_init_31 ib_60) ?_
  refine sj_naI hJ (N := 60) wd_97 (by decide) (Nat.le_of_ble_eq_true rfl) (Nat.le_of_ble_eq_true rfl) dX6_init_33 (fun s7 => ?_)
  refine sj_pR hJ fr_X6_25 rfl dX6_init_35 (fun s8 => ?_)
  refine sj (j_aload_n hJ dX6_init_38 rfl 0 rfl) ?_
  refine sj (j_bipush hJ (v := 8) dX6_init_39 ib_8) ?_
  refine sj_naI hJ (N := 8) wd_97 (by decide) (Nat.le_of_ble_eq_true rfl) (Nat.le_of_ble_eq_true rfl) dX6_init_41 (fun s9 => ?_)
  refine sj_pR hJ fr_X6_28 rfl dX6_init_43 (fun s10 => ?_)
  refine sj (j_aload_n hJ dX6_init_46 rfl 0 rfl) ?_
  refine sj (j_aload_n hJ dX6_init_47 rfl 1 rfl) ?_
  refine sj_pR hJ fr_X6_31 rfl dX6_init_48 (fun s11 => ?_)
  refine sj (j_aload_n hJ dX6_init_51 rfl 0 rfl) ?_
  refine sj (j_aload_n hJ dX6_init_52 rfl 2 rfl) ?_
  refine sj_pR hJ fr_X6_35 rfl dX6_init_53 (fun s12 => ?_)
  refine sj (j_iconst hJ (v := 0) dX6_init_56 ic_0) ?_
  refine sj (j_istore_n hJ (L' := [(3, .int (0 : Int32)), (0, .ref p0), (1, .ref p1), (2, .ref p2)]) dX6_init_57 rfl (by decide) rfl) ?_
  refine sj (j_sub hJ (L' := [(0, .ref p0), (3, .int (0 : Int32))]) [1, 0] rfl) ?_
  refine sj (j_beta hJ (β' := (0 + 2 * (184 - 0), 0 + 13 * (184 - 0))) (Nat.le_of_ble_eq_true rfl) (Nat.le_of_ble_eq_true rfl)) ?_
  exact w_X6_init_b58 hI s12 p0 (0 : Int32) (nwD s8 (nwD s6 (nwD s4 (nwD s2 (nwD σ δ)))))
theorem ct_X6_init {σ : St} {p0 : Nat} {p1 : Nat} {p2 : Nat} {δ : Dy} {r : St × Dy} (h : m_X6_init σ p0 p1 p2 δ = some r) : CT yX6_init cX6_init 4 none 2 40 373 4247 [.ref p0, .ref p1, .ref p2] σ δ (none, r.1, r.2) := CT_of (by decide +kernel) (Nat.le_of_ble_eq_true rfl) (fun J hI => w_X6_init hI σ p0 p1 p2 δ r h rfl)
def m_X7_init (σ : St) (p0 : Nat) (δ : Dy) : Option (St × Dy) :=
  (nwA σ 100 (2 : Int32) 2).bind fun s1 =>
  (pR s1 7 p0 0 (sn σ)).bind fun s2 =>
  (nwA s2 100 (4 : Int32) 4).bind fun s3 =>
  (pR s3 7 p0 1 (sn s2)).bind fun s4 =>
  (nwA s4 101 (2 : Int32) 2).bind fun s5 =>
  (pR s5 7 p0 2 (sn s4)).bind fun s6 =>
  (nwA s6 100 (2 : Int32) 2).bind fun s7 =>
  (pR s7 7 p0 3 (sn s6)).bind fun s8 =>
  (nwA s8 100 (4 : Int32) 4).bind fun s9 =>
  (pR s9 7 p0 4 (sn s8)).bind fun s10 =>
  some (s10, (nwD s8 (nwD s6 (nwD s4 (nwD s2 (nwD σ δ))))))
set_option maxHeartbeats 4000000 in
set_option maxRecDepth 100000 in
theorem w_X7_init {J : JT} {an : Option Value × St × Dy} (hI : Isj cX7_init 1 RX7 "<init>" 1 20 none an J) (σ : St) (p0 : Nat) (δ : Dy) : SJ (m_X7_init σ p0 δ) (PVA an) (J 0 [(0, .ref p0)] [] (5, 14) σ δ) := by
  have hJ := hI.cor
  unfold m_X7_init
  refine sj (j_aload_n hJ dX7_init_0 rfl 0 rfl) ?_
  refine sj (j_objInit hJ mo_X7_3 (by decide) (by decide) (Nat.le_of_ble_eq_true rfl) dX7_init_1) ?_
  refine sj (j_aload_n hJ dX7_init_4 rfl 0 rfl) ?_
  refine sj (j_iconst hJ (v := 2) dX7_init_5 ic_2) ?_
  refine sj_naI hJ (N := 2) wd_97 (by decide) (Nat.le_of_ble_eq_true rfl) (Nat.le_of_ble_eq_true rfl) dX7_init_6 (fun s1 => ?_)
  refine sj_pR hJ fr_X7_9 rfl dX7_init_8 (fun s2 => ?_)
  refine sj (j_aload_n hJ dX7_init_11 rfl 0 rfl) ?_
  refine sj (j_iconst hJ (v := 4) dX7_init_12 ic_4) ?_
  refine sj_naI hJ (N := 4) wd_97 (by decide) (Nat.le_of_ble_eq_true rfl) (Nat.le_of_ble_eq_true rfl) dX7_init_13 (fun s3 => ?_)
  refine sj_pR hJ fr_X7_15 rfl dX7_init_15 (fun s4 => ?_)
  refine sj (j_aload_n hJ dX7_init_18 rfl 0 rfl) ?_
  refine sj (j_iconst hJ (v := 2) dX7_init_19 ic_2) ?_
  refine sj_naZ hJ (N := 2) wd_173 (by decide) (Nat.le_of_ble_eq_true rfl) (Nat.le_of_ble_eq_true rfl) dX7_init_20 (fun s5 => ?_)
  refine sj_pR hJ fr_X7_18 rfl dX7_init_22 (fun s6 => ?_)
  refine sj (j_aload_n hJ dX7_init_25 rfl 0 rfl) ?_
  refine sj (j_iconst hJ (v := 2) dX7_init_26 ic_2) ?_
  refine sj_naI hJ (N := 2) wd_97 (by decide) (Nat.le_of_ble_eq_true rfl) (Nat.le_of_ble_eq_true rfl) dX7_init_27 (fun s7 => ?_)
  refine sj_pR hJ fr_X7_22 rfl dX7_init_29 (fun s8 => ?_)
  refine sj (j_aload_n hJ dX7_init_32 rfl 0 rfl) ?_
  refine sj (j_iconst hJ (v := 4) dX7_init_33 ic_4) ?_
  refine sj_naI hJ (N := 4) wd_97 (by decide) (Nat.le_of_ble_eq_true rfl) (Nat.le_of_ble_eq_true rfl) dX7_init_34 (fun s9 => ?_)
  refine sj_pR hJ fr_X7_25 rfl dX7_init_36 (fun s10 => ?_)
  exact sj_vret hI dX7_init_39 (fun h => h)
theorem ct_X7_init {σ : St} {p0 : Nat} {δ : Dy} {r : St × Dy} (h : m_X7_init σ p0 δ = some r) : CT yX7_init cX7_init 1 none 1 20 5 14 [.ref p0] σ δ (none, r.1, r.2) := CT_of (by decide +kernel) (Nat.le_of_ble_eq_true rfl) (fun J hI => w_X7_init hI σ p0 δ r h rfl)
def m_X8_init (σ : St) (p0 : Nat) (δ : Dy) : Option (St × Dy) :=
  (nwA σ 100 (60 : Int32) 60).bind fun s1 =>
  (pR s1 8 p0 0 (sn σ)).bind fun s2 =>
  (nwA s2 100 (60 : Int32) 60).bind fun s3 =>
  (pR s3 8 p0 1 (sn s2)).bind fun s4 =>
  (nwA s4 100 (100 : Int32) 100).bind fun s5 =>
  (pR s5 8 p0 3 (sn s4)).bind fun s6 =>
  (nwA s6 100 (100 : Int32) 100).bind fun s7 =>
  (pR s7 8 p0 4 (sn s6)).bind fun s8 =>
  (nwA s8 100 (100 : Int32) 100).bind fun s9 =>
  (pR s9 8 p0 5 (sn s8)).bind fun s10 =>
  (nwA s10 101 (100 : Int32) 100).bind fun s11 =>
  (pR s11 8 p0 6 (sn s10)).bind fun s12 =>
  (nwA s12 101 (100 : Int32) 100).bind fun s13 =>
  (pR s13 8 p0 7 (sn s12)).bind fun s14 =>
  (nwA s14 102 (100 : Int32) 100).bind fun s15 =>
  (pR s15 8 p0 8 (sn s14)).bind fun s16 =>
  (nwA s16 102 (100 : Int32) 100).bind fun s17 =>
  (pR s17 8 p0 9 (sn s16)).bind fun s18 =>
  some (s18, (nwD s16 (nwD s14 (nwD s12 (nwD s10 (nwD s8 (nwD s6 (nwD s4 (nwD s2 (nwD σ δ))))))))))
set_option maxHeartbeats 4000000 in
set_option maxRecDepth 100000 in
theorem w_X8_init {J : JT} {an : Option Value × St × Dy} (hI : Isj cX8_init 1 RX8 "<init>" 1 20 none an J) (σ : St) (p0 : Nat) (δ : Dy) : SJ (m_X8_init σ p0 δ) (PVA an) (J 0 [(0, .ref p0)] [] (9, 820) σ δ) := by
  have hJ := hI.cor
  unfold m_X8_init
  refine sj (j_aload_n hJ dX8_init_0 rfl 0 rfl) ?_
  refine sj (j_objInit hJ mo_X8_3 (by decide) (by decide) (Nat.le_of_ble_eq_true rfl) dX8_init_1) ?_
  refine sj (j_aload_n hJ dX8_init_4 rfl 0 rfl) ?_
  refine sj (j_bipush hJ (v := 60) dX8_init_5 ib_60) ?_
  refine sj_naI hJ (N := 60) wd_97 (by decide) (Nat.le_of_ble_eq_true rfl) (Nat.le_of_ble_eq_true rfl) dX8_init_7 (fun s1 => ?_)
  refine sj_pR hJ fr_X8_9 rfl dX8_init_9 (fun s2 => ?_)
  refine sj (j_aload_n hJ dX8_init_12 rfl 0 rfl) ?_
  refine sj (j_bipush hJ (v := 60) dX8_init_13 ib_60) ?_
  refine sj_naI hJ (N := 60) wd_97 (by decide) (Nat.le_of_ble_eq_true rfl) (Nat.le_of_ble_eq_true rfl) dX8_init_15 (fun s3 => ?_)
  refine sj_pR hJ fr_X8_15 rfl dX8_init_17 (fun s4 => ?_)
  refine sj (j_aload_n hJ dX8_init_20 rfl 0 rfl) ?_
  refine sj (j_bipush hJ (v := 100) dX8_init_21 ib_100) ?_
  refine sj_naI hJ (N := 100) wd_97 (by decide) (Nat.le_of_ble_eq_true rfl) (Nat.le_of_ble_eq_true rfl) dX8_init_23 (fun s5 => ?_)
  refine sj_pR hJ fr_X8_18 rfl dX8_init_25 (fun s6 => ?_)
  refine sj (j_aload_n hJ dX8_init_28 rfl 0 rfl) ?_
  refine sj (j_bipush hJ (v := 100) dX8_init_29 ib_100) ?_
  refine sj_naI hJ (N := 100) wd_97 (by decide) (Nat.le_of_ble_eq_true rfl) (Nat.le_of_ble_eq_true rfl) dX8_init_31 (fun s7 => ?_)
  refine sj_pR hJ fr_X8_21 rfl dX8_init_33 (fun s8 => ?_)
  refine sj (j_aload_n hJ dX8_init_36 rfl 0 rfl) ?_
  refine sj (j_bipush hJ (v := 100) dX8_init_37 ib_100) ?_
  refine sj_naI hJ (N := 100) wd_97 (by decide) (Nat.le_of_ble_eq_true rfl) (Nat.le_of_ble_eq_true rfl) dX8_init_39 (fun s9 => ?_)
  refine sj_pR hJ fr_X8_24 rfl dX8_init_41 (fun s10 => ?_)
  refine sj (j_aload_n hJ dX8_init_44 rfl 0 rfl) ?_
  refine sj (j_bipush hJ (v := 100) dX8_init_45 ib_100) ?_
  refine sj_naZ hJ (N := 100) wd_173 (by decide) (Nat.le_of_ble_eq_true rfl) (Nat.le_of_ble_eq_true rfl) dX8_init_47 (fun s11 => ?_)
  refine sj_pR hJ fr_X8_27 rfl dX8_init_49 (fun s12 => ?_)
  refine sj (j_aload_n hJ dX8_init_52 rfl 0 rfl) ?_
  refine sj (j_bipush hJ (v := 100) dX8_init_53 ib_100) ?_
  refine sj_naZ hJ (N := 100) wd_173 (by decide) (Nat.le_of_ble_eq_true rfl) (Nat.le_of_ble_eq_true rfl) dX8_init_55 (fun s13 => ?_)
  refine sj_pR hJ fr_X8_31 rfl dX8_init_57 (fun s14 => ?_)
  refine sj (j_aload_n hJ dX8_init_60 rfl 0 rfl) ?_
  refine sj (j_bipush hJ (v := 100) dX8_init_61 ib_100) ?_
  refine sj_naL hJ (N := 100) wd_258 (by decide) (Nat.le_of_ble_eq_true rfl) (Nat.le_of_ble_eq_true rfl) dX8_init_63 (fun s15 => ?_)
  refine sj_pR hJ fr_X8_34 rfl dX8_init_65 (fun s16 => ?_)
  refine sj (j_aload_n hJ dX8_init_68 rfl 0 rfl) ?_
  refine sj (j_bipush hJ (v := 100) dX8_init_69 ib_100) ?_
  refine sj_naL hJ (N := 100) wd_258 (by decide) (Nat.le_of_ble_eq_true rfl) (Nat.le_of_ble_eq_true rfl) dX8_init_71 (fun s17 => ?_)
  refine sj_pR hJ fr_X8_38 rfl dX8_init_73 (fun s18 => ?_)
  exact sj_vret hI dX8_init_76 (fun h => h)
theorem ct_X8_init {σ : St} {p0 : Nat} {δ : Dy} {r : St × Dy} (h : m_X8_init σ p0 δ = some r) : CT yX8_init cX8_init 1 none 1 20 9 820 [.ref p0] σ δ (none, r.1, r.2) := CT_of (by decide +kernel) (Nat.le_of_ble_eq_true rfl) (fun J hI => w_X8_init hI σ p0 δ r h rfl)
def m_X9_init (σ : St) (p0 : Nat) (δ : Dy) : Option (St × Dy) :=
  (nwA σ 100 (61 : Int32) 61).bind fun s1 =>
  (pR s1 9 p0 0 (sn σ)).bind fun s2 =>
  (nwA s2 100 (61 : Int32) 61).bind fun s3 =>
  (pR s3 9 p0 1 (sn s2)).bind fun s4 =>
  (nwA s4 100 (1296 : Int32) 1296).bind fun s5 =>
  (pR s5 9 p0 4 (sn s4)).bind fun s6 =>
  some (s6, (nwD s4 (nwD s2 (nwD σ δ))))
set_option maxHeartbeats 4000000 in
set_option maxRecDepth 100000 in
theorem w_X9_init {J : JT} {an : Option Value × St × Dy} (hI : Isj cX9_init 1 RX9 "<init>" 1 20 none an J) (σ : St) (p0 : Nat) (δ : Dy) : SJ (m_X9_init σ p0 δ) (PVA an) (J 0 [(0, .ref p0)] [] (3, 1418) σ δ) := by
  have hJ := hI.cor
  unfold m_X9_init
  refine sj (j_aload_n hJ dX9_init_0 rfl 0 rfl) ?_
  refine sj (j_objInit hJ mo_X9_3 (by decide) (by decide) (Nat.le_of_ble_eq_true rfl) dX9_init_1) ?_
  refine sj (j_aload_n hJ dX9_init_4 rfl 0 rfl) ?_
  refine sj (j_bipush hJ (v := 61) dX9_init_5 ib_61) ?_
  refine sj_naI hJ (N := 61) wd_97 (by decide) (Nat.le_of_ble_eq_true rfl) (Nat.le_of_ble_eq_true rfl) dX9_init_7 (fun s1 => ?_)
  refine sj_pR hJ fr_X9_9 rfl dX9_init_9 (fun s2 => ?_)
  refine sj (j_aload_n hJ dX9_init_12 rfl 0 rfl) ?_
  refine sj (j_bipush hJ (v := 61) dX9_init_13 ib_61) ?_
  refine sj_naI hJ (N := 61) wd_97 (by decide) (Nat.le_of_ble_eq_true rfl) (Nat.le_of_ble_eq_true rfl) dX9_init_15 (fun s3 => ?_)
  refine sj_pR hJ fr_X9_15 rfl dX9_init_17 (fun s4 => ?_)
  refine sj (j_aload_n hJ dX9_init_20 rfl 0 rfl) ?_
  refine sj (j_sipush hJ (v := 1296) dX9_init_21 is_1296) ?_
  refine sj_naI hJ (N := 1296) wd_97 (by decide) (Nat.le_of_ble_eq_true rfl) (Nat.le_of_ble_eq_true rfl) dX9_init_24 (fun s5 => ?_)
  refine sj_pR hJ fr_X9_18 rfl dX9_init_26 (fun s6 => ?_)
  exact sj_vret hI dX9_init_29 (fun h => h)
theorem ct_X9_init {σ : St} {p0 : Nat} {δ : Dy} {r : St × Dy} (h : m_X9_init σ p0 δ = some r) : CT yX9_init cX9_init 1 none 1 20 3 1418 [.ref p0] σ δ (none, r.1, r.2) := CT_of (by decide +kernel) (Nat.le_of_ble_eq_true rfl) (fun J hI => w_X9_init hI σ p0 δ r h rfl)
def m_X10_init_b84 (σ : St) (p0 : Nat) (p3 : Int32) (δ : Dy) : Option (St × Dy) := lp (fun (s : (Nat × Int32 × St × Dy)) =>
  if s.1 < 5 then
  (gR s.2.2.1 10 p0 6).bind fun v21 =>
  (aln s.2.2.1 103 v21).bind fun v22 =>
  if v22 ≤ s.2.1 then
    (gR s.2.2.1 10 p0 4).bind fun v23 =>
    (m_J7_fill_53178 s.2.2.1 v23 (-1 : Int32) s.2.2.2).bind fun v24 =>
    some (Sum.inr (s.2.2.1, v24))
  else
    (gR s.2.2.1 10 p0 6).bind fun v25 =>
    (nwO s.2.2.1 4).bind fun s26 =>
    (m_X4_init s26 (sn s.2.2.1) (nwD s.2.2.1 s.2.2.2)).bind fun v27 =>
    (wA v27.1 103 4 v25 s.2.1 (sn s.2.2.1)).bind fun s28 =>
    some (Sum.inl (s.1 + 1, (s.2.1 + (1 : Int32)), s28, v27.2))
  else none) (0, p3, σ, δ)
def m_X10_init (σ : St) (p0 : Nat) (p1 : Nat) (p2 : Nat) (δ : Dy) : Option (St × Dy) :=
  (nwO σ 8).bind fun s1 =>
  (m_X8_init s1 (sn σ) (nwD σ δ)).bind fun v2 =>
  (pR v2.1 10 p0 1 (sn σ)).bind fun s3 =>
  (nwO s3 2).bind fun s4 =>
  (m_X2_init s4 (sn s3) (nwD s3 v2.2)).bind fun v5 =>
  (pR v5.1 10 p0 3 (sn s3)).bind fun s6 =>
  (nwA s6 100 (6 : Int32) 6).bind fun s7 =>
  (pR s7 10 p0 4 (sn s6)).bind fun s8 =>
  (nwA s8 100 (120 : Int32) 120).bind fun s9 =>
  (pR s9 10 p0 5 (sn s8)).bind fun s10 =>
  (nwA s10 103 (4 : Int32) 4).bind fun s11 =>
  (pR s11 10 p0 6 (sn s10)).bind fun s12 =>
  (nwO s12 0).bind fun s13 =>
  (m_X0_init s13 (sn s12) (nwD s12 (nwD s10 (nwD s8 (nwD s6 v5.2))))).bind fun v14 =>
  (pR v14.1 10 p0 7 (sn s12)).bind fun s15 =>
  (pR s15 10 p0 0 p1).bind fun s16 =>
  (nwO s16 6).bind fun s17 =>
  (gR s17 10 p0 1).bind fun v18 =>
  (m_X6_init s17 (sn s16) v18 p2 (nwD s16 v14.2)).bind fun v19 =>
  (pR v19.1 10 p0 2 (sn s16)).bind fun s20 =>
  m_X10_init_b84 s20 p0 (0 : Int32) v19.2
set_option maxHeartbeats 4000000 in
set_option maxRecDepth 100000 in
theorem w_X10_init_b84 {J : JT} {an : Option Value × St × Dy} (hI : Isj cX10_init 4 RX10 "<init>" 3 63 none an J) (σ : St) (p0 : Nat) (p3 : Int32) (δ : Dy) : SJ (m_X10_init_b84 σ p0 p3 δ) (PVA an) (J 84 [(0, .ref p0), (3, .int p3)] [] (120, 22280) σ δ) := by
  have hJ := hI.cor
  unfold m_X10_init_b84
  refine sj_lp (G := fun s : (Nat × Int32 × St × Dy) => J 84 [(0, .ref p0), (3, .int s.2.1)] [] (0 + 24 * (5 - s.1), 0 + 4456 * (5 - s.1)) s.2.2.1 s.2.2.2) (fun s => ?_) (0, p3, σ, δ)
  refine sj_ifc (fun hk => ?_) (fun _ => sj_none)
  refine sj (j_iload_n hJ dX10_init_84 rfl 1 rfl) ?_
  refine sj (j_aload_n hJ dX10_init_85 rfl 0 rfl) ?_
  refine sj_gR hJ fl_X10_34 rfl dX10_init_86 (fun v21 => ?_)
  refine sj_alnLv hJ dX10_init_89 (fun v22 => ?_)
  refine sj_if (j_icmp_ge hJ (tgt := 112) dX10_init_90 (by decide)) (fun _ => ?_) (fun _ => ?_)
  · refine sj (j_aload_n hJ dX10_init_112 rfl 0 rfl) ?_
    refine sj_gR hJ fl_X10_25 rfl dX10_init_113 (fun v23 => ?_)
    refine sj (j_iconst hJ (v := -1) dX10_init_116 ic_m1) ?_
    refine sj_callSv hJ [.ref v23, .int (-1 : Int32)] (st := []) (fr' := 0) (lo' := 0) ml_X10_59 (by decide) (by decide) (Nat.le_of_ble_eq_true rfl) dX10_init_117 rfl (fun _ h9 => ct_J7_fill_53178 h9) (fun v24 => ?_)
    exact sj_vret hI dX10_init_120 (fun h => h)
  · refine sj (j_aload_n hJ dX10_init_93 rfl 0 rfl) ?_
    refine sj_gR hJ fl_X10_34 rfl dX10_init_94 (fun v25 => ?_)
    refine sj (j_iload_n hJ dX10_init_97 rfl 1 rfl) ?_
    refine sj_new hJ (N := 11) nw_X10_32 rfl (by dsimp only; omega) (by dsimp only; omega) dX10_init_98 (fun s26 => ?_)
    refine sj (j_dup hJ dX10_init_101 rfl) ?_
    refine sj_callI hJ [] (st := [.ref (sn s.2.2.1), .int s.2.1, .ref v25]) (fr' := 2) (lo' := 41) (mc' := 23) (ms' := 4445) mi_X10_58 (by decide) (by decide) (Nat.le_of_ble_eq_true rfl) (by dsimp only; omega) (by dsimp only; omega) dX10_init_102 rfl (fun _ h9 => ct_X4_init h9) (fun v27 => ?_)
    refine sj_wALv hJ dX10_init_105 (fun s28 => ?_)
    refine sj (j_iinc hJ (L' := [(3, .int (s.2.1 + (1 : Int32))), (0, .ref p0)]) dX10_init_106 1 rfl (congrArg (fun z => s.2.1 + z) ic_1) (by decide) rfl) ?_
    refine sj (j_goto hJ (tgt := 84) dX10_init_109 (by decide)) ?_
    refine sj (j_sub hJ (L' := [(0, .ref p0), (3, .int (s.2.1 + (1 : Int32)))]) [1, 0] rfl) ?_
    refine sj (j_beta hJ (β' := (0 + 24 * (5 - (s.1 + 1)), 0 + 4456 * (5 - (s.1 + 1)))) (by dsimp only; omega) (by dsimp only; omega)) ?_
    exact sj_end (fun h => h)
set_option maxHeartbeats 4000000 in
set_option maxRecDepth 100000 in
theorem w_X10_init {J : JT} {an : Option Value × St × Dy} (hI : Isj cX10_init 4 RX10 "<init>" 3 63 none an J) (σ : St) (p0 : Nat) (p1 : Nat) (p2 : Nat) (δ : Dy) : SJ (m_X10_init σ p0 p1 p2 δ) (PVA an) (J 0 [(0, .ref p0), (1, .ref p1), (2, .ref p2)] [] (511, 27517) σ δ) := by
  have hJ := hI.cor
  unfold m_X10_init
  refine sj (j_aload_n hJ dX10_init_0 rfl 0 rfl) ?_
  refine sj (j_objInit hJ mo_X10_3 (by decide) (by decide) (Nat.le_of_ble_eq_true rfl) dX10_init_1) ?_
  refine sj (j_aload_n hJ dX10_init_4 rfl 0 rfl) ?_
  refine sj_new hJ (N := 13) nw_X10_9 rfl (Nat.le_of_ble_eq_true rfl) (Nat.le_of_ble_eq_true rfl) dX10_init_5 (fun s1 => ?_)
  refine sj (j_dup hJ dX10_init_8 rfl) ?_
  refine sj_callI hJ [] (st := [.ref (sn σ), .ref p0]) (fr' := 1) (lo' := 20) (mc' := 9) (ms' := 820) mi_X10_11 (by decide) (by decide) (Nat.le_of_ble_eq_true rfl) (Nat.le_of_ble_eq_true rfl) (Nat.le_of_ble_eq_true rfl) dX10_init_9 rfl (fun _ h9 => ct_X8_init h9) (fun v2 => ?_)
  refine sj_pR hJ fr_X10_12 rfl dX10_init_12 (fun s3 => ?_)
  refine sj (j_aload_n hJ dX10_init_15 rfl 0 rfl) ?_
  refine sj_new hJ (N := 2) nw_X10_18 rfl (Nat.le_of_ble_eq_true rfl) (Nat.le_of_ble_eq_true rfl) dX10_init_16 (fun s4 => ?_)
  refine sj (j_dup hJ dX10_init_19 rfl) ?_
  refine sj_callI hJ [] (st := [.ref (sn s3), .ref p0]) (fr' := 1) (lo' := 20) (mc' := 1) (ms' := 7) mi_X10_20 (by decide) (by decide) (Nat.le_of_ble_eq_true rfl) (Nat.le_of_ble_eq_true rfl) (Nat.le_of_ble_eq_true rfl) dX10_init_20 rfl (fun _ h9 => ct_X2_init h9) (fun v5 => ?_)
  refine sj_pR hJ fr_X10_21 rfl dX10_init_23 (fun s6 => ?_)
  refine sj (j_aload_n hJ dX10_init_26 rfl 0 rfl) ?_
  refine sj (j_bipush hJ (v := 6) dX10_init_27 ib_6) ?_
  refine sj_naI hJ (N := 6) wd_97 (by decide) (Nat.le_of_ble_eq_true rfl) (Nat.le_of_ble_eq_true rfl) dX10_init_29 (fun s7 => ?_)
  refine sj_pR hJ fr_X10_25 rfl dX10_init_31 (fun s8 => ?_)
  refine sj (j_aload_n hJ dX10_init_34 rfl 0 rfl) ?_
  refine sj (j_bipush hJ (v := 120) dX10_init_35 ib_120) ?_
  refine sj_naI hJ (N := 120) wd_97 (by decide) (Nat.le_of_ble_eq_true rfl) (Nat.le_of_ble_eq_true rfl) dX10_init_37 (fun s9 => ?_)
  refine sj_pR hJ fr_X10_29 rfl dX10_init_39 (fun s10 => ?_)
  refine sj (j_aload_n hJ dX10_init_42 rfl 0 rfl) ?_
  refine sj (j_iconst hJ (v := 4) dX10_init_43 ic_4) ?_
  refine sj_naLv hJ (N := 4) wd_275 (by decide) (Nat.le_of_ble_eq_true rfl) (Nat.le_of_ble_eq_true rfl) dX10_init_44 (fun s11 => ?_)
  refine sj_pR hJ fr_X10_34 rfl dX10_init_47 (fun s12 => ?_)
  refine sj (j_aload_n hJ dX10_init_50 rfl 0 rfl) ?_
  refine sj_new hJ (N := 4) nw_X10_38 rfl (Nat.le_of_ble_eq_true rfl) (Nat.le_of_ble_eq_true rfl) dX10_init_51 (fun s13 => ?_)
  refine sj (j_dup hJ dX10_init_54 rfl) ?_
  refine sj_callI hJ [] (st := [.ref (sn s12), .ref p0]) (fr' := 1) (lo' := 20) (mc' := 1) (ms' := 4) mi_X10_40 (by decide) (by decide) (Nat.le_of_ble_eq_true rfl) (Nat.le_of_ble_eq_true rfl) (Nat.le_of_ble_eq_true rfl) dX10_init_55 rfl (fun _ h9 => ct_X0_init h9) (fun v14 => ?_)
  refine sj_pR hJ fr_X10_41 rfl dX10_init_58 (fun s15 => ?_)
  refine sj (j_aload_n hJ dX10_init_61 rfl 0 rfl) ?_
  refine sj (j_aload_n hJ dX10_init_62 rfl 1 rfl) ?_
  refine sj_pR hJ fr_X10_45 rfl dX10_init_63 (fun s16 => ?_)
  refine sj (j_aload_n hJ dX10_init_66 rfl 0 rfl) ?_
  refine sj_new hJ (N := 10) nw_X10_49 rfl (Nat.le_of_ble_eq_true rfl) (Nat.le_of_ble_eq_true rfl) dX10_init_67 (fun s17 => ?_)
  refine sj (j_dup hJ dX10_init_70 rfl) ?_
  refine sj (j_aload_n hJ dX10_init_71 rfl 0 rfl) ?_
  refine sj_gR hJ fl_X10_12 rfl dX10_init_72 (fun v18 => ?_)
  refine sj (j_aload_n hJ dX10_init_75 rfl 2 rfl) ?_
  refine sj_callI hJ [.ref v18, .ref p2] (st := [.ref (sn s16), .ref p0]) (fr' := 2) (lo' := 40) (mc' := 373) (ms' := 4247) mi_X10_51 (by decide) (by decide) (Nat.le_of_ble_eq_true rfl) (Nat.le_of_ble_eq_true rfl) (Nat.le_of_ble_eq_true rfl) dX10_init_76 rfl (fun _ h9 => ct_X6_init h9) (fun v19 => ?_)
  refine sj_pR hJ fr_X10_54 rfl dX10_init_79 (fun s20 => ?_)
  refine sj (j_iconst hJ (v := 0) dX10_init_82 ic_0) ?_
  refine sj (j_istore_n hJ (L' := [(3, .int (0 : Int32)), (0, .ref p0), (1, .ref p1), (2, .ref p2)]) dX10_init_83 rfl (by decide) rfl) ?_
  refine sj (j_sub hJ (L' := [(0, .ref p0), (3, .int (0 : Int32))]) [1, 0] rfl) ?_
  refine sj (j_beta hJ (β' := (0 + 24 * (5 - 0), 0 + 4456 * (5 - 0))) (Nat.le_of_ble_eq_true rfl) (Nat.le_of_ble_eq_true rfl)) ?_
  exact w_X10_init_b84 hI s20 p0 (0 : Int32) v19.2
theorem ct_X10_init {σ : St} {p0 : Nat} {p1 : Nat} {p2 : Nat} {δ : Dy} {r : St × Dy} (h : m_X10_init σ p0 p1 p2 δ = some r) : CT yX10_init cX10_init 4 none 3 63 511 27517 [.ref p0, .ref p1, .ref p2] σ δ (none, r.1, r.2) := CT_of (by decide +kernel) (Nat.le_of_ble_eq_true rfl) (fun J hI => w_X10_init hI σ p0 p1 p2 δ r h rfl)
def m_X11_init_b46 (σ : St) (p0 : Nat) (p1 : Int32) (δ : Dy) : Option (St × Dy) := lp (fun (s : (Nat × Int32 × St × Dy)) =>
  if s.1 < 10 then
  (gR s.2.2.1 11 p0 1).bind fun v11 =>
  (aln s.2.2.1 104 v11).bind fun v12 =>
  if v12 ≤ s.2.1 then
    (nwO s.2.2.1 10).bind fun s13 =>
    (gR s13 11 p0 0).bind fun v14 =>
    (gR s13 11 p0 1).bind fun v15 =>
    (m_X10_init s13 (sn s.2.2.1) v14 v15 (nwD s.2.2.1 s.2.2.2)).bind fun v16 =>
    (pR v16.1 11 p0 2 (sn s.2.2.1)).bind fun s17 =>
    (nwO s17 10).bind fun s18 =>
    (gR s18 11 p0 0).bind fun v19 =>
    (gR s18 11 p0 1).bind fun v20 =>
    (m_X10_init s18 (sn s17) v19 v20 (nwD s17 v16.2)).bind fun v21 =>
    (pR v21.1 11 p0 3 (sn s17)).bind fun s22 =>
    some (Sum.inr (s22, v21.2))
  else
    (gR s.2.2.1 11 p0 1).bind fun v23 =>
    (nwO s.2.2.1 7).bind fun s24 =>
    (m_X7_init s24 (sn s.2.2.1) (nwD s.2.2.1 s.2.2.2)).bind fun v25 =>
    (wA v25.1 104 7 v23 s.2.1 (sn s.2.2.1)).bind fun s26 =>
    some (Sum.inl (s.1 + 1, (s.2.1 + (1 : Int32)), s26, v25.2))
  else none) (0, p1, σ, δ)
def m_X11_init (σ : St) (p0 : Nat) (δ : Dy) : Option (St × Dy) :=
  (nwO σ 5).bind fun s1 =>
  (m_X5_init s1 (sn σ) (nwD σ δ)).bind fun v2 =>
  (pR v2.1 11 p0 0 (sn σ)).bind fun s3 =>
  (nwA s3 104 (9 : Int32) 9).bind fun s4 =>
  (pR s4 11 p0 1 (sn s3)).bind fun s5 =>
  (nwO s5 9).bind fun s6 =>
  (m_X9_init s6 (sn s5) (nwD s5 (nwD s3 v2.2))).bind fun v7 =>
  (pR v7.1 11 p0 4 (sn s5)).bind fun s8 =>
  (nwA s8 100 (2048 : Int32) 2048).bind fun s9 =>
  (pR s9 11 p0 5 (sn s8)).bind fun s10 =>
  m_X11_init_b46 s10 p0 (0 : Int32) (nwD s8 v7.2)
set_option maxHeartbeats 4000000 in
set_option maxRecDepth 100000 in
theorem w_X11_init_b46 {J : JT} {an : Option Value × St × Dy} (hI : Isj cX11_init 2 RX11 "<init>" 4 86 none an J) (σ : St) (p0 : Nat) (p1 : Int32) (δ : Dy) : SJ (m_X11_init_b46 σ p0 p1 δ) (PVA an) (J 46 [(0, .ref p0), (1, .int p1)] [] (1084, 55318) σ δ) := by
  have hJ := hI.cor
  unfold m_X11_init_b46
  refine sj_lp (G := fun s : (Nat × Int32 × St × Dy) => J 46 [(0, .ref p0), (1, .int s.2.1)] [] (1024 + 6 * (10 - s.1), 55058 + 26 * (10 - s.1)) s.2.2.1 s.2.2.2) (fun s => ?_) (0, p1, σ, δ)
  refine sj_ifc (fun hk => ?_) (fun _ => sj_none)
  refine sj (j_iload_n hJ dX11_init_46 rfl 1 rfl) ?_
  refine sj (j_aload_n hJ dX11_init_47 rfl 0 rfl) ?_
  refine sj_gR hJ fl_X11_18 rfl dX11_init_48 (fun v11 => ?_)
  refine sj_alnRu hJ dX11_init_51 (fun v12 => ?_)
  refine sj_if (j_icmp_ge hJ (tgt := 74) dX11_init_52 (by decide)) (fun _ => ?_) (fun _ => ?_)
  · refine sj (j_aload_n hJ dX11_init_74 rfl 0 rfl) ?_
    refine sj_new hJ (N := 12) nw_X11_34 rfl (by dsimp only; omega) (by dsimp only; omega) dX11_init_75 (fun s13 => ?_)
    refine sj (j_dup hJ dX11_init_78 rfl) ?_
    refine sj (j_aload_n hJ dX11_init_79 rfl 0 rfl) ?_
    refine sj_gR hJ fl_X11_10 rfl dX11_init_80 (fun v14 => ?_)
    refine sj (j_aload_n hJ dX11_init_83 rfl 0 rfl) ?_
    refine sj_gR hJ fl_X11_18 rfl dX11_init_84 (fun v15 => ?_)
    refine sj_callI hJ [.ref v14, .ref v15] (st := [.ref (sn s.2.2.1), .ref p0]) (fr' := 3) (lo' := 63) (mc' := 511) (ms' := 27517) mi_X11_36 (by decide) (by decide) (Nat.le_of_ble_eq_true rfl) (by dsimp only; omega) (by dsimp only; omega) dX11_init_87 rfl (fun _ h9 => ct_X10_init h9) (fun v16 => ?_)
    refine sj_pR hJ fr_X11_39 rfl dX11_init_90 (fun s17 => ?_)
    refine sj (j_aload_n hJ dX11_init_93 rfl 0 rfl) ?_
    refine sj_new hJ (N := 12) nw_X11_34 rfl (by dsimp only; omega) (by dsimp only; omega) dX11_init_94 (fun s18 => ?_)
    refine sj (j_dup hJ dX11_init_97 rfl) ?_
    refine sj (j_aload_n hJ dX11_init_98 rfl 0 rfl) ?_
    refine sj_gR hJ fl_X11_10 rfl dX11_init_99 (fun v19 => ?_)
    refine sj (j_aload_n hJ dX11_init_102 rfl 0 rfl) ?_
    refine sj_gR hJ fl_X11_18 rfl dX11_init_103 (fun v20 => ?_)
    refine sj_callI hJ [.ref v19, .ref v20] (st := [.ref (sn s17), .ref p0]) (fr' := 3) (lo' := 63) (mc' := 511) (ms' := 27517) mi_X11_36 (by decide) (by decide) (Nat.le_of_ble_eq_true rfl) (by dsimp only; omega) (by dsimp only; omega) dX11_init_106 rfl (fun _ h9 => ct_X10_init h9) (fun v21 => ?_)
    refine sj_pR hJ fr_X11_43 rfl dX11_init_109 (fun s22 => ?_)
    exact sj_vret hI dX11_init_112 (fun h => h)
  · refine sj (j_aload_n hJ dX11_init_55 rfl 0 rfl) ?_
    refine sj_gR hJ fl_X11_18 rfl dX11_init_56 (fun v23 => ?_)
    refine sj (j_iload_n hJ dX11_init_59 rfl 1 rfl) ?_
    refine sj_new hJ (N := 12) nw_X11_16 rfl (by dsimp only; omega) (by dsimp only; omega) dX11_init_60 (fun s24 => ?_)
    refine sj (j_dup hJ dX11_init_63 rfl) ?_
    refine sj_callI hJ [] (st := [.ref (sn s.2.2.1), .int s.2.1, .ref v23]) (fr' := 1) (lo' := 20) (mc' := 5) (ms' := 14) mi_X11_33 (by decide) (by decide) (Nat.le_of_ble_eq_true rfl) (by dsimp only; omega) (by dsimp only; omega) dX11_init_64 rfl (fun _ h9 => ct_X7_init h9) (fun v25 => ?_)
    refine sj_wARu hJ dX11_init_67 (fun s26 => ?_)
    refine sj (j_iinc hJ (L' := [(1, .int (s.2.1 + (1 : Int32))), (0, .ref p0)]) dX11_init_68 1 rfl (congrArg (fun z => s.2.1 + z) ic_1) (by decide) rfl) ?_
    refine sj (j_goto hJ (tgt := 46) dX11_init_71 (by decide)) ?_
    refine sj (j_sub hJ (L' := [(0, .ref p0), (1, .int (s.2.1 + (1 : Int32)))]) [1, 0] rfl) ?_
    refine sj (j_beta hJ (β' := (1024 + 6 * (10 - (s.1 + 1)), 55058 + 26 * (10 - (s.1 + 1)))) (by dsimp only; omega) (by dsimp only; omega)) ?_
    exact sj_end (fun h => h)
set_option maxHeartbeats 4000000 in
set_option maxRecDepth 100000 in
theorem w_X11_init {J : JT} {an : Option Value × St × Dy} (hI : Isj cX11_init 2 RX11 "<init>" 4 86 none an J) (σ : St) (p0 : Nat) (δ : Dy) : SJ (m_X11_init σ p0 δ) (PVA an) (J 0 [(0, .ref p0)] [] (1097, 59166) σ δ) := by
  have hJ := hI.cor
  unfold m_X11_init
  refine sj (j_aload_n hJ dX11_init_0 rfl 0 rfl) ?_
  refine sj (j_objInit hJ mo_X11_1 (by decide) (by decide) (Nat.le_of_ble_eq_true rfl) dX11_init_1) ?_
  refine sj (j_aload_n hJ dX11_init_4 rfl 0 rfl) ?_
  refine sj_new hJ (N := 7) nw_X11_7 rfl (Nat.le_of_ble_eq_true rfl) (Nat.le_of_ble_eq_true rfl) dX11_init_5 (fun s1 => ?_)
  refine sj (j_dup hJ dX11_init_8 rfl) ?_
  refine sj_callI hJ [] (st := [.ref (sn σ), .ref p0]) (fr' := 1) (lo' := 20) (mc' := 6) (ms' := 360) mi_X11_9 (by decide) (by decide) (Nat.le_of_ble_eq_true rfl) (Nat.le_of_ble_eq_true rfl) (Nat.le_of_ble_eq_true rfl) dX11_init_9 rfl (fun _ h9 => ct_X5_init h9) (fun v2 => ?_)
  refine sj_pR hJ fr_X11_10 rfl dX11_init_12 (fun s3 => ?_)
  refine sj (j_aload_n hJ dX11_init_15 rfl 0 rfl) ?_
  refine sj (j_bipush hJ (v := 9) dX11_init_16 ib_9) ?_
  refine sj_naRu hJ (N := 9) wd_98 (by decide) (Nat.le_of_ble_eq_true rfl) (Nat.le_of_ble_eq_true rfl) dX11_init_18 (fun s4 => ?_)
  refine sj_pR hJ fr_X11_18 rfl dX11_init_21 (fun s5 => ?_)
  refine sj (j_aload_n hJ dX11_init_24 rfl 0 rfl) ?_
  refine sj_new hJ (N := 6) nw_X11_22 rfl (Nat.le_of_ble_eq_true rfl) (Nat.le_of_ble_eq_true rfl) dX11_init_25 (fun s6 => ?_)
  refine sj (j_dup hJ dX11_init_28 rfl) ?_
  refine sj_callI hJ [] (st := [.ref (sn s5), .ref p0]) (fr' := 1) (lo' := 20) (mc' := 3) (ms' := 1418) mi_X11_24 (by decide) (by decide) (Nat.le_of_ble_eq_true rfl) (Nat.le_of_ble_eq_true rfl) (Nat.le_of_ble_eq_true rfl) dX11_init_29 rfl (fun _ h9 => ct_X9_init h9) (fun v7 => ?_)
  refine sj_pR hJ fr_X11_25 rfl dX11_init_32 (fun s8 => ?_)
  refine sj (j_aload_n hJ dX11_init_35 rfl 0 rfl) ?_
  refine sj (j_sipush hJ (v := 2048) dX11_init_36 is_2048) ?_
  refine sj_naI hJ (N := 2048) wd_97 (by decide) (Nat.le_of_ble_eq_true rfl) (Nat.le_of_ble_eq_true rfl) dX11_init_39 (fun s9 => ?_)
  refine sj_pR hJ fr_X11_29 rfl dX11_init_41 (fun s10 => ?_)
  refine sj (j_iconst hJ (v := 0) dX11_init_44 ic_0) ?_
  refine sj (j_istore_n hJ (L' := [(1, .int (0 : Int32)), (0, .ref p0)]) dX11_init_45 rfl (by decide) rfl) ?_
  refine sj (j_sub hJ (L' := [(0, .ref p0), (1, .int (0 : Int32))]) [1, 0] rfl) ?_
  refine sj (j_beta hJ (β' := (1024 + 6 * (10 - 0), 55058 + 26 * (10 - 0))) (Nat.le_of_ble_eq_true rfl) (Nat.le_of_ble_eq_true rfl)) ?_
  exact w_X11_init_b46 hI s10 p0 (0 : Int32) (nwD s8 v7.2)
theorem ct_X11_init {σ : St} {p0 : Nat} {δ : Dy} {r : St × Dy} (h : m_X11_init σ p0 δ = some r) : CT yX11_init cX11_init 2 none 4 86 1097 59166 [.ref p0] σ δ (none, r.1, r.2) := CT_of (by decide +kernel) (Nat.le_of_ble_eq_true rfl) (fun J hI => w_X11_init hI σ p0 δ r h rfl)
