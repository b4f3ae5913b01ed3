def m_X10_finish_b139 (σ : St) (p0 : Nat) (p1 : Nat) (p2 : Int32) (δ : Dy) : Option ((Int32 × Dy) ⊕ Dy) :=
  some (Sum.inl ((p2 + (1 : Int32)), δ))
def m_X10_finish_b56 (σ : St) (p0 : Nat) (p1 : Nat) (p2 : Int32) (δ : Dy) : Option Dy := lp (fun (s : (Int32 × Dy)) =>
  (gR σ 4 p1 1).bind fun v3 =>
  (gI σ s.2 1 v3 4).bind fun v4 =>
  if v4 ≤ s.1 then
    (gI σ s.2 10 p0 8).bind fun v5 =>
    if v5 ≤ 0 then
      (gR σ 10 p0 1).bind fun v6 =>
      (chk σ 8 v6).bind fun _ => (m_X8_dropPassing σ v6 s.2).bind fun v7 =>
      (gI σ v7 10 p0 11).bind fun v8 =>
      (pI σ v7 10 p0 11 (v8 + (1 : Int32))).bind fun d9 =>
      (pZ σ d9 10 p0 9 (1 : Int32)).bind fun d10 =>
      some (Sum.inr d10)
    else
      (gI σ s.2 10 p0 8).bind fun v11 =>
      (pI σ s.2 10 p0 8 (v11 - (1 : Int32))).bind fun d12 =>
      (gR σ 10 p0 6).bind fun v13 =>
      (gI σ d12 10 p0 8).bind fun v14 =>
      (rA σ 103 v13 v14).bind fun v15 =>
      (gR σ 4 v15 3).bind fun v16 =>
      (gR σ 4 p1 3).bind fun v17 =>
      (chk σ 1 v16).bind fun _ => (m_X1_addAll σ v16 v17 d12).bind fun v18 =>
      some (Sum.inr v18)
  else
    (gR σ 4 p1 1).bind fun v19 =>
    (gR σ 10 p0 7).bind fun v20 =>
    (chk σ 1 v19).bind fun _ => (m_X1_read σ v19 s.1 v20 s.2).bind fun v21 =>
    (gR σ 10 p0 0).bind fun v22 =>
    (gR σ 5 v22 0).bind fun v23 =>
    (gR σ 10 p0 7).bind fun v24 =>
    (gI σ v21 0 v24 1).bind fun v25 =>
    (rI σ v21 v23 v25).bind fun v26 =>
    if v26 = (10 : Int32) then
      (gR σ 10 p0 7).bind fun v27 =>
      (gI σ v21 0 v27 1).bind fun v28 =>
      (chk σ 10 p0).bind fun _ => (m_X10_isEntailed σ p0 v28 v21).bind fun v29 =>
      if v29 = 0 then
        (gR σ 4 p1 3).bind fun v30 =>
        (gR σ 10 p0 0).bind fun v31 =>
        (gR σ 5 v31 4).bind fun v32 =>
        (gR σ 10 p0 7).bind fun v33 =>
        (gI σ v21 0 v33 1).bind fun v34 =>
        (rI σ v21 v32 v34).bind fun v35 =>
        (gR σ 10 p0 7).bind fun v36 =>
        (chk σ 1 v30).bind fun _ => (m_X1_add σ v30 v35 v36 v21).bind fun v37 =>
        m_X10_finish_b139 σ p0 p1 s.1 v37
      else
        m_X10_finish_b139 σ p0 p1 s.1 v21
    else
      m_X10_finish_b139 σ p0 p1 s.1 v21) (p2, δ)
def m_X10_finish_b2 (σ : St) (p0 : Nat) (p1 : Nat) (p2 : Int32) (δ : Dy) : Option Dy := lp (fun (s : (Int32 × Dy)) =>
  (gR σ 4 p1 2).bind fun v1 =>
  (gI σ s.2 1 v1 4).bind fun v2 =>
  if v2 ≤ s.1 then
    (m_X10_finish_b56 σ p0 p1 (0 : Int32) s.2).bind fun r => some (Sum.inr r)
  else
    (gR σ 4 p1 2).bind fun v38 =>
    (gR σ 10 p0 7).bind fun v39 =>
    (chk σ 1 v38).bind fun _ => (m_X1_read σ v38 s.1 v39 s.2).bind fun v40 =>
    (gR σ 10 p0 7).bind fun v41 =>
    (gI σ v40 0 v41 1).bind fun v42 =>
    (chk σ 10 p0).bind fun _ => (m_X10_isEntailed σ p0 v42 v40).bind fun v43 =>
    if v43 = 0 then
      some (Sum.inl ((s.1 + (1 : Int32)), v40))
    else
      (gR σ 10 p0 1).bind fun v44 =>
      (pZ σ v40 8 v44 12 (1 : Int32)).bind fun d45 =>
      some (Sum.inr d45)) (p2, δ)
def m_X10_finish (σ : St) (p0 : Nat) (p1 : Nat) (δ : Dy) : Option Dy :=
  m_X10_finish_b2 σ p0 p1 (0 : Int32) δ
set_option maxHeartbeats 4000000 in
set_option maxRecDepth 100000 in
theorem w_X10_finish_b139 {J : JT} {an : Option Value × St × Dy} (hI : Isj cX10_finish 3 RX10 "finish" 4 96 none an J) {β : Bu} (σ : St) (p0 : Nat) (p1 : Nat) (p2 : Int32) (δ : Dy) : SJ (m_X10_finish_b139 σ p0 p1 p2 δ) (PL (fun s : (Int32 × Dy) => J 56 [(0, .ref p0), (1, .ref p1), (2, .int s.1)] [] β σ s.2) (PV σ an)) (J 139 [(0, .ref p0), (1, .ref p1), (2, .int p2)] [] β σ δ) := by
  have hJ := hI.cor
  unfold m_X10_finish_b139
  refine sj (j_iinc hJ (L' := [(2, .int (p2 + (1 : Int32))), (0, .ref p0), (1, .ref p1)]) dX10_finish_139 2 rfl (congrArg (fun z => p2 + z) ic_1) (by decide) rfl) ?_
  refine sj (j_goto hJ (tgt := 56) dX10_finish_142 (by decide)) ?_
  refine sj (j_sub hJ (L' := [(0, .ref p0), (1, .ref p1), (2, .int (p2 + (1 : Int32)))]) [1, 2, 0] rfl) ?_
  exact sj_end (fun h => h)
set_option maxHeartbeats 4000000 in
set_option maxRecDepth 100000 in
theorem w_X10_finish_b56 {J : JT} {an : Option Value × St × Dy} (hI : Isj cX10_finish 3 RX10 "finish" 4 96 none an J) {β : Bu} (σ : St) (p0 : Nat) (p1 : Nat) (p2 : Int32) (δ : Dy) : SJ (m_X10_finish_b56 σ p0 p1 p2 δ) (PV σ an) (J 56 [(0, .ref p0), (1, .ref p1), (2, .int p2)] [] β σ δ) := by
  have hJ := hI.cor
  unfold m_X10_finish_b56
  refine sj_lp (G := fun s : (Int32 × Dy) => J 56 [(0, .ref p0), (1, .ref p1), (2, .int s.1)] [] β σ s.2) (fun s => ?_) (p2, δ)
  refine sj (j_iload_n hJ dX10_finish_56 rfl 2 rfl) ?_
  refine sj (j_aload_n hJ dX10_finish_57 rfl 1 rfl) ?_
  refine sj_gR hJ fl_X10_127 rfl dX10_finish_58 (fun v3 => ?_)
  refine sj_gI hJ fl_X10_106 (Or.inl rfl) dX10_finish_61 (fun v4 => ?_)
  refine sj_if (j_icmp_ge hJ (tgt := 145) dX10_finish_64 (by decide)) (fun _ => ?_) (fun _ => ?_)
  · refine sj (j_aload_n hJ dX10_finish_145 rfl 0 rfl) ?_
    refine sj_gI hJ fl_X10_139 (Or.inl rfl) dX10_finish_146 (fun v5 => ?_)
    refine sj_if (j_if_le hJ (tgt := 182) dX10_finish_149 (by decide)) (fun _ => ?_) (fun _ => ?_)
    · refine sj (j_aload_n hJ dX10_finish_182 rfl 0 rfl) ?_
      refine sj_gR hJ fl_X10_12 rfl dX10_finish_183 (fun v6 => ?_)
      refine sj_callVv hJ [] (st := []) (fr' := 0) (lo' := 0) ml_X10_287 hc_8 (by decide) (by decide) (Nat.le_of_ble_eq_true rfl) dX10_finish_186 rfl (fun _ h9 => ct_X8_dropPassing h9) (fun v7 => ?_)
      refine sj (j_aload_n hJ dX10_finish_189 rfl 0 rfl) ?_
      refine sj (j_dup hJ dX10_finish_190 rfl) ?_
      refine sj_gI hJ fl_X10_77 (Or.inl rfl) dX10_finish_191 (fun v8 => ?_)
      refine sj (j_iconst hJ (v := 1) dX10_finish_194 ic_1) ?_
      refine sj (j_iadd hJ dX10_finish_195) ?_
      refine sj_pI hJ fl_X10_77 rfl dX10_finish_196 (fun d9 => ?_)
      refine sj (j_aload_n hJ dX10_finish_199 rfl 0 rfl) ?_
      refine sj (j_iconst hJ (v := 1) dX10_finish_200 ic_1) ?_
      refine sj_pZ hJ fl_X10_142 rfl dX10_finish_201 (fun d10 => ?_)
      exact sj_vret hI dX10_finish_204 (fun h => h)
    · refine sj (j_aload_n hJ dX10_finish_152 rfl 0 rfl) ?_
      refine sj (j_dup hJ dX10_finish_153 rfl) ?_
      refine sj_gI hJ fl_X10_139 (Or.inl rfl) dX10_finish_154 (fun v11 => ?_)
      refine sj (j_iconst hJ (v := 1) dX10_finish_157 ic_1) ?_
      refine sj (j_isub hJ dX10_finish_158) ?_
      refine sj_pI hJ fl_X10_139 rfl dX10_finish_159 (fun d12 => ?_)
      refine sj (j_aload_n hJ dX10_finish_162 rfl 0 rfl) ?_
      refine sj_gR hJ fl_X10_34 rfl dX10_finish_163 (fun v13 => ?_)
      refine sj (j_aload_n hJ dX10_finish_166 rfl 0 rfl) ?_
      refine sj_gI hJ fl_X10_139 (Or.inl rfl) dX10_finish_167 (fun v14 => ?_)
      refine sj_rALv hJ dX10_finish_170 (fun v15 => ?_)
      refine sj_gR hJ fl_X10_96 rfl dX10_finish_171 (fun v16 => ?_)
      refine sj (j_aload_n hJ dX10_finish_174 rfl 1 rfl) ?_
      refine sj_gR hJ fl_X10_96 rfl dX10_finish_175 (fun v17 => ?_)
      refine sj_callVv hJ [.ref v17] (st := []) (fr' := 1) (lo' := 59) ml_X10_100 hc_1 (by decide) (by decide) (Nat.le_of_ble_eq_true rfl) dX10_finish_178 rfl (fun _ h9 => ct_X1_addAll h9) (fun v18 => ?_)
      exact sj_vret hI dX10_finish_181 (fun h => h)
  · refine sj (j_aload_n hJ dX10_finish_67 rfl 1 rfl) ?_
    refine sj_gR hJ fl_X10_127 rfl dX10_finish_68 (fun v19 => ?_)
    refine sj (j_iload_n hJ dX10_finish_71 rfl 2 rfl) ?_
    refine sj (j_aload_n hJ dX10_finish_72 rfl 0 rfl) ?_
    refine sj_gR hJ fl_X10_41 rfl dX10_finish_73 (fun v20 => ?_)
    refine sj_callVv hJ [.int s.1, .ref v20] (st := []) (fr' := 1) (lo' := 59) ml_X10_197 hc_1 (by decide) (by decide) (Nat.le_of_ble_eq_true rfl) dX10_finish_76 rfl (fun _ h9 => ct_X1_read h9) (fun v21 => ?_)
    refine sj (j_aload_n hJ dX10_finish_79 rfl 0 rfl) ?_
    refine sj_gR hJ fl_X10_45 rfl dX10_finish_80 (fun v22 => ?_)
    refine sj_gR hJ fl_X10_209 rfl dX10_finish_83 (fun v23 => ?_)
    refine sj (j_aload_n hJ dX10_finish_86 rfl 0 rfl) ?_
    refine sj_gR hJ fl_X10_41 rfl dX10_finish_87 (fun v24 => ?_)
    refine sj_gI hJ fl_X10_200 (Or.inl rfl) dX10_finish_90 (fun v25 => ?_)
    refine sj_rI hJ dX10_finish_93 (fun v26 => ?_)
    refine sj (j_bipush hJ (v := 10) dX10_finish_94 ib_10) ?_
    refine sj_if (j_icmp_ne hJ (tgt := 139) dX10_finish_96 (by decide)) (fun _ => ?_) (fun _ => ?_)
    · refine sj (j_aload_n hJ dX10_finish_99 rfl 0 rfl) ?_
      refine sj (j_aload_n hJ dX10_finish_100 rfl 0 rfl) ?_
      refine sj_gR hJ fl_X10_41 rfl dX10_finish_101 (fun v27 => ?_)
      refine sj_gI hJ fl_X10_200 (Or.inl rfl) dX10_finish_104 (fun v28 => ?_)
      refine sj_callVip hJ [.int v28] (st := []) (fr' := 3) (lo' := 75) ml_X10_280 hc_10 (by decide) (by decide) (Nat.le_of_ble_eq_true rfl) dX10_finish_107 rfl (fun _ h9 => ct_X10_isEntailed h9) (fun v29 => ?_)
      refine sj_if (j_if_ne hJ (tgt := 139) dX10_finish_110 (by decide)) (fun _ => ?_) (fun _ => ?_)
      · refine sj (j_aload_n hJ dX10_finish_113 rfl 1 rfl) ?_
        refine sj_gR hJ fl_X10_96 rfl dX10_finish_114 (fun v30 => ?_)
        refine sj (j_aload_n hJ dX10_finish_117 rfl 0 rfl) ?_
        refine sj_gR hJ fl_X10_45 rfl dX10_finish_118 (fun v31 => ?_)
        refine sj_gR hJ fl_X10_226 rfl dX10_finish_121 (fun v32 => ?_)
        refine sj (j_aload_n hJ dX10_finish_124 rfl 0 rfl) ?_
        refine sj_gR hJ fl_X10_41 rfl dX10_finish_125 (fun v33 => ?_)
        refine sj_gI hJ fl_X10_200 (Or.inl rfl) dX10_finish_128 (fun v34 => ?_)
        refine sj_rI hJ dX10_finish_131 (fun v35 => ?_)
        refine sj (j_aload_n hJ dX10_finish_132 rfl 0 rfl) ?_
        refine sj_gR hJ fl_X10_41 rfl dX10_finish_133 (fun v36 => ?_)
        refine sj_callVv hJ [.int v35, .ref v36] (st := []) (fr' := 1) (lo' := 59) ml_X10_120 hc_1 (by decide) (by decide) (Nat.le_of_ble_eq_true rfl) dX10_finish_136 rfl (fun _ h9 => ct_X1_add h9) (fun v37 => ?_)
        exact w_X10_finish_b139 hI σ p0 p1 s.1 v37
      · exact w_X10_finish_b139 hI σ p0 p1 s.1 v21
    · exact w_X10_finish_b139 hI σ p0 p1 s.1 v21
set_option maxHeartbeats 4000000 in
set_option maxRecDepth 100000 in
theorem w_X10_finish_b2 {J : JT} {an : Option Value × St × Dy} (hI : Isj cX10_finish 3 RX10 "finish" 4 96 none an J) {β : Bu} (σ : St) (p0 : Nat) (p1 : Nat) (p2 : Int32) (δ : Dy) : SJ (m_X10_finish_b2 σ p0 p1 p2 δ) (PV σ an) (J 2 [(0, .ref p0), (1, .ref p1), (2, .int p2)] [] β σ δ) := by
  have hJ := hI.cor
  unfold m_X10_finish_b2
  refine sj_lp (G := fun s : (Int32 × Dy) => J 2 [(0, .ref p0), (1, .ref p1), (2, .int s.1)] [] β σ s.2) (fun s => ?_) (p2, δ)
  refine sj (j_iload_n hJ dX10_finish_2 rfl 2 rfl) ?_
  refine sj (j_aload_n hJ dX10_finish_3 rfl 1 rfl) ?_
  refine sj_gR hJ fl_X10_130 rfl dX10_finish_4 (fun v1 => ?_)
  refine sj_gI hJ fl_X10_106 (Or.inl rfl) dX10_finish_7 (fun v2 => ?_)
  refine sj_if (j_icmp_ge hJ (tgt := 54) dX10_finish_10 (by decide)) (fun _ => ?_) (fun _ => ?_)
  · refine sj (j_iconst hJ (v := 0) dX10_finish_54 ic_0) ?_
    refine sj (j_istore_n hJ (L' := [(2, .int (0 : Int32)), (0, .ref p0), (1, .ref p1)]) dX10_finish_55 rfl (by decide) rfl) ?_
    refine sj (j_sub hJ (L' := [(0, .ref p0), (1, .ref p1), (2, .int (0 : Int32))]) [1, 2, 0] rfl) ?_
    refine sj_map ?_
    exact w_X10_finish_b56 hI σ p0 p1 (0 : Int32) s.2
  · refine sj (j_aload_n hJ dX10_finish_13 rfl 1 rfl) ?_
    refine sj_gR hJ fl_X10_130 rfl dX10_finish_14 (fun v38 => ?_)
    refine sj (j_iload_n hJ dX10_finish_17 rfl 2 rfl) ?_
    refine sj (j_aload_n hJ dX10_finish_18 rfl 0 rfl) ?_
    refine sj_gR hJ fl_X10_41 rfl dX10_finish_19 (fun v39 => ?_)
    refine sj_callVv hJ [.int s.1, .ref v39] (st := []) (fr' := 1) (lo' := 59) ml_X10_197 hc_1 (by decide) (by decide) (Nat.le_of_ble_eq_true rfl) dX10_finish_22 rfl (fun _ h9 => ct_X1_read h9) (fun v40 => ?_)
    refine sj (j_aload_n hJ dX10_finish_25 rfl 0 rfl) ?_
    refine sj (j_aload_n hJ dX10_finish_26 rfl 0 rfl) ?_
    refine sj_gR hJ fl_X10_41 rfl dX10_finish_27 (fun v41 => ?_)
    refine sj_gI hJ fl_X10_200 (Or.inl rfl) dX10_finish_30 (fun v42 => ?_)
    refine sj_callVip hJ [.int v42] (st := []) (fr' := 3) (lo' := 75) ml_X10_280 hc_10 (by decide) (by decide) (Nat.le_of_ble_eq_true rfl) dX10_finish_33 rfl (fun _ h9 => ct_X10_isEntailed h9) (fun v43 => ?_)
    refine sj_if (j_if_eq hJ (tgt := 48) dX10_finish_36 (by decide)) (fun _ => ?_) (fun _ => ?_)
    · refine sj (j_iinc hJ (L' := [(2, .int (s.1 + (1 : Int32))), (0, .ref p0), (1, .ref p1)]) dX10_finish_48 2 rfl (congrArg (fun z => s.1 + z) ic_1) (by decide) rfl) ?_
      refine sj (j_goto hJ (tgt := 2) dX10_finish_51 (by decide)) ?_
      refine sj (j_sub hJ (L' := [(0, .ref p0), (1, .ref p1), (2, .int (s.1 + (1 : Int32)))]) [1, 2, 0] rfl) ?_
      exact sj_end (fun h => h)
    · refine sj (j_aload_n hJ dX10_finish_39 rfl 0 rfl) ?_
      refine sj_gR hJ fl_X10_12 rfl dX10_finish_40 (fun v44 => ?_)
      refine sj (j_iconst hJ (v := 1) dX10_finish_43 ic_1) ?_
      refine sj_pZ hJ fl_X10_147 rfl dX10_finish_44 (fun d45 => ?_)
      exact sj_vret hI dX10_finish_47 (fun h => h)
set_option maxHeartbeats 4000000 in
set_option maxRecDepth 100000 in
theorem w_X10_finish {J : JT} {an : Option Value × St × Dy} (hI : Isj cX10_finish 3 RX10 "finish" 4 96 none an J) {β : Bu} (σ : St) (p0 : Nat) (p1 : Nat) (δ : Dy) : SJ (m_X10_finish σ p0 p1 δ) (PV σ an) (J 0 [(0, .ref p0), (1, .ref p1)] [] β σ δ) := by
  have hJ := hI.cor
  unfold m_X10_finish
  refine sj (j_iconst hJ (v := 0) dX10_finish_0 ic_0) ?_
  refine sj (j_istore_n hJ (L' := [(2, .int (0 : Int32)), (0, .ref p0), (1, .ref p1)]) dX10_finish_1 rfl (by decide) rfl) ?_
  refine sj (j_sub hJ (L' := [(0, .ref p0), (1, .ref p1), (2, .int (0 : Int32))]) [1, 2, 0] rfl) ?_
  exact w_X10_finish_b2 hI σ p0 p1 (0 : Int32) δ
theorem ct_X10_finish {σ : St} {p0 : Nat} {p1 : Nat} {δ : Dy} {r : Dy} (h : m_X10_finish σ p0 p1 δ = some r) : CT yX10_finish cX10_finish 3 none 4 96 0 0 [.ref p0, .ref p1] σ δ (none, σ, r) := CT_of (by decide +kernel) (Nat.le_of_ble_eq_true rfl) (fun J hI => w_X10_finish hI σ p0 p1 δ r h rfl)
def m_X10_doStep_b216 (σ : St) (p0 : Nat) (p1 : Nat) (p4 : Int32) (δ : Dy) : Option ((Int32 × Dy) ⊕ Dy) :=
  some (Sum.inl ((p4 + (1 : Int32)), δ))
def m_X10_doStep_b186 (σ : St) (p0 : Nat) (p1 : Nat) (p4 : Int32) (q0 : Nat) (q1 : Nat) (q2 : Int32) (δ : Dy) : Option ((Int32 × Dy) ⊕ Dy) :=
  (chk σ 10 q0).bind fun _ => (m_X10_act σ q0 q1 q2 δ).bind fun v36 =>
  m_X10_doStep_b216 σ p0 p1 p4 v36
def m_X10_doStep_b87 (σ : St) (p0 : Nat) (p1 : Nat) (p4 : Int32) (δ : Dy) : Option Dy := lp (fun (s : (Int32 × Dy)) =>
  if (1000000 : Int32) ≤ s.1 then
    some (Sum.inr s.2)
  else
    (gI σ s.2 10 p0 9).bind fun v21 =>
    if v21 = 0 then
      (gR σ 10 p0 6).bind fun v22 =>
      (gI σ s.2 10 p0 8).bind fun v23 =>
      (rA σ 103 v22 v23).bind fun v24 =>
      (gR σ 4 v24 0).bind fun v25 =>
      (gI σ s.2 1 v25 4).bind fun v26 =>
      (gR σ 10 p0 1).bind fun v27 =>
      (gI σ s.2 8 v27 12).bind fun v28 =>
      if v28 = 0 then
        (gR σ 10 p0 2).bind fun v29 =>
        (chk σ 6 v29).bind fun _ => (m_X6_isBusy σ v29 s.2).bind fun v30 =>
        if v30 = 0 then
          if v26 ≤ 0 then
            (chk σ 10 p0).bind fun _ => (m_X10_goOn σ p0 v24 s.2).bind fun v31 =>
            if v31.1 = 0 then
              (chk σ 10 p0).bind fun _ => (m_X10_assume σ p0 v24 v31.2).bind fun v32 =>
              if v32.1 = 0 then
                (chk σ 10 p0).bind fun _ => (m_X10_finish σ p0 v24 v32.2).bind fun v33 =>
                m_X10_doStep_b216 σ p0 p1 s.1 v33
              else
                m_X10_doStep_b216 σ p0 p1 s.1 v32.2
            else
              m_X10_doStep_b216 σ p0 p1 s.1 v31.2
          else
            (gI σ s.2 10 p0 8).bind fun v34 =>
            if v34 = 0 then
              (chk σ 9 p1).bind fun _ => (m_X9_choose σ p1 v26 s.2).bind fun v35 =>
              m_X10_doStep_b186 σ p0 p1 s.1 p0 v24 v35.1 v35.2
            else
              m_X10_doStep_b186 σ p0 p1 s.1 p0 v24 (0 : Int32) s.2
        else
          (gR σ 10 p0 2).bind fun v37 =>
          (chk σ 6 v37).bind fun _ => (m_X6_advance σ v37 s.2).bind fun v38 =>
          m_X10_doStep_b216 σ p0 p1 s.1 v38
      else
        (chk σ 10 p0).bind fun _ => (m_X10_giveUp σ p0 v24 s.2).bind fun v39 =>
        m_X10_doStep_b216 σ p0 p1 s.1 v39
    else
      some (Sum.inr s.2)) (p4, δ)
def m_X10_doStep (σ : St) (p0 : Nat) (p1 : Nat) (δ : Dy) : Option Dy :=
  (gR σ 10 p0 6).bind fun v1 =>
  (rA σ 103 v1 (0 : Int32)).bind fun v2 =>
  (gR σ 4 v2 3).bind fun v3 =>
  (gR σ 4 v2 0).bind fun v4 =>
  (pI σ δ 1 v4 4 (0 : Int32)).bind fun d5 =>
  (gR σ 4 v2 0).bind fun v6 =>
  (chk σ 1 v6).bind fun _ => (m_X1_addAll σ v6 v3 d5).bind fun v7 =>
  (pI σ v7 1 v3 4 (0 : Int32)).bind fun d8 =>
  (gR σ 4 v2 1).bind fun v9 =>
  (pI σ d8 1 v9 4 (0 : Int32)).bind fun d10 =>
  (gR σ 4 v2 2).bind fun v11 =>
  (pI σ d10 1 v11 4 (0 : Int32)).bind fun d12 =>
  (gR σ 10 p0 2).bind fun v13 =>
  (chk σ 6 v13).bind fun _ => (m_X6_startStep σ v13 d12).bind fun v14 =>
  (gR σ 10 p0 1).bind fun v15 =>
  (pI σ v14 8 v15 11 (0 : Int32)).bind fun d16 =>
  (pI σ d16 10 p0 8 (0 : Int32)).bind fun d17 =>
  (pZ σ d17 10 p0 9 (0 : Int32)).bind fun d18 =>
  (gI σ d18 10 p0 10).bind fun v19 =>
  (pI σ d18 10 p0 10 (v19 + (1 : Int32))).bind fun d20 =>
  m_X10_doStep_b87 σ p0 p1 (0 : Int32) d20
set_option maxHeartbeats 4000000 in
set_option maxRecDepth 100000 in
theorem w_X10_doStep_b216 {J : JT} {an : Option Value × St × Dy} (hI : Isj cX10_doStep 7 RX10 "doStep" 6 155 none an J) {β : Bu} (σ : St) (p0 : Nat) (p1 : Nat) (p4 : Int32) (δ : Dy) : SJ (m_X10_doStep_b216 σ p0 p1 p4 δ) (PL (fun s : (Int32 × Dy) => J 87 [(0, .ref p0), (1, .ref p1), (4, .int s.1)] [] β σ s.2) (PV σ an)) (J 216 [(0, .ref p0), (1, .ref p1), (4, .int p4)] [] β σ δ) := by
  have hJ := hI.cor
  unfold m_X10_doStep_b216
  refine sj (j_iinc hJ (L' := [(4, .int (p4 + (1 : Int32))), (0, .ref p0), (1, .ref p1)]) dX10_doStep_216 2 rfl (congrArg (fun z => p4 + z) ic_1) (by decide) rfl) ?_
  refine sj (j_goto hJ (tgt := 87) dX10_doStep_219 (by decide)) ?_
  refine sj (j_sub hJ (L' := [(0, .ref p0), (1, .ref p1), (4, .int (p4 + (1 : Int32)))]) [1, 2, 0] rfl) ?_
  exact sj_end (fun h => h)
set_option maxHeartbeats 4000000 in
set_option maxRecDepth 100000 in
theorem w_X10_doStep_b186 {J : JT} {an : Option Value × St × Dy} (hI : Isj cX10_doStep 7 RX10 "doStep" 6 155 none an J) {β : Bu} (σ : St) (p0 : Nat) (p1 : Nat) (p4 : Int32) (q0 : Nat) (q1 : Nat) (q2 : Int32) (δ : Dy) : SJ (m_X10_doStep_b186 σ p0 p1 p4 q0 q1 q2 δ) (PL (fun s : (Int32 × Dy) => J 87 [(0, .ref p0), (1, .ref p1), (4, .int s.1)] [] β σ s.2) (PV σ an)) (J 186 [(0, .ref p0), (1, .ref p1), (4, .int p4)] [.int q2, .ref q1, .ref q0] β σ δ) := by
  have hJ := hI.cor
  unfold m_X10_doStep_b186
  refine sj_callVv hJ [.ref q1, .int q2] (st := []) (fr' := 5) (lo' := 120) ml_X10_167 hc_10 (by decide) (by decide) (Nat.le_of_ble_eq_true rfl) dX10_doStep_186 rfl (fun _ h9 => ct_X10_act h9) (fun v36 => ?_)
  refine sj (j_goto hJ (tgt := 216) dX10_doStep_189 (by decide)) ?_
  exact w_X10_doStep_b216 hI σ p0 p1 p4 v36
set_option maxHeartbeats 4000000 in
set_option maxRecDepth 100000 in
theorem w_X10_doStep_b87 {J : JT} {an : Option Value × St × Dy} (hI : Isj cX10_doStep 7 RX10 "doStep" 6 155 none an J) {β : Bu} (σ : St) (p0 : Nat) (p1 : Nat) (p4 : Int32) (δ : Dy) : SJ (m_X10_doStep_b87 σ p0 p1 p4 δ) (PV σ an) (J 87 [(0, .ref p0), (1, .ref p1), (4, .int p4)] [] β σ δ) := by
  have hJ := hI.cor
  unfold m_X10_doStep_b87
  refine sj_lp (G := fun s : (Int32 × Dy) => J 87 [(0, .ref p0), (1, .ref p1), (4, .int s.1)] [] β σ s.2) (fun s => ?_) (p4, δ)
  refine sj (j_iload hJ dX10_doStep_87 2 rfl) ?_
  refine sj (j_ldc hJ (v := 1000000) dX10_doStep_89 wd_748) ?_
  refine sj_if (j_icmp_ge hJ (tgt := 222) dX10_doStep_91 (by decide)) (fun _ => ?_) (fun _ => ?_)
  · exact sj_vret hI dX10_doStep_222 (fun h => h)
  · refine sj (j_aload_n hJ dX10_doStep_94 rfl 0 rfl) ?_
    refine sj_gI hJ fl_X10_142 (Or.inr rfl) dX10_doStep_95 (fun v21 => ?_)
    refine sj_if (j_if_ne hJ (tgt := 222) dX10_doStep_98 (by decide)) (fun _ => ?_) (fun _ => ?_)
    · refine sj (j_aload_n hJ dX10_doStep_101 rfl 0 rfl) ?_
      refine sj_gR hJ fl_X10_34 rfl dX10_doStep_102 (fun v22 => ?_)
      refine sj (j_aload_n hJ dX10_doStep_105 rfl 0 rfl) ?_
      refine sj_gI hJ fl_X10_139 (Or.inl rfl) dX10_doStep_106 (fun v23 => ?_)
      refine sj_rALv hJ dX10_doStep_109 (fun v24 => ?_)
      refine sj (j_astore hJ (L' := [(5, .ref v24), (0, .ref p0), (1, .ref p1), (4, .int s.1)]) dX10_doStep_110 (by decide) rfl) ?_
      refine sj (j_aload hJ dX10_doStep_112 0 rfl) ?_
      refine sj_gR hJ fl_X10_124 rfl dX10_doStep_114 (fun v25 => ?_)
      refine sj_gI hJ fl_X10_106 (Or.inl rfl) dX10_doStep_117 (fun v26 => ?_)
      refine sj (j_istore hJ (L' := [(6, .int v26), (5, .ref v24), (0, .ref p0), (1, .ref p1), (4, .int s.1)]) dX10_doStep_120 (by decide) rfl) ?_
      refine sj (j_aload_n hJ dX10_doStep_122 rfl 2 rfl) ?_
      refine sj_gR hJ fl_X10_12 rfl dX10_doStep_123 (fun v27 => ?_)
      refine sj_gI hJ fl_X10_147 (Or.inr rfl) dX10_doStep_126 (fun v28 => ?_)
      refine sj_if (j_if_eq hJ (tgt := 141) dX10_doStep_129 (by decide)) (fun _ => ?_) (fun _ => ?_)
      · refine sj (j_aload_n hJ dX10_doStep_141 rfl 2 rfl) ?_
        refine sj_gR hJ fl_X10_54 rfl dX10_doStep_142 (fun v29 => ?_)
        refine sj_callVip hJ [] (st := []) (fr' := 0) (lo' := 0) ml_X10_154 hc_6 (by decide) (by decide) (Nat.le_of_ble_eq_true rfl) dX10_doStep_145 rfl (fun _ h9 => ct_X6_isBusy h9) (fun v30 => ?_)
        refine sj_if (j_if_eq hJ (tgt := 161) dX10_doStep_148 (by decide)) (fun _ => ?_) (fun _ => ?_)
        · refine sj (j_iload hJ dX10_doStep_161 0 rfl) ?_
          refine sj_if (j_if_le hJ (tgt := 192) dX10_doStep_163 (by decide)) (fun _ => ?_) (fun _ => ?_)
          · refine sj (j_aload_n hJ dX10_doStep_192 rfl 2 rfl) ?_
            refine sj (j_aload hJ dX10_doStep_193 1 rfl) ?_
            refine sj_callVi hJ [.ref v24] (st := []) (fr' := 5) (lo' := 120) ml_X10_171 hc_10 (by decide) (by decide) (Nat.le_of_ble_eq_true rfl) dX10_doStep_195 rfl (fun _ h9 => ct_X10_goOn h9) (fun v31 => ?_)
            refine sj_if (j_if_ne hJ (tgt := 216) dX10_doStep_198 (by decide)) (fun _ => ?_) (fun _ => ?_)
            · refine sj (j_aload_n hJ dX10_doStep_201 rfl 2 rfl) ?_
              refine sj (j_aload hJ dX10_doStep_202 1 rfl) ?_
              refine sj_callVi hJ [.ref v24] (st := []) (fr' := 4) (lo' := 96) ml_X10_175 hc_10 (by decide) (by decide) (Nat.le_of_ble_eq_true rfl) dX10_doStep_204 rfl (fun _ h9 => ct_X10_assume h9) (fun v32 => ?_)
              refine sj_if (j_if_ne hJ (tgt := 216) dX10_doStep_207 (by decide)) (fun _ => ?_) (fun _ => ?_)
              · refine sj (j_aload_n hJ dX10_doStep_210 rfl 2 rfl) ?_
                refine sj (j_aload hJ dX10_doStep_211 1 rfl) ?_
                refine sj_callVv hJ [.ref v24] (st := []) (fr' := 4) (lo' := 96) ml_X10_178 hc_10 (by decide) (by decide) (Nat.le_of_ble_eq_true rfl) dX10_doStep_213 rfl (fun _ h9 => ct_X10_finish h9) (fun v33 => ?_)
                refine sj (j_sub hJ (L' := [(0, .ref p0), (1, .ref p1), (4, .int s.1)]) [2, 3, 4] rfl) ?_
                exact w_X10_doStep_b216 hI σ p0 p1 s.1 v33
              · refine sj (j_sub hJ (L' := [(0, .ref p0), (1, .ref p1), (4, .int s.1)]) [2, 3, 4] rfl) ?_
                exact w_X10_doStep_b216 hI σ p0 p1 s.1 v32.2
            · refine sj (j_sub hJ (L' := [(0, .ref p0), (1, .ref p1), (4, .int s.1)]) [2, 3, 4] rfl) ?_
              exact w_X10_doStep_b216 hI σ p0 p1 s.1 v31.2
          · refine sj (j_aload_n hJ dX10_doStep_166 rfl 2 rfl) ?_
            refine sj (j_aload hJ dX10_doStep_167 1 rfl) ?_
            refine sj (j_aload_n hJ dX10_doStep_169 rfl 2 rfl) ?_
            refine sj_gI hJ fl_X10_139 (Or.inl rfl) dX10_doStep_170 (fun v34 => ?_)
            refine sj_if (j_if_ne hJ (tgt := 185) dX10_doStep_173 (by decide)) (fun _ => ?_) (fun _ => ?_)
            · refine sj (j_aload_n hJ dX10_doStep_176 rfl 3 rfl) ?_
              refine sj (j_iload hJ dX10_doStep_177 0 rfl) ?_
              refine sj_callVi hJ [.int v26] (st := [.ref v24, .ref p0]) (fr' := 0) (lo' := 0) ml_X10_161 hc_9 (by decide) (by decide) (Nat.le_of_ble_eq_true rfl) dX10_doStep_179 rfl (fun _ h9 => ct_X9_choose h9) (fun v35 => ?_)
              refine sj (j_goto hJ (tgt := 186) dX10_doStep_182 (by decide)) ?_
              refine sj (j_sub hJ (L' := [(0, .ref p0), (1, .ref p1), (4, .int s.1)]) [2, 3, 4] rfl) ?_
              exact w_X10_doStep_b186 hI σ p0 p1 s.1 p0 v24 v35.1 v35.2
            · refine sj (j_iconst hJ (v := 0) dX10_doStep_185 ic_0) ?_
              refine sj (j_sub hJ (L' := [(0, .ref p0), (1, .ref p1), (4, .int s.1)]) [2, 3, 4] rfl) ?_
              exact w_X10_doStep_b186 hI σ p0 p1 s.1 p0 v24 (0 : Int32) s.2
        · refine sj (j_aload_n hJ dX10_doStep_151 rfl 2 rfl) ?_
          refine sj_gR hJ fl_X10_54 rfl dX10_doStep_152 (fun v37 => ?_)
          refine sj_callVv hJ [] (st := []) (fr' := 5) (lo' := 134) ml_X10_158 hc_6 (by decide) (by decide) (Nat.le_of_ble_eq_true rfl) dX10_doStep_155 rfl (fun _ h9 => ct_X6_advance h9) (fun v38 => ?_)
          refine sj (j_goto hJ (tgt := 216) dX10_doStep_158 (by decide)) ?_
          refine sj (j_sub hJ (L' := [(0, .ref p0), (1, .ref p1), (4, .int s.1)]) [2, 3, 4] rfl) ?_
          exact w_X10_doStep_b216 hI σ p0 p1 s.1 v38
      · refine sj (j_aload_n hJ dX10_doStep_132 rfl 2 rfl) ?_
        refine sj (j_aload hJ dX10_doStep_133 1 rfl) ?_
        refine sj_callVv hJ [.ref v24] (st := []) (fr' := 2) (lo' := 81) ml_X10_150 hc_10 (by decide) (by decide) (Nat.le_of_ble_eq_true rfl) dX10_doStep_135 rfl (fun _ h9 => ct_X10_giveUp h9) (fun v39 => ?_)
        refine sj (j_goto hJ (tgt := 216) dX10_doStep_138 (by decide)) ?_
        refine sj (j_sub hJ (L' := [(0, .ref p0), (1, .ref p1), (4, .int s.1)]) [2, 3, 4] rfl) ?_
        exact w_X10_doStep_b216 hI σ p0 p1 s.1 v39
    · exact sj_vret hI dX10_doStep_222 (fun h => h)
set_option maxHeartbeats 4000000 in
set_option maxRecDepth 100000 in
theorem w_X10_doStep {J : JT} {an : Option Value × St × Dy} (hI : Isj cX10_doStep 7 RX10 "doStep" 6 155 none an J) {β : Bu} (σ : St) (p0 : Nat) (p1 : Nat) (δ : Dy) : SJ (m_X10_doStep σ p0 p1 δ) (PV σ an) (J 0 [(0, .ref p0), (1, .ref p1)] [] β σ δ) := by
  have hJ := hI.cor
  unfold m_X10_doStep
  refine sj (j_aload_n hJ dX10_doStep_0 rfl 0 rfl) ?_
  refine sj_gR hJ fl_X10_34 rfl dX10_doStep_1 (fun v1 => ?_)
  refine sj (j_iconst hJ (v := 0) dX10_doStep_4 ic_0) ?_
  refine sj_rALv hJ dX10_doStep_5 (fun v2 => ?_)
  refine sj (j_astore_n hJ (L' := [(2, .ref v2), (0, .ref p0), (1, .ref p1)]) dX10_doStep_6 rfl (by decide) rfl) ?_
  refine sj (j_aload_n hJ dX10_doStep_7 rfl 0 rfl) ?_
  refine sj_gR hJ fl_X10_96 rfl dX10_doStep_8 (fun v3 => ?_)
  refine sj (j_astore_n hJ (L' := [(3, .ref v3), (2, .ref v2), (0, .ref p0), (1, .ref p1)]) dX10_doStep_11 rfl (by decide) rfl) ?_
  refine sj (j_aload_n hJ dX10_doStep_12 rfl 1 rfl) ?_
  refine sj_gR hJ fl_X10_124 rfl dX10_doStep_13 (fun v4 => ?_)
  refine sj (j_iconst hJ (v := 0) dX10_doStep_16 ic_0) ?_
  refine sj_pI hJ fl_X10_106 rfl dX10_doStep_17 (fun d5 => ?_)
  refine sj (j_aload_n hJ dX10_doStep_20 rfl 1 rfl) ?_
  refine sj_gR hJ fl_X10_124 rfl dX10_doStep_21 (fun v6 => ?_)
  refine sj (j_aload_n hJ dX10_doStep_24 rfl 0 rfl) ?_
  refine sj_callVv hJ [.ref v3] (st := []) (fr' := 1) (lo' := 59) ml_X10_100 hc_1 (by decide) (by decide) (Nat.le_of_ble_eq_true rfl) dX10_doStep_25 rfl (fun _ h9 => ct_X1_addAll h9) (fun v7 => ?_)
  refine sj (j_aload_n hJ dX10_doStep_28 rfl 0 rfl) ?_
  refine sj (j_iconst hJ (v := 0) dX10_doStep_29 ic_0) ?_
  refine sj_pI hJ fl_X10_106 rfl dX10_doStep_30 (fun d8 => ?_)
  refine sj (j_aload_n hJ dX10_doStep_33 rfl 1 rfl) ?_
  refine sj_gR hJ fl_X10_127 rfl dX10_doStep_34 (fun v9 => ?_)
  refine sj (j_iconst hJ (v := 0) dX10_doStep_37 ic_0) ?_
  refine sj_pI hJ fl_X10_106 rfl dX10_doStep_38 (fun d10 => ?_)
  refine sj (j_aload_n hJ dX10_doStep_41 rfl 1 rfl) ?_
  refine sj_gR hJ fl_X10_130 rfl dX10_doStep_42 (fun v11 => ?_)
  refine sj (j_iconst hJ (v := 0) dX10_doStep_45 ic_0) ?_
  refine sj_pI hJ fl_X10_106 rfl dX10_doStep_46 (fun d12 => ?_)
  refine sj (j_aload_n hJ dX10_doStep_49 rfl 2 rfl) ?_
  refine sj_gR hJ fl_X10_54 rfl dX10_doStep_50 (fun v13 => ?_)
  refine sj_callVv hJ [] (st := []) (fr' := 0) (lo' := 0) ml_X10_133 hc_6 (by decide) (by decide) (Nat.le_of_ble_eq_true rfl) dX10_doStep_53 rfl (fun _ h9 => ct_X6_startStep h9) (fun v14 => ?_)
  refine sj (j_aload_n hJ dX10_doStep_56 rfl 2 rfl) ?_
  refine sj_gR hJ fl_X10_12 rfl dX10_doStep_57 (fun v15 => ?_)
  refine sj (j_iconst hJ (v := 0) dX10_doStep_60 ic_0) ?_
  refine sj_pI hJ fl_X10_136 rfl dX10_doStep_61 (fun d16 => ?_)
  refine sj (j_aload_n hJ dX10_doStep_64 rfl 2 rfl) ?_
  refine sj (j_iconst hJ (v := 0) dX10_doStep_65 ic_0) ?_
  refine sj_pI hJ fl_X10_139 rfl dX10_doStep_66 (fun d17 => ?_)
  refine sj (j_aload_n hJ dX10_doStep_69 rfl 2 rfl) ?_
  refine sj (j_iconst hJ (v := 0) dX10_doStep_70 ic_0) ?_
  refine sj_pZ hJ fl_X10_142 rfl dX10_doStep_71 (fun d18 => ?_)
  refine sj (j_aload_n hJ dX10_doStep_74 rfl 2 rfl) ?_
  refine sj (j_dup hJ dX10_doStep_75 rfl) ?_
  refine sj_gI hJ fl_X10_73 (Or.inl rfl) dX10_doStep_76 (fun v19 => ?_)
  refine sj (j_iconst hJ (v := 1) dX10_doStep_79 ic_1) ?_
  refine sj (j_iadd hJ dX10_doStep_80) ?_
  refine sj_pI hJ fl_X10_73 rfl dX10_doStep_81 (fun d20 => ?_)
  refine sj (j_iconst hJ (v := 0) dX10_doStep_84 ic_0) ?_
  refine sj (j_istore hJ (L' := [(4, .int (0 : Int32)), (3, .ref v3), (2, .ref v2), (0, .ref p0), (1, .ref p1)]) dX10_doStep_85 (by decide) rfl) ?_
  refine sj (j_sub hJ (L' := [(0, .ref p0), (1, .ref p1), (4, .int (0 : Int32))]) [3, 4, 0] rfl) ?_
  exact w_X10_doStep_b87 hI σ p0 p1 (0 : Int32) d20
theorem ct_X10_doStep {σ : St} {p0 : Nat} {p1 : Nat} {δ : Dy} {r : Dy} (h : m_X10_doStep σ p0 p1 δ = some r) : CT yX10_doStep cX10_doStep 7 none 6 155 0 0 [.ref p0, .ref p1] σ δ (none, σ, r) := CT_of (by decide +kernel) (Nat.le_of_ble_eq_true rfl) (fun J hI => w_X10_doStep hI σ p0 p1 δ r h rfl)
def m_X11_clock (σ : St) (p0 : Nat) (δ : Dy) : Option Int32 :=
  (gR σ 11 p0 2).bind fun v1 =>
  (gI σ δ 10 v1 11).bind fun v2 =>
  some v2
set_option maxHeartbeats 4000000 in
set_option maxRecDepth 100000 in
theorem w_X11_clock {J : JT} {an : Option Value × St × Dy} (hI : Isj cX11_clock 1 RX11 "clock" 0 0 (some .int) an J) {β : Bu} (σ : St) (p0 : Nat) (δ : Dy) : SJ (m_X11_clock σ p0 δ) (PIp σ δ an) (J 0 [(0, .ref p0)] [] β σ δ) := by
  have hJ := hI.cor
  unfold m_X11_clock
  refine sj (j_aload_n hJ dX11_clock_0 rfl 0 rfl) ?_
  refine sj_gR hJ fl_X11_39 rfl dX11_clock_1 (fun v1 => ?_)
  refine sj_gI hJ fl_X11_235 (Or.inl rfl) dX11_clock_4 (fun v2 => ?_)
  exact sj_iret hI dX11_clock_7 (fun h => h)
theorem ct_X11_clock {σ : St} {p0 : Nat} {δ : Dy} {r : Int32} (h : m_X11_clock σ p0 δ = some r) : CT yX11_clock cX11_clock 1 (some .int) 0 0 0 0 [.ref p0] σ δ ((some (.int r)), σ, δ) := CT_of (by decide +kernel) (Nat.le_of_ble_eq_true rfl) (fun J hI => w_X11_clock hI σ p0 δ r h rfl)
def m_X11_hasFailed (σ : St) (p0 : Nat) (δ : Dy) : Option Int32 :=
  (gR σ 11 p0 2).bind fun v1 =>
  (gR σ 10 v1 1).bind fun v2 =>
  (gI σ δ 8 v2 12).bind fun v3 =>
  (zo v3).bind fun _ => some v3
set_option maxHeartbeats 4000000 in
set_option maxRecDepth 100000 in
theorem w_X11_hasFailed {J : JT} {an : Option Value × St × Dy} (hI : Isj cX11_hasFailed 1 RX11 "hasFailed" 0 0 (some .boolean) an J) {β : Bu} (σ : St) (p0 : Nat) (δ : Dy) : SJ (m_X11_hasFailed σ p0 δ) (PIp σ δ an) (J 0 [(0, .ref p0)] [] β σ δ) := by
  have hJ := hI.cor
  unfold m_X11_hasFailed
  refine sj (j_aload_n hJ dX11_hasFailed_0 rfl 0 rfl) ?_
  refine sj_gR hJ fl_X11_39 rfl dX11_hasFailed_1 (fun v1 => ?_)
  refine sj_gR hJ fl_X11_46 rfl dX11_hasFailed_4 (fun v2 => ?_)
  refine sj_gI hJ fl_X11_56 (Or.inr rfl) dX11_hasFailed_7 (fun v3 => ?_)
  exact sj_zretG hI dX11_hasFailed_10 (fun h => h)
theorem ct_X11_hasFailed {σ : St} {p0 : Nat} {δ : Dy} {r : Int32} (h : m_X11_hasFailed σ p0 δ = some r) : CT yX11_hasFailed cX11_hasFailed 1 (some .boolean) 0 0 0 0 [.ref p0] σ δ ((some (.int r)), σ, δ) := CT_of (by decide +kernel) (Nat.le_of_ble_eq_true rfl) (fun J hI => w_X11_hasFailed hI σ p0 δ r h rfl)
def m_X11_tokens (σ : St) (p0 : Nat) (δ : Dy) : Option Int32 :=
  (gR σ 11 p0 2).bind fun v1 =>
  (gR σ 10 v1 1).bind fun v2 =>
  (gI σ δ 8 v2 10).bind fun v3 =>
  some v3
set_option maxHeartbeats 4000000 in
set_option maxRecDepth 100000 in
theorem w_X11_tokens {J : JT} {an : Option Value × St × Dy} (hI : Isj cX11_tokens 1 RX11 "tokens" 0 0 (some .int) an J) {β : Bu} (σ : St) (p0 : Nat) (δ : Dy) : SJ (m_X11_tokens σ p0 δ) (PIp σ δ an) (J 0 [(0, .ref p0)] [] β σ δ) := by
  have hJ := hI.cor
  unfold m_X11_tokens
  refine sj (j_aload_n hJ dX11_tokens_0 rfl 0 rfl) ?_
  refine sj_gR hJ fl_X11_39 rfl dX11_tokens_1 (fun v1 => ?_)
  refine sj_gR hJ fl_X11_46 rfl dX11_tokens_4 (fun v2 => ?_)
  refine sj_gI hJ fl_X11_248 (Or.inl rfl) dX11_tokens_7 (fun v3 => ?_)
  exact sj_iret hI dX11_tokens_10 (fun h => h)
theorem ct_X11_tokens {σ : St} {p0 : Nat} {δ : Dy} {r : Int32} (h : m_X11_tokens σ p0 δ = some r) : CT yX11_tokens cX11_tokens 1 (some .int) 0 0 0 0 [.ref p0] σ δ ((some (.int r)), σ, δ) := CT_of (by decide +kernel) (Nat.le_of_ble_eq_true rfl) (fun J hI => w_X11_tokens hI σ p0 δ r h rfl)
def m_X11_standing (σ : St) (p0 : Nat) (δ : Dy) : Option Int32 :=
  (gR σ 11 p0 2).bind fun v1 =>
  (gR σ 10 v1 1).bind fun v2 =>
  (chk σ 8 v2).bind fun _ => (m_X8_countStanding σ v2 δ).bind fun v3 =>
  some v3
set_option maxHeartbeats 4000000 in
set_option maxRecDepth 100000 in
theorem w_X11_standing {J : JT} {an : Option Value × St × Dy} (hI : Isj cX11_standing 1 RX11 "standing" 1 22 (some .int) an J) {β : Bu} (σ : St) (p0 : Nat) (δ : Dy) : SJ (m_X11_standing σ p0 δ) (PIp σ δ an) (J 0 [(0, .ref p0)] [] β σ δ) := by
  have hJ := hI.cor
  unfold m_X11_standing
  refine sj (j_aload_n hJ dX11_standing_0 rfl 0 rfl) ?_
  refine sj_gR hJ fl_X11_39 rfl dX11_standing_1 (fun v1 => ?_)
  refine sj_gR hJ fl_X11_46 rfl dX11_standing_4 (fun v2 => ?_)
  refine sj_callVip hJ [] (st := []) (fr' := 0) (lo' := 0) ml_X11_283 hc_8 (by decide) (by decide) (Nat.le_of_ble_eq_true rfl) dX11_standing_7 rfl (fun _ h9 => ct_X8_countStanding h9) (fun v3 => ?_)
  exact sj_iret hI dX11_standing_10 (fun h => h)
theorem ct_X11_standing {σ : St} {p0 : Nat} {δ : Dy} {r : Int32} (h : m_X11_standing σ p0 δ = some r) : CT yX11_standing cX11_standing 1 (some .int) 1 22 0 0 [.ref p0] σ δ ((some (.int r)), σ, δ) := CT_of (by decide +kernel) (Nat.le_of_ble_eq_true rfl) (fun J hI => w_X11_standing hI σ p0 δ r h rfl)
def m_X11_standingAnew_b193 (σ : St) (p0 : Nat) (p1 : Int32) (δ : Dy) : Option ((Int32 × Dy) ⊕ (Int32 × Dy)) :=
  some (Sum.inl ((p1 + (1 : Int32)), δ))
def m_X11_standingAnew_b9 (σ : St) (p0 : Nat) (p1 : Int32) (δ : Dy) : Option (Int32 × Dy) := lp (fun (s : (Int32 × Dy)) =>
  (gI σ s.2 11 p0 6).bind fun v3 =>
  if v3 ≤ s.1 then
    (gR σ 11 p0 3).bind fun v4 =>
    (gR σ 10 v4 1).bind fun v5 =>
    (chk σ 8 v5).bind fun _ => (m_X8_countStanding σ v5 s.2).bind fun v6 =>
    some (Sum.inr (v6, s.2))
  else
    (gR σ 11 p0 5).bind fun v7 =>
    (rI σ s.2 v7 ((4 : Int32) * s.1)).bind fun v8 =>
    if v8 = (0 : Int32) then
      (gR σ 11 p0 3).bind fun v10 =>
      (gR σ 10 v10 1).bind fun v11 =>
      (chk σ 8 v11).bind fun _ => (m_X8_makeVariable σ v11 s.2).bind fun v12 =>
      m_X11_standingAnew_b193 σ p0 s.1 v12.2
    else
    if v8 = (1 : Int32) then
      (gR σ 11 p0 3).bind fun v13 =>
      (gR σ 10 v13 4).bind fun v14 =>
      (gR σ 11 p0 5).bind fun v15 =>
      (rI σ s.2 v15 (((4 : Int32) * s.1) + (1 : Int32))).bind fun v16 =>
      (gR σ 11 p0 5).bind fun v17 =>
      (rI σ s.2 v17 (((4 : Int32) * s.1) + (2 : Int32))).bind fun v18 =>
      (wI σ s.2 v14 v16 v18).bind fun d19 =>
      m_X11_standingAnew_b193 σ p0 s.1 d19
    else
    if v8 = (2 : Int32) then
      (gR σ 11 p0 3).bind fun v20 =>
      (gR σ 10 v20 2).bind fun v21 =>
      (gI σ s.2 6 v21 9).bind fun v22 =>
      (pI σ s.2 6 v21 9 (v22 + (1 : Int32))).bind fun d23 =>
      m_X11_standingAnew_b193 σ p0 s.1 d23
    else
    if v8 = (3 : Int32) then
      (gR σ 11 p0 3).bind fun v24 =>
      (gR σ 11 p0 5).bind fun v25 =>
      (rI σ s.2 v25 (((4 : Int32) * s.1) + (1 : Int32))).bind fun v26 =>
      (gR σ 11 p0 5).bind fun v27 =>
      (rI σ s.2 v27 (((4 : Int32) * s.1) + (2 : Int32))).bind fun v28 =>
      (gR σ 11 p0 5).bind fun v29 =>
      (rI σ s.2 v29 (((4 : Int32) * s.1) + (3 : Int32))).bind fun v30 =>
      (chk σ 10 v24).bind fun _ => (m_X10_admit σ v24 v26 v28 v30 s.2).bind fun v31 =>
      m_X11_standingAnew_b193 σ p0 s.1 v31
    else
    if v8 = (4 : Int32) then
      (gR σ 11 p0 4).bind fun v32 =>
      (chk σ 9 v32).bind fun _ => (m_X9_restart σ v32 s.2).bind fun v33 =>
      (gR σ 11 p0 3).bind fun v34 =>
      (gR σ 11 p0 4).bind fun v35 =>
      (chk σ 10 v34).bind fun _ => (m_X10_doStep σ v34 v35 v33).bind fun v36 =>
      m_X11_standingAnew_b193 σ p0 s.1 v36
    else
    (gR σ 11 p0 3).bind fun v37 =>
    (gR σ 10 v37 3).bind fun v38 =>
    (gR σ 11 p0 5).bind fun v39 =>
    (rI σ s.2 v39 (((4 : Int32) * s.1) + (1 : Int32))).bind fun v40 =>
    (pI σ s.2 2 v38 1 v40).bind fun d41 =>
    m_X11_standingAnew_b193 σ p0 s.1 d41) (p1, δ)
def m_X11_standingAnew (σ : St) (p0 : Nat) (δ : Dy) : Option (Int32 × Dy) :=
  (gR σ 11 p0 3).bind fun v1 =>
  (chk σ 10 v1).bind fun _ => (m_X10_clear σ v1 δ).bind fun v2 =>
  m_X11_standingAnew_b9 σ p0 (0 : Int32) v2
set_option maxHeartbeats 4000000 in
set_option maxRecDepth 100000 in
theorem w_X11_standingAnew_b193 {J : JT} {an : Option Value × St × Dy} (hI : Isj cX11_standingAnew 3 RX11 "standingAnew" 7 181 (some .int) an J) {β : Bu} (σ : St) (p0 : Nat) (p1 : Int32) (δ : Dy) : SJ (m_X11_standingAnew_b193 σ p0 p1 δ) (PL (fun s : (Int32 × Dy) => J 9 [(0, .ref p0), (1, .int s.1)] [] β σ s.2) (PI σ an)) (J 193 [(0, .ref p0), (1, .int p1)] [] β σ δ) := by
  have hJ := hI.cor
  unfold m_X11_standingAnew_b193
  refine sj (j_iinc hJ (L' := [(1, .int (p1 + (1 : Int32))), (0, .ref p0)]) dX11_standingAnew_193 1 rfl (congrArg (fun z => p1 + z) ic_1) (by decide) rfl) ?_
  refine sj (j_goto hJ (tgt := 9) dX11_standingAnew_196 (by decide)) ?_
  refine sj (j_sub hJ (L' := [(0, .ref p0), (1, .int (p1 + (1 : Int32)))]) [1, 0] rfl) ?_
  exact sj_end (fun h => h)
set_option maxHeartbeats 4000000 in
set_option maxRecDepth 100000 in
theorem w_X11_standingAnew_b9 {J : JT} {an : Option Value × St × Dy} (hI : Isj cX11_standingAnew 3 RX11 "standingAnew" 7 181 (some .int) an J) {β : Bu} (σ : St) (p0 : Nat) (p1 : Int32) (δ : Dy) : SJ (m_X11_standingAnew_b9 σ p0 p1 δ) (PI σ an) (J 9 [(0, .ref p0), (1, .int p1)] [] β σ δ) := by
  have hJ := hI.cor
  unfold m_X11_standingAnew_b9
  refine sj_lp (G := fun s : (Int32 × Dy) => J 9 [(0, .ref p0), (1, .int s.1)] [] β σ s.2) (fun s => ?_) (p1, δ)
  refine sj (j_iload_n hJ dX11_standingAnew_9 rfl 1 rfl) ?_
  refine sj (j_aload_n hJ dX11_standingAnew_10 rfl 0 rfl) ?_
  refine sj_gI hJ fl_X11_287 (Or.inl rfl) dX11_standingAnew_11 (fun v3 => ?_)
  refine sj_if (j_icmp_ge hJ (tgt := 199) dX11_standingAnew_14 (by decide)) (fun _ => ?_) (fun _ => ?_)
  · refine sj (j_aload_n hJ dX11_standingAnew_199 rfl 0 rfl) ?_
    refine sj_gR hJ fl_X11_43 rfl dX11_standingAnew_200 (fun v4 => ?_)
    refine sj_gR hJ fl_X11_46 rfl dX11_standingAnew_203 (fun v5 => ?_)
    refine sj_callVip hJ [] (st := []) (fr' := 0) (lo' := 0) ml_X11_283 hc_8 (by decide) (by decide) (Nat.le_of_ble_eq_true rfl) dX11_standingAnew_206 rfl (fun _ h9 => ct_X8_countStanding h9) (fun v6 => ?_)
    exact sj_iret hI dX11_standingAnew_209 (fun h => h)
  · refine sj (j_iconst hJ (v := 4) dX11_standingAnew_17 ic_4) ?_
    refine sj (j_iload_n hJ dX11_standingAnew_18 rfl 1 rfl) ?_
    refine sj (j_imul hJ dX11_standingAnew_19) ?_
    refine sj (j_istore_n hJ (L' := [(2, .int ((4 : Int32) * s.1)), (0, .ref p0), (1, .int s.1)]) dX11_standingAnew_20 rfl (by decide) rfl) ?_
    refine sj (j_aload_n hJ dX11_standingAnew_21 rfl 1 rfl) ?_
    refine sj_gR hJ fl_X11_29 rfl dX11_standingAnew_22 (fun v7 => ?_)
    refine sj (j_iload_n hJ dX11_standingAnew_25 rfl 0 rfl) ?_
    refine sj_rI hJ dX11_standingAnew_26 (fun v8 => ?_)
    refine sj_ifc (fun h9 => ?_) (fun h9_0 => ?_)
    · refine sj (fun k9 => j_tableIn hJ dX11_standingAnew_27 (off := 33) (by rw [h9]; decide) (by rw [h9]; decide) (by rw [h9]; decide) (tgt := 60) (by decide) k9) ?_
      refine sj (j_aload_n hJ dX11_standingAnew_60 rfl 1 rfl) ?_
      refine sj_gR hJ fl_X11_43 rfl dX11_standingAnew_61 (fun v10 => ?_)
      refine sj_gR hJ fl_X11_46 rfl dX11_standingAnew_64 (fun v11 => ?_)
      refine sj_callVi hJ [] (st := []) (fr' := 0) (lo' := 0) ml_X11_71 hc_8 (by decide) (by decide) (Nat.le_of_ble_eq_true rfl) dX11_standingAnew_67 rfl (fun _ h9 => ct_X8_makeVariable h9) (fun v12 => ?_)
      refine sj (j_pop hJ dX11_standingAnew_70 rfl) ?_
      refine sj (j_goto hJ (tgt := 193) dX11_standingAnew_71 (by decide)) ?_
      refine sj (j_sub hJ (L' := [(0, .ref p0), (1, .int s.1)]) [1, 2] rfl) ?_
      exact w_X11_standingAnew_b193 hI σ p0 s.1 v12.2
    refine sj_ifc (fun h9 => ?_) (fun h9_1 => ?_)
    · refine sj (fun k9 => j_tableIn hJ dX11_standingAnew_27 (off := 47) (by rw [h9]; decide) (by rw [h9]; decide) (by rw [h9]; decide) (tgt := 74) (by decide) k9) ?_
      refine sj (j_aload_n hJ dX11_standingAnew_74 rfl 1 rfl) ?_
      refine sj_gR hJ fl_X11_43 rfl dX11_standingAnew_75 (fun v13 => ?_)
      refine sj_gR hJ fl_X11_115 rfl dX11_standingAnew_78 (fun v14 => ?_)
      refine sj (j_aload_n hJ dX11_standingAnew_81 rfl 1 rfl) ?_
      refine sj_gR hJ fl_X11_29 rfl dX11_standingAnew_82 (fun v15 => ?_)
      refine sj (j_iload_n hJ dX11_standingAnew_85 rfl 0 rfl) ?_
      refine sj (j_iconst hJ (v := 1) dX11_standingAnew_86 ic_1) ?_
      refine sj (j_iadd hJ dX11_standingAnew_87) ?_
      refine sj_rI hJ dX11_standingAnew_88 (fun v16 => ?_)
      refine sj (j_aload_n hJ dX11_standingAnew_89 rfl 1 rfl) ?_
      refine sj_gR hJ fl_X11_29 rfl dX11_standingAnew_90 (fun v17 => ?_)
      refine sj (j_iload_n hJ dX11_standingAnew_93 rfl 0 rfl) ?_
      refine sj (j_iconst hJ (v := 2) dX11_standingAnew_94 ic_2) ?_
      refine sj (j_iadd hJ dX11_standingAnew_95) ?_
      refine sj_rI hJ dX11_standingAnew_96 (fun v18 => ?_)
      refine sj_wI hJ dX11_standingAnew_97 (fun d19 => ?_)
      refine sj (j_goto hJ (tgt := 193) dX11_standingAnew_98 (by decide)) ?_
      refine sj (j_sub hJ (L' := [(0, .ref p0), (1, .int s.1)]) [1, 2] rfl) ?_
      exact w_X11_standingAnew_b193 hI σ p0 s.1 d19
    refine sj_ifc (fun h9 => ?_) (fun h9_2 => ?_)
    · refine sj (fun k9 => j_tableIn hJ dX11_standingAnew_27 (off := 74) (by rw [h9]; decide) (by rw [h9]; decide) (by rw [h9]; decide) (tgt := 101) (by decide) k9) ?_
      refine sj (j_aload_n hJ dX11_standingAnew_101 rfl 1 rfl) ?_
      refine sj_gR hJ fl_X11_43 rfl dX11_standingAnew_102 (fun v20 => ?_)
      refine sj_gR hJ fl_X11_160 rfl dX11_standingAnew_105 (fun v21 => ?_)
      refine sj (j_dup hJ dX11_standingAnew_108 rfl) ?_
      refine sj_gI hJ fl_X11_164 (Or.inl rfl) dX11_standingAnew_109 (fun v22 => ?_)
      refine sj (j_iconst hJ (v := 1) dX11_standingAnew_112 ic_1) ?_
      refine sj (j_iadd hJ dX11_standingAnew_113) ?_
      refine sj_pI hJ fl_X11_164 rfl dX11_standingAnew_114 (fun d23 => ?_)
      refine sj (j_goto hJ (tgt := 193) dX11_standingAnew_117 (by decide)) ?_
      refine sj (j_sub hJ (L' := [(0, .ref p0), (1, .int s.1)]) [1, 2] rfl) ?_
      exact w_X11_standingAnew_b193 hI σ p0 s.1 d23
    refine sj_ifc (fun h9 => ?_) (fun h9_3 => ?_)
    · refine sj (fun k9 => j_tableIn hJ dX11_standingAnew_27 (off := 93) (by rw [h9]; decide) (by rw [h9]; decide) (by rw [h9]; decide) (tgt := 120) (by decide) k9) ?_
      refine sj (j_aload_n hJ dX11_standingAnew_120 rfl 1 rfl) ?_
      refine sj_gR hJ fl_X11_43 rfl dX11_standingAnew_121 (fun v24 => ?_)
      refine sj (j_aload_n hJ dX11_standingAnew_124 rfl 1 rfl) ?_
      refine sj_gR hJ fl_X11_29 rfl dX11_standingAnew_125 (fun v25 => ?_)
      refine sj (j_iload_n hJ dX11_standingAnew_128 rfl 0 rfl) ?_
      refine sj (j_iconst hJ (v := 1) dX11_standingAnew_129 ic_1) ?_
      refine sj (j_iadd hJ dX11_standingAnew_130) ?_
      refine sj_rI hJ dX11_standingAnew_131 (fun v26 => ?_)
      refine sj (j_aload_n hJ dX11_standingAnew_132 rfl 1 rfl) ?_
      refine sj_gR hJ fl_X11_29 rfl dX11_standingAnew_133 (fun v27 => ?_)
      refine sj (j_iload_n hJ dX11_standingAnew_136 rfl 0 rfl) ?_
      refine sj (j_iconst hJ (v := 2) dX11_standingAnew_137 ic_2) ?_
      refine sj (j_iadd hJ dX11_standingAnew_138) ?_
      refine sj_rI hJ dX11_standingAnew_139 (fun v28 => ?_)
      refine sj (j_aload_n hJ dX11_standingAnew_140 rfl 1 rfl) ?_
      refine sj_gR hJ fl_X11_29 rfl dX11_standingAnew_141 (fun v29 => ?_)
      refine sj (j_iload_n hJ dX11_standingAnew_144 rfl 0 rfl) ?_
      refine sj (j_iconst hJ (v := 3) dX11_standingAnew_145 ic_3) ?_
      refine sj (j_iadd hJ dX11_standingAnew_146) ?_
      refine sj_rI hJ dX11_standingAnew_147 (fun v30 => ?_)
      refine sj_callVv hJ [.int v26, .int v28, .int v30] (st := []) (fr' := 2) (lo' := 81) ml_X11_190 hc_10 (by decide) (by decide) (Nat.le_of_ble_eq_true rfl) dX11_standingAnew_148 rfl (fun _ h9 => ct_X10_admit h9) (fun v31 => ?_)
      refine sj (j_goto hJ (tgt := 193) dX11_standingAnew_151 (by decide)) ?_
      refine sj (j_sub hJ (L' := [(0, .ref p0), (1, .int s.1)]) [1, 2] rfl) ?_
      exact w_X11_standingAnew_b193 hI σ p0 s.1 v31
    refine sj_ifc (fun h9 => ?_) (fun h9_4 => ?_)
    · refine sj (fun k9 => j_tableIn hJ dX11_standingAnew_27 (off := 127) (by rw [h9]; decide) (by rw [h9]; decide) (by rw [h9]; decide) (tgt := 154) (by decide) k9) ?_
      refine sj (j_aload_n hJ dX11_standingAnew_154 rfl 1 rfl) ?_
      refine sj_gR hJ fl_X11_25 rfl dX11_standingAnew_155 (fun v32 => ?_)
      refine sj_callVv hJ [] (st := []) (fr' := 0) (lo' := 0) ml_X11_198 hc_9 (by decide) (by decide) (Nat.le_of_ble_eq_true rfl) dX11_standingAnew_158 rfl (fun _ h9 => ct_X9_restart h9) (fun v33 => ?_)
      refine sj (j_aload_n hJ dX11_standingAnew_161 rfl 1 rfl) ?_
      refine sj_gR hJ fl_X11_43 rfl dX11_standingAnew_162 (fun v34 => ?_)
      refine sj (j_aload_n hJ dX11_standingAnew_165 rfl 1 rfl) ?_
      refine sj_gR hJ fl_X11_25 rfl dX11_standingAnew_166 (fun v35 => ?_)
      refine sj_callVv hJ [.ref v35] (st := []) (fr' := 6) (lo' := 155) ml_X11_201 hc_10 (by decide) (by decide) (Nat.le_of_ble_eq_true rfl) dX11_standingAnew_169 rfl (fun _ h9 => ct_X10_doStep h9) (fun v36 => ?_)
      refine sj (j_goto hJ (tgt := 193) dX11_standingAnew_172 (by decide)) ?_
      refine sj (j_sub hJ (L' := [(0, .ref p0), (1, .int s.1)]) [1, 2] rfl) ?_
      exact w_X11_standingAnew_b193 hI σ p0 s.1 v36
    have g0 : (v8).toInt ≠ 0 := fun q => h9_0 (Int32.toInt_inj.mp (q.trans (by decide)))
    have g1 : (v8).toInt ≠ 1 := fun q => h9_1 (Int32.toInt_inj.mp (q.trans (by decide)))
    have g2 : (v8).toInt ≠ 2 := fun q => h9_2 (Int32.toInt_inj.mp (q.trans (by decide)))
    have g3 : (v8).toInt ≠ 3 := fun q => h9_3 (Int32.toInt_inj.mp (q.trans (by decide)))
    have g4 : (v8).toInt ≠ 4 := fun q => h9_4 (Int32.toInt_inj.mp (q.trans (by decide)))
    refine sj (fun k9 => j_tableOut hJ dX11_standingAnew_27 (by omega) (tgt := 175) (by decide) k9) ?_
    refine sj (j_aload_n hJ dX11_standingAnew_175 rfl 1 rfl) ?_
    refine sj_gR hJ fl_X11_43 rfl dX11_standingAnew_176 (fun v37 => ?_)
    refine sj_gR hJ fl_X11_209 rfl dX11_standingAnew_179 (fun v38 => ?_)
    refine sj (j_aload_n hJ dX11_standingAnew_182 rfl 1 rfl) ?_
    refine sj_gR hJ fl_X11_29 rfl dX11_standingAnew_183 (fun v39 => ?_)
    refine sj (j_iload_n hJ dX11_standingAnew_186 rfl 0 rfl) ?_
    refine sj (j_iconst hJ (v := 1) dX11_standingAnew_187 ic_1) ?_
    refine sj (j_iadd hJ dX11_standingAnew_188) ?_
    refine sj_rI hJ dX11_standingAnew_189 (fun v40 => ?_)
    refine sj_pI hJ fl_X11_213 rfl dX11_standingAnew_190 (fun d41 => ?_)
    refine sj (j_sub hJ (L' := [(0, .ref p0), (1, .int s.1)]) [1, 2] rfl) ?_
    exact w_X11_standingAnew_b193 hI σ p0 s.1 d41
set_option maxHeartbeats 4000000 in
set_option maxRecDepth 100000 in
theorem w_X11_standingAnew {J : JT} {an : Option Value × St × Dy} (hI : Isj cX11_standingAnew 3 RX11 "standingAnew" 7 181 (some .int) an J) {β : Bu} (σ : St) (p0 : Nat) (δ : Dy) : SJ (m_X11_standingAnew σ p0 δ) (PI σ an) (J 0 [(0, .ref p0)] [] β σ δ) := by
  have hJ := hI.cor
  unfold m_X11_standingAnew
  refine sj (j_aload_n hJ dX11_standingAnew_0 rfl 0 rfl) ?_
  refine sj_gR hJ fl_X11_43 rfl dX11_standingAnew_1 (fun v1 => ?_)
  refine sj_callVv hJ [] (st := []) (fr' := 2) (lo' := 44) ml_X11_286 hc_10 (by decide) (by decide) (Nat.le_of_ble_eq_true rfl) dX11_standingAnew_4 rfl (fun _ h9 => ct_X10_clear h9) (fun v2 => ?_)
  refine sj (j_iconst hJ (v := 0) dX11_standingAnew_7 ic_0) ?_
  refine sj (j_istore_n hJ (L' := [(1, .int (0 : Int32)), (0, .ref p0)]) dX11_standingAnew_8 rfl (by decide) rfl) ?_
  refine sj (j_sub hJ (L' := [(0, .ref p0), (1, .int (0 : Int32))]) [1, 0] rfl) ?_
  exact w_X11_standingAnew_b9 hI σ p0 (0 : Int32) v2
theorem ct_X11_standingAnew {σ : St} {p0 : Nat} {δ : Dy} {r : (Int32 × Dy)} (h : m_X11_standingAnew σ p0 δ = some r) : CT yX11_standingAnew cX11_standingAnew 3 (some .int) 7 181 0 0 [.ref p0] σ δ ((some (.int r.1)), σ, r.2) := CT_of (by decide +kernel) (Nat.le_of_ble_eq_true rfl) (fun J hI => w_X11_standingAnew hI σ p0 δ r h rfl)
def m_X11_waiting (σ : St) (p0 : Nat) (δ : Dy) : Option Int32 :=
  (gR σ 11 p0 2).bind fun v1 =>
  (chk σ 10 v1).bind fun _ => (m_X10_forNext σ v1 δ).bind fun v2 =>
  some v2
set_option maxHeartbeats 4000000 in
set_option maxRecDepth 100000 in
theorem w_X11_waiting {J : JT} {an : Option Value × St × Dy} (hI : Isj cX11_waiting 1 RX11 "waiting" 1 20 (some .int) an J) {β : Bu} (σ : St) (p0 : Nat) (δ : Dy) : SJ (m_X11_waiting σ p0 δ) (PIp σ δ an) (J 0 [(0, .ref p0)] [] β σ δ) := by
  have hJ := hI.cor
  unfold m_X11_waiting
  refine sj (j_aload_n hJ dX11_waiting_0 rfl 0 rfl) ?_
  refine sj_gR hJ fl_X11_39 rfl dX11_waiting_1 (fun v1 => ?_)
  refine sj_callVip hJ [] (st := []) (fr' := 0) (lo' := 0) ml_X11_185 hc_10 (by decide) (by decide) (Nat.le_of_ble_eq_true rfl) dX11_waiting_4 rfl (fun _ h9 => ct_X10_forNext h9) (fun v2 => ?_)
  exact sj_iret hI dX11_waiting_7 (fun h => h)
theorem ct_X11_waiting {σ : St} {p0 : Nat} {δ : Dy} {r : Int32} (h : m_X11_waiting σ p0 δ = some r) : CT yX11_waiting cX11_waiting 1 (some .int) 1 20 0 0 [.ref p0] σ δ ((some (.int r)), σ, δ) := CT_of (by decide +kernel) (Nat.le_of_ble_eq_true rfl) (fun J hI => w_X11_waiting hI σ p0 δ r h rfl)
def m_X11_chance (σ : St) (p0 : Nat) (p1 : Int32) (δ : Dy) : Option Int32 :=
  (gR σ 11 p0 2).bind fun v1 =>
  (gR σ 10 v1 3).bind fun v2 =>
  (chk σ 2 v2).bind fun _ => (m_X2_line σ v2 p1 δ).bind fun v3 =>
  some v3
set_option maxHeartbeats 4000000 in
set_option maxRecDepth 100000 in
theorem w_X11_chance {J : JT} {an : Option Value × St × Dy} (hI : Isj cX11_chance 2 RX11 "chance" 1 26 (some .int) an J) {β : Bu} (σ : St) (p0 : Nat) (p1 : Int32) (δ : Dy) : SJ (m_X11_chance σ p0 p1 δ) (PIp σ δ an) (J 0 [(0, .ref p0), (1, .int p1)] [] β σ δ) := by
  have hJ := hI.cor
  unfold m_X11_chance
  refine sj (j_aload_n hJ dX11_chance_0 rfl 0 rfl) ?_
  refine sj_gR hJ fl_X11_39 rfl dX11_chance_1 (fun v1 => ?_)
  refine sj_gR hJ fl_X11_209 rfl dX11_chance_4 (fun v2 => ?_)
  refine sj (j_iload_n hJ dX11_chance_7 rfl 1 rfl) ?_
  refine sj_callVip hJ [.int p1] (st := []) (fr' := 0) (lo' := 0) ml_X11_295 hc_2 (by decide) (by decide) (Nat.le_of_ble_eq_true rfl) dX11_chance_8 rfl (fun _ h9 => ct_X2_line h9) (fun v3 => ?_)
  exact sj_iret hI dX11_chance_11 (fun h => h)
theorem ct_X11_chance {σ : St} {p0 : Nat} {p1 : Int32} {δ : Dy} {r : Int32} (h : m_X11_chance σ p0 p1 δ = some r) : CT yX11_chance cX11_chance 2 (some .int) 1 26 0 0 [.ref p0, .int p1] σ δ ((some (.int r)), σ, δ) := CT_of (by decide +kernel) (Nat.le_of_ble_eq_true rfl) (fun J hI => w_X11_chance hI σ p0 p1 δ r h rfl)
def m_X11_asked (σ : St) (p0 : Int32) (p1 : Int32) (δ : Dy) : Option Int32 :=
  if p0 = (3 : Int32) then
    some (0 : Int32)
  else
    some p1
set_option maxHeartbeats 4000000 in
set_option maxRecDepth 100000 in
theorem w_X11_asked {J : JT} {an : Option Value × St × Dy} (hI : Isj cX11_asked 2 RX11 "asked" 0 0 (some .int) an J) {β : Bu} (σ : St) (p0 : Int32) (p1 : Int32) (δ : Dy) : SJ (m_X11_asked σ p0 p1 δ) (PIp σ δ an) (J 0 [(0, .int p0), (1, .int p1)] [] β σ δ) := by
  have hJ := hI.cor
  unfold m_X11_asked
  refine sj (j_iload_n hJ dX11_asked_0 rfl 0 rfl) ?_
  refine sj (j_iconst hJ (v := 3) dX11_asked_1 ic_3) ?_
  refine sj_if (j_icmp_ne hJ (tgt := 9) dX11_asked_2 (by decide)) (fun _ => ?_) (fun _ => ?_)
  · refine sj (j_iconst hJ (v := 0) dX11_asked_5 ic_0) ?_
    refine sj (j_goto hJ (tgt := 10) dX11_asked_6 (by decide)) ?_
    exact sj_iret hI dX11_asked_10 (fun h => h)
  · refine sj (j_iload_n hJ dX11_asked_9 rfl 1 rfl) ?_
    exact sj_iret hI dX11_asked_10 (fun h => h)
theorem ct_X11_asked {σ : St} {p0 : Int32} {p1 : Int32} {δ : Dy} {r : Int32} (h : m_X11_asked σ p0 p1 δ = some r) : CT yX11_asked cX11_asked 2 (some .int) 0 0 0 0 [.int p0, .int p1] σ δ ((some (.int r)), σ, δ) := CT_of (by decide +kernel) (Nat.le_of_ble_eq_true rfl) (fun J hI => w_X11_asked hI σ p0 p1 δ r h rfl)
def m_X11_isNoVariable (σ : St) (p0 : Nat) (p1 : Int32) (δ : Dy) : Option Int32 :=
  if p1 < (400 : Int32) then
    some (0 : Int32)
  else
    (gR σ 11 p0 2).bind fun v1 =>
    (gR σ 10 v1 1).bind fun v2 =>
    (gI σ δ 8 v2 2).bind fun v3 =>
    if (p1 - (400 : Int32)) < v3 then
      some (0 : Int32)
    else
      some (1 : Int32)
set_option maxHeartbeats 4000000 in
set_option maxRecDepth 100000 in
theorem w_X11_isNoVariable {J : JT} {an : Option Value × St × Dy} (hI : Isj cX11_isNoVariable 2 RX11 "isNoVariable" 0 0 (some .boolean) an J) {β : Bu} (σ : St) (p0 : Nat) (p1 : Int32) (δ : Dy) : SJ (m_X11_isNoVariable σ p0 p1 δ) (PIp σ δ an) (J 0 [(0, .ref p0), (1, .int p1)] [] β σ δ) := by
  have hJ := hI.cor
  unfold m_X11_isNoVariable
  refine sj (j_iload_n hJ dX11_isNoVariable_0 rfl 1 rfl) ?_
  refine sj (j_sipush hJ (v := 400) dX11_isNoVariable_1 is_400) ?_
  refine sj_if (j_icmp_lt hJ (tgt := 29) dX11_isNoVariable_4 (by decide)) (fun _ => ?_) (fun _ => ?_)
  · refine sj (j_iconst hJ (v := 0) dX11_isNoVariable_29 ic_0) ?_
    exact sj_zret hI (by decide) dX11_isNoVariable_30 (fun h => h)
  · refine sj (j_iload_n hJ dX11_isNoVariable_7 rfl 1 rfl) ?_
    refine sj (j_sipush hJ (v := 400) dX11_isNoVariable_8 is_400) ?_
    refine sj (j_isub hJ dX11_isNoVariable_11) ?_
    refine sj (j_aload_n hJ dX11_isNoVariable_12 rfl 0 rfl) ?_
    refine sj_gR hJ fl_X11_39 rfl dX11_isNoVariable_13 (fun v1 => ?_)
    refine sj_gR hJ fl_X11_46 rfl dX11_isNoVariable_16 (fun v2 => ?_)
    refine sj_gI hJ fl_X11_50 (Or.inl rfl) dX11_isNoVariable_19 (fun v3 => ?_)
    refine sj_if (j_icmp_lt hJ (tgt := 29) dX11_isNoVariable_22 (by decide)) (fun _ => ?_) (fun _ => ?_)
    · refine sj (j_iconst hJ (v := 0) dX11_isNoVariable_29 ic_0) ?_
      exact sj_zret hI (by decide) dX11_isNoVariable_30 (fun h => h)
    · refine sj (j_iconst hJ (v := 1) dX11_isNoVariable_25 ic_1) ?_
      refine sj (j_goto hJ (tgt := 30) dX11_isNoVariable_26 (by decide)) ?_
      exact sj_zret hI (by decide) dX11_isNoVariable_30 (fun h => h)
theorem ct_X11_isNoVariable {σ : St} {p0 : Nat} {p1 : Int32} {δ : Dy} {r : Int32} (h : m_X11_isNoVariable σ p0 p1 δ = some r) : CT yX11_isNoVariable cX11_isNoVariable 2 (some .boolean) 0 0 0 0 [.ref p0, .int p1] σ δ ((some (.int r)), σ, δ) := CT_of (by decide +kernel) (Nat.le_of_ble_eq_true rfl) (fun J hI => w_X11_isNoVariable hI σ p0 p1 δ r h rfl)
def m_X11_isValue (σ : St) (p0 : Int32) (δ : Dy) : Option Int32 :=
  if p0 < (-99 : Int32) then
    some (0 : Int32)
  else
    if (99 : Int32) < p0 then
      some (0 : Int32)
    else
      some (1 : Int32)
set_option maxHeartbeats 4000000 in
set_option maxRecDepth 100000 in
theorem w_X11_isValue {J : JT} {an : Option Value × St × Dy} (hI : Isj cX11_isValue 1 RX11 "isValue" 0 0 (some .boolean) an J) {β : Bu} (σ : St) (p0 : Int32) (δ : Dy) : SJ (m_X11_isValue σ p0 δ) (PIp σ δ an) (J 0 [(0, .int p0)] [] β σ δ) := by
  have hJ := hI.cor
  unfold m_X11_isValue
  refine sj (j_iload_n hJ dX11_isValue_0 rfl 0 rfl) ?_
  refine sj (j_bipush hJ (v := -99) dX11_isValue_1 ib_m99) ?_
  refine sj_if (j_icmp_lt hJ (tgt := 16) dX11_isValue_3 (by decide)) (fun _ => ?_) (fun _ => ?_)
  · refine sj (j_iconst hJ (v := 0) dX11_isValue_16 ic_0) ?_
    exact sj_zret hI (by decide) dX11_isValue_17 (fun h => h)
  · refine sj (j_iload_n hJ dX11_isValue_6 rfl 0 rfl) ?_
    refine sj (j_bipush hJ (v := 99) dX11_isValue_7 ib_99) ?_
    refine sj_if (j_icmp_gt hJ (tgt := 16) dX11_isValue_9 (by decide)) (fun _ => ?_) (fun _ => ?_)
    · refine sj (j_iconst hJ (v := 0) dX11_isValue_16 ic_0) ?_
      exact sj_zret hI (by decide) dX11_isValue_17 (fun h => h)
    · refine sj (j_iconst hJ (v := 1) dX11_isValue_12 ic_1) ?_
      refine sj (j_goto hJ (tgt := 17) dX11_isValue_13 (by decide)) ?_
      exact sj_zret hI (by decide) dX11_isValue_17 (fun h => h)
theorem ct_X11_isValue {σ : St} {p0 : Int32} {δ : Dy} {r : Int32} (h : m_X11_isValue σ p0 δ = some r) : CT yX11_isValue cX11_isValue 1 (some .boolean) 0 0 0 0 [.int p0] σ δ ((some (.int r)), σ, δ) := CT_of (by decide +kernel) (Nat.le_of_ble_eq_true rfl) (fun J hI => w_X11_isValue hI σ p0 δ r h rfl)
def m_X11_isTerm (σ : St) (p0 : Int32) (δ : Dy) : Option Int32 :=
  (m_X11_isValue σ p0 δ).bind fun v1 =>
  if v1 = 0 then
    (m_X11_isSlot σ p0 δ).bind fun v2 =>
    if v2 = 0 then
      some (0 : Int32)
    else
      some (1 : Int32)
  else
    some (1 : Int32)
set_option maxHeartbeats 4000000 in
set_option maxRecDepth 100000 in
theorem w_X11_isTerm {J : JT} {an : Option Value × St × Dy} (hI : Isj cX11_isTerm 1 RX11 "isTerm" 1 20 (some .boolean) an J) {β : Bu} (σ : St) (p0 : Int32) (δ : Dy) : SJ (m_X11_isTerm σ p0 δ) (PIp σ δ an) (J 0 [(0, .int p0)] [] β σ δ) := by
  have hJ := hI.cor
  unfold m_X11_isTerm
  refine sj (j_iload_n hJ dX11_isTerm_0 rfl 0 rfl) ?_
  refine sj_callSip hJ [.int p0] (st := []) (fr' := 0) (lo' := 0) ml_X11_180 (by decide) (by decide) (Nat.le_of_ble_eq_true rfl) dX11_isTerm_1 rfl (fun _ h9 => ct_X11_isValue h9) (fun v1 => ?_)
  refine sj_if (j_if_ne hJ (tgt := 14) dX11_isTerm_4 (by decide)) (fun _ => ?_) (fun _ => ?_)
  · refine sj (j_iload_n hJ dX11_isTerm_7 rfl 0 rfl) ?_
    refine sj_callSip hJ [.int p0] (st := []) (fr' := 0) (lo' := 0) ml_X11_327 (by decide) (by decide) (Nat.le_of_ble_eq_true rfl) dX11_isTerm_8 rfl (fun _ h9 => ct_X11_isSlot h9) (fun v2 => ?_)
    refine sj_if (j_if_eq hJ (tgt := 18) dX11_isTerm_11 (by decide)) (fun _ => ?_) (fun _ => ?_)
    · refine sj (j_iconst hJ (v := 0) dX11_isTerm_18 ic_0) ?_
      exact sj_zret hI (by decide) dX11_isTerm_19 (fun h => h)
    · refine sj (j_iconst hJ (v := 1) dX11_isTerm_14 ic_1) ?_
      refine sj (j_goto hJ (tgt := 19) dX11_isTerm_15 (by decide)) ?_
      exact sj_zret hI (by decide) dX11_isTerm_19 (fun h => h)
  · refine sj (j_iconst hJ (v := 1) dX11_isTerm_14 ic_1) ?_
    refine sj (j_goto hJ (tgt := 19) dX11_isTerm_15 (by decide)) ?_
    exact sj_zret hI (by decide) dX11_isTerm_19 (fun h => h)
theorem ct_X11_isTerm {σ : St} {p0 : Int32} {δ : Dy} {r : Int32} (h : m_X11_isTerm σ p0 δ = some r) : CT yX11_isTerm cX11_isTerm 1 (some .boolean) 1 20 0 0 [.int p0] σ δ ((some (.int r)), σ, δ) := CT_of (by decide +kernel) (Nat.le_of_ble_eq_true rfl) (fun J hI => w_X11_isTerm hI σ p0 δ r h rfl)
def m_X11_note (σ : St) (p0 : Nat) (p1 : Int32) (p2 : Int32) (p3 : Int32) (p4 : Int32) (δ : Dy) : Option Dy :=
  (gI σ δ 11 p0 6).bind fun v1 =>
  if v1 < (512 : Int32) then
    (gI σ δ 11 p0 6).bind fun v2 =>
    (gR σ 11 p0 5).bind fun v3 =>
    (wI σ δ v3 ((4 : Int32) * v2) p1).bind fun d4 =>
    (gR σ 11 p0 5).bind fun v5 =>
    (wI σ d4 v5 (((4 : Int32) * v2) + (1 : Int32)) p2).bind fun d6 =>
    (gR σ 11 p0 5).bind fun v7 =>
    (wI σ d6 v7 (((4 : Int32) * v2) + (2 : Int32)) p3).bind fun d8 =>
    (gR σ 11 p0 5).bind fun v9 =>
    (wI σ d8 v9 (((4 : Int32) * v2) + (3 : Int32)) p4).bind fun d10 =>
    (gI σ d10 11 p0 6).bind fun v11 =>
    (pI σ d10 11 p0 6 (v11 + (1 : Int32))).bind fun d12 =>
    some d12
  else
    some δ
set_option maxHeartbeats 4000000 in
set_option maxRecDepth 100000 in
theorem w_X11_note {J : JT} {an : Option Value × St × Dy} (hI : Isj cX11_note 6 RX11 "note" 0 0 none an J) {β : Bu} (σ : St) (p0 : Nat) (p1 : Int32) (p2 : Int32) (p3 : Int32) (p4 : Int32) (δ : Dy) : SJ (m_X11_note σ p0 p1 p2 p3 p4 δ) (PV σ an) (J 0 [(0, .ref p0), (1, .int p1), (2, .int p2), (3, .int p3), (4, .int p4)] [] β σ δ) := by
  have hJ := hI.cor
  unfold m_X11_note
  refine sj (j_aload_n hJ dX11_note_0 rfl 0 rfl) ?_
  refine sj_gI hJ fl_X11_287 (Or.inl rfl) dX11_note_1 (fun v1 => ?_)
  refine sj (j_sipush hJ (v := 512) dX11_note_4 is_512) ?_
  refine sj_if (j_icmp_lt hJ (tgt := 11) dX11_note_7 (by decide)) (fun _ => ?_) (fun _ => ?_)
  · refine sj (j_iconst hJ (v := 4) dX11_note_11 ic_4) ?_
    refine sj (j_aload_n hJ dX11_note_12 rfl 0 rfl) ?_
    refine sj_gI hJ fl_X11_287 (Or.inl rfl) dX11_note_13 (fun v2 => ?_)
    refine sj (j_imul hJ dX11_note_16) ?_
    refine sj (j_istore hJ (L' := [(5, .int ((4 : Int32) * v2)), (0, .ref p0), (1, .int p1), (2, .int p2), (3, .int p3), (4, .int p4)]) dX11_note_17 (by decide) rfl) ?_
    refine sj (j_aload_n hJ dX11_note_19 rfl 1 rfl) ?_
    refine sj_gR hJ fl_X11_29 rfl dX11_note_20 (fun v3 => ?_)
    refine sj (j_iload hJ dX11_note_23 0 rfl) ?_
    refine sj (j_iload_n hJ dX11_note_25 rfl 2 rfl) ?_
    refine sj_wI hJ dX11_note_26 (fun d4 => ?_)
    refine sj (j_aload_n hJ dX11_note_27 rfl 1 rfl) ?_
    refine sj_gR hJ fl_X11_29 rfl dX11_note_28 (fun v5 => ?_)
    refine sj (j_iload hJ dX11_note_31 0 rfl) ?_
    refine sj (j_iconst hJ (v := 1) dX11_note_33 ic_1) ?_
    refine sj (j_iadd hJ dX11_note_34) ?_
    refine sj (j_iload_n hJ dX11_note_35 rfl 3 rfl) ?_
    refine sj_wI hJ dX11_note_36 (fun d6 => ?_)
    refine sj (j_aload_n hJ dX11_note_37 rfl 1 rfl) ?_
    refine sj_gR hJ fl_X11_29 rfl dX11_note_38 (fun v7 => ?_)
    refine sj (j_iload hJ dX11_note_41 0 rfl) ?_
    refine sj (j_iconst hJ (v := 2) dX11_note_43 ic_2) ?_
    refine sj (j_iadd hJ dX11_note_44) ?_
    refine sj (j_iload_n hJ dX11_note_45 rfl 4 rfl) ?_
    refine sj_wI hJ dX11_note_46 (fun d8 => ?_)
    refine sj (j_aload_n hJ dX11_note_47 rfl 1 rfl) ?_
    refine sj_gR hJ fl_X11_29 rfl dX11_note_48 (fun v9 => ?_)
    refine sj (j_iload hJ dX11_note_51 0 rfl) ?_
    refine sj (j_iconst hJ (v := 3) dX11_note_53 ic_3) ?_
    refine sj (j_iadd hJ dX11_note_54) ?_
    refine sj (j_iload hJ dX11_note_55 5 rfl) ?_
    refine sj_wI hJ dX11_note_57 (fun d10 => ?_)
    refine sj (j_aload_n hJ dX11_note_58 rfl 1 rfl) ?_
    refine sj (j_dup hJ dX11_note_59 rfl) ?_
    refine sj_gI hJ fl_X11_287 (Or.inl rfl) dX11_note_60 (fun v11 => ?_)
    refine sj (j_iconst hJ (v := 1) dX11_note_63 ic_1) ?_
    refine sj (j_iadd hJ dX11_note_64) ?_
    refine sj_pI hJ fl_X11_287 rfl dX11_note_65 (fun d12 => ?_)
    exact sj_vret hI dX11_note_68 (fun h => h)
  · exact sj_vret hI dX11_note_10 (fun h => h)
theorem ct_X11_note {σ : St} {p0 : Nat} {p1 : Int32} {p2 : Int32} {p3 : Int32} {p4 : Int32} {δ : Dy} {r : Dy} (h : m_X11_note σ p0 p1 p2 p3 p4 δ = some r) : CT yX11_note cX11_note 6 none 0 0 0 0 [.ref p0, .int p1, .int p2, .int p3, .int p4] σ δ (none, σ, r) := CT_of (by decide +kernel) (Nat.le_of_ble_eq_true rfl) (fun J hI => w_X11_note hI σ p0 p1 p2 p3 p4 δ r h rfl)
