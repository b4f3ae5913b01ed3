def m_X12_actTry_b137 (σ : St) (p0 : Nat) (p1 : Int32) (p2 : Int32) (p3 : Int32) (p4 : Int32) (δ : Dy) : Option Dy := lp (fun (s : (Int32 × Dy)) =>
  if (100 : Int32) ≤ s.1 then
    (gI σ s.2 12 p0 33).bind fun v19 =>
    (pI σ s.2 12 p0 33 (v19 + (1 : Int32))).bind fun d20 =>
    (gR σ 12 p0 24).bind fun v21 =>
    (gI σ d20 12 p0 33).bind fun v22 =>
    (wI σ d20 v21 v22 (0 : Int32)).bind fun d23 =>
    (gR σ 12 p0 26).bind fun v24 =>
    (gI σ d23 12 p0 33).bind fun v25 =>
    (wI σ d23 v24 v25 (0 : Int32)).bind fun d26 =>
    (gR σ 12 p0 28).bind fun v27 =>
    (gI σ d26 12 p0 33).bind fun v28 =>
    (wI σ d26 v27 v28 (0 : Int32)).bind fun d29 =>
    (gR σ 12 p0 30).bind fun v30 =>
    (gI σ d29 12 p0 33).bind fun v31 =>
    (wI σ d29 v30 v31 (0 : Int32)).bind fun d32 =>
    (gR σ 12 p0 31).bind fun v33 =>
    (gI σ d32 12 p0 33).bind fun v34 =>
    (wI σ d32 v33 v34 p1).bind fun d35 =>
    (gR σ 12 p0 3).bind fun v36 =>
    (rI σ d35 v36 p2).bind fun v37 =>
    (chk σ 12 p0).bind fun _ => (m_X12_another σ p0 p1 v37 d35).bind fun v38 =>
    (chk σ 12 p0).bind fun _ => (m_X12_enqueue σ p0 v38.1 v38.2).bind fun v39 =>
    some (Sum.inr v39)
  else
    (gR σ 12 p0 32).bind fun v40 =>
    (gR σ 12 p0 0).bind fun v41 =>
    (rI σ s.2 v41 ((422 : Int32) + s.1)).bind fun v42 =>
    (wI σ s.2 v40 ((p3 + (123 : Int32)) + s.1) v42).bind fun d43 =>
    some (Sum.inl ((s.1 + (1 : Int32)), d43))) (p4, δ)
def m_X12_actTry_b79 (σ : St) (p0 : Nat) (p1 : Int32) (p2 : Int32) (p3 : Int32) (p4 : Int32) (δ : Dy) : Option Dy := lp (fun (s : (Int32 × Dy)) =>
  if (60 : Int32) ≤ s.1 then
    (m_X12_actTry_b137 σ p0 p1 p2 p3 (0 : Int32) s.2).bind fun r => some (Sum.inr r)
  else
    (gR σ 12 p0 32).bind fun v44 =>
    (gR σ 12 p0 0).bind fun v45 =>
    (rI σ s.2 v45 ((1 : Int32) + s.1)).bind fun v46 =>
    (wI σ s.2 v44 ((p3 + (3 : Int32)) + s.1) v46).bind fun d47 =>
    (gR σ 12 p0 32).bind fun v48 =>
    (gR σ 12 p0 0).bind fun v49 =>
    (rI σ d47 v49 ((61 : Int32) + s.1)).bind fun v50 =>
    (wI σ d47 v48 ((p3 + (63 : Int32)) + s.1) v50).bind fun d51 =>
    some (Sum.inl ((s.1 + (1 : Int32)), d51))) (p4, δ)
def m_X12_actTry (σ : St) (p0 : Nat) (p1 : Int32) (p2 : Int32) (δ : Dy) : Option Dy :=
  (gI σ δ 12 p0 33).bind fun v1 =>
  if v1 = (3 : Int32) then
    (gR σ 12 p0 4).bind fun v2 =>
    (rI σ δ v2 p2).bind fun v3 =>
    (chk σ 12 p0).bind fun _ => (m_X12_another σ p0 p1 v3 δ).bind fun v4 =>
    (chk σ 12 p0).bind fun _ => (m_X12_enqueue σ p0 v4.1 v4.2).bind fun v5 =>
    some v5
  else
    (gI σ δ 12 p0 33).bind fun v6 =>
    (gR σ 12 p0 32).bind fun v7 =>
    (gR σ 12 p0 0).bind fun v8 =>
    (rI σ δ v8 (0 : Int32)).bind fun v9 =>
    (wI σ δ v7 ((225 : Int32) * v6) v9).bind fun d10 =>
    (gR σ 12 p0 32).bind fun v11 =>
    (gR σ 12 p0 0).bind fun v12 =>
    (rI σ d10 v12 (121 : Int32)).bind fun v13 =>
    (wI σ d10 v11 (((225 : Int32) * v6) + (1 : Int32)) v13).bind fun d14 =>
    (gR σ 12 p0 32).bind fun v15 =>
    (gR σ 12 p0 0).bind fun v16 =>
    (rI σ d14 v16 (1022 : Int32)).bind fun v17 =>
    (wI σ d14 v15 (((225 : Int32) * v6) + (2 : Int32)) v17).bind fun d18 =>
    m_X12_actTry_b79 σ p0 p1 p2 ((225 : Int32) * v6) (0 : Int32) d18
set_option maxHeartbeats 4000000 in
set_option maxRecDepth 100000 in
theorem w_X12_actTry_b137 {J : JT} {an : Option Value × St × Dy} (hI : Isj cX12_actTry 5 RX12 "actTry" 1 24 none an J) {β : Bu} (σ : St) (p0 : Nat) (p1 : Int32) (p2 : Int32) (p3 : Int32) (p4 : Int32) (δ : Dy) : SJ (m_X12_actTry_b137 σ p0 p1 p2 p3 p4 δ) (PV σ an) (J 137 [(0, .ref p0), (1, .int p1), (2, .int p2), (3, .int p3), (4, .int p4)] [] β σ δ) := by
  have hJ := hI.cor
  unfold m_X12_actTry_b137
  refine sj_lp (G := fun s : (Int32 × Dy) => J 137 [(0, .ref p0), (1, .int p1), (2, .int p2), (3, .int p3), (4, .int s.1)] [] β σ s.2) (fun s => ?_) (p4, δ)
  refine sj (j_iload hJ dX12_actTry_137 4 rfl) ?_
  refine sj (j_bipush hJ (v := 100) dX12_actTry_139 ib_100) ?_
  refine sj_if (j_icmp_ge hJ (tgt := 173) dX12_actTry_141 (by decide)) (fun _ => ?_) (fun _ => ?_)
  · refine sj (j_aload_n hJ dX12_actTry_173 rfl 0 rfl) ?_
    refine sj (j_dup hJ dX12_actTry_174 rfl) ?_
    refine sj_gI hJ fl_X12_255 (Or.inl rfl) dX12_actTry_175 (fun v19 => ?_)
    refine sj (j_iconst hJ (v := 1) dX12_actTry_178 ic_1) ?_
    refine sj (j_iadd hJ dX12_actTry_179) ?_
    refine sj_pI hJ fl_X12_255 rfl dX12_actTry_180 (fun d20 => ?_)
    refine sj (j_aload_n hJ dX12_actTry_183 rfl 0 rfl) ?_
    refine sj_gR hJ fl_X12_64 rfl dX12_actTry_184 (fun v21 => ?_)
    refine sj (j_aload_n hJ dX12_actTry_187 rfl 0 rfl) ?_
    refine sj_gI hJ fl_X12_255 (Or.inl rfl) dX12_actTry_188 (fun v22 => ?_)
    refine sj (j_iconst hJ (v := 0) dX12_actTry_191 ic_0) ?_
    refine sj_wI hJ dX12_actTry_192 (fun d23 => ?_)
    refine sj (j_aload_n hJ dX12_actTry_193 rfl 0 rfl) ?_
    refine sj_gR hJ fl_X12_70 rfl dX12_actTry_194 (fun v24 => ?_)
    refine sj (j_aload_n hJ dX12_actTry_197 rfl 0 rfl) ?_
    refine sj_gI hJ fl_X12_255 (Or.inl rfl) dX12_actTry_198 (fun v25 => ?_)
    refine sj (j_iconst hJ (v := 0) dX12_actTry_201 ic_0) ?_
    refine sj_wI hJ dX12_actTry_202 (fun d26 => ?_)
    refine sj (j_aload_n hJ dX12_actTry_203 rfl 0 rfl) ?_
    refine sj_gR hJ fl_X12_76 rfl dX12_actTry_204 (fun v27 => ?_)
    refine sj (j_aload_n hJ dX12_actTry_207 rfl 0 rfl) ?_
    refine sj_gI hJ fl_X12_255 (Or.inl rfl) dX12_actTry_208 (fun v28 => ?_)
    refine sj (j_iconst hJ (v := 0) dX12_actTry_211 ic_0) ?_
    refine sj_wI hJ dX12_actTry_212 (fun d29 => ?_)
    refine sj (j_aload_n hJ dX12_actTry_213 rfl 0 rfl) ?_
    refine sj_gR hJ fl_X12_82 rfl dX12_actTry_214 (fun v30 => ?_)
    refine sj (j_aload_n hJ dX12_actTry_217 rfl 0 rfl) ?_
    refine sj_gI hJ fl_X12_255 (Or.inl rfl) dX12_actTry_218 (fun v31 => ?_)
    refine sj (j_iconst hJ (v := 0) dX12_actTry_221 ic_0) ?_
    refine sj_wI hJ dX12_actTry_222 (fun d32 => ?_)
    refine sj (j_aload_n hJ dX12_actTry_223 rfl 0 rfl) ?_
    refine sj_gR hJ fl_X12_85 rfl dX12_actTry_224 (fun v33 => ?_)
    refine sj (j_aload_n hJ dX12_actTry_227 rfl 0 rfl) ?_
    refine sj_gI hJ fl_X12_255 (Or.inl rfl) dX12_actTry_228 (fun v34 => ?_)
    refine sj (j_iload_n hJ dX12_actTry_231 rfl 1 rfl) ?_
    refine sj_wI hJ dX12_actTry_232 (fun d35 => ?_)
    refine sj (j_aload_n hJ dX12_actTry_233 rfl 0 rfl) ?_
    refine sj (j_aload_n hJ dX12_actTry_234 rfl 0 rfl) ?_
    refine sj (j_iload_n hJ dX12_actTry_235 rfl 1 rfl) ?_
    refine sj (j_aload_n hJ dX12_actTry_236 rfl 0 rfl) ?_
    refine sj_gR hJ fl_X12_19 rfl dX12_actTry_237 (fun v36 => ?_)
    refine sj (j_iload_n hJ dX12_actTry_240 rfl 2 rfl) ?_
    refine sj_rI hJ dX12_actTry_241 (fun v37 => ?_)
    refine sj_callVi hJ [.int p1, .int v37] (st := [.ref p0]) (fr' := 0) (lo' := 0) ml_X12_261 hc_12 (by decide) (by decide) (Nat.le_of_ble_eq_true rfl) dX12_actTry_242 rfl (fun _ h9 => ct_X12_another h9) (fun v38 => ?_)
    refine sj_callVv hJ [.int v38.1] (st := []) (fr' := 0) (lo' := 0) ml_X12_264 hc_12 (by decide) (by decide) (Nat.le_of_ble_eq_true rfl) dX12_actTry_245 rfl (fun _ h9 => ct_X12_enqueue h9) (fun v39 => ?_)
    exact sj_vret hI dX12_actTry_248 (fun h => h)
  · refine sj (j_aload_n hJ dX12_actTry_144 rfl 0 rfl) ?_
    refine sj_gR hJ fl_X12_88 rfl dX12_actTry_145 (fun v40 => ?_)
    refine sj (j_iload_n hJ dX12_actTry_148 rfl 3 rfl) ?_
    refine sj (j_bipush hJ (v := 123) dX12_actTry_149 ib_123) ?_
    refine sj (j_iadd hJ dX12_actTry_151) ?_
    refine sj (j_iload hJ dX12_actTry_152 4 rfl) ?_
    refine sj (j_iadd hJ dX12_actTry_154) ?_
    refine sj (j_aload_n hJ dX12_actTry_155 rfl 0 rfl) ?_
    refine sj_gR hJ fl_X12_7 rfl dX12_actTry_156 (fun v41 => ?_)
    refine sj (j_sipush hJ (v := 422) dX12_actTry_159 is_422) ?_
    refine sj (j_iload hJ dX12_actTry_162 4 rfl) ?_
    refine sj (j_iadd hJ dX12_actTry_164) ?_
    refine sj_rI hJ dX12_actTry_165 (fun v42 => ?_)
    refine sj_wI hJ dX12_actTry_166 (fun d43 => ?_)
    refine sj (j_iinc hJ (L' := [(4, .int (s.1 + (1 : Int32))), (0, .ref p0), (1, .int p1), (2, .int p2), (3, .int p3)]) dX12_actTry_167 4 rfl (congrArg (fun z => s.1 + z) ic_1) (by decide) rfl) ?_
    refine sj (j_goto hJ (tgt := 137) dX12_actTry_170 (by decide)) ?_
    refine sj (j_sub hJ (L' := [(0, .ref p0), (1, .int p1), (2, .int p2), (3, .int p3), (4, .int (s.1 + (1 : Int32)))]) [1, 2, 3, 4, 0] rfl) ?_
    exact sj_end (fun h => h)
set_option maxHeartbeats 4000000 in
set_option maxRecDepth 100000 in
theorem w_X12_actTry_b79 {J : JT} {an : Option Value × St × Dy} (hI : Isj cX12_actTry 5 RX12 "actTry" 1 24 none an J) {β : Bu} (σ : St) (p0 : Nat) (p1 : Int32) (p2 : Int32) (p3 : Int32) (p4 : Int32) (δ : Dy) : SJ (m_X12_actTry_b79 σ p0 p1 p2 p3 p4 δ) (PV σ an) (J 79 [(0, .ref p0), (1, .int p1), (2, .int p2), (3, .int p3), (4, .int p4)] [] β σ δ) := by
  have hJ := hI.cor
  unfold m_X12_actTry_b79
  refine sj_lp (G := fun s : (Int32 × Dy) => J 79 [(0, .ref p0), (1, .int p1), (2, .int p2), (3, .int p3), (4, .int s.1)] [] β σ s.2) (fun s => ?_) (p4, δ)
  refine sj (j_iload hJ dX12_actTry_79 4 rfl) ?_
  refine sj (j_bipush hJ (v := 60) dX12_actTry_81 ib_60) ?_
  refine sj_if (j_icmp_ge hJ (tgt := 134) dX12_actTry_83 (by decide)) (fun _ => ?_) (fun _ => ?_)
  · refine sj (j_iconst hJ (v := 0) dX12_actTry_134 ic_0) ?_
    refine sj (j_istore hJ (L' := [(4, .int (0 : Int32)), (0, .ref p0), (1, .int p1), (2, .int p2), (3, .int p3)]) dX12_actTry_135 (by decide) rfl) ?_
    refine sj (j_sub hJ (L' := [(0, .ref p0), (1, .int p1), (2, .int p2), (3, .int p3), (4, .int (0 : Int32))]) [1, 2, 3, 4, 0] rfl) ?_
    refine sj_map ?_
    exact w_X12_actTry_b137 hI σ p0 p1 p2 p3 (0 : Int32) s.2
  · refine sj (j_aload_n hJ dX12_actTry_86 rfl 0 rfl) ?_
    refine sj_gR hJ fl_X12_88 rfl dX12_actTry_87 (fun v44 => ?_)
    refine sj (j_iload_n hJ dX12_actTry_90 rfl 3 rfl) ?_
    refine sj (j_iconst hJ (v := 3) dX12_actTry_91 ic_3) ?_
    refine sj (j_iadd hJ dX12_actTry_92) ?_
    refine sj (j_iload hJ dX12_actTry_93 4 rfl) ?_
    refine sj (j_iadd hJ dX12_actTry_95) ?_
    refine sj (j_aload_n hJ dX12_actTry_96 rfl 0 rfl) ?_
    refine sj_gR hJ fl_X12_7 rfl dX12_actTry_97 (fun v45 => ?_)
    refine sj (j_iconst hJ (v := 1) dX12_actTry_100 ic_1) ?_
    refine sj (j_iload hJ dX12_actTry_101 4 rfl) ?_
    refine sj (j_iadd hJ dX12_actTry_103) ?_
    refine sj_rI hJ dX12_actTry_104 (fun v46 => ?_)
    refine sj_wI hJ dX12_actTry_105 (fun d47 => ?_)
    refine sj (j_aload_n hJ dX12_actTry_106 rfl 0 rfl) ?_
    refine sj_gR hJ fl_X12_88 rfl dX12_actTry_107 (fun v48 => ?_)
    refine sj (j_iload_n hJ dX12_actTry_110 rfl 3 rfl) ?_
    refine sj (j_bipush hJ (v := 63) dX12_actTry_111 ib_63) ?_
    refine sj (j_iadd hJ dX12_actTry_113) ?_
    refine sj (j_iload hJ dX12_actTry_114 4 rfl) ?_
    refine sj (j_iadd hJ dX12_actTry_116) ?_
    refine sj (j_aload_n hJ dX12_actTry_117 rfl 0 rfl) ?_
    refine sj_gR hJ fl_X12_7 rfl dX12_actTry_118 (fun v49 => ?_)
    refine sj (j_bipush hJ (v := 61) dX12_actTry_121 ib_61) ?_
    refine sj (j_iload hJ dX12_actTry_123 4 rfl) ?_
    refine sj (j_iadd hJ dX12_actTry_125) ?_
    refine sj_rI hJ dX12_actTry_126 (fun v50 => ?_)
    refine sj_wI hJ dX12_actTry_127 (fun d51 => ?_)
    refine sj (j_iinc hJ (L' := [(4, .int (s.1 + (1 : Int32))), (0, .ref p0), (1, .int p1), (2, .int p2), (3, .int p3)]) dX12_actTry_128 4 rfl (congrArg (fun z => s.1 + z) ic_1) (by decide) rfl) ?_
    refine sj (j_goto hJ (tgt := 79) dX12_actTry_131 (by decide)) ?_
    refine sj (j_sub hJ (L' := [(0, .ref p0), (1, .int p1), (2, .int p2), (3, .int p3), (4, .int (s.1 + (1 : Int32)))]) [1, 2, 3, 4, 0] rfl) ?_
    exact sj_end (fun h => h)
set_option maxHeartbeats 4000000 in
set_option maxRecDepth 100000 in
theorem w_X12_actTry {J : JT} {an : Option Value × St × Dy} (hI : Isj cX12_actTry 5 RX12 "actTry" 1 24 none an J) {β : Bu} (σ : St) (p0 : Nat) (p1 : Int32) (p2 : Int32) (δ : Dy) : SJ (m_X12_actTry σ p0 p1 p2 δ) (PV σ an) (J 0 [(0, .ref p0), (1, .int p1), (2, .int p2)] [] β σ δ) := by
  have hJ := hI.cor
  unfold m_X12_actTry
  refine sj (j_aload_n hJ dX12_actTry_0 rfl 0 rfl) ?_
  refine sj_gI hJ fl_X12_255 (Or.inl rfl) dX12_actTry_1 (fun v1 => ?_)
  refine sj (j_iconst hJ (v := 3) dX12_actTry_4 ic_3) ?_
  refine sj_if (j_icmp_ne hJ (tgt := 24) dX12_actTry_5 (by decide)) (fun _ => ?_) (fun _ => ?_)
  · refine sj (j_aload_n hJ dX12_actTry_8 rfl 0 rfl) ?_
    refine sj (j_aload_n hJ dX12_actTry_9 rfl 0 rfl) ?_
    refine sj (j_iload_n hJ dX12_actTry_10 rfl 1 rfl) ?_
    refine sj (j_aload_n hJ dX12_actTry_11 rfl 0 rfl) ?_
    refine sj_gR hJ fl_X12_22 rfl dX12_actTry_12 (fun v2 => ?_)
    refine sj (j_iload_n hJ dX12_actTry_15 rfl 2 rfl) ?_
    refine sj_rI hJ dX12_actTry_16 (fun v3 => ?_)
    refine sj_callVi hJ [.int p1, .int v3] (st := [.ref p0]) (fr' := 0) (lo' := 0) ml_X12_261 hc_12 (by decide) (by decide) (Nat.le_of_ble_eq_true rfl) dX12_actTry_17 rfl (fun _ h9 => ct_X12_another h9) (fun v4 => ?_)
    refine sj_callVv hJ [.int v4.1] (st := []) (fr' := 0) (lo' := 0) ml_X12_264 hc_12 (by decide) (by decide) (Nat.le_of_ble_eq_true rfl) dX12_actTry_20 rfl (fun _ h9 => ct_X12_enqueue h9) (fun v5 => ?_)
    exact sj_vret hI dX12_actTry_23 (fun h => h)
  · refine sj (j_sipush hJ (v := 225) dX12_actTry_24 is_225) ?_
    refine sj (j_aload_n hJ dX12_actTry_27 rfl 0 rfl) ?_
    refine sj_gI hJ fl_X12_255 (Or.inl rfl) dX12_actTry_28 (fun v6 => ?_)
    refine sj (j_imul hJ dX12_actTry_31) ?_
    refine sj (j_istore_n hJ (L' := [(3, .int ((225 : Int32) * v6)), (0, .ref p0), (1, .int p1), (2, .int p2)]) dX12_actTry_32 rfl (by decide) rfl) ?_
    refine sj (j_aload_n hJ dX12_actTry_33 rfl 1 rfl) ?_
    refine sj_gR hJ fl_X12_88 rfl dX12_actTry_34 (fun v7 => ?_)
    refine sj (j_iload_n hJ dX12_actTry_37 rfl 0 rfl) ?_
    refine sj (j_aload_n hJ dX12_actTry_38 rfl 1 rfl) ?_
    refine sj_gR hJ fl_X12_7 rfl dX12_actTry_39 (fun v8 => ?_)
    refine sj (j_iconst hJ (v := 0) dX12_actTry_42 ic_0) ?_
    refine sj_rI hJ dX12_actTry_43 (fun v9 => ?_)
    refine sj_wI hJ dX12_actTry_44 (fun d10 => ?_)
    refine sj (j_aload_n hJ dX12_actTry_45 rfl 1 rfl) ?_
    refine sj_gR hJ fl_X12_88 rfl dX12_actTry_46 (fun v11 => ?_)
    refine sj (j_iload_n hJ dX12_actTry_49 rfl 0 rfl) ?_
    refine sj (j_iconst hJ (v := 1) dX12_actTry_50 ic_1) ?_
    refine sj (j_iadd hJ dX12_actTry_51) ?_
    refine sj (j_aload_n hJ dX12_actTry_52 rfl 1 rfl) ?_
    refine sj_gR hJ fl_X12_7 rfl dX12_actTry_53 (fun v12 => ?_)
    refine sj (j_bipush hJ (v := 121) dX12_actTry_56 ib_121) ?_
    refine sj_rI hJ dX12_actTry_58 (fun v13 => ?_)
    refine sj_wI hJ dX12_actTry_59 (fun d14 => ?_)
    refine sj (j_aload_n hJ dX12_actTry_60 rfl 1 rfl) ?_
    refine sj_gR hJ fl_X12_88 rfl dX12_actTry_61 (fun v15 => ?_)
    refine sj (j_iload_n hJ dX12_actTry_64 rfl 0 rfl) ?_
    refine sj (j_iconst hJ (v := 2) dX12_actTry_65 ic_2) ?_
    refine sj (j_iadd hJ dX12_actTry_66) ?_
    refine sj (j_aload_n hJ dX12_actTry_67 rfl 1 rfl) ?_
    refine sj_gR hJ fl_X12_7 rfl dX12_actTry_68 (fun v16 => ?_)
    refine sj (j_sipush hJ (v := 1022) dX12_actTry_71 is_1022) ?_
    refine sj_rI hJ dX12_actTry_74 (fun v17 => ?_)
    refine sj_wI hJ dX12_actTry_75 (fun d18 => ?_)
    refine sj (j_iconst hJ (v := 0) dX12_actTry_76 ic_0) ?_
    refine sj (j_istore hJ (L' := [(4, .int (0 : Int32)), (3, .int ((225 : Int32) * v6)), (0, .ref p0), (1, .int p1), (2, .int p2)]) dX12_actTry_77 (by decide) rfl) ?_
    refine sj (j_sub hJ (L' := [(0, .ref p0), (1, .int p1), (2, .int p2), (3, .int ((225 : Int32) * v6)), (4, .int (0 : Int32))]) [2, 3, 4, 1, 0] rfl) ?_
    exact w_X12_actTry_b79 hI σ p0 p1 p2 ((225 : Int32) * v6) (0 : Int32) d18
theorem ct_X12_actTry {σ : St} {p0 : Nat} {p1 : Int32} {p2 : Int32} {δ : Dy} {r : Dy} (h : m_X12_actTry σ p0 p1 p2 δ = some r) : CT yX12_actTry cX12_actTry 5 none 1 24 0 0 [.ref p0, .int p1, .int p2] σ δ (none, σ, r) := CT_of (by decide +kernel) (Nat.le_of_ble_eq_true rfl) (fun J hI => w_X12_actTry hI σ p0 p1 p2 δ r h rfl)
def m_X12_forget_b166 (σ : St) (p0 : Nat) (p1 : Int32) (p2 : Int32) (p3 : Int32) (q0 : Nat) (q1 : Int32) (q2 : Int32) (δ : Dy) : Option ((Int32 × Dy) ⊕ Dy) :=
  (wI σ δ q0 q1 q2).bind fun d21 =>
  some (Sum.inl ((p3 + (1 : Int32)), d21))
def m_X12_forget_b124 (σ : St) (p0 : Nat) (p1 : Int32) (p2 : Int32) (p3 : Int32) (δ : Dy) : Option Dy := lp (fun (s : (Int32 × Dy)) =>
  if (100 : Int32) ≤ s.1 then
    (gR σ 12 p0 0).bind fun v8 =>
    (gR σ 12 p0 32).bind fun v9 =>
    (rI σ s.2 v9 (p2 + (2 : Int32))).bind fun v10 =>
    (wI σ s.2 v8 (1022 : Int32) v10).bind fun d11 =>
    (gR σ 12 p0 4).bind fun v12 =>
    (gR σ 12 p0 21).bind fun v13 =>
    (rI σ d11 v13 ((9 : Int32) * p1)).bind fun v14 =>
    (rI σ d11 v12 v14).bind fun v15 =>
    (chk σ 12 p0).bind fun _ => (m_X12_another σ p0 p1 v15 d11).bind fun v16 =>
    (chk σ 12 p0).bind fun _ => (m_X12_enqueue σ p0 v16.1 v16.2).bind fun v17 =>
    some (Sum.inr v17)
  else
    (gR σ 12 p0 0).bind fun v18 =>
    (gR σ 12 p0 32).bind fun v19 =>
    (rI σ s.2 v19 (p2 + (1 : Int32))).bind fun v20 =>
    if v20 ≤ s.1 then
      m_X12_forget_b166 σ p0 p1 p2 s.1 v18 ((422 : Int32) + s.1) (0 : Int32) s.2
    else
      (gR σ 12 p0 32).bind fun v22 =>
      (rI σ s.2 v22 ((p2 + (123 : Int32)) + s.1)).bind fun v23 =>
      m_X12_forget_b166 σ p0 p1 p2 s.1 v18 ((422 : Int32) + s.1) v23 s.2) (p3, δ)
def m_X12_forget_b115 (σ : St) (p0 : Nat) (p1 : Int32) (p2 : Int32) (p3 : Int32) (q0 : Nat) (q1 : Int32) (q2 : Int32) (δ : Dy) : Option ((Int32 × Dy) ⊕ Dy) :=
  (wI σ δ q0 q1 q2).bind fun d29 =>
  some (Sum.inl ((p3 + (1 : Int32)), d29))
def m_X12_forget_b85 (σ : St) (p0 : Nat) (p1 : Int32) (p2 : Int32) (p3 : Int32) (p4 : Int32) (q0 : Nat) (q1 : Int32) (q2 : Int32) (δ : Dy) : Option ((Int32 × Dy) ⊕ Dy) :=
  (wI σ δ q0 q1 q2).bind fun d27 =>
  (gR σ 12 p0 0).bind fun v28 =>
  if p4 = 0 then
    m_X12_forget_b115 σ p0 p1 p2 p3 v28 ((61 : Int32) + p3) (100 : Int32) d27
  else
    (gR σ 12 p0 32).bind fun v30 =>
    (rI σ d27 v30 ((p2 + (63 : Int32)) + p3)).bind fun v31 =>
    m_X12_forget_b115 σ p0 p1 p2 p3 v28 ((61 : Int32) + p3) v31 d27
def m_X12_forget_b57 (σ : St) (p0 : Nat) (p1 : Int32) (p2 : Int32) (p3 : Int32) (q0 : Int32) (δ : Dy) : Option ((Int32 × Dy) ⊕ Dy) :=
  (gR σ 12 p0 0).bind fun v26 =>
  if q0 = 0 then
    m_X12_forget_b85 σ p0 p1 p2 p3 q0 v26 ((1 : Int32) + p3) p3 δ
  else
    (gR σ 12 p0 32).bind fun v32 =>
    (rI σ δ v32 ((p2 + (3 : Int32)) + p3)).bind fun v33 =>
    m_X12_forget_b85 σ p0 p1 p2 p3 q0 v26 ((1 : Int32) + p3) v33 δ
def m_X12_forget_b36 (σ : St) (p0 : Nat) (p1 : Int32) (p2 : Int32) (p3 : Int32) (δ : Dy) : Option Dy := lp (fun (s : (Int32 × Dy)) =>
  if (60 : Int32) ≤ s.1 then
    (m_X12_forget_b124 σ p0 p1 p2 (0 : Int32) s.2).bind fun r => some (Sum.inr r)
  else
    (gR σ 12 p0 32).bind fun v24 =>
    (rI σ s.2 v24 p2).bind fun v25 =>
    if v25 ≤ s.1 then
      m_X12_forget_b57 σ p0 p1 p2 s.1 (0 : Int32) s.2
    else
      m_X12_forget_b57 σ p0 p1 p2 s.1 (1 : Int32) s.2) (p3, δ)
def m_X12_forget (σ : St) (p0 : Nat) (δ : Dy) : Option Dy :=
  (gR σ 12 p0 31).bind fun v1 =>
  (gI σ δ 12 p0 33).bind fun v2 =>
  (rI σ δ v1 v2).bind fun v3 =>
  (gI σ δ 12 p0 33).bind fun v4 =>
  (pI σ δ 12 p0 33 (v4 - (1 : Int32))).bind fun d5 =>
  (pZ σ d5 12 p0 35 (0 : Int32)).bind fun d6 =>
  (gI σ d6 12 p0 33).bind fun v7 =>
  m_X12_forget_b36 σ p0 v3 ((225 : Int32) * v7) (0 : Int32) d6
set_option maxHeartbeats 4000000 in
set_option maxRecDepth 100000 in
theorem w_X12_forget_b166 {J : JT} {an : Option Value × St × Dy} (hI : Isj cX12_forget 5 RX12 "forget" 1 24 none an J) {β : Bu} (σ : St) (p0 : Nat) (p1 : Int32) (p2 : Int32) (p3 : Int32) (q0 : Nat) (q1 : Int32) (q2 : Int32) (δ : Dy) : SJ (m_X12_forget_b166 σ p0 p1 p2 p3 q0 q1 q2 δ) (PL (fun s : (Int32 × Dy) => J 124 [(0, .ref p0), (1, .int p1), (2, .int p2), (3, .int s.1)] [] β σ s.2) (PV σ an)) (J 166 [(0, .ref p0), (1, .int p1), (2, .int p2), (3, .int p3)] [.int q2, .int q1, .ref q0] β σ δ) := by
  have hJ := hI.cor
  unfold m_X12_forget_b166
  refine sj_wI hJ dX12_forget_166 (fun d21 => ?_)
  refine sj (j_iinc hJ (L' := [(3, .int (p3 + (1 : Int32))), (0, .ref p0), (1, .int p1), (2, .int p2)]) dX12_forget_167 3 rfl (congrArg (fun z => p3 + z) ic_1) (by decide) rfl) ?_
  refine sj (j_goto hJ (tgt := 124) dX12_forget_170 (by decide)) ?_
  refine sj (j_sub hJ (L' := [(0, .ref p0), (1, .int p1), (2, .int p2), (3, .int (p3 + (1 : Int32)))]) [1, 2, 3, 0] rfl) ?_
  exact sj_end (fun h => h)
set_option maxHeartbeats 4000000 in
set_option maxRecDepth 100000 in
theorem w_X12_forget_b124 {J : JT} {an : Option Value × St × Dy} (hI : Isj cX12_forget 5 RX12 "forget" 1 24 none an J) {β : Bu} (σ : St) (p0 : Nat) (p1 : Int32) (p2 : Int32) (p3 : Int32) (δ : Dy) : SJ (m_X12_forget_b124 σ p0 p1 p2 p3 δ) (PV σ an) (J 124 [(0, .ref p0), (1, .int p1), (2, .int p2), (3, .int p3)] [] β σ δ) := by
  have hJ := hI.cor
  unfold m_X12_forget_b124
  refine sj_lp (G := fun s : (Int32 × Dy) => J 124 [(0, .ref p0), (1, .int p1), (2, .int p2), (3, .int s.1)] [] β σ s.2) (fun s => ?_) (p3, δ)
  refine sj (j_iload_n hJ dX12_forget_124 rfl 3 rfl) ?_
  refine sj (j_bipush hJ (v := 100) dX12_forget_125 ib_100) ?_
  refine sj_if (j_icmp_ge hJ (tgt := 173) dX12_forget_127 (by decide)) (fun _ => ?_) (fun _ => ?_)
  · refine sj (j_aload_n hJ dX12_forget_173 rfl 0 rfl) ?_
    refine sj_gR hJ fl_X12_7 rfl dX12_forget_174 (fun v8 => ?_)
    refine sj (j_sipush hJ (v := 1022) dX12_forget_177 is_1022) ?_
    refine sj (j_aload_n hJ dX12_forget_180 rfl 0 rfl) ?_
    refine sj_gR hJ fl_X12_88 rfl dX12_forget_181 (fun v9 => ?_)
    refine sj (j_iload_n hJ dX12_forget_184 rfl 2 rfl) ?_
    refine sj (j_iconst hJ (v := 2) dX12_forget_185 ic_2) ?_
    refine sj (j_iadd hJ dX12_forget_186) ?_
    refine sj_rI hJ dX12_forget_187 (fun v10 => ?_)
    refine sj_wI hJ dX12_forget_188 (fun d11 => ?_)
    refine sj (j_aload_n hJ dX12_forget_189 rfl 0 rfl) ?_
    refine sj (j_aload_n hJ dX12_forget_190 rfl 0 rfl) ?_
    refine sj (j_iload_n hJ dX12_forget_191 rfl 1 rfl) ?_
    refine sj (j_aload_n hJ dX12_forget_192 rfl 0 rfl) ?_
    refine sj_gR hJ fl_X12_22 rfl dX12_forget_193 (fun v12 => ?_)
    refine sj (j_aload_n hJ dX12_forget_196 rfl 0 rfl) ?_
    refine sj_gR hJ fl_X12_58 rfl dX12_forget_197 (fun v13 => ?_)
    refine sj (j_bipush hJ (v := 9) dX12_forget_200 ib_9) ?_
    refine sj (j_iload_n hJ dX12_forget_202 rfl 1 rfl) ?_
    refine sj (j_imul hJ dX12_forget_203) ?_
    refine sj_rI hJ dX12_forget_204 (fun v14 => ?_)
    refine sj_rI hJ dX12_forget_205 (fun v15 => ?_)
    refine sj_callVi hJ [.int p1, .int v15] (st := [.ref p0]) (fr' := 0) (lo' := 0) ml_X12_261 hc_12 (by decide) (by decide) (Nat.le_of_ble_eq_true rfl) dX12_forget_206 rfl (fun _ h9 => ct_X12_another h9) (fun v16 => ?_)
    refine sj_callVv hJ [.int v16.1] (st := []) (fr' := 0) (lo' := 0) ml_X12_264 hc_12 (by decide) (by decide) (Nat.le_of_ble_eq_true rfl) dX12_forget_209 rfl (fun _ h9 => ct_X12_enqueue h9) (fun v17 => ?_)
    exact sj_vret hI dX12_forget_212 (fun h => h)
  · refine sj (j_aload_n hJ dX12_forget_130 rfl 0 rfl) ?_
    refine sj_gR hJ fl_X12_7 rfl dX12_forget_131 (fun v18 => ?_)
    refine sj (j_sipush hJ (v := 422) dX12_forget_134 is_422) ?_
    refine sj (j_iload_n hJ dX12_forget_137 rfl 3 rfl) ?_
    refine sj (j_iadd hJ dX12_forget_138) ?_
    refine sj (j_iload_n hJ dX12_forget_139 rfl 3 rfl) ?_
    refine sj (j_aload_n hJ dX12_forget_140 rfl 0 rfl) ?_
    refine sj_gR hJ fl_X12_88 rfl dX12_forget_141 (fun v19 => ?_)
    refine sj (j_iload_n hJ dX12_forget_144 rfl 2 rfl) ?_
    refine sj (j_iconst hJ (v := 1) dX12_forget_145 ic_1) ?_
    refine sj (j_iadd hJ dX12_forget_146) ?_
    refine sj_rI hJ dX12_forget_147 (fun v20 => ?_)
    refine sj_if (j_icmp_ge hJ (tgt := 165) dX12_forget_148 (by decide)) (fun _ => ?_) (fun _ => ?_)
    · refine sj (j_iconst hJ (v := 0) dX12_forget_165 ic_0) ?_
      exact w_X12_forget_b166 hI σ p0 p1 p2 s.1 v18 ((422 : Int32) + s.1) (0 : Int32) s.2
    · refine sj (j_aload_n hJ dX12_forget_151 rfl 0 rfl) ?_
      refine sj_gR hJ fl_X12_88 rfl dX12_forget_152 (fun v22 => ?_)
      refine sj (j_iload_n hJ dX12_forget_155 rfl 2 rfl) ?_
      refine sj (j_bipush hJ (v := 123) dX12_forget_156 ib_123) ?_
      refine sj (j_iadd hJ dX12_forget_158) ?_
      refine sj (j_iload_n hJ dX12_forget_159 rfl 3 rfl) ?_
      refine sj (j_iadd hJ dX12_forget_160) ?_
      refine sj_rI hJ dX12_forget_161 (fun v23 => ?_)
      refine sj (j_goto hJ (tgt := 166) dX12_forget_162 (by decide)) ?_
      exact w_X12_forget_b166 hI σ p0 p1 p2 s.1 v18 ((422 : Int32) + s.1) v23 s.2
set_option maxHeartbeats 4000000 in
set_option maxRecDepth 100000 in
theorem w_X12_forget_b115 {J : JT} {an : Option Value × St × Dy} (hI : Isj cX12_forget 5 RX12 "forget" 1 24 none an J) {β : Bu} (σ : St) (p0 : Nat) (p1 : Int32) (p2 : Int32) (p3 : Int32) (q0 : Nat) (q1 : Int32) (q2 : Int32) (δ : Dy) : SJ (m_X12_forget_b115 σ p0 p1 p2 p3 q0 q1 q2 δ) (PL (fun s : (Int32 × Dy) => J 36 [(0, .ref p0), (1, .int p1), (2, .int p2), (3, .int s.1)] [] β σ s.2) (PV σ an)) (J 115 [(0, .ref p0), (1, .int p1), (2, .int p2), (3, .int p3)] [.int q2, .int q1, .ref q0] β σ δ) := by
  have hJ := hI.cor
  unfold m_X12_forget_b115
  refine sj_wI hJ dX12_forget_115 (fun d29 => ?_)
  refine sj (j_iinc hJ (L' := [(3, .int (p3 + (1 : Int32))), (0, .ref p0), (1, .int p1), (2, .int p2)]) dX12_forget_116 3 rfl (congrArg (fun z => p3 + z) ic_1) (by decide) rfl) ?_
  refine sj (j_goto hJ (tgt := 36) dX12_forget_119 (by decide)) ?_
  refine sj (j_sub hJ (L' := [(0, .ref p0), (1, .int p1), (2, .int p2), (3, .int (p3 + (1 : Int32)))]) [1, 2, 3, 0] rfl) ?_
  exact sj_end (fun h => h)
set_option maxHeartbeats 4000000 in
set_option maxRecDepth 100000 in
theorem w_X12_forget_b85 {J : JT} {an : Option Value × St × Dy} (hI : Isj cX12_forget 5 RX12 "forget" 1 24 none an J) {β : Bu} (σ : St) (p0 : Nat) (p1 : Int32) (p2 : Int32) (p3 : Int32) (p4 : Int32) (q0 : Nat) (q1 : Int32) (q2 : Int32) (δ : Dy) : SJ (m_X12_forget_b85 σ p0 p1 p2 p3 p4 q0 q1 q2 δ) (PL (fun s : (Int32 × Dy) => J 36 [(0, .ref p0), (1, .int p1), (2, .int p2), (3, .int s.1)] [] β σ s.2) (PV σ an)) (J 85 [(0, .ref p0), (1, .int p1), (2, .int p2), (3, .int p3), (4, .int p4)] [.int q2, .int q1, .ref q0] β σ δ) := by
  have hJ := hI.cor
  unfold m_X12_forget_b85
  refine sj_wI hJ dX12_forget_85 (fun d27 => ?_)
  refine sj (j_aload_n hJ dX12_forget_86 rfl 0 rfl) ?_
  refine sj_gR hJ fl_X12_7 rfl dX12_forget_87 (fun v28 => ?_)
  refine sj (j_bipush hJ (v := 61) dX12_forget_90 ib_61) ?_
  refine sj (j_iload_n hJ dX12_forget_92 rfl 3 rfl) ?_
  refine sj (j_iadd hJ dX12_forget_93) ?_
  refine sj (j_iload hJ dX12_forget_94 4 rfl) ?_
  refine sj_if (j_if_eq hJ (tgt := 113) dX12_forget_96 (by decide)) (fun _ => ?_) (fun _ => ?_)
  · refine sj (j_bipush hJ (v := 100) dX12_forget_113 ib_100) ?_
    refine sj (j_sub hJ (L' := [(0, .ref p0), (1, .int p1), (2, .int p2), (3, .int p3)]) [0, 1, 2, 3] rfl) ?_
    exact w_X12_forget_b115 hI σ p0 p1 p2 p3 v28 ((61 : Int32) + p3) (100 : Int32) d27
  · refine sj (j_aload_n hJ dX12_forget_99 rfl 0 rfl) ?_
    refine sj_gR hJ fl_X12_88 rfl dX12_forget_100 (fun v30 => ?_)
    refine sj (j_iload_n hJ dX12_forget_103 rfl 2 rfl) ?_
    refine sj (j_bipush hJ (v := 63) dX12_forget_104 ib_63) ?_
    refine sj (j_iadd hJ dX12_forget_106) ?_
    refine sj (j_iload_n hJ dX12_forget_107 rfl 3 rfl) ?_
    refine sj (j_iadd hJ dX12_forget_108) ?_
    refine sj_rI hJ dX12_forget_109 (fun v31 => ?_)
    refine sj (j_goto hJ (tgt := 115) dX12_forget_110 (by decide)) ?_
    refine sj (j_sub hJ (L' := [(0, .ref p0), (1, .int p1), (2, .int p2), (3, .int p3)]) [0, 1, 2, 3] rfl) ?_
    exact w_X12_forget_b115 hI σ p0 p1 p2 p3 v28 ((61 : Int32) + p3) v31 d27
set_option maxHeartbeats 4000000 in
set_option maxRecDepth 100000 in
theorem w_X12_forget_b57 {J : JT} {an : Option Value × St × Dy} (hI : Isj cX12_forget 5 RX12 "forget" 1 24 none an J) {β : Bu} (σ : St) (p0 : Nat) (p1 : Int32) (p2 : Int32) (p3 : Int32) (q0 : Int32) (δ : Dy) : SJ (m_X12_forget_b57 σ p0 p1 p2 p3 q0 δ) (PL (fun s : (Int32 × Dy) => J 36 [(0, .ref p0), (1, .int p1), (2, .int p2), (3, .int s.1)] [] β σ s.2) (PV σ an)) (J 57 [(0, .ref p0), (1, .int p1), (2, .int p2), (3, .int p3)] [.int q0] β σ δ) := by
  have hJ := hI.cor
  unfold m_X12_forget_b57
  refine sj (j_istore hJ (L' := [(4, .int q0), (0, .ref p0), (1, .int p1), (2, .int p2), (3, .int p3)]) dX12_forget_57 (by decide) rfl) ?_
  refine sj (j_aload_n hJ dX12_forget_59 rfl 1 rfl) ?_
  refine sj_gR hJ fl_X12_7 rfl dX12_forget_60 (fun v26 => ?_)
  refine sj (j_iconst hJ (v := 1) dX12_forget_63 ic_1) ?_
  refine sj (j_iload_n hJ dX12_forget_64 rfl 4 rfl) ?_
  refine sj (j_iadd hJ dX12_forget_65) ?_
  refine sj (j_iload hJ dX12_forget_66 0 rfl) ?_
  refine sj_if (j_if_eq hJ (tgt := 84) dX12_forget_68 (by decide)) (fun _ => ?_) (fun _ => ?_)
  · refine sj (j_iload_n hJ dX12_forget_84 rfl 4 rfl) ?_
    refine sj (j_sub hJ (L' := [(0, .ref p0), (1, .int p1), (2, .int p2), (3, .int p3), (4, .int q0)]) [1, 2, 3, 4, 0] rfl) ?_
    exact w_X12_forget_b85 hI σ p0 p1 p2 p3 q0 v26 ((1 : Int32) + p3) p3 δ
  · refine sj (j_aload_n hJ dX12_forget_71 rfl 1 rfl) ?_
    refine sj_gR hJ fl_X12_88 rfl dX12_forget_72 (fun v32 => ?_)
    refine sj (j_iload_n hJ dX12_forget_75 rfl 3 rfl) ?_
    refine sj (j_iconst hJ (v := 3) dX12_forget_76 ic_3) ?_
    refine sj (j_iadd hJ dX12_forget_77) ?_
    refine sj (j_iload_n hJ dX12_forget_78 rfl 4 rfl) ?_
    refine sj (j_iadd hJ dX12_forget_79) ?_
    refine sj_rI hJ dX12_forget_80 (fun v33 => ?_)
    refine sj (j_goto hJ (tgt := 85) dX12_forget_81 (by decide)) ?_
    refine sj (j_sub hJ (L' := [(0, .ref p0), (1, .int p1), (2, .int p2), (3, .int p3), (4, .int q0)]) [1, 2, 3, 4, 0] rfl) ?_
    exact w_X12_forget_b85 hI σ p0 p1 p2 p3 q0 v26 ((1 : Int32) + p3) v33 δ
set_option maxHeartbeats 4000000 in
set_option maxRecDepth 100000 in
theorem w_X12_forget_b36 {J : JT} {an : Option Value × St × Dy} (hI : Isj cX12_forget 5 RX12 "forget" 1 24 none an J) {β : Bu} (σ : St) (p0 : Nat) (p1 : Int32) (p2 : Int32) (p3 : Int32) (δ : Dy) : SJ (m_X12_forget_b36 σ p0 p1 p2 p3 δ) (PV σ an) (J 36 [(0, .ref p0), (1, .int p1), (2, .int p2), (3, .int p3)] [] β σ δ) := by
  have hJ := hI.cor
  unfold m_X12_forget_b36
  refine sj_lp (G := fun s : (Int32 × Dy) => J 36 [(0, .ref p0), (1, .int p1), (2, .int p2), (3, .int s.1)] [] β σ s.2) (fun s => ?_) (p3, δ)
  refine sj (j_iload_n hJ dX12_forget_36 rfl 3 rfl) ?_
  refine sj (j_bipush hJ (v := 60) dX12_forget_37 ib_60) ?_
  refine sj_if (j_icmp_ge hJ (tgt := 122) dX12_forget_39 (by decide)) (fun _ => ?_) (fun _ => ?_)
  · refine sj (j_iconst hJ (v := 0) dX12_forget_122 ic_0) ?_
    refine sj (j_istore_n hJ (L' := [(3, .int (0 : Int32)), (0, .ref p0), (1, .int p1), (2, .int p2)]) dX12_forget_123 rfl (by decide) rfl) ?_
    refine sj (j_sub hJ (L' := [(0, .ref p0), (1, .int p1), (2, .int p2), (3, .int (0 : Int32))]) [1, 2, 3, 0] rfl) ?_
    refine sj_map ?_
    exact w_X12_forget_b124 hI σ p0 p1 p2 (0 : Int32) s.2
  · refine sj (j_iload_n hJ dX12_forget_42 rfl 3 rfl) ?_
    refine sj (j_aload_n hJ dX12_forget_43 rfl 0 rfl) ?_
    refine sj_gR hJ fl_X12_88 rfl dX12_forget_44 (fun v24 => ?_)
    refine sj (j_iload_n hJ dX12_forget_47 rfl 2 rfl) ?_
    refine sj_rI hJ dX12_forget_48 (fun v25 => ?_)
    refine sj_if (j_icmp_ge hJ (tgt := 56) dX12_forget_49 (by decide)) (fun _ => ?_) (fun _ => ?_)
    · refine sj (j_iconst hJ (v := 0) dX12_forget_56 ic_0) ?_
      exact w_X12_forget_b57 hI σ p0 p1 p2 s.1 (0 : Int32) s.2
    · refine sj (j_iconst hJ (v := 1) dX12_forget_52 ic_1) ?_
      refine sj (j_goto hJ (tgt := 57) dX12_forget_53 (by decide)) ?_
      exact w_X12_forget_b57 hI σ p0 p1 p2 s.1 (1 : Int32) s.2
set_option maxHeartbeats 4000000 in
set_option maxRecDepth 100000 in
theorem w_X12_forget {J : JT} {an : Option Value × St × Dy} (hI : Isj cX12_forget 5 RX12 "forget" 1 24 none an J) {β : Bu} (σ : St) (p0 : Nat) (δ : Dy) : SJ (m_X12_forget σ p0 δ) (PV σ an) (J 0 [(0, .ref p0)] [] β σ δ) := by
  have hJ := hI.cor
  unfold m_X12_forget
  refine sj (j_aload_n hJ dX12_forget_0 rfl 0 rfl) ?_
  refine sj_gR hJ fl_X12_85 rfl dX12_forget_1 (fun v1 => ?_)
  refine sj (j_aload_n hJ dX12_forget_4 rfl 0 rfl) ?_
  refine sj_gI hJ fl_X12_255 (Or.inl rfl) dX12_forget_5 (fun v2 => ?_)
  refine sj_rI hJ dX12_forget_8 (fun v3 => ?_)
  refine sj (j_istore_n hJ (L' := [(1, .int v3), (0, .ref p0)]) dX12_forget_9 rfl (by decide) rfl) ?_
  refine sj (j_aload_n hJ dX12_forget_10 rfl 1 rfl) ?_
  refine sj (j_dup hJ dX12_forget_11 rfl) ?_
  refine sj_gI hJ fl_X12_255 (Or.inl rfl) dX12_forget_12 (fun v4 => ?_)
  refine sj (j_iconst hJ (v := 1) dX12_forget_15 ic_1) ?_
  refine sj (j_isub hJ dX12_forget_16) ?_
  refine sj_pI hJ fl_X12_255 rfl dX12_forget_17 (fun d5 => ?_)
  refine sj (j_aload_n hJ dX12_forget_20 rfl 1 rfl) ?_
  refine sj (j_iconst hJ (v := 0) dX12_forget_21 ic_0) ?_
  refine sj_pZ hJ fl_X12_133 rfl dX12_forget_22 (fun d6 => ?_)
  refine sj (j_sipush hJ (v := 225) dX12_forget_25 is_225) ?_
  refine sj (j_aload_n hJ dX12_forget_28 rfl 1 rfl) ?_
  refine sj_gI hJ fl_X12_255 (Or.inl rfl) dX12_forget_29 (fun v7 => ?_)
  refine sj (j_imul hJ dX12_forget_32) ?_
  refine sj (j_istore_n hJ (L' := [(2, .int ((225 : Int32) * v7)), (1, .int v3), (0, .ref p0)]) dX12_forget_33 rfl (by decide) rfl) ?_
  refine sj (j_iconst hJ (v := 0) dX12_forget_34 ic_0) ?_
  refine sj (j_istore_n hJ (L' := [(3, .int (0 : Int32)), (2, .int ((225 : Int32) * v7)), (1, .int v3), (0, .ref p0)]) dX12_forget_35 rfl (by decide) rfl) ?_
  refine sj (j_sub hJ (L' := [(0, .ref p0), (1, .int v3), (2, .int ((225 : Int32) * v7)), (3, .int (0 : Int32))]) [3, 2, 1, 0] rfl) ?_
  exact w_X12_forget_b36 hI σ p0 v3 ((225 : Int32) * v7) (0 : Int32) d6
theorem ct_X12_forget {σ : St} {p0 : Nat} {δ : Dy} {r : Dy} (h : m_X12_forget σ p0 δ = some r) : CT yX12_forget cX12_forget 5 none 1 24 0 0 [.ref p0] σ δ (none, σ, r) := CT_of (by decide +kernel) (Nat.le_of_ble_eq_true rfl) (fun J hI => w_X12_forget hI σ p0 δ r h rfl)
def m_X12_act_b164 (σ : St) (p0 : Nat) (q0 : Nat) (q1 : Int32) (q2 : Int32) (q3 : Int32) (q4 : Int32) (δ : Dy) : Option Dy :=
  (chk σ 12 q0).bind fun _ => (m_X12_tellToken σ q0 q1 q2 q3 q4 δ).bind fun v27 =>
  (chk σ 12 p0).bind fun _ => (m_X12_settle σ p0 v27).bind fun v28 =>
  some v28
def m_X12_act_b87 (σ : St) (p0 : Nat) (p1 : Int32) (p2 : Int32) (p4 : Int32) (δ : Dy) : Option Dy := lp (fun (s : (Int32 × Dy)) =>
  if (4 : Int32) ≤ s.1 then
    (gR σ 12 p0 3).bind fun v17 =>
    (rI σ s.2 v17 p2).bind fun v18 =>
    (gR σ 12 p0 4).bind fun v19 =>
    (rI σ s.2 v19 p2).bind fun v20 =>
    (chk σ 12 p0).bind fun _ => (m_X12_look σ p0 p1 v20 s.2).bind fun v21 =>
    (gR σ 12 p0 5).bind fun v22 =>
    (rI σ s.2 v22 p2).bind fun v23 =>
    (chk σ 12 p0).bind fun _ => (m_X12_look σ p0 p1 v23 s.2).bind fun v24 =>
    (gR σ 12 p0 6).bind fun v25 =>
    (rI σ s.2 v25 p2).bind fun v26 =>
    if v26 = (1 : Int32) then
      (m_X12_act_b164 σ p0 p0 v18 v21 v24 (1 : Int32) s.2).bind fun r => some (Sum.inr r)
    else
      (m_X12_act_b164 σ p0 p0 v18 v21 v24 (0 : Int32) s.2).bind fun r => some (Sum.inr r)
  else
    (gR σ 12 p0 39).bind fun v29 =>
    (gR σ 12 p0 21).bind fun v30 =>
    (rI σ s.2 v30 ((((9 : Int32) * p1) + (5 : Int32)) + s.1)).bind fun v31 =>
    (wI σ s.2 v29 s.1 v31).bind fun d32 =>
    some (Sum.inl ((s.1 + (1 : Int32)), d32))) (p4, δ)
def m_X12_act (σ : St) (p0 : Nat) (p1 : Int32) (δ : Dy) : Option Dy :=
  (gI σ δ 12 p0 34).bind fun v1 =>
  if v1 = (60 : Int32) then
    (pZ σ δ 12 p0 35 (1 : Int32)).bind fun d2 =>
    some d2
  else
    (gI σ δ 12 p0 34).bind fun v3 =>
    (pI σ δ 12 p0 34 (v3 + (1 : Int32))).bind fun d4 =>
    (gR σ 12 p0 21).bind fun v5 =>
    (rI σ d4 v5 ((9 : Int32) * p1)).bind fun v6 =>
    (gR σ 12 p0 2).bind fun v7 =>
    (rI σ d4 v7 v6).bind fun v8 =>
    if v8 = 0 then
      (gR σ 12 p0 3).bind fun v9 =>
      (rI σ d4 v9 v6).bind fun v10 =>
      (chk σ 12 p0).bind fun _ => (m_X12_look σ p0 p1 v10 d4).bind fun v11 =>
      (gR σ 12 p0 4).bind fun v12 =>
      (rI σ d4 v12 v6).bind fun v13 =>
      (chk σ 12 p0).bind fun _ => (m_X12_look σ p0 p1 v13 d4).bind fun v14 =>
      (chk σ 12 p0).bind fun _ => (m_X12_tellEqual σ p0 v11 v14 d4).bind fun v15 =>
      (chk σ 12 p0).bind fun _ => (m_X12_settle σ p0 v15).bind fun v16 =>
      some v16
    else
      if v8 = (1 : Int32) then
        m_X12_act_b87 σ p0 p1 v6 (0 : Int32) d4
      else
        if v8 = (2 : Int32) then
          (gR σ 12 p0 3).bind fun v33 =>
          (rI σ d4 v33 v6).bind fun v34 =>
          (chk σ 12 p0).bind fun _ => (m_X12_another σ p0 p1 v34 d4).bind fun v35 =>
          (chk σ 12 p0).bind fun _ => (m_X12_enqueue σ p0 v35.1 v35.2).bind fun v36 =>
          (gR σ 12 p0 4).bind fun v37 =>
          (rI σ v36 v37 v6).bind fun v38 =>
          (chk σ 12 p0).bind fun _ => (m_X12_another σ p0 p1 v38 v36).bind fun v39 =>
          (chk σ 12 p0).bind fun _ => (m_X12_enqueue σ p0 v39.1 v39.2).bind fun v40 =>
          some v40
        else
          if v8 = (3 : Int32) then
            (chk σ 12 p0).bind fun _ => (m_X12_holds σ p0 p1 v6 d4).bind fun v41 =>
            if v41 = 0 then
              (chk σ 12 p0).bind fun _ => (m_X12_waitFor σ p0 p1 d4).bind fun v42 =>
              some v42
            else
              (chk σ 12 p0).bind fun _ => (m_X12_goOn σ p0 p1 v6 d4).bind fun v43 =>
              some v43
          else
            if v8 = (4 : Int32) then
              (chk σ 12 p0).bind fun _ => (m_X12_actEither σ p0 p1 v6 d4).bind fun v44 =>
              some v44
            else
              if v8 = (5 : Int32) then
                (chk σ 12 p0).bind fun _ => (m_X12_makeVariable σ p0 d4).bind fun v45 =>
                (gI σ v45.2 12 p0 35).bind fun v46 =>
                if v46 = 0 then
                  (gR σ 12 p0 4).bind fun v47 =>
                  (rI σ v45.2 v47 v6).bind fun v48 =>
                  (chk σ 12 p0).bind fun _ => (m_X12_another σ p0 p1 v48 v45.2).bind fun v49 =>
                  (gR σ 12 p0 21).bind fun v50 =>
                  (gR σ 12 p0 3).bind fun v51 =>
                  (rI σ v49.2 v51 v6).bind fun v52 =>
                  (wI σ v49.2 v50 ((((9 : Int32) * v49.1) + (1 : Int32)) + v52) ((400 : Int32) + v45.1)).bind fun d53 =>
                  (chk σ 12 p0).bind fun _ => (m_X12_enqueue σ p0 v49.1 d53).bind fun v54 =>
                  some v54
                else
                  some v45.2
              else
                if v8 = (6 : Int32) then
                  (gR σ 12 p0 8).bind fun v55 =>
                  (gR σ 12 p0 3).bind fun v56 =>
                  (rI σ d4 v56 v6).bind fun v57 =>
                  (rI σ d4 v55 v57).bind fun v58 =>
                  if v58 = (-1 : Int32) then
                    some d4
                  else
                    (gR σ 12 p0 8).bind fun v59 =>
                    (gR σ 12 p0 3).bind fun v60 =>
                    (rI σ d4 v60 v6).bind fun v61 =>
                    (rI σ d4 v59 v61).bind fun v62 =>
                    (chk σ 12 p0).bind fun _ => (m_X12_another σ p0 p1 v62 d4).bind fun v63 =>
                    (gR σ 12 p0 21).bind fun v64 =>
                    (gR σ 12 p0 4).bind fun v65 =>
                    (rI σ v63.2 v65 v6).bind fun v66 =>
                    (chk σ 12 p0).bind fun _ => (m_X12_look σ p0 p1 v66 v63.2).bind fun v67 =>
                    (wI σ v63.2 v64 (((9 : Int32) * v63.1) + (1 : Int32)) v67).bind fun d68 =>
                    (gR σ 12 p0 21).bind fun v69 =>
                    (gR σ 12 p0 5).bind fun v70 =>
                    (rI σ d68 v70 v6).bind fun v71 =>
                    (chk σ 12 p0).bind fun _ => (m_X12_look σ p0 p1 v71 d68).bind fun v72 =>
                    (wI σ d68 v69 (((9 : Int32) * v63.1) + (2 : Int32)) v72).bind fun d73 =>
                    (gR σ 12 p0 21).bind fun v74 =>
                    (wI σ d73 v74 (((9 : Int32) * v63.1) + (3 : Int32)) (0 : Int32)).bind fun d75 =>
                    (gR σ 12 p0 21).bind fun v76 =>
                    (wI σ d75 v76 (((9 : Int32) * v63.1) + (4 : Int32)) (0 : Int32)).bind fun d77 =>
                    (chk σ 12 p0).bind fun _ => (m_X12_enqueue σ p0 v63.1 d77).bind fun v78 =>
                    some v78
                else
                  if v8 = (7 : Int32) then
                    (gR σ 12 p0 3).bind fun v79 =>
                    (rI σ d4 v79 v6).bind fun v80 =>
                    (chk σ 12 p0).bind fun _ => (m_X12_another σ p0 p1 v80 d4).bind fun v81 =>
                    (chk σ 12 p0).bind fun _ => (m_X12_forNext σ p0 v81.1 v81.2).bind fun v82 =>
                    some v82
                  else
                    if v8 = (8 : Int32) then
                      (gR σ 12 p0 3).bind fun v83 =>
                      (rI σ d4 v83 v6).bind fun v84 =>
                      (chk σ 12 p0).bind fun _ => (m_X12_another σ p0 p1 v84 d4).bind fun v85 =>
                      (chk σ 12 p0).bind fun _ => (m_X12_enqueue σ p0 v85.1 v85.2).bind fun v86 =>
                      (chk σ 12 p0).bind fun _ => (m_X12_forNext σ p0 p1 v86).bind fun v87 =>
                      some v87
                    else
                      if (11 : Int32) ≤ v8 then
                        if v8 = (11 : Int32) then
                          (chk σ 12 p0).bind fun _ => (m_X12_actLot σ p0 p1 v6 d4).bind fun v88 =>
                          some v88
                        else
                          (chk σ 12 p0).bind fun _ => (m_X12_actTry σ p0 p1 v6 d4).bind fun v89 =>
                          some v89
                      else
                        (chk σ 12 p0).bind fun _ => (m_X12_waitFor σ p0 p1 d4).bind fun v90 =>
                        some v90
set_option maxHeartbeats 4000000 in
set_option maxRecDepth 100000 in
theorem w_X12_act_b164 {J : JT} {an : Option Value × St × Dy} (hI : Isj cX12_act 6 RX12 "act" 7 169 none an J) {β : Bu} (σ : St) (p0 : Nat) (q0 : Nat) (q1 : Int32) (q2 : Int32) (q3 : Int32) (q4 : Int32) (δ : Dy) : SJ (m_X12_act_b164 σ p0 q0 q1 q2 q3 q4 δ) (PV σ an) (J 164 [(0, .ref p0)] [.int q4, .int q3, .int q2, .int q1, .ref q0] β σ δ) := by
  have hJ := hI.cor
  unfold m_X12_act_b164
  refine sj_callVv hJ [.int q1, .int q2, .int q3, .int q4] (st := []) (fr' := 2) (lo' := 43) ml_X12_201 hc_12 (by decide) (by decide) (Nat.le_of_ble_eq_true rfl) dX12_act_164 rfl (fun _ h9 => ct_X12_tellToken h9) (fun v27 => ?_)
  refine sj (j_aload_n hJ dX12_act_167 rfl 0 rfl) ?_
  refine sj_callVv hJ [] (st := []) (fr' := 6) (lo' := 148) ml_X12_291 hc_12 (by decide) (by decide) (Nat.le_of_ble_eq_true rfl) dX12_act_168 rfl (fun _ h9 => ct_X12_settle h9) (fun v28 => ?_)
  refine sj (j_goto hJ (tgt := 530) dX12_act_171 (by decide)) ?_
  exact sj_vret hI dX12_act_530 (fun h => h)
set_option maxHeartbeats 4000000 in
set_option maxRecDepth 100000 in
theorem w_X12_act_b87 {J : JT} {an : Option Value × St × Dy} (hI : Isj cX12_act 6 RX12 "act" 7 169 none an J) {β : Bu} (σ : St) (p0 : Nat) (p1 : Int32) (p2 : Int32) (p4 : Int32) (δ : Dy) : SJ (m_X12_act_b87 σ p0 p1 p2 p4 δ) (PV σ an) (J 87 [(0, .ref p0), (1, .int p1), (2, .int p2), (4, .int p4)] [] β σ δ) := by
  have hJ := hI.cor
  unfold m_X12_act_b87
  refine sj_lp (G := fun s : (Int32 × Dy) => J 87 [(0, .ref p0), (1, .int p1), (2, .int p2), (4, .int s.1)] [] β σ s.2) (fun s => ?_) (p4, δ)
  refine sj (j_iload hJ dX12_act_87 3 rfl) ?_
  refine sj (j_iconst hJ (v := 4) dX12_act_89 ic_4) ?_
  refine sj_if (j_icmp_ge hJ (tgt := 120) dX12_act_90 (by decide)) (fun _ => ?_) (fun _ => ?_)
  · refine sj (j_aload_n hJ dX12_act_120 rfl 0 rfl) ?_
    refine sj (j_aload_n hJ dX12_act_121 rfl 0 rfl) ?_
    refine sj_gR hJ fl_X12_19 rfl dX12_act_122 (fun v17 => ?_)
    refine sj (j_iload_n hJ dX12_act_125 rfl 2 rfl) ?_
    refine sj_rI hJ dX12_act_126 (fun v18 => ?_)
    refine sj (j_aload_n hJ dX12_act_127 rfl 0 rfl) ?_
    refine sj (j_iload_n hJ dX12_act_128 rfl 1 rfl) ?_
    refine sj (j_aload_n hJ dX12_act_129 rfl 0 rfl) ?_
    refine sj_gR hJ fl_X12_22 rfl dX12_act_130 (fun v19 => ?_)
    refine sj (j_iload_n hJ dX12_act_133 rfl 2 rfl) ?_
    refine sj_rI hJ dX12_act_134 (fun v20 => ?_)
    refine sj_callVip hJ [.int p1, .int v20] (st := [.int v18, .ref p0]) (fr' := 1) (lo' := 22) ml_X12_258 hc_12 (by decide) (by decide) (Nat.le_of_ble_eq_true rfl) dX12_act_135 rfl (fun _ h9 => ct_X12_look h9) (fun v21 => ?_)
    refine sj (j_aload_n hJ dX12_act_138 rfl 0 rfl) ?_
    refine sj (j_iload_n hJ dX12_act_139 rfl 1 rfl) ?_
    refine sj (j_aload_n hJ dX12_act_140 rfl 0 rfl) ?_
    refine sj_gR hJ fl_X12_25 rfl dX12_act_141 (fun v22 => ?_)
    refine sj (j_iload_n hJ dX12_act_144 rfl 2 rfl) ?_
    refine sj_rI hJ dX12_act_145 (fun v23 => ?_)
    refine sj_callVip hJ [.int p1, .int v23] (st := [.int v21, .int v18, .ref p0]) (fr' := 1) (lo' := 22) ml_X12_258 hc_12 (by decide) (by decide) (Nat.le_of_ble_eq_true rfl) dX12_act_146 rfl (fun _ h9 => ct_X12_look h9) (fun v24 => ?_)
    refine sj (j_aload_n hJ dX12_act_149 rfl 0 rfl) ?_
    refine sj_gR hJ fl_X12_28 rfl dX12_act_150 (fun v25 => ?_)
    refine sj (j_iload_n hJ dX12_act_153 rfl 2 rfl) ?_
    refine sj_rI hJ dX12_act_154 (fun v26 => ?_)
    refine sj (j_iconst hJ (v := 1) dX12_act_155 ic_1) ?_
    refine sj_if (j_icmp_ne hJ (tgt := 163) dX12_act_156 (by decide)) (fun _ => ?_) (fun _ => ?_)
    · refine sj (j_iconst hJ (v := 1) dX12_act_159 ic_1) ?_
      refine sj (j_goto hJ (tgt := 164) dX12_act_160 (by decide)) ?_
      refine sj (j_sub hJ (L' := [(0, .ref p0)]) [0] rfl) ?_
      refine sj_map ?_
      exact w_X12_act_b164 hI σ p0 p0 v18 v21 v24 (1 : Int32) s.2
    · refine sj (j_iconst hJ (v := 0) dX12_act_163 ic_0) ?_
      refine sj (j_sub hJ (L' := [(0, .ref p0)]) [0] rfl) ?_
      refine sj_map ?_
      exact w_X12_act_b164 hI σ p0 p0 v18 v21 v24 (0 : Int32) s.2
  · refine sj (j_aload_n hJ dX12_act_93 rfl 0 rfl) ?_
    refine sj_gR hJ fl_X12_97 rfl dX12_act_94 (fun v29 => ?_)
    refine sj (j_iload hJ dX12_act_97 3 rfl) ?_
    refine sj (j_aload_n hJ dX12_act_99 rfl 0 rfl) ?_
    refine sj_gR hJ fl_X12_58 rfl dX12_act_100 (fun v30 => ?_)
    refine sj (j_bipush hJ (v := 9) dX12_act_103 ib_9) ?_
    refine sj (j_iload_n hJ dX12_act_105 rfl 1 rfl) ?_
    refine sj (j_imul hJ dX12_act_106) ?_
    refine sj (j_iconst hJ (v := 5) dX12_act_107 ic_5) ?_
    refine sj (j_iadd hJ dX12_act_108) ?_
    refine sj (j_iload hJ dX12_act_109 3 rfl) ?_
    refine sj (j_iadd hJ dX12_act_111) ?_
    refine sj_rI hJ dX12_act_112 (fun v31 => ?_)
    refine sj_wI hJ dX12_act_113 (fun d32 => ?_)
    refine sj (j_iinc hJ (L' := [(4, .int (s.1 + (1 : Int32))), (0, .ref p0), (1, .int p1), (2, .int p2)]) dX12_act_114 3 rfl (congrArg (fun z => s.1 + z) ic_1) (by decide) rfl) ?_
    refine sj (j_goto hJ (tgt := 87) dX12_act_117 (by decide)) ?_
    refine sj (j_sub hJ (L' := [(0, .ref p0), (1, .int p1), (2, .int p2), (4, .int (s.1 + (1 : Int32)))]) [1, 2, 3, 0] rfl) ?_
    exact sj_end (fun h => h)
set_option maxHeartbeats 4000000 in
set_option maxRecDepth 100000 in
theorem w_X12_act {J : JT} {an : Option Value × St × Dy} (hI : Isj cX12_act 6 RX12 "act" 7 169 none an J) {β : Bu} (σ : St) (p0 : Nat) (p1 : Int32) (δ : Dy) : SJ (m_X12_act σ p0 p1 δ) (PV σ an) (J 0 [(0, .ref p0), (1, .int p1)] [] β σ δ) := by
  have hJ := hI.cor
  unfold m_X12_act
  refine sj (j_aload_n hJ dX12_act_0 rfl 0 rfl) ?_
  refine sj_gI hJ fl_X12_181 (Or.inl rfl) dX12_act_1 (fun v1 => ?_)
  refine sj (j_bipush hJ (v := 60) dX12_act_4 ib_60) ?_
  refine sj_if (j_icmp_ne hJ (tgt := 15) dX12_act_6 (by decide)) (fun _ => ?_) (fun _ => ?_)
  · refine sj (j_aload_n hJ dX12_act_9 rfl 0 rfl) ?_
    refine sj (j_iconst hJ (v := 1) dX12_act_10 ic_1) ?_
    refine sj_pZ hJ fl_X12_133 rfl dX12_act_11 (fun d2 => ?_)
    exact sj_vret hI dX12_act_14 (fun h => h)
  · refine sj (j_aload_n hJ dX12_act_15 rfl 0 rfl) ?_
    refine sj (j_dup hJ dX12_act_16 rfl) ?_
    refine sj_gI hJ fl_X12_181 (Or.inl rfl) dX12_act_17 (fun v3 => ?_)
    refine sj (j_iconst hJ (v := 1) dX12_act_20 ic_1) ?_
    refine sj (j_iadd hJ dX12_act_21) ?_
    refine sj_pI hJ fl_X12_181 rfl dX12_act_22 (fun d4 => ?_)
    refine sj (j_aload_n hJ dX12_act_25 rfl 0 rfl) ?_
    refine sj_gR hJ fl_X12_58 rfl dX12_act_26 (fun v5 => ?_)
    refine sj (j_bipush hJ (v := 9) dX12_act_29 ib_9) ?_
    refine sj (j_iload_n hJ dX12_act_31 rfl 1 rfl) ?_
    refine sj (j_imul hJ dX12_act_32) ?_
    refine sj_rI hJ dX12_act_33 (fun v6 => ?_)
    refine sj (j_istore_n hJ (L' := [(2, .int v6), (0, .ref p0), (1, .int p1)]) dX12_act_34 rfl (by decide) rfl) ?_
    refine sj (j_aload_n hJ dX12_act_35 rfl 1 rfl) ?_
    refine sj_gR hJ fl_X12_16 rfl dX12_act_36 (fun v7 => ?_)
    refine sj (j_iload_n hJ dX12_act_39 rfl 0 rfl) ?_
    refine sj_rI hJ dX12_act_40 (fun v8 => ?_)
    refine sj (j_istore_n hJ (L' := [(3, .int v8), (2, .int v6), (0, .ref p0), (1, .int p1)]) dX12_act_41 rfl (by decide) rfl) ?_
    refine sj (j_iload_n hJ dX12_act_42 rfl 0 rfl) ?_
    refine sj_if (j_if_ne hJ (tgt := 79) dX12_act_43 (by decide)) (fun _ => ?_) (fun _ => ?_)
    · refine sj (j_aload_n hJ dX12_act_46 rfl 2 rfl) ?_
      refine sj (j_aload_n hJ dX12_act_47 rfl 2 rfl) ?_
      refine sj (j_iload_n hJ dX12_act_48 rfl 3 rfl) ?_
      refine sj (j_aload_n hJ dX12_act_49 rfl 2 rfl) ?_
      refine sj_gR hJ fl_X12_19 rfl dX12_act_50 (fun v9 => ?_)
      refine sj (j_iload_n hJ dX12_act_53 rfl 1 rfl) ?_
      refine sj_rI hJ dX12_act_54 (fun v10 => ?_)
      refine sj_callVip hJ [.int p1, .int v10] (st := [.ref p0]) (fr' := 1) (lo' := 22) ml_X12_258 hc_12 (by decide) (by decide) (Nat.le_of_ble_eq_true rfl) dX12_act_55 rfl (fun _ h9 => ct_X12_look h9) (fun v11 => ?_)
      refine sj (j_aload_n hJ dX12_act_58 rfl 2 rfl) ?_
      refine sj (j_iload_n hJ dX12_act_59 rfl 3 rfl) ?_
      refine sj (j_aload_n hJ dX12_act_60 rfl 2 rfl) ?_
      refine sj_gR hJ fl_X12_22 rfl dX12_act_61 (fun v12 => ?_)
      refine sj (j_iload_n hJ dX12_act_64 rfl 1 rfl) ?_
      refine sj_rI hJ dX12_act_65 (fun v13 => ?_)
      refine sj_callVip hJ [.int p1, .int v13] (st := [.int v11, .ref p0]) (fr' := 1) (lo' := 22) ml_X12_258 hc_12 (by decide) (by decide) (Nat.le_of_ble_eq_true rfl) dX12_act_66 rfl (fun _ h9 => ct_X12_look h9) (fun v14 => ?_)
      refine sj_callVv hJ [.int v11, .int v14] (st := []) (fr' := 2) (lo' := 48) ml_X12_197 hc_12 (by decide) (by decide) (Nat.le_of_ble_eq_true rfl) dX12_act_69 rfl (fun _ h9 => ct_X12_tellEqual h9) (fun v15 => ?_)
      refine sj (j_aload_n hJ dX12_act_72 rfl 2 rfl) ?_
      refine sj_callVv hJ [] (st := []) (fr' := 6) (lo' := 148) ml_X12_291 hc_12 (by decide) (by decide) (Nat.le_of_ble_eq_true rfl) dX12_act_73 rfl (fun _ h9 => ct_X12_settle h9) (fun v16 => ?_)
      refine sj (j_goto hJ (tgt := 530) dX12_act_76 (by decide)) ?_
      exact sj_vret hI dX12_act_530 (fun h => h)
    · refine sj (j_iload_n hJ dX12_act_79 rfl 0 rfl) ?_
      refine sj (j_iconst hJ (v := 1) dX12_act_80 ic_1) ?_
      refine sj_if (j_icmp_ne hJ (tgt := 174) dX12_act_81 (by decide)) (fun _ => ?_) (fun _ => ?_)
      · refine sj (j_iconst hJ (v := 0) dX12_act_84 ic_0) ?_
        refine sj (j_istore hJ (L' := [(4, .int (0 : Int32)), (3, .int v8), (2, .int v6), (0, .ref p0), (1, .int p1)]) dX12_act_85 (by decide) rfl) ?_
        refine sj (j_sub hJ (L' := [(0, .ref p0), (1, .int p1), (2, .int v6), (4, .int (0 : Int32))]) [3, 4, 2, 0] rfl) ?_
        exact w_X12_act_b87 hI σ p0 p1 v6 (0 : Int32) d4
      · refine sj (j_iload_n hJ dX12_act_174 rfl 0 rfl) ?_
        refine sj (j_iconst hJ (v := 2) dX12_act_175 ic_2) ?_
        refine sj_if (j_icmp_ne hJ (tgt := 212) dX12_act_176 (by decide)) (fun _ => ?_) (fun _ => ?_)
        · refine sj (j_aload_n hJ dX12_act_179 rfl 2 rfl) ?_
          refine sj (j_aload_n hJ dX12_act_180 rfl 2 rfl) ?_
          refine sj (j_iload_n hJ dX12_act_181 rfl 3 rfl) ?_
          refine sj (j_aload_n hJ dX12_act_182 rfl 2 rfl) ?_
          refine sj_gR hJ fl_X12_19 rfl dX12_act_183 (fun v33 => ?_)
          refine sj (j_iload_n hJ dX12_act_186 rfl 1 rfl) ?_
          refine sj_rI hJ dX12_act_187 (fun v34 => ?_)
          refine sj_callVi hJ [.int p1, .int v34] (st := [.ref p0]) (fr' := 0) (lo' := 0) ml_X12_261 hc_12 (by decide) (by decide) (Nat.le_of_ble_eq_true rfl) dX12_act_188 rfl (fun _ h9 => ct_X12_another h9) (fun v35 => ?_)
          refine sj_callVv hJ [.int v35.1] (st := []) (fr' := 0) (lo' := 0) ml_X12_264 hc_12 (by decide) (by decide) (Nat.le_of_ble_eq_true rfl) dX12_act_191 rfl (fun _ h9 => ct_X12_enqueue h9) (fun v36 => ?_)
          refine sj (j_aload_n hJ dX12_act_194 rfl 2 rfl) ?_
          refine sj (j_aload_n hJ dX12_act_195 rfl 2 rfl) ?_
          refine sj (j_iload_n hJ dX12_act_196 rfl 3 rfl) ?_
          refine sj (j_aload_n hJ dX12_act_197 rfl 2 rfl) ?_
          refine sj_gR hJ fl_X12_22 rfl dX12_act_198 (fun v37 => ?_)
          refine sj (j_iload_n hJ dX12_act_201 rfl 1 rfl) ?_
          refine sj_rI hJ dX12_act_202 (fun v38 => ?_)
          refine sj_callVi hJ [.int p1, .int v38] (st := [.ref p0]) (fr' := 0) (lo' := 0) ml_X12_261 hc_12 (by decide) (by decide) (Nat.le_of_ble_eq_true rfl) dX12_act_203 rfl (fun _ h9 => ct_X12_another h9) (fun v39 => ?_)
          refine sj_callVv hJ [.int v39.1] (st := []) (fr' := 0) (lo' := 0) ml_X12_264 hc_12 (by decide) (by decide) (Nat.le_of_ble_eq_true rfl) dX12_act_206 rfl (fun _ h9 => ct_X12_enqueue h9) (fun v40 => ?_)
          refine sj (j_goto hJ (tgt := 530) dX12_act_209 (by decide)) ?_
          exact sj_vret hI dX12_act_530 (fun h => h)
        · refine sj (j_iload_n hJ dX12_act_212 rfl 0 rfl) ?_
          refine sj (j_iconst hJ (v := 3) dX12_act_213 ic_3) ?_
          refine sj_if (j_icmp_ne hJ (tgt := 243) dX12_act_214 (by decide)) (fun _ => ?_) (fun _ => ?_)
          · refine sj (j_aload_n hJ dX12_act_217 rfl 2 rfl) ?_
            refine sj (j_iload_n hJ dX12_act_218 rfl 3 rfl) ?_
            refine sj (j_iload_n hJ dX12_act_219 rfl 1 rfl) ?_
            refine sj_callVip hJ [.int p1, .int v6] (st := []) (fr' := 4) (lo' := 94) ml_X12_267 hc_12 (by decide) (by decide) (Nat.le_of_ble_eq_true rfl) dX12_act_220 rfl (fun _ h9 => ct_X12_holds h9) (fun v41 => ?_)
            refine sj_if (j_if_eq hJ (tgt := 235) dX12_act_223 (by decide)) (fun _ => ?_) (fun _ => ?_)
            · refine sj (j_aload_n hJ dX12_act_235 rfl 2 rfl) ?_
              refine sj (j_iload_n hJ dX12_act_236 rfl 3 rfl) ?_
              refine sj_callVv hJ [.int p1] (st := []) (fr' := 0) (lo' := 0) ml_X12_273 hc_12 (by decide) (by decide) (Nat.le_of_ble_eq_true rfl) dX12_act_237 rfl (fun _ h9 => ct_X12_waitFor h9) (fun v42 => ?_)
              refine sj (j_goto hJ (tgt := 530) dX12_act_240 (by decide)) ?_
              exact sj_vret hI dX12_act_530 (fun h => h)
            · refine sj (j_aload_n hJ dX12_act_226 rfl 2 rfl) ?_
              refine sj (j_iload_n hJ dX12_act_227 rfl 3 rfl) ?_
              refine sj (j_iload_n hJ dX12_act_228 rfl 1 rfl) ?_
              refine sj_callVv hJ [.int p1, .int v6] (st := []) (fr' := 3) (lo' := 68) ml_X12_276 hc_12 (by decide) (by decide) (Nat.le_of_ble_eq_true rfl) dX12_act_229 rfl (fun _ h9 => ct_X12_goOn h9) (fun v43 => ?_)
              refine sj (j_goto hJ (tgt := 530) dX12_act_232 (by decide)) ?_
              exact sj_vret hI dX12_act_530 (fun h => h)
          · refine sj (j_iload_n hJ dX12_act_243 rfl 0 rfl) ?_
            refine sj (j_iconst hJ (v := 4) dX12_act_244 ic_4) ?_
            refine sj_if (j_icmp_ne hJ (tgt := 257) dX12_act_245 (by decide)) (fun _ => ?_) (fun _ => ?_)
            · refine sj (j_aload_n hJ dX12_act_248 rfl 2 rfl) ?_
              refine sj (j_iload_n hJ dX12_act_249 rfl 3 rfl) ?_
              refine sj (j_iload_n hJ dX12_act_250 rfl 1 rfl) ?_
              refine sj_callVv hJ [.int p1, .int v6] (st := []) (fr' := 6) (lo' := 141) ml_X12_294 hc_12 (by decide) (by decide) (Nat.le_of_ble_eq_true rfl) dX12_act_251 rfl (fun _ h9 => ct_X12_actEither h9) (fun v44 => ?_)
              refine sj (j_goto hJ (tgt := 530) dX12_act_254 (by decide)) ?_
              exact sj_vret hI dX12_act_530 (fun h => h)
            · refine sj (j_iload_n hJ dX12_act_257 rfl 0 rfl) ?_
              refine sj (j_iconst hJ (v := 5) dX12_act_258 ic_5) ?_
              refine sj_if (j_icmp_ne hJ (tgt := 322) dX12_act_259 (by decide)) (fun _ => ?_) (fun _ => ?_)
              · refine sj (j_aload_n hJ dX12_act_262 rfl 2 rfl) ?_
                refine sj_callVi hJ [] (st := []) (fr' := 0) (lo' := 0) ml_X12_141 hc_12 (by decide) (by decide) (Nat.le_of_ble_eq_true rfl) dX12_act_263 rfl (fun _ h9 => ct_X12_makeVariable h9) (fun v45 => ?_)
                refine sj (j_istore hJ (L' := [(4, .int v45.1), (3, .int v8), (2, .int v6), (0, .ref p0), (1, .int p1)]) dX12_act_266 (by decide) rfl) ?_
                refine sj (j_aload_n hJ dX12_act_268 rfl 3 rfl) ?_
                refine sj_gI hJ fl_X12_133 (Or.inr rfl) dX12_act_269 (fun v46 => ?_)
                refine sj_if (j_if_ne hJ (tgt := 319) dX12_act_272 (by decide)) (fun _ => ?_) (fun _ => ?_)
                · refine sj (j_aload_n hJ dX12_act_275 rfl 3 rfl) ?_
                  refine sj (j_iload_n hJ dX12_act_276 rfl 4 rfl) ?_
                  refine sj (j_aload_n hJ dX12_act_277 rfl 3 rfl) ?_
                  refine sj_gR hJ fl_X12_22 rfl dX12_act_278 (fun v47 => ?_)
                  refine sj (j_iload_n hJ dX12_act_281 rfl 2 rfl) ?_
                  refine sj_rI hJ dX12_act_282 (fun v48 => ?_)
                  refine sj_callVi hJ [.int p1, .int v48] (st := []) (fr' := 0) (lo' := 0) ml_X12_261 hc_12 (by decide) (by decide) (Nat.le_of_ble_eq_true rfl) dX12_act_283 rfl (fun _ h9 => ct_X12_another h9) (fun v49 => ?_)
                  refine sj (j_istore hJ (L' := [(5, .int v49.1), (4, .int v45.1), (3, .int v8), (2, .int v6), (0, .ref p0), (1, .int p1)]) dX12_act_286 (by decide) rfl) ?_
                  refine sj (j_aload_n hJ dX12_act_288 rfl 4 rfl) ?_
                  refine sj_gR hJ fl_X12_58 rfl dX12_act_289 (fun v50 => ?_)
                  refine sj (j_bipush hJ (v := 9) dX12_act_292 ib_9) ?_
                  refine sj (j_iload hJ dX12_act_294 0 rfl) ?_
                  refine sj (j_imul hJ dX12_act_296) ?_
                  refine sj (j_iconst hJ (v := 1) dX12_act_297 ic_1) ?_
                  refine sj (j_iadd hJ dX12_act_298) ?_
                  refine sj (j_aload_n hJ dX12_act_299 rfl 4 rfl) ?_
                  refine sj_gR hJ fl_X12_19 rfl dX12_act_300 (fun v51 => ?_)
                  refine sj (j_iload_n hJ dX12_act_303 rfl 3 rfl) ?_
                  refine sj_rI hJ dX12_act_304 (fun v52 => ?_)
                  refine sj (j_iadd hJ dX12_act_305) ?_
                  refine sj (j_sipush hJ (v := 400) dX12_act_306 is_400) ?_
                  refine sj (j_iload hJ dX12_act_309 1 rfl) ?_
                  refine sj (j_iadd hJ dX12_act_311) ?_
                  refine sj_wI hJ dX12_act_312 (fun d53 => ?_)
                  refine sj (j_aload_n hJ dX12_act_313 rfl 4 rfl) ?_
                  refine sj (j_iload hJ dX12_act_314 0 rfl) ?_
                  refine sj_callVv hJ [.int v49.1] (st := []) (fr' := 0) (lo' := 0) ml_X12_264 hc_12 (by decide) (by decide) (Nat.le_of_ble_eq_true rfl) dX12_act_316 rfl (fun _ h9 => ct_X12_enqueue h9) (fun v54 => ?_)
                  refine sj (j_goto hJ (tgt := 530) dX12_act_319 (by decide)) ?_
                  exact sj_vret hI dX12_act_530 (fun h => h)
                · refine sj (j_goto hJ (tgt := 530) dX12_act_319 (by decide)) ?_
                  exact sj_vret hI dX12_act_530 (fun h => h)
              · refine sj (j_iload_n hJ dX12_act_322 rfl 0 rfl) ?_
                refine sj (j_bipush hJ (v := 6) dX12_act_323 ib_6) ?_
                refine sj_if (j_icmp_ne hJ (tgt := 442) dX12_act_325 (by decide)) (fun _ => ?_) (fun _ => ?_)
                · refine sj (j_aload_n hJ dX12_act_328 rfl 2 rfl) ?_
                  refine sj_gR hJ fl_X12_31 rfl dX12_act_329 (fun v55 => ?_)
                  refine sj (j_aload_n hJ dX12_act_332 rfl 2 rfl) ?_
                  refine sj_gR hJ fl_X12_19 rfl dX12_act_333 (fun v56 => ?_)
                  refine sj (j_iload_n hJ dX12_act_336 rfl 1 rfl) ?_
                  refine sj_rI hJ dX12_act_337 (fun v57 => ?_)
                  refine sj_rI hJ dX12_act_338 (fun v58 => ?_)
                  refine sj (j_iconst hJ (v := -1) dX12_act_339 ic_m1) ?_
                  refine sj_if (j_icmp_eq hJ (tgt := 530) dX12_act_340 (by decide)) (fun _ => ?_) (fun _ => ?_)
                  · exact sj_vret hI dX12_act_530 (fun h => h)
                  · refine sj (j_aload_n hJ dX12_act_343 rfl 2 rfl) ?_
                    refine sj (j_iload_n hJ dX12_act_344 rfl 3 rfl) ?_
                    refine sj (j_aload_n hJ dX12_act_345 rfl 2 rfl) ?_
                    refine sj_gR hJ fl_X12_31 rfl dX12_act_346 (fun v59 => ?_)
                    refine sj (j_aload_n hJ dX12_act_349 rfl 2 rfl) ?_
                    refine sj_gR hJ fl_X12_19 rfl dX12_act_350 (fun v60 => ?_)
                    refine sj (j_iload_n hJ dX12_act_353 rfl 1 rfl) ?_
                    refine sj_rI hJ dX12_act_354 (fun v61 => ?_)
                    refine sj_rI hJ dX12_act_355 (fun v62 => ?_)
                    refine sj_callVi hJ [.int p1, .int v62] (st := []) (fr' := 0) (lo' := 0) ml_X12_261 hc_12 (by decide) (by decide) (Nat.le_of_ble_eq_true rfl) dX12_act_356 rfl (fun _ h9 => ct_X12_another h9) (fun v63 => ?_)
                    refine sj (j_istore hJ (L' := [(4, .int v63.1), (3, .int v8), (2, .int v6), (0, .ref p0), (1, .int p1)]) dX12_act_359 (by decide) rfl) ?_
                    refine sj (j_aload_n hJ dX12_act_361 rfl 3 rfl) ?_
                    refine sj_gR hJ fl_X12_58 rfl dX12_act_362 (fun v64 => ?_)
                    refine sj (j_bipush hJ (v := 9) dX12_act_365 ib_9) ?_
                    refine sj (j_iload hJ dX12_act_367 0 rfl) ?_
                    refine sj (j_imul hJ dX12_act_369) ?_
                    refine sj (j_iconst hJ (v := 1) dX12_act_370 ic_1) ?_
                    refine sj (j_iadd hJ dX12_act_371) ?_
                    refine sj (j_aload_n hJ dX12_act_372 rfl 3 rfl) ?_
                    refine sj (j_iload_n hJ dX12_act_373 rfl 4 rfl) ?_
                    refine sj (j_aload_n hJ dX12_act_374 rfl 3 rfl) ?_
                    refine sj_gR hJ fl_X12_22 rfl dX12_act_375 (fun v65 => ?_)
                    refine sj (j_iload_n hJ dX12_act_378 rfl 2 rfl) ?_
                    refine sj_rI hJ dX12_act_379 (fun v66 => ?_)
                    refine sj_callVip hJ [.int p1, .int v66] (st := [.int (((9 : Int32) * v63.1) + (1 : Int32)), .ref v64]) (fr' := 1) (lo' := 22) ml_X12_258 hc_12 (by decide) (by decide) (Nat.le_of_ble_eq_true rfl) dX12_act_380 rfl (fun _ h9 => ct_X12_look h9) (fun v67 => ?_)
                    refine sj_wI hJ dX12_act_383 (fun d68 => ?_)
                    refine sj (j_aload_n hJ dX12_act_384 rfl 3 rfl) ?_
                    refine sj_gR hJ fl_X12_58 rfl dX12_act_385 (fun v69 => ?_)
                    refine sj (j_bipush hJ (v := 9) dX12_act_388 ib_9) ?_
                    refine sj (j_iload hJ dX12_act_390 0 rfl) ?_
                    refine sj (j_imul hJ dX12_act_392) ?_
                    refine sj (j_iconst hJ (v := 2) dX12_act_393 ic_2) ?_
                    refine sj (j_iadd hJ dX12_act_394) ?_
                    refine sj (j_aload_n hJ dX12_act_395 rfl 3 rfl) ?_
                    refine sj (j_iload_n hJ dX12_act_396 rfl 4 rfl) ?_
                    refine sj (j_aload_n hJ dX12_act_397 rfl 3 rfl) ?_
                    refine sj_gR hJ fl_X12_25 rfl dX12_act_398 (fun v70 => ?_)
                    refine sj (j_iload_n hJ dX12_act_401 rfl 2 rfl) ?_
                    refine sj_rI hJ dX12_act_402 (fun v71 => ?_)
                    refine sj_callVip hJ [.int p1, .int v71] (st := [.int (((9 : Int32) * v63.1) + (2 : Int32)), .ref v69]) (fr' := 1) (lo' := 22) ml_X12_258 hc_12 (by decide) (by decide) (Nat.le_of_ble_eq_true rfl) dX12_act_403 rfl (fun _ h9 => ct_X12_look h9) (fun v72 => ?_)
                    refine sj_wI hJ dX12_act_406 (fun d73 => ?_)
                    refine sj (j_aload_n hJ dX12_act_407 rfl 3 rfl) ?_
                    refine sj_gR hJ fl_X12_58 rfl dX12_act_408 (fun v74 => ?_)
                    refine sj (j_bipush hJ (v := 9) dX12_act_411 ib_9) ?_
                    refine sj (j_iload hJ dX12_act_413 0 rfl) ?_
                    refine sj (j_imul hJ dX12_act_415) ?_
                    refine sj (j_iconst hJ (v := 3) dX12_act_416 ic_3) ?_
                    refine sj (j_iadd hJ dX12_act_417) ?_
                    refine sj (j_iconst hJ (v := 0) dX12_act_418 ic_0) ?_
                    refine sj_wI hJ dX12_act_419 (fun d75 => ?_)
                    refine sj (j_aload_n hJ dX12_act_420 rfl 3 rfl) ?_
                    refine sj_gR hJ fl_X12_58 rfl dX12_act_421 (fun v76 => ?_)
                    refine sj (j_bipush hJ (v := 9) dX12_act_424 ib_9) ?_
                    refine sj (j_iload hJ dX12_act_426 0 rfl) ?_
                    refine sj (j_imul hJ dX12_act_428) ?_
                    refine sj (j_iconst hJ (v := 4) dX12_act_429 ic_4) ?_
                    refine sj (j_iadd hJ dX12_act_430) ?_
                    refine sj (j_iconst hJ (v := 0) dX12_act_431 ic_0) ?_
                    refine sj_wI hJ dX12_act_432 (fun d77 => ?_)
                    refine sj (j_aload_n hJ dX12_act_433 rfl 3 rfl) ?_
                    refine sj (j_iload hJ dX12_act_434 0 rfl) ?_
                    refine sj_callVv hJ [.int v63.1] (st := []) (fr' := 0) (lo' := 0) ml_X12_264 hc_12 (by decide) (by decide) (Nat.le_of_ble_eq_true rfl) dX12_act_436 rfl (fun _ h9 => ct_X12_enqueue h9) (fun v78 => ?_)
                    refine sj (j_goto hJ (tgt := 530) dX12_act_439 (by decide)) ?_
                    exact sj_vret hI dX12_act_530 (fun h => h)
                · refine sj (j_iload_n hJ dX12_act_442 rfl 0 rfl) ?_
                  refine sj (j_bipush hJ (v := 7) dX12_act_443 ib_7) ?_
                  refine sj_if (j_icmp_ne hJ (tgt := 466) dX12_act_445 (by decide)) (fun _ => ?_) (fun _ => ?_)
                  · refine sj (j_aload_n hJ dX12_act_448 rfl 2 rfl) ?_
                    refine sj (j_aload_n hJ dX12_act_449 rfl 2 rfl) ?_
                    refine sj (j_iload_n hJ dX12_act_450 rfl 3 rfl) ?_
                    refine sj (j_aload_n hJ dX12_act_451 rfl 2 rfl) ?_
                    refine sj_gR hJ fl_X12_19 rfl dX12_act_452 (fun v79 => ?_)
                    refine sj (j_iload_n hJ dX12_act_455 rfl 1 rfl) ?_
                    refine sj_rI hJ dX12_act_456 (fun v80 => ?_)
                    refine sj_callVi hJ [.int p1, .int v80] (st := [.ref p0]) (fr' := 0) (lo' := 0) ml_X12_261 hc_12 (by decide) (by decide) (Nat.le_of_ble_eq_true rfl) dX12_act_457 rfl (fun _ h9 => ct_X12_another h9) (fun v81 => ?_)
                    refine sj_callVv hJ [.int v81.1] (st := []) (fr' := 0) (lo' := 0) ml_X12_297 hc_12 (by decide) (by decide) (Nat.le_of_ble_eq_true rfl) dX12_act_460 rfl (fun _ h9 => ct_X12_forNext h9) (fun v82 => ?_)
                    refine sj (j_goto hJ (tgt := 530) dX12_act_463 (by decide)) ?_
                    exact sj_vret hI dX12_act_530 (fun h => h)
                  · refine sj (j_iload_n hJ dX12_act_466 rfl 0 rfl) ?_
                    refine sj (j_bipush hJ (v := 8) dX12_act_467 ib_8) ?_
                    refine sj_if (j_icmp_ne hJ (tgt := 495) dX12_act_469 (by decide)) (fun _ => ?_) (fun _ => ?_)
                    · refine sj (j_aload_n hJ dX12_act_472 rfl 2 rfl) ?_
                      refine sj (j_aload_n hJ dX12_act_473 rfl 2 rfl) ?_
                      refine sj (j_iload_n hJ dX12_act_474 rfl 3 rfl) ?_
                      refine sj (j_aload_n hJ dX12_act_475 rfl 2 rfl) ?_
                      refine sj_gR hJ fl_X12_19 rfl dX12_act_476 (fun v83 => ?_)
                      refine sj (j_iload_n hJ dX12_act_479 rfl 1 rfl) ?_
                      refine sj_rI hJ dX12_act_480 (fun v84 => ?_)
                      refine sj_callVi hJ [.int p1, .int v84] (st := [.ref p0]) (fr' := 0) (lo' := 0) ml_X12_261 hc_12 (by decide) (by decide) (Nat.le_of_ble_eq_true rfl) dX12_act_481 rfl (fun _ h9 => ct_X12_another h9) (fun v85 => ?_)
                      refine sj_callVv hJ [.int v85.1] (st := []) (fr' := 0) (lo' := 0) ml_X12_264 hc_12 (by decide) (by decide) (Nat.le_of_ble_eq_true rfl) dX12_act_484 rfl (fun _ h9 => ct_X12_enqueue h9) (fun v86 => ?_)
                      refine sj (j_aload_n hJ dX12_act_487 rfl 2 rfl) ?_
                      refine sj (j_iload_n hJ dX12_act_488 rfl 3 rfl) ?_
                      refine sj_callVv hJ [.int p1] (st := []) (fr' := 0) (lo' := 0) ml_X12_297 hc_12 (by decide) (by decide) (Nat.le_of_ble_eq_true rfl) dX12_act_489 rfl (fun _ h9 => ct_X12_forNext h9) (fun v87 => ?_)
                      refine sj (j_goto hJ (tgt := 530) dX12_act_492 (by decide)) ?_
                      exact sj_vret hI dX12_act_530 (fun h => h)
                    · refine sj (j_iload_n hJ dX12_act_495 rfl 0 rfl) ?_
                      refine sj (j_bipush hJ (v := 11) dX12_act_496 ib_11) ?_
                      refine sj_if (j_icmp_ge hJ (tgt := 509) dX12_act_498 (by decide)) (fun _ => ?_) (fun _ => ?_)
                      · refine sj (j_iload_n hJ dX12_act_509 rfl 0 rfl) ?_
                        refine sj (j_bipush hJ (v := 11) dX12_act_510 ib_11) ?_
                        refine sj_if (j_icmp_ne hJ (tgt := 524) dX12_act_512 (by decide)) (fun _ => ?_) (fun _ => ?_)
                        · refine sj (j_aload_n hJ dX12_act_515 rfl 2 rfl) ?_
                          refine sj (j_iload_n hJ dX12_act_516 rfl 3 rfl) ?_
                          refine sj (j_iload_n hJ dX12_act_517 rfl 1 rfl) ?_
                          refine sj_callVv hJ [.int p1, .int v6] (st := []) (fr' := 2) (lo' := 45) ml_X12_300 hc_12 (by decide) (by decide) (Nat.le_of_ble_eq_true rfl) dX12_act_518 rfl (fun _ h9 => ct_X12_actLot h9) (fun v88 => ?_)
                          refine sj (j_goto hJ (tgt := 530) dX12_act_521 (by decide)) ?_
                          exact sj_vret hI dX12_act_530 (fun h => h)
                        · refine sj (j_aload_n hJ dX12_act_524 rfl 2 rfl) ?_
                          refine sj (j_iload_n hJ dX12_act_525 rfl 3 rfl) ?_
                          refine sj (j_iload_n hJ dX12_act_526 rfl 1 rfl) ?_
                          refine sj_callVv hJ [.int p1, .int v6] (st := []) (fr' := 1) (lo' := 24) ml_X12_303 hc_12 (by decide) (by decide) (Nat.le_of_ble_eq_true rfl) dX12_act_527 rfl (fun _ h9 => ct_X12_actTry h9) (fun v89 => ?_)
                          exact sj_vret hI dX12_act_530 (fun h => h)
                      · refine sj (j_aload_n hJ dX12_act_501 rfl 2 rfl) ?_
                        refine sj (j_iload_n hJ dX12_act_502 rfl 3 rfl) ?_
                        refine sj_callVv hJ [.int p1] (st := []) (fr' := 0) (lo' := 0) ml_X12_273 hc_12 (by decide) (by decide) (Nat.le_of_ble_eq_true rfl) dX12_act_503 rfl (fun _ h9 => ct_X12_waitFor h9) (fun v90 => ?_)
                        refine sj (j_goto hJ (tgt := 530) dX12_act_506 (by decide)) ?_
                        exact sj_vret hI dX12_act_530 (fun h => h)
theorem ct_X12_act {σ : St} {p0 : Nat} {p1 : Int32} {δ : Dy} {r : Dy} (h : m_X12_act σ p0 p1 δ = some r) : CT yX12_act cX12_act 6 none 7 169 0 0 [.ref p0, .int p1] σ δ (none, σ, r) := CT_of (by decide +kernel) (Nat.le_of_ble_eq_true rfl) (fun J hI => w_X12_act hI σ p0 p1 δ r h rfl)
def m_X12_dequeue_b85 (σ : St) (p0 : Nat) (p2 : Int32) (p3 : Int32) (p4 : Int32) (δ : Dy) : Option (Int32 × Dy) := lp (fun (s : (Int32 × Dy)) =>
  (gR σ 12 p0 24).bind fun v9 =>
  (gI σ s.2 12 p0 33).bind fun v10 =>
  (rI σ s.2 v9 v10).bind fun v11 =>
  if v11 ≤ s.1 then
    some (Sum.inr (p3, s.2))
  else
    (gR σ 12 p0 23).bind fun v12 =>
    (gR σ 12 p0 23).bind fun v13 =>
    (rI σ s.2 v13 ((p2 + s.1) + (1 : Int32))).bind fun v14 =>
    (wI σ s.2 v12 (p2 + s.1) v14).bind fun d15 =>
    some (Sum.inl ((s.1 + (1 : Int32)), d15))) (p4, δ)
def m_X12_dequeue_b51 (σ : St) (p0 : Nat) (p1 : Int32) (δ : Dy) : Option (Int32 × Dy) :=
  (gI σ δ 12 p0 33).bind fun v2 =>
  (gR σ 12 p0 23).bind fun v3 =>
  (rI σ δ v3 (((500 : Int32) * v2) + p1)).bind fun v4 =>
  (gR σ 12 p0 24).bind fun v5 =>
  (gI σ δ 12 p0 33).bind fun v6 =>
  (rI σ δ v5 v6).bind fun v7 =>
  (wI σ δ v5 v6 (v7 - (1 : Int32))).bind fun d8 =>
  m_X12_dequeue_b85 σ p0 ((500 : Int32) * v2) v4 p1 d8
def m_X12_dequeue (σ : St) (p0 : Nat) (δ : Dy) : Option (Int32 × Dy) :=
  (gI σ δ 12 p0 41).bind fun v1 =>
  if v1 = 0 then
    m_X12_dequeue_b51 σ p0 (0 : Int32) δ
  else
    (gI σ δ 12 p0 33).bind fun v16 =>
    if v16 = 0 then
      (gR σ 12 p0 42).bind fun v17 =>
      (gI σ δ 12 p0 44).bind fun v18 =>
      (rI σ δ v17 v18).bind fun v19 =>
      (gR σ 12 p0 43).bind fun v20 =>
      (gI σ δ 12 p0 44).bind fun v21 =>
      (gR σ 12 p0 24).bind fun v22 =>
      (rI σ δ v22 (0 : Int32)).bind fun v23 =>
      (wI σ δ v20 v21 v23).bind fun d24 =>
      (gI σ d24 12 p0 44).bind fun v25 =>
      (pI σ d24 12 p0 44 (v25 + (1 : Int32))).bind fun d26 =>
      m_X12_dequeue_b51 σ p0 v19 d26
    else
      m_X12_dequeue_b51 σ p0 (0 : Int32) δ
set_option maxHeartbeats 4000000 in
set_option maxRecDepth 100000 in
theorem w_X12_dequeue_b85 {J : JT} {an : Option Value × St × Dy} (hI : Isj cX12_dequeue 5 RX12 "dequeue" 0 0 (some .int) an J) {β : Bu} (σ : St) (p0 : Nat) (p2 : Int32) (p3 : Int32) (p4 : Int32) (δ : Dy) : SJ (m_X12_dequeue_b85 σ p0 p2 p3 p4 δ) (PI σ an) (J 85 [(0, .ref p0), (2, .int p2), (3, .int p3), (4, .int p4)] [] β σ δ) := by
  have hJ := hI.cor
  unfold m_X12_dequeue_b85
  refine sj_lp (G := fun s : (Int32 × Dy) => J 85 [(0, .ref p0), (2, .int p2), (3, .int p3), (4, .int s.1)] [] β σ s.2) (fun s => ?_) (p4, δ)
  refine sj (j_iload hJ dX12_dequeue_85 3 rfl) ?_
  refine sj (j_aload_n hJ dX12_dequeue_87 rfl 0 rfl) ?_
  refine sj_gR hJ fl_X12_64 rfl dX12_dequeue_88 (fun v9 => ?_)
  refine sj (j_aload_n hJ dX12_dequeue_91 rfl 0 rfl) ?_
  refine sj_gI hJ fl_X12_255 (Or.inl rfl) dX12_dequeue_92 (fun v10 => ?_)
  refine sj_rI hJ dX12_dequeue_95 (fun v11 => ?_)
  refine sj_if (j_icmp_ge hJ (tgt := 125) dX12_dequeue_96 (by decide)) (fun _ => ?_) (fun _ => ?_)
  · refine sj (j_iload_n hJ dX12_dequeue_125 rfl 2 rfl) ?_
    exact sj_iret hI dX12_dequeue_126 (fun h => h)
  · refine sj (j_aload_n hJ dX12_dequeue_99 rfl 0 rfl) ?_
    refine sj_gR hJ fl_X12_61 rfl dX12_dequeue_100 (fun v12 => ?_)
    refine sj (j_iload_n hJ dX12_dequeue_103 rfl 1 rfl) ?_
    refine sj (j_iload hJ dX12_dequeue_104 3 rfl) ?_
    refine sj (j_iadd hJ dX12_dequeue_106) ?_
    refine sj (j_aload_n hJ dX12_dequeue_107 rfl 0 rfl) ?_
    refine sj_gR hJ fl_X12_61 rfl dX12_dequeue_108 (fun v13 => ?_)
    refine sj (j_iload_n hJ dX12_dequeue_111 rfl 1 rfl) ?_
    refine sj (j_iload hJ dX12_dequeue_112 3 rfl) ?_
    refine sj (j_iadd hJ dX12_dequeue_114) ?_
    refine sj (j_iconst hJ (v := 1) dX12_dequeue_115 ic_1) ?_
    refine sj (j_iadd hJ dX12_dequeue_116) ?_
    refine sj_rI hJ dX12_dequeue_117 (fun v14 => ?_)
    refine sj_wI hJ dX12_dequeue_118 (fun d15 => ?_)
    refine sj (j_iinc hJ (L' := [(4, .int (s.1 + (1 : Int32))), (0, .ref p0), (2, .int p2), (3, .int p3)]) dX12_dequeue_119 3 rfl (congrArg (fun z => s.1 + z) ic_1) (by decide) rfl) ?_
    refine sj (j_goto hJ (tgt := 85) dX12_dequeue_122 (by decide)) ?_
    refine sj (j_sub hJ (L' := [(0, .ref p0), (2, .int p2), (3, .int p3), (4, .int (s.1 + (1 : Int32)))]) [1, 2, 3, 0] rfl) ?_
    exact sj_end (fun h => h)
set_option maxHeartbeats 4000000 in
set_option maxRecDepth 100000 in
theorem w_X12_dequeue_b51 {J : JT} {an : Option Value × St × Dy} (hI : Isj cX12_dequeue 5 RX12 "dequeue" 0 0 (some .int) an J) {β : Bu} (σ : St) (p0 : Nat) (p1 : Int32) (δ : Dy) : SJ (m_X12_dequeue_b51 σ p0 p1 δ) (PI σ an) (J 51 [(0, .ref p0), (1, .int p1)] [] β σ δ) := by
  have hJ := hI.cor
  unfold m_X12_dequeue_b51
  refine sj (j_sipush hJ (v := 500) dX12_dequeue_51 is_500) ?_
  refine sj (j_aload_n hJ dX12_dequeue_54 rfl 0 rfl) ?_
  refine sj_gI hJ fl_X12_255 (Or.inl rfl) dX12_dequeue_55 (fun v2 => ?_)
  refine sj (j_imul hJ dX12_dequeue_58) ?_
  refine sj (j_istore_n hJ (L' := [(2, .int ((500 : Int32) * v2)), (0, .ref p0), (1, .int p1)]) dX12_dequeue_59 rfl (by decide) rfl) ?_
  refine sj (j_aload_n hJ dX12_dequeue_60 rfl 1 rfl) ?_
  refine sj_gR hJ fl_X12_61 rfl dX12_dequeue_61 (fun v3 => ?_)
  refine sj (j_iload_n hJ dX12_dequeue_64 rfl 0 rfl) ?_
  refine sj (j_iload_n hJ dX12_dequeue_65 rfl 2 rfl) ?_
  refine sj (j_iadd hJ dX12_dequeue_66) ?_
  refine sj_rI hJ dX12_dequeue_67 (fun v4 => ?_)
  refine sj (j_istore_n hJ (L' := [(3, .int v4), (2, .int ((500 : Int32) * v2)), (0, .ref p0), (1, .int p1)]) dX12_dequeue_68 rfl (by decide) rfl) ?_
  refine sj (j_aload_n hJ dX12_dequeue_69 rfl 2 rfl) ?_
  refine sj_gR hJ fl_X12_64 rfl dX12_dequeue_70 (fun v5 => ?_)
  refine sj (j_aload_n hJ dX12_dequeue_73 rfl 2 rfl) ?_
  refine sj_gI hJ fl_X12_255 (Or.inl rfl) dX12_dequeue_74 (fun v6 => ?_)
  refine sj (j_dup2 hJ dX12_dequeue_77 rfl rfl) ?_
  refine sj_rI hJ dX12_dequeue_78 (fun v7 => ?_)
  refine sj (j_iconst hJ (v := 1) dX12_dequeue_79 ic_1) ?_
  refine sj (j_isub hJ dX12_dequeue_80) ?_
  refine sj_wI hJ dX12_dequeue_81 (fun d8 => ?_)
  refine sj (j_iload_n hJ dX12_dequeue_82 rfl 3 rfl) ?_
  refine sj (j_istore hJ (L' := [(4, .int p1), (3, .int v4), (2, .int ((500 : Int32) * v2)), (0, .ref p0), (1, .int p1)]) dX12_dequeue_83 (by decide) rfl) ?_
  refine sj (j_sub hJ (L' := [(0, .ref p0), (2, .int ((500 : Int32) * v2)), (3, .int v4), (4, .int p1)]) [3, 2, 1, 0] rfl) ?_
  exact w_X12_dequeue_b85 hI σ p0 ((500 : Int32) * v2) v4 p1 d8
set_option maxHeartbeats 4000000 in
set_option maxRecDepth 100000 in
theorem w_X12_dequeue {J : JT} {an : Option Value × St × Dy} (hI : Isj cX12_dequeue 5 RX12 "dequeue" 0 0 (some .int) an J) {β : Bu} (σ : St) (p0 : Nat) (δ : Dy) : SJ (m_X12_dequeue σ p0 δ) (PI σ an) (J 0 [(0, .ref p0)] [] β σ δ) := by
  have hJ := hI.cor
  unfold m_X12_dequeue
  refine sj (j_iconst hJ (v := 0) dX12_dequeue_0 ic_0) ?_
  refine sj (j_istore_n hJ (L' := [(1, .int (0 : Int32)), (0, .ref p0)]) dX12_dequeue_1 rfl (by decide) rfl) ?_
  refine sj (j_aload_n hJ dX12_dequeue_2 rfl 1 rfl) ?_
  refine sj_gI hJ fl_X12_306 (Or.inr rfl) dX12_dequeue_3 (fun v1 => ?_)
  refine sj_if (j_if_eq hJ (tgt := 51) dX12_dequeue_6 (by decide)) (fun _ => ?_) (fun _ => ?_)
  · refine sj (j_sub hJ (L' := [(0, .ref p0), (1, .int (0 : Int32))]) [1, 0] rfl) ?_
    exact w_X12_dequeue_b51 hI σ p0 (0 : Int32) δ
  · refine sj (j_aload_n hJ dX12_dequeue_9 rfl 1 rfl) ?_
    refine sj_gI hJ fl_X12_255 (Or.inl rfl) dX12_dequeue_10 (fun v16 => ?_)
    refine sj_if (j_if_ne hJ (tgt := 51) dX12_dequeue_13 (by decide)) (fun _ => ?_) (fun _ => ?_)
    · refine sj (j_aload_n hJ dX12_dequeue_16 rfl 1 rfl) ?_
      refine sj_gR hJ fl_X12_103 rfl dX12_dequeue_17 (fun v17 => ?_)
      refine sj (j_aload_n hJ dX12_dequeue_20 rfl 1 rfl) ?_
      refine sj_gI hJ fl_X12_309 (Or.inl rfl) dX12_dequeue_21 (fun v18 => ?_)
      refine sj_rI hJ dX12_dequeue_24 (fun v19 => ?_)
      refine sj (j_istore_n hJ (L' := [(1, .int v19), (0, .ref p0)]) dX12_dequeue_25 rfl (by decide) rfl) ?_
      refine sj (j_aload_n hJ dX12_dequeue_26 rfl 1 rfl) ?_
      refine sj_gR hJ fl_X12_106 rfl dX12_dequeue_27 (fun v20 => ?_)
      refine sj (j_aload_n hJ dX12_dequeue_30 rfl 1 rfl) ?_
      refine sj_gI hJ fl_X12_309 (Or.inl rfl) dX12_dequeue_31 (fun v21 => ?_)
      refine sj (j_aload_n hJ dX12_dequeue_34 rfl 1 rfl) ?_
      refine sj_gR hJ fl_X12_64 rfl dX12_dequeue_35 (fun v22 => ?_)
      refine sj (j_iconst hJ (v := 0) dX12_dequeue_38 ic_0) ?_
      refine sj_rI hJ dX12_dequeue_39 (fun v23 => ?_)
      refine sj_wI hJ dX12_dequeue_40 (fun d24 => ?_)
      refine sj (j_aload_n hJ dX12_dequeue_41 rfl 1 rfl) ?_
      refine sj (j_dup hJ dX12_dequeue_42 rfl) ?_
      refine sj_gI hJ fl_X12_309 (Or.inl rfl) dX12_dequeue_43 (fun v25 => ?_)
      refine sj (j_iconst hJ (v := 1) dX12_dequeue_46 ic_1) ?_
      refine sj (j_iadd hJ dX12_dequeue_47) ?_
      refine sj_pI hJ fl_X12_309 rfl dX12_dequeue_48 (fun d26 => ?_)
      refine sj (j_sub hJ (L' := [(0, .ref p0), (1, .int v19)]) [1, 0] rfl) ?_
      exact w_X12_dequeue_b51 hI σ p0 v19 d26
    · refine sj (j_sub hJ (L' := [(0, .ref p0), (1, .int (0 : Int32))]) [1, 0] rfl) ?_
      exact w_X12_dequeue_b51 hI σ p0 (0 : Int32) δ
theorem ct_X12_dequeue {σ : St} {p0 : Nat} {δ : Dy} {r : (Int32 × Dy)} (h : m_X12_dequeue σ p0 δ = some r) : CT yX12_dequeue cX12_dequeue 5 (some .int) 0 0 0 0 [.ref p0] σ δ ((some (.int r.1)), σ, r.2) := CT_of (by decide +kernel) (Nat.le_of_ble_eq_true rfl) (fun J hI => w_X12_dequeue hI σ p0 δ r h rfl)
def m_X12_dropWait_b15 (σ : St) (p0 : Nat) (p2 : Int32) (δ : Dy) : Option Dy := lp (fun (s : (Int32 × Dy)) =>
  (gR σ 12 p0 26).bind fun v5 =>
  (gI σ s.2 12 p0 33).bind fun v6 =>
  (rI σ s.2 v5 v6).bind fun v7 =>
  if v7 ≤ s.1 then
    some (Sum.inr s.2)
  else
    (gR σ 12 p0 25).bind fun v8 =>
    (gI σ s.2 12 p0 33).bind fun v9 =>
    (gR σ 12 p0 25).bind fun v10 =>
    (gI σ s.2 12 p0 33).bind fun v11 =>
    (rI σ s.2 v10 ((((500 : Int32) * v11) + s.1) + (1 : Int32))).bind fun v12 =>
    (wI σ s.2 v8 (((500 : Int32) * v9) + s.1) v12).bind fun d13 =>
    some (Sum.inl ((s.1 + (1 : Int32)), d13))) (p2, δ)
def m_X12_dropWait (σ : St) (p0 : Nat) (p1 : Int32) (δ : Dy) : Option Dy :=
  (gR σ 12 p0 26).bind fun v1 =>
  (gI σ δ 12 p0 33).bind fun v2 =>
  (rI σ δ v1 v2).bind fun v3 =>
  (wI σ δ v1 v2 (v3 - (1 : Int32))).bind fun d4 =>
  m_X12_dropWait_b15 σ p0 p1 d4
set_option maxHeartbeats 4000000 in
set_option maxRecDepth 100000 in
theorem w_X12_dropWait_b15 {J : JT} {an : Option Value × St × Dy} (hI : Isj cX12_dropWait 3 RX12 "dropWait" 0 0 none an J) {β : Bu} (σ : St) (p0 : Nat) (p2 : Int32) (δ : Dy) : SJ (m_X12_dropWait_b15 σ p0 p2 δ) (PV σ an) (J 15 [(0, .ref p0), (2, .int p2)] [] β σ δ) := by
  have hJ := hI.cor
  unfold m_X12_dropWait_b15
  refine sj_lp (G := fun s : (Int32 × Dy) => J 15 [(0, .ref p0), (2, .int s.1)] [] β σ s.2) (fun s => ?_) (p2, δ)
  refine sj (j_iload_n hJ dX12_dropWait_15 rfl 1 rfl) ?_
  refine sj (j_aload_n hJ dX12_dropWait_16 rfl 0 rfl) ?_
  refine sj_gR hJ fl_X12_70 rfl dX12_dropWait_17 (fun v5 => ?_)
  refine sj (j_aload_n hJ dX12_dropWait_20 rfl 0 rfl) ?_
  refine sj_gI hJ fl_X12_255 (Or.inl rfl) dX12_dropWait_21 (fun v6 => ?_)
  refine sj_rI hJ dX12_dropWait_24 (fun v7 => ?_)
  refine sj_if (j_icmp_ge hJ (tgt := 66) dX12_dropWait_25 (by decide)) (fun _ => ?_) (fun _ => ?_)
  · exact sj_vret hI dX12_dropWait_66 (fun h => h)
  · refine sj (j_aload_n hJ dX12_dropWait_28 rfl 0 rfl) ?_
    refine sj_gR hJ fl_X12_67 rfl dX12_dropWait_29 (fun v8 => ?_)
    refine sj (j_sipush hJ (v := 500) dX12_dropWait_32 is_500) ?_
    refine sj (j_aload_n hJ dX12_dropWait_35 rfl 0 rfl) ?_
    refine sj_gI hJ fl_X12_255 (Or.inl rfl) dX12_dropWait_36 (fun v9 => ?_)
    refine sj (j_imul hJ dX12_dropWait_39) ?_
    refine sj (j_iload_n hJ dX12_dropWait_40 rfl 1 rfl) ?_
    refine sj (j_iadd hJ dX12_dropWait_41) ?_
    refine sj (j_aload_n hJ dX12_dropWait_42 rfl 0 rfl) ?_
    refine sj_gR hJ fl_X12_67 rfl dX12_dropWait_43 (fun v10 => ?_)
    refine sj (j_sipush hJ (v := 500) dX12_dropWait_46 is_500) ?_
    refine sj (j_aload_n hJ dX12_dropWait_49 rfl 0 rfl) ?_
    refine sj_gI hJ fl_X12_255 (Or.inl rfl) dX12_dropWait_50 (fun v11 => ?_)
    refine sj (j_imul hJ dX12_dropWait_53) ?_
    refine sj (j_iload_n hJ dX12_dropWait_54 rfl 1 rfl) ?_
    refine sj (j_iadd hJ dX12_dropWait_55) ?_
    refine sj (j_iconst hJ (v := 1) dX12_dropWait_56 ic_1) ?_
    refine sj (j_iadd hJ dX12_dropWait_57) ?_
    refine sj_rI hJ dX12_dropWait_58 (fun v12 => ?_)
    refine sj_wI hJ dX12_dropWait_59 (fun d13 => ?_)
    refine sj (j_iinc hJ (L' := [(2, .int (s.1 + (1 : Int32))), (0, .ref p0)]) dX12_dropWait_60 1 rfl (congrArg (fun z => s.1 + z) ic_1) (by decide) rfl) ?_
    refine sj (j_goto hJ (tgt := 15) dX12_dropWait_63 (by decide)) ?_
    refine sj (j_sub hJ (L' := [(0, .ref p0), (2, .int (s.1 + (1 : Int32)))]) [1, 0] rfl) ?_
    exact sj_end (fun h => h)
set_option maxHeartbeats 4000000 in
set_option maxRecDepth 100000 in
theorem w_X12_dropWait {J : JT} {an : Option Value × St × Dy} (hI : Isj cX12_dropWait 3 RX12 "dropWait" 0 0 none an J) {β : Bu} (σ : St) (p0 : Nat) (p1 : Int32) (δ : Dy) : SJ (m_X12_dropWait σ p0 p1 δ) (PV σ an) (J 0 [(0, .ref p0), (1, .int p1)] [] β σ δ) := by
  have hJ := hI.cor
  unfold m_X12_dropWait
  refine sj (j_aload_n hJ dX12_dropWait_0 rfl 0 rfl) ?_
  refine sj_gR hJ fl_X12_70 rfl dX12_dropWait_1 (fun v1 => ?_)
  refine sj (j_aload_n hJ dX12_dropWait_4 rfl 0 rfl) ?_
  refine sj_gI hJ fl_X12_255 (Or.inl rfl) dX12_dropWait_5 (fun v2 => ?_)
  refine sj (j_dup2 hJ dX12_dropWait_8 rfl rfl) ?_
  refine sj_rI hJ dX12_dropWait_9 (fun v3 => ?_)
  refine sj (j_iconst hJ (v := 1) dX12_dropWait_10 ic_1) ?_
  refine sj (j_isub hJ dX12_dropWait_11) ?_
  refine sj_wI hJ dX12_dropWait_12 (fun d4 => ?_)
  refine sj (j_iload_n hJ dX12_dropWait_13 rfl 1 rfl) ?_
  refine sj (j_istore_n hJ (L' := [(2, .int p1), (0, .ref p0), (1, .int p1)]) dX12_dropWait_14 rfl (by decide) rfl) ?_
  refine sj (j_sub hJ (L' := [(0, .ref p0), (2, .int p1)]) [1, 0] rfl) ?_
  exact w_X12_dropWait_b15 hI σ p0 p1 d4
theorem ct_X12_dropWait {σ : St} {p0 : Nat} {p1 : Int32} {δ : Dy} {r : Dy} (h : m_X12_dropWait σ p0 p1 δ = some r) : CT yX12_dropWait cX12_dropWait 3 none 0 0 0 0 [.ref p0, .int p1] σ δ (none, σ, r) := CT_of (by decide +kernel) (Nat.le_of_ble_eq_true rfl) (fun J hI => w_X12_dropWait hI σ p0 p1 δ r h rfl)
def m_X12_wakeAll_b126 (σ : St) (p0 : Nat) (p1 : Int32) (p2 : Int32) (δ : Dy) : Option ((Int32 × Int32 × Dy) ⊕ Dy) :=
  some (Sum.inl (p1, (p2 + (1 : Int32)), δ))
def m_X12_wakeAll_b92 (σ : St) (p0 : Nat) (p1 : Int32) (p2 : Int32) (p3 : Int32) (q0 : Int32) (δ : Dy) : Option ((Int32 × Int32 × Dy) ⊕ Dy) :=
  if q0 = 0 then
    (gR σ 12 p0 25).bind fun v18 =>
    (gI σ δ 12 p0 33).bind fun v19 =>
    (wI σ δ v18 (((500 : Int32) * v19) + p1) p3).bind fun d20 =>
    m_X12_wakeAll_b126 σ p0 (p1 + (1 : Int32)) p2 d20
  else
    (chk σ 12 p0).bind fun _ => (m_X12_enqueue σ p0 p3 δ).bind fun v21 =>
    m_X12_wakeAll_b126 σ p0 p1 p2 v21
def m_X12_wakeAll_b91 (σ : St) (p0 : Nat) (p1 : Int32) (p2 : Int32) (p3 : Int32) (δ : Dy) : Option ((Int32 × Int32 × Dy) ⊕ Dy) :=
  m_X12_wakeAll_b92 σ p0 p1 p2 p3 (0 : Int32) δ
def m_X12_wakeAll_b87 (σ : St) (p0 : Nat) (p1 : Int32) (p2 : Int32) (p3 : Int32) (δ : Dy) : Option ((Int32 × Int32 × Dy) ⊕ Dy) :=
  m_X12_wakeAll_b92 σ p0 p1 p2 p3 (1 : Int32) δ
def m_X12_wakeAll_b65 (σ : St) (p0 : Nat) (p1 : Int32) (p2 : Int32) (p3 : Int32) (p4 : Int32) (δ : Dy) : Option ((Int32 × Int32 × Dy) ⊕ Dy) :=
  (gR σ 12 p0 2).bind fun v15 =>
  (rI σ δ v15 p4).bind fun v16 =>
  if v16 = (4 : Int32) then
    (chk σ 12 p0).bind fun _ => (m_X12_wayOf σ p0 p3 p4 δ).bind fun v17 =>
    if v17 = (-1 : Int32) then
      m_X12_wakeAll_b91 σ p0 p1 p2 p3 δ
    else
      m_X12_wakeAll_b87 σ p0 p1 p2 p3 δ
  else
    m_X12_wakeAll_b91 σ p0 p1 p2 p3 δ
def m_X12_wakeAll_b4 (σ : St) (p0 : Nat) (p1 : Int32) (p2 : Int32) (δ : Dy) : Option Dy := lp (fun (s : (Int32 × Int32 × Dy)) =>
  (gR σ 12 p0 26).bind fun v1 =>
  (gI σ s.2.2 12 p0 33).bind fun v2 =>
  (rI σ s.2.2 v1 v2).bind fun v3 =>
  if v3 ≤ s.2.1 then
    (gR σ 12 p0 26).bind fun v4 =>
    (gI σ s.2.2 12 p0 33).bind fun v5 =>
    (wI σ s.2.2 v4 v5 s.1).bind fun d6 =>
    some (Sum.inr d6)
  else
    (gR σ 12 p0 25).bind fun v7 =>
    (gI σ s.2.2 12 p0 33).bind fun v8 =>
    (rI σ s.2.2 v7 (((500 : Int32) * v8) + s.2.1)).bind fun v9 =>
    (gR σ 12 p0 21).bind fun v10 =>
    (rI σ s.2.2 v10 ((9 : Int32) * v9)).bind fun v11 =>
    (gR σ 12 p0 2).bind fun v12 =>
    (rI σ s.2.2 v12 v11).bind fun v13 =>
    if v13 = (3 : Int32) then
      (chk σ 12 p0).bind fun _ => (m_X12_holds σ p0 v9 v11 s.2.2).bind fun v14 =>
      if v14 = 0 then
        m_X12_wakeAll_b65 σ p0 s.1 s.2.1 v9 v11 s.2.2
      else
        m_X12_wakeAll_b87 σ p0 s.1 s.2.1 v9 s.2.2
    else
      m_X12_wakeAll_b65 σ p0 s.1 s.2.1 v9 v11 s.2.2) (p1, p2, δ)
def m_X12_wakeAll (σ : St) (p0 : Nat) (δ : Dy) : Option Dy :=
  m_X12_wakeAll_b4 σ p0 (0 : Int32) (0 : Int32) δ
set_option maxHeartbeats 4000000 in
set_option maxRecDepth 100000 in
theorem w_X12_wakeAll_b126 {J : JT} {an : Option Value × St × Dy} (hI : Isj cX12_wakeAll 6 RX12 "wakeAll" 6 141 none an J) {β : Bu} (σ : St) (p0 : Nat) (p1 : Int32) (p2 : Int32) (δ : Dy) : SJ (m_X12_wakeAll_b126 σ p0 p1 p2 δ) (PL (fun s : (Int32 × Int32 × Dy) => J 4 [(0, .ref p0), (1, .int s.1), (2, .int s.2.1)] [] β σ s.2.2) (PV σ an)) (J 126 [(0, .ref p0), (1, .int p1), (2, .int p2)] [] β σ δ) := by
  have hJ := hI.cor
  unfold m_X12_wakeAll_b126
  refine sj (j_iinc hJ (L' := [(2, .int (p2 + (1 : Int32))), (0, .ref p0), (1, .int p1)]) dX12_wakeAll_126 2 rfl (congrArg (fun z => p2 + z) ic_1) (by decide) rfl) ?_
  refine sj (j_goto hJ (tgt := 4) dX12_wakeAll_129 (by decide)) ?_
  refine sj (j_sub hJ (L' := [(0, .ref p0), (1, .int p1), (2, .int (p2 + (1 : Int32)))]) [1, 2, 0] rfl) ?_
  exact sj_end (fun h => h)
set_option maxHeartbeats 4000000 in
set_option maxRecDepth 100000 in
theorem w_X12_wakeAll_b92 {J : JT} {an : Option Value × St × Dy} (hI : Isj cX12_wakeAll 6 RX12 "wakeAll" 6 141 none an J) {β : Bu} (σ : St) (p0 : Nat) (p1 : Int32) (p2 : Int32) (p3 : Int32) (q0 : Int32) (δ : Dy) : SJ (m_X12_wakeAll_b92 σ p0 p1 p2 p3 q0 δ) (PL (fun s : (Int32 × Int32 × Dy) => J 4 [(0, .ref p0), (1, .int s.1), (2, .int s.2.1)] [] β σ s.2.2) (PV σ an)) (J 92 [(0, .ref p0), (1, .int p1), (2, .int p2), (3, .int p3)] [.int q0] β σ δ) := by
  have hJ := hI.cor
  unfold m_X12_wakeAll_b92
  refine sj (j_istore hJ (L' := [(5, .int q0), (0, .ref p0), (1, .int p1), (2, .int p2), (3, .int p3)]) dX12_wakeAll_92 (by decide) rfl) ?_
  refine sj (j_iload hJ dX12_wakeAll_94 0 rfl) ?_
  refine sj_if (j_if_eq hJ (tgt := 107) dX12_wakeAll_96 (by decide)) (fun _ => ?_) (fun _ => ?_)
  · refine sj (j_aload_n hJ dX12_wakeAll_107 rfl 1 rfl) ?_
    refine sj_gR hJ fl_X12_67 rfl dX12_wakeAll_108 (fun v18 => ?_)
    refine sj (j_sipush hJ (v := 500) dX12_wakeAll_111 is_500) ?_
    refine sj (j_aload_n hJ dX12_wakeAll_114 rfl 1 rfl) ?_
    refine sj_gI hJ fl_X12_255 (Or.inl rfl) dX12_wakeAll_115 (fun v19 => ?_)
    refine sj (j_imul hJ dX12_wakeAll_118) ?_
    refine sj (j_iload_n hJ dX12_wakeAll_119 rfl 2 rfl) ?_
    refine sj (j_iadd hJ dX12_wakeAll_120) ?_
    refine sj (j_iload_n hJ dX12_wakeAll_121 rfl 4 rfl) ?_
    refine sj_wI hJ dX12_wakeAll_122 (fun d20 => ?_)
    refine sj (j_iinc hJ (L' := [(1, .int (p1 + (1 : Int32))), (5, .int q0), (0, .ref p0), (2, .int p2), (3, .int p3)]) dX12_wakeAll_123 2 rfl (congrArg (fun z => p1 + z) ic_1) (by decide) rfl) ?_
    refine sj (j_sub hJ (L' := [(0, .ref p0), (1, .int (p1 + (1 : Int32))), (2, .int p2)]) [2, 0, 3] rfl) ?_
    exact w_X12_wakeAll_b126 hI σ p0 (p1 + (1 : Int32)) p2 d20
  · refine sj (j_aload_n hJ dX12_wakeAll_99 rfl 1 rfl) ?_
    refine sj (j_iload_n hJ dX12_wakeAll_100 rfl 4 rfl) ?_
    refine sj_callVv hJ [.int p3] (st := []) (fr' := 0) (lo' := 0) ml_X12_264 hc_12 (by decide) (by decide) (Nat.le_of_ble_eq_true rfl) dX12_wakeAll_101 rfl (fun _ h9 => ct_X12_enqueue h9) (fun v21 => ?_)
    refine sj (j_goto hJ (tgt := 126) dX12_wakeAll_104 (by decide)) ?_
    refine sj (j_sub hJ (L' := [(0, .ref p0), (1, .int p1), (2, .int p2)]) [1, 2, 3] rfl) ?_
    exact w_X12_wakeAll_b126 hI σ p0 p1 p2 v21
set_option maxHeartbeats 4000000 in
set_option maxRecDepth 100000 in
theorem w_X12_wakeAll_b91 {J : JT} {an : Option Value × St × Dy} (hI : Isj cX12_wakeAll 6 RX12 "wakeAll" 6 141 none an J) {β : Bu} (σ : St) (p0 : Nat) (p1 : Int32) (p2 : Int32) (p3 : Int32) (δ : Dy) : SJ (m_X12_wakeAll_b91 σ p0 p1 p2 p3 δ) (PL (fun s : (Int32 × Int32 × Dy) => J 4 [(0, .ref p0), (1, .int s.1), (2, .int s.2.1)] [] β σ s.2.2) (PV σ an)) (J 91 [(0, .ref p0), (1, .int p1), (2, .int p2), (3, .int p3)] [] β σ δ) := by
  have hJ := hI.cor
  unfold m_X12_wakeAll_b91
  refine sj (j_iconst hJ (v := 0) dX12_wakeAll_91 ic_0) ?_
  exact w_X12_wakeAll_b92 hI σ p0 p1 p2 p3 (0 : Int32) δ
set_option maxHeartbeats 4000000 in
set_option maxRecDepth 100000 in
theorem w_X12_wakeAll_b87 {J : JT} {an : Option Value × St × Dy} (hI : Isj cX12_wakeAll 6 RX12 "wakeAll" 6 141 none an J) {β : Bu} (σ : St) (p0 : Nat) (p1 : Int32) (p2 : Int32) (p3 : Int32) (δ : Dy) : SJ (m_X12_wakeAll_b87 σ p0 p1 p2 p3 δ) (PL (fun s : (Int32 × Int32 × Dy) => J 4 [(0, .ref p0), (1, .int s.1), (2, .int s.2.1)] [] β σ s.2.2) (PV σ an)) (J 87 [(0, .ref p0), (1, .int p1), (2, .int p2), (3, .int p3)] [] β σ δ) := by
  have hJ := hI.cor
  unfold m_X12_wakeAll_b87
  refine sj (j_iconst hJ (v := 1) dX12_wakeAll_87 ic_1) ?_
  refine sj (j_goto hJ (tgt := 92) dX12_wakeAll_88 (by decide)) ?_
  exact w_X12_wakeAll_b92 hI σ p0 p1 p2 p3 (1 : Int32) δ
set_option maxHeartbeats 4000000 in
set_option maxRecDepth 100000 in
theorem w_X12_wakeAll_b65 {J : JT} {an : Option Value × St × Dy} (hI : Isj cX12_wakeAll 6 RX12 "wakeAll" 6 141 none an J) {β : Bu} (σ : St) (p0 : Nat) (p1 : Int32) (p2 : Int32) (p3 : Int32) (p4 : Int32) (δ : Dy) : SJ (m_X12_wakeAll_b65 σ p0 p1 p2 p3 p4 δ) (PL (fun s : (Int32 × Int32 × Dy) => J 4 [(0, .ref p0), (1, .int s.1), (2, .int s.2.1)] [] β σ s.2.2) (PV σ an)) (J 65 [(0, .ref p0), (1, .int p1), (2, .int p2), (3, .int p3), (4, .int p4)] [] β σ δ) := by
  have hJ := hI.cor
  unfold m_X12_wakeAll_b65
  refine sj (j_aload_n hJ dX12_wakeAll_65 rfl 0 rfl) ?_
  refine sj_gR hJ fl_X12_16 rfl dX12_wakeAll_66 (fun v15 => ?_)
  refine sj (j_iload hJ dX12_wakeAll_69 4 rfl) ?_
  refine sj_rI hJ dX12_wakeAll_71 (fun v16 => ?_)
  refine sj (j_iconst hJ (v := 4) dX12_wakeAll_72 ic_4) ?_
  refine sj_if (j_icmp_ne hJ (tgt := 91) dX12_wakeAll_73 (by decide)) (fun _ => ?_) (fun _ => ?_)
  · refine sj (j_aload_n hJ dX12_wakeAll_76 rfl 0 rfl) ?_
    refine sj (j_iload_n hJ dX12_wakeAll_77 rfl 3 rfl) ?_
    refine sj (j_iload hJ dX12_wakeAll_78 4 rfl) ?_
    refine sj_callVip hJ [.int p3, .int p4] (st := []) (fr' := 5) (lo' := 117) ml_X12_270 hc_12 (by decide) (by decide) (Nat.le_of_ble_eq_true rfl) dX12_wakeAll_80 rfl (fun _ h9 => ct_X12_wayOf h9) (fun v17 => ?_)
    refine sj (j_iconst hJ (v := -1) dX12_wakeAll_83 ic_m1) ?_
    refine sj_if (j_icmp_eq hJ (tgt := 91) dX12_wakeAll_84 (by decide)) (fun _ => ?_) (fun _ => ?_)
    · refine sj (j_sub hJ (L' := [(0, .ref p0), (1, .int p1), (2, .int p2), (3, .int p3)]) [0, 1, 2, 3] rfl) ?_
      exact w_X12_wakeAll_b91 hI σ p0 p1 p2 p3 δ
    · refine sj (j_sub hJ (L' := [(0, .ref p0), (1, .int p1), (2, .int p2), (3, .int p3)]) [0, 1, 2, 3] rfl) ?_
      exact w_X12_wakeAll_b87 hI σ p0 p1 p2 p3 δ
  · refine sj (j_sub hJ (L' := [(0, .ref p0), (1, .int p1), (2, .int p2), (3, .int p3)]) [0, 1, 2, 3] rfl) ?_
    exact w_X12_wakeAll_b91 hI σ p0 p1 p2 p3 δ
set_option maxHeartbeats 4000000 in
set_option maxRecDepth 100000 in
theorem w_X12_wakeAll_b4 {J : JT} {an : Option Value × St × Dy} (hI : Isj cX12_wakeAll 6 RX12 "wakeAll" 6 141 none an J) {β : Bu} (σ : St) (p0 : Nat) (p1 : Int32) (p2 : Int32) (δ : Dy) : SJ (m_X12_wakeAll_b4 σ p0 p1 p2 δ) (PV σ an) (J 4 [(0, .ref p0), (1, .int p1), (2, .int p2)] [] β σ δ) := by
  have hJ := hI.cor
  unfold m_X12_wakeAll_b4
  refine sj_lp (G := fun s : (Int32 × Int32 × Dy) => J 4 [(0, .ref p0), (1, .int s.1), (2, .int s.2.1)] [] β σ s.2.2) (fun s => ?_) (p1, p2, δ)
  refine sj (j_iload_n hJ dX12_wakeAll_4 rfl 2 rfl) ?_
  refine sj (j_aload_n hJ dX12_wakeAll_5 rfl 0 rfl) ?_
  refine sj_gR hJ fl_X12_70 rfl dX12_wakeAll_6 (fun v1 => ?_)
  refine sj (j_aload_n hJ dX12_wakeAll_9 rfl 0 rfl) ?_
  refine sj_gI hJ fl_X12_255 (Or.inl rfl) dX12_wakeAll_10 (fun v2 => ?_)
  refine sj_rI hJ dX12_wakeAll_13 (fun v3 => ?_)
  refine sj_if (j_icmp_ge hJ (tgt := 132) dX12_wakeAll_14 (by decide)) (fun _ => ?_) (fun _ => ?_)
  · refine sj (j_aload_n hJ dX12_wakeAll_132 rfl 0 rfl) ?_
    refine sj_gR hJ fl_X12_70 rfl dX12_wakeAll_133 (fun v4 => ?_)
    refine sj (j_aload_n hJ dX12_wakeAll_136 rfl 0 rfl) ?_
    refine sj_gI hJ fl_X12_255 (Or.inl rfl) dX12_wakeAll_137 (fun v5 => ?_)
    refine sj (j_iload_n hJ dX12_wakeAll_140 rfl 1 rfl) ?_
    refine sj_wI hJ dX12_wakeAll_141 (fun d6 => ?_)
    exact sj_vret hI dX12_wakeAll_142 (fun h => h)
  · refine sj (j_aload_n hJ dX12_wakeAll_17 rfl 0 rfl) ?_
    refine sj_gR hJ fl_X12_67 rfl dX12_wakeAll_18 (fun v7 => ?_)
    refine sj (j_sipush hJ (v := 500) dX12_wakeAll_21 is_500) ?_
    refine sj (j_aload_n hJ dX12_wakeAll_24 rfl 0 rfl) ?_
    refine sj_gI hJ fl_X12_255 (Or.inl rfl) dX12_wakeAll_25 (fun v8 => ?_)
    refine sj (j_imul hJ dX12_wakeAll_28) ?_
    refine sj (j_iload_n hJ dX12_wakeAll_29 rfl 2 rfl) ?_
    refine sj (j_iadd hJ dX12_wakeAll_30) ?_
    refine sj_rI hJ dX12_wakeAll_31 (fun v9 => ?_)
    refine sj (j_istore_n hJ (L' := [(3, .int v9), (0, .ref p0), (1, .int s.1), (2, .int s.2.1)]) dX12_wakeAll_32 rfl (by decide) rfl) ?_
    refine sj (j_aload_n hJ dX12_wakeAll_33 rfl 1 rfl) ?_
    refine sj_gR hJ fl_X12_58 rfl dX12_wakeAll_34 (fun v10 => ?_)
    refine sj (j_bipush hJ (v := 9) dX12_wakeAll_37 ib_9) ?_
    refine sj (j_iload_n hJ dX12_wakeAll_39 rfl 0 rfl) ?_
    refine sj (j_imul hJ dX12_wakeAll_40) ?_
    refine sj_rI hJ dX12_wakeAll_41 (fun v11 => ?_)
    refine sj (j_istore hJ (L' := [(4, .int v11), (3, .int v9), (0, .ref p0), (1, .int s.1), (2, .int s.2.1)]) dX12_wakeAll_42 (by decide) rfl) ?_
    refine sj (j_aload_n hJ dX12_wakeAll_44 rfl 2 rfl) ?_
    refine sj_gR hJ fl_X12_16 rfl dX12_wakeAll_45 (fun v12 => ?_)
    refine sj (j_iload hJ dX12_wakeAll_48 0 rfl) ?_
    refine sj_rI hJ dX12_wakeAll_50 (fun v13 => ?_)
    refine sj (j_iconst hJ (v := 3) dX12_wakeAll_51 ic_3) ?_
    refine sj_if (j_icmp_ne hJ (tgt := 65) dX12_wakeAll_52 (by decide)) (fun _ => ?_) (fun _ => ?_)
    · refine sj (j_aload_n hJ dX12_wakeAll_55 rfl 2 rfl) ?_
      refine sj (j_iload_n hJ dX12_wakeAll_56 rfl 1 rfl) ?_
      refine sj (j_iload hJ dX12_wakeAll_57 0 rfl) ?_
      refine sj_callVip hJ [.int v9, .int v11] (st := []) (fr' := 4) (lo' := 94) ml_X12_267 hc_12 (by decide) (by decide) (Nat.le_of_ble_eq_true rfl) dX12_wakeAll_59 rfl (fun _ h9 => ct_X12_holds h9) (fun v14 => ?_)
      refine sj_if (j_if_ne hJ (tgt := 87) dX12_wakeAll_62 (by decide)) (fun _ => ?_) (fun _ => ?_)
      · refine sj (j_sub hJ (L' := [(0, .ref p0), (1, .int s.1), (2, .int s.2.1), (3, .int v9), (4, .int v11)]) [2, 3, 4, 1, 0] rfl) ?_
        exact w_X12_wakeAll_b65 hI σ p0 s.1 s.2.1 v9 v11 s.2.2
      · refine sj (j_sub hJ (L' := [(0, .ref p0), (1, .int s.1), (2, .int s.2.1), (3, .int v9)]) [2, 3, 4, 1] rfl) ?_
        exact w_X12_wakeAll_b87 hI σ p0 s.1 s.2.1 v9 s.2.2
    · refine sj (j_sub hJ (L' := [(0, .ref p0), (1, .int s.1), (2, .int s.2.1), (3, .int v9), (4, .int v11)]) [2, 3, 4, 1, 0] rfl) ?_
      exact w_X12_wakeAll_b65 hI σ p0 s.1 s.2.1 v9 v11 s.2.2
set_option maxHeartbeats 4000000 in
set_option maxRecDepth 100000 in
theorem w_X12_wakeAll {J : JT} {an : Option Value × St × Dy} (hI : Isj cX12_wakeAll 6 RX12 "wakeAll" 6 141 none an J) {β : Bu} (σ : St) (p0 : Nat) (δ : Dy) : SJ (m_X12_wakeAll σ p0 δ) (PV σ an) (J 0 [(0, .ref p0)] [] β σ δ) := by
  have hJ := hI.cor
  unfold m_X12_wakeAll
  refine sj (j_iconst hJ (v := 0) dX12_wakeAll_0 ic_0) ?_
  refine sj (j_istore_n hJ (L' := [(1, .int (0 : Int32)), (0, .ref p0)]) dX12_wakeAll_1 rfl (by decide) rfl) ?_
  refine sj (j_iconst hJ (v := 0) dX12_wakeAll_2 ic_0) ?_
  refine sj (j_istore_n hJ (L' := [(2, .int (0 : Int32)), (1, .int (0 : Int32)), (0, .ref p0)]) dX12_wakeAll_3 rfl (by decide) rfl) ?_
  refine sj (j_sub hJ (L' := [(0, .ref p0), (1, .int (0 : Int32)), (2, .int (0 : Int32))]) [2, 1, 0] rfl) ?_
  exact w_X12_wakeAll_b4 hI σ p0 (0 : Int32) (0 : Int32) δ
theorem ct_X12_wakeAll {σ : St} {p0 : Nat} {δ : Dy} {r : Dy} (h : m_X12_wakeAll σ p0 δ = some r) : CT yX12_wakeAll cX12_wakeAll 6 none 6 141 0 0 [.ref p0] σ δ (none, σ, r) := CT_of (by decide +kernel) (Nat.le_of_ble_eq_true rfl) (fun J hI => w_X12_wakeAll hI σ p0 δ r h rfl)
def m_X12_assume_b119 (σ : St) (p0 : Nat) (p1 : Int32) (δ : Dy) : Option ((Int32) ⊕ Dy) :=
  some (Sum.inl (p1 + (1 : Int32)))
def m_X12_assume_b2 (σ : St) (p0 : Nat) (p1 : Int32) (δ : Dy) : Option Dy := lp (fun (s : (Int32)) =>
  (gR σ 12 p0 26).bind fun v1 =>
  (gI σ δ 12 p0 33).bind fun v2 =>
  (rI σ δ v1 v2).bind fun v3 =>
  if v3 ≤ s then
    some (Sum.inr δ)
  else
    (gR σ 12 p0 25).bind fun v4 =>
    (gI σ δ 12 p0 33).bind fun v5 =>
    (rI σ δ v4 (((500 : Int32) * v5) + s)).bind fun v6 =>
    (gR σ 12 p0 21).bind fun v7 =>
    (rI σ δ v7 ((9 : Int32) * v6)).bind fun v8 =>
    (gR σ 12 p0 2).bind fun v9 =>
    (rI σ δ v9 v8).bind fun v10 =>
    if v10 = (10 : Int32) then
      (chk σ 12 p0).bind fun _ => (m_X12_holds σ p0 v6 v8 δ).bind fun v11 =>
      if v11 = 0 then
        (chk σ 12 p0).bind fun _ => (m_X12_dropWait σ p0 s δ).bind fun v12 =>
        (gR σ 12 p0 27).bind fun v13 =>
        (gI σ v12 12 p0 33).bind fun v14 =>
        (gR σ 12 p0 28).bind fun v15 =>
        (gI σ v12 12 p0 33).bind fun v16 =>
        (rI σ v12 v15 v16).bind fun v17 =>
        (wI σ v12 v13 (((500 : Int32) * v14) + v17) v6).bind fun d18 =>
        (gR σ 12 p0 28).bind fun v19 =>
        (gI σ d18 12 p0 33).bind fun v20 =>
        (rI σ d18 v19 v20).bind fun v21 =>
        (wI σ d18 v19 v20 (v21 + (1 : Int32))).bind fun d22 =>
        (gR σ 12 p0 6).bind fun v23 =>
        (rI σ d22 v23 v8).bind fun v24 =>
        (chk σ 12 p0).bind fun _ => (m_X12_another σ p0 v6 v24 d22).bind fun v25 =>
        (chk σ 12 p0).bind fun _ => (m_X12_enqueue σ p0 v25.1 v25.2).bind fun v26 =>
        some (Sum.inr v26)
      else
        m_X12_assume_b119 σ p0 s δ
    else
      m_X12_assume_b119 σ p0 s δ) (p1)
def m_X12_assume (σ : St) (p0 : Nat) (δ : Dy) : Option Dy :=
  m_X12_assume_b2 σ p0 (0 : Int32) δ
set_option maxHeartbeats 4000000 in
set_option maxRecDepth 100000 in
theorem w_X12_assume_b119 {J : JT} {an : Option Value × St × Dy} (hI : Isj cX12_assume 4 RX12 "assume" 5 117 none an J) {β : Bu} (σ : St) (p0 : Nat) (p1 : Int32) (δ : Dy) : SJ (m_X12_assume_b119 σ p0 p1 δ) (PL (fun s : (Int32) => J 2 [(0, .ref p0), (1, .int s)] [] β σ δ) (PV σ an)) (J 119 [(0, .ref p0), (1, .int p1)] [] β σ δ) := by
  have hJ := hI.cor
  unfold m_X12_assume_b119
  refine sj (j_iinc hJ (L' := [(1, .int (p1 + (1 : Int32))), (0, .ref p0)]) dX12_assume_119 1 rfl (congrArg (fun z => p1 + z) ic_1) (by decide) rfl) ?_
  refine sj (j_goto hJ (tgt := 2) dX12_assume_122 (by decide)) ?_
  refine sj (j_sub hJ (L' := [(0, .ref p0), (1, .int (p1 + (1 : Int32)))]) [1, 0] rfl) ?_
  exact sj_end (fun h => h)
set_option maxHeartbeats 4000000 in
set_option maxRecDepth 100000 in
theorem w_X12_assume_b2 {J : JT} {an : Option Value × St × Dy} (hI : Isj cX12_assume 4 RX12 "assume" 5 117 none an J) {β : Bu} (σ : St) (p0 : Nat) (p1 : Int32) (δ : Dy) : SJ (m_X12_assume_b2 σ p0 p1 δ) (PV σ an) (J 2 [(0, .ref p0), (1, .int p1)] [] β σ δ) := by
  have hJ := hI.cor
  unfold m_X12_assume_b2
  refine sj_lp (G := fun s : (Int32) => J 2 [(0, .ref p0), (1, .int s)] [] β σ δ) (fun s => ?_) (p1)
  refine sj (j_iload_n hJ dX12_assume_2 rfl 1 rfl) ?_
  refine sj (j_aload_n hJ dX12_assume_3 rfl 0 rfl) ?_
  refine sj_gR hJ fl_X12_70 rfl dX12_assume_4 (fun v1 => ?_)
  refine sj (j_aload_n hJ dX12_assume_7 rfl 0 rfl) ?_
  refine sj_gI hJ fl_X12_255 (Or.inl rfl) dX12_assume_8 (fun v2 => ?_)
  refine sj_rI hJ dX12_assume_11 (fun v3 => ?_)
  refine sj_if (j_icmp_ge hJ (tgt := 125) dX12_assume_12 (by decide)) (fun _ => ?_) (fun _ => ?_)
  · exact sj_vret hI dX12_assume_125 (fun h => h)
  · refine sj (j_aload_n hJ dX12_assume_15 rfl 0 rfl) ?_
    refine sj_gR hJ fl_X12_67 rfl dX12_assume_16 (fun v4 => ?_)
    refine sj (j_sipush hJ (v := 500) dX12_assume_19 is_500) ?_
    refine sj (j_aload_n hJ dX12_assume_22 rfl 0 rfl) ?_
    refine sj_gI hJ fl_X12_255 (Or.inl rfl) dX12_assume_23 (fun v5 => ?_)
    refine sj (j_imul hJ dX12_assume_26) ?_
    refine sj (j_iload_n hJ dX12_assume_27 rfl 1 rfl) ?_
    refine sj (j_iadd hJ dX12_assume_28) ?_
    refine sj_rI hJ dX12_assume_29 (fun v6 => ?_)
    refine sj (j_istore_n hJ (L' := [(2, .int v6), (0, .ref p0), (1, .int s)]) dX12_assume_30 rfl (by decide) rfl) ?_
    refine sj (j_aload_n hJ dX12_assume_31 rfl 1 rfl) ?_
    refine sj_gR hJ fl_X12_58 rfl dX12_assume_32 (fun v7 => ?_)
    refine sj (j_bipush hJ (v := 9) dX12_assume_35 ib_9) ?_
    refine sj (j_iload_n hJ dX12_assume_37 rfl 0 rfl) ?_
    refine sj (j_imul hJ dX12_assume_38) ?_
    refine sj_rI hJ dX12_assume_39 (fun v8 => ?_)
    refine sj (j_istore_n hJ (L' := [(3, .int v8), (2, .int v6), (0, .ref p0), (1, .int s)]) dX12_assume_40 rfl (by decide) rfl) ?_
    refine sj (j_aload_n hJ dX12_assume_41 rfl 2 rfl) ?_
    refine sj_gR hJ fl_X12_16 rfl dX12_assume_42 (fun v9 => ?_)
    refine sj (j_iload_n hJ dX12_assume_45 rfl 0 rfl) ?_
    refine sj_rI hJ dX12_assume_46 (fun v10 => ?_)
    refine sj (j_bipush hJ (v := 10) dX12_assume_47 ib_10) ?_
    refine sj_if (j_icmp_ne hJ (tgt := 119) dX12_assume_49 (by decide)) (fun _ => ?_) (fun _ => ?_)
    · refine sj (j_aload_n hJ dX12_assume_52 rfl 2 rfl) ?_
      refine sj (j_iload_n hJ dX12_assume_53 rfl 1 rfl) ?_
      refine sj (j_iload_n hJ dX12_assume_54 rfl 0 rfl) ?_
      refine sj_callVip hJ [.int v6, .int v8] (st := []) (fr' := 4) (lo' := 94) ml_X12_267 hc_12 (by decide) (by decide) (Nat.le_of_ble_eq_true rfl) dX12_assume_55 rfl (fun _ h9 => ct_X12_holds h9) (fun v11 => ?_)
      refine sj_if (j_if_ne hJ (tgt := 119) dX12_assume_58 (by decide)) (fun _ => ?_) (fun _ => ?_)
      · refine sj (j_aload_n hJ dX12_assume_61 rfl 2 rfl) ?_
        refine sj (j_iload_n hJ dX12_assume_62 rfl 3 rfl) ?_
        refine sj_callVv hJ [.int s] (st := []) (fr' := 0) (lo' := 0) ml_X12_312 hc_12 (by decide) (by decide) (Nat.le_of_ble_eq_true rfl) dX12_assume_63 rfl (fun _ h9 => ct_X12_dropWait h9) (fun v12 => ?_)
        refine sj (j_aload_n hJ dX12_assume_66 rfl 2 rfl) ?_
        refine sj_gR hJ fl_X12_73 rfl dX12_assume_67 (fun v13 => ?_)
        refine sj (j_sipush hJ (v := 500) dX12_assume_70 is_500) ?_
        refine sj (j_aload_n hJ dX12_assume_73 rfl 2 rfl) ?_
        refine sj_gI hJ fl_X12_255 (Or.inl rfl) dX12_assume_74 (fun v14 => ?_)
        refine sj (j_imul hJ dX12_assume_77) ?_
        refine sj (j_aload_n hJ dX12_assume_78 rfl 2 rfl) ?_
        refine sj_gR hJ fl_X12_76 rfl dX12_assume_79 (fun v15 => ?_)
        refine sj (j_aload_n hJ dX12_assume_82 rfl 2 rfl) ?_
        refine sj_gI hJ fl_X12_255 (Or.inl rfl) dX12_assume_83 (fun v16 => ?_)
        refine sj_rI hJ dX12_assume_86 (fun v17 => ?_)
        refine sj (j_iadd hJ dX12_assume_87) ?_
        refine sj (j_iload_n hJ dX12_assume_88 rfl 1 rfl) ?_
        refine sj_wI hJ dX12_assume_89 (fun d18 => ?_)
        refine sj (j_aload_n hJ dX12_assume_90 rfl 2 rfl) ?_
        refine sj_gR hJ fl_X12_76 rfl dX12_assume_91 (fun v19 => ?_)
        refine sj (j_aload_n hJ dX12_assume_94 rfl 2 rfl) ?_
        refine sj_gI hJ fl_X12_255 (Or.inl rfl) dX12_assume_95 (fun v20 => ?_)
        refine sj (j_dup2 hJ dX12_assume_98 rfl rfl) ?_
        refine sj_rI hJ dX12_assume_99 (fun v21 => ?_)
        refine sj (j_iconst hJ (v := 1) dX12_assume_100 ic_1) ?_
        refine sj (j_iadd hJ dX12_assume_101) ?_
        refine sj_wI hJ dX12_assume_102 (fun d22 => ?_)
        refine sj (j_aload_n hJ dX12_assume_103 rfl 2 rfl) ?_
        refine sj (j_aload_n hJ dX12_assume_104 rfl 2 rfl) ?_
        refine sj (j_iload_n hJ dX12_assume_105 rfl 1 rfl) ?_
        refine sj (j_aload_n hJ dX12_assume_106 rfl 2 rfl) ?_
        refine sj_gR hJ fl_X12_28 rfl dX12_assume_107 (fun v23 => ?_)
        refine sj (j_iload_n hJ dX12_assume_110 rfl 0 rfl) ?_
        refine sj_rI hJ dX12_assume_111 (fun v24 => ?_)
        refine sj_callVi hJ [.int v6, .int v24] (st := [.ref p0]) (fr' := 0) (lo' := 0) ml_X12_261 hc_12 (by decide) (by decide) (Nat.le_of_ble_eq_true rfl) dX12_assume_112 rfl (fun _ h9 => ct_X12_another h9) (fun v25 => ?_)
        refine sj_callVv hJ [.int v25.1] (st := []) (fr' := 0) (lo' := 0) ml_X12_264 hc_12 (by decide) (by decide) (Nat.le_of_ble_eq_true rfl) dX12_assume_115 rfl (fun _ h9 => ct_X12_enqueue h9) (fun v26 => ?_)
        exact sj_vret hI dX12_assume_118 (fun h => h)
      · refine sj (j_sub hJ (L' := [(0, .ref p0), (1, .int s)]) [2, 3] rfl) ?_
        exact w_X12_assume_b119 hI σ p0 s δ
    · refine sj (j_sub hJ (L' := [(0, .ref p0), (1, .int s)]) [2, 3] rfl) ?_
      exact w_X12_assume_b119 hI σ p0 s δ
set_option maxHeartbeats 4000000 in
set_option maxRecDepth 100000 in
theorem w_X12_assume {J : JT} {an : Option Value × St × Dy} (hI : Isj cX12_assume 4 RX12 "assume" 5 117 none an J) {β : Bu} (σ : St) (p0 : Nat) (δ : Dy) : SJ (m_X12_assume σ p0 δ) (PV σ an) (J 0 [(0, .ref p0)] [] β σ δ) := by
  have hJ := hI.cor
  unfold m_X12_assume
  refine sj (j_iconst hJ (v := 0) dX12_assume_0 ic_0) ?_
  refine sj (j_istore_n hJ (L' := [(1, .int (0 : Int32)), (0, .ref p0)]) dX12_assume_1 rfl (by decide) rfl) ?_
  refine sj (j_sub hJ (L' := [(0, .ref p0), (1, .int (0 : Int32))]) [1, 0] rfl) ?_
  exact w_X12_assume_b2 hI σ p0 (0 : Int32) δ
theorem ct_X12_assume {σ : St} {p0 : Nat} {δ : Dy} {r : Dy} (h : m_X12_assume σ p0 δ = some r) : CT yX12_assume cX12_assume 4 none 5 117 0 0 [.ref p0] σ δ (none, σ, r) := CT_of (by decide +kernel) (Nat.le_of_ble_eq_true rfl) (fun J hI => w_X12_assume hI σ p0 δ r h rfl)
def m_X12_endLevel_b143 (σ : St) (p0 : Nat) (p1 : Int32) (δ : Dy) : Option ((Int32 × Dy) ⊕ Dy) :=
  some (Sum.inl ((p1 + (1 : Int32)), δ))
def m_X12_endLevel_b62 (σ : St) (p0 : Nat) (p1 : Int32) (δ : Dy) : Option Dy := lp (fun (s : (Int32 × Dy)) =>
  (gR σ 12 p0 26).bind fun v4 =>
  (gI σ s.2 12 p0 33).bind fun v5 =>
  (rI σ s.2 v4 v5).bind fun v6 =>
  if v6 ≤ s.1 then
    some (Sum.inr s.2)
  else
    (gI σ s.2 12 p0 35).bind fun v7 =>
    if v7 = 0 then
      (gR σ 12 p0 25).bind fun v8 =>
      (gI σ s.2 12 p0 33).bind fun v9 =>
      (rI σ s.2 v8 (((500 : Int32) * v9) + s.1)).bind fun v10 =>
      (gR σ 12 p0 21).bind fun v11 =>
      (rI σ s.2 v11 ((9 : Int32) * v10)).bind fun v12 =>
      (gR σ 12 p0 2).bind fun v13 =>
      (rI σ s.2 v13 v12).bind fun v14 =>
      if v14 = (9 : Int32) then
        (chk σ 12 p0).bind fun _ => (m_X12_holds σ p0 v10 v12 s.2).bind fun v15 =>
        if v15 = 0 then
          (gR σ 12 p0 6).bind fun v16 =>
          (rI σ s.2 v16 v12).bind fun v17 =>
          (chk σ 12 p0).bind fun _ => (m_X12_another σ p0 v10 v17 s.2).bind fun v18 =>
          (chk σ 12 p0).bind fun _ => (m_X12_forNext σ p0 v18.1 v18.2).bind fun v19 =>
          m_X12_endLevel_b143 σ p0 s.1 v19
        else
          m_X12_endLevel_b143 σ p0 s.1 s.2
      else
        m_X12_endLevel_b143 σ p0 s.1 s.2
    else
      some (Sum.inr s.2)) (p1, δ)
def m_X12_endLevel_b2 (σ : St) (p0 : Nat) (p1 : Int32) (δ : Dy) : Option Dy := lp (fun (s : (Int32 × Dy)) =>
  (gR σ 12 p0 28).bind fun v1 =>
  (gI σ s.2 12 p0 33).bind fun v2 =>
  (rI σ s.2 v1 v2).bind fun v3 =>
  if v3 ≤ s.1 then
    (m_X12_endLevel_b62 σ p0 (0 : Int32) s.2).bind fun r => some (Sum.inr r)
  else
    (gR σ 12 p0 27).bind fun v20 =>
    (gI σ s.2 12 p0 33).bind fun v21 =>
    (rI σ s.2 v20 (((500 : Int32) * v21) + s.1)).bind fun v22 =>
    (gI σ s.2 12 p0 35).bind fun v23 =>
    (gR σ 12 p0 21).bind fun v24 =>
    (rI σ s.2 v24 ((9 : Int32) * v22)).bind fun v25 =>
    (chk σ 12 p0).bind fun _ => (m_X12_holds σ p0 v22 v25 s.2).bind fun v26 =>
    (pZ σ s.2 12 p0 35 (v23 ||| v26)).bind fun d27 =>
    some (Sum.inl ((s.1 + (1 : Int32)), d27))) (p1, δ)
def m_X12_endLevel (σ : St) (p0 : Nat) (δ : Dy) : Option Dy :=
  m_X12_endLevel_b2 σ p0 (0 : Int32) δ
set_option maxHeartbeats 4000000 in
set_option maxRecDepth 100000 in
theorem w_X12_endLevel_b143 {J : JT} {an : Option Value × St × Dy} (hI : Isj cX12_endLevel 4 RX12 "endLevel" 5 117 none an J) {β : Bu} (σ : St) (p0 : Nat) (p1 : Int32) (δ : Dy) : SJ (m_X12_endLevel_b143 σ p0 p1 δ) (PL (fun s : (Int32 × Dy) => J 62 [(0, .ref p0), (1, .int s.1)] [] β σ s.2) (PV σ an)) (J 143 [(0, .ref p0), (1, .int p1)] [] β σ δ) := by
  have hJ := hI.cor
  unfold m_X12_endLevel_b143
  refine sj (j_iinc hJ (L' := [(1, .int (p1 + (1 : Int32))), (0, .ref p0)]) dX12_endLevel_143 1 rfl (congrArg (fun z => p1 + z) ic_1) (by decide) rfl) ?_
  refine sj (j_goto hJ (tgt := 62) dX12_endLevel_146 (by decide)) ?_
  refine sj (j_sub hJ (L' := [(0, .ref p0), (1, .int (p1 + (1 : Int32)))]) [1, 0] rfl) ?_
  exact sj_end (fun h => h)
set_option maxHeartbeats 4000000 in
set_option maxRecDepth 100000 in
theorem w_X12_endLevel_b62 {J : JT} {an : Option Value × St × Dy} (hI : Isj cX12_endLevel 4 RX12 "endLevel" 5 117 none an J) {β : Bu} (σ : St) (p0 : Nat) (p1 : Int32) (δ : Dy) : SJ (m_X12_endLevel_b62 σ p0 p1 δ) (PV σ an) (J 62 [(0, .ref p0), (1, .int p1)] [] β σ δ) := by
  have hJ := hI.cor
  unfold m_X12_endLevel_b62
  refine sj_lp (G := fun s : (Int32 × Dy) => J 62 [(0, .ref p0), (1, .int s.1)] [] β σ s.2) (fun s => ?_) (p1, δ)
  refine sj (j_iload_n hJ dX12_endLevel_62 rfl 1 rfl) ?_
  refine sj (j_aload_n hJ dX12_endLevel_63 rfl 0 rfl) ?_
  refine sj_gR hJ fl_X12_70 rfl dX12_endLevel_64 (fun v4 => ?_)
  refine sj (j_aload_n hJ dX12_endLevel_67 rfl 0 rfl) ?_
  refine sj_gI hJ fl_X12_255 (Or.inl rfl) dX12_endLevel_68 (fun v5 => ?_)
  refine sj_rI hJ dX12_endLevel_71 (fun v6 => ?_)
  refine sj_if (j_icmp_ge hJ (tgt := 149) dX12_endLevel_72 (by decide)) (fun _ => ?_) (fun _ => ?_)
  · exact sj_vret hI dX12_endLevel_149 (fun h => h)
  · refine sj (j_aload_n hJ dX12_endLevel_75 rfl 0 rfl) ?_
    refine sj_gI hJ fl_X12_133 (Or.inr rfl) dX12_endLevel_76 (fun v7 => ?_)
    refine sj_if (j_if_ne hJ (tgt := 149) dX12_endLevel_79 (by decide)) (fun _ => ?_) (fun _ => ?_)
    · refine sj (j_aload_n hJ dX12_endLevel_82 rfl 0 rfl) ?_
      refine sj_gR hJ fl_X12_67 rfl dX12_endLevel_83 (fun v8 => ?_)
      refine sj (j_sipush hJ (v := 500) dX12_endLevel_86 is_500) ?_
      refine sj (j_aload_n hJ dX12_endLevel_89 rfl 0 rfl) ?_
      refine sj_gI hJ fl_X12_255 (Or.inl rfl) dX12_endLevel_90 (fun v9 => ?_)
      refine sj (j_imul hJ dX12_endLevel_93) ?_
      refine sj (j_iload_n hJ dX12_endLevel_94 rfl 1 rfl) ?_
      refine sj (j_iadd hJ dX12_endLevel_95) ?_
      refine sj_rI hJ dX12_endLevel_96 (fun v10 => ?_)
      refine sj (j_istore_n hJ (L' := [(2, .int v10), (0, .ref p0), (1, .int s.1)]) dX12_endLevel_97 rfl (by decide) rfl) ?_
      refine sj (j_aload_n hJ dX12_endLevel_98 rfl 1 rfl) ?_
      refine sj_gR hJ fl_X12_58 rfl dX12_endLevel_99 (fun v11 => ?_)
      refine sj (j_bipush hJ (v := 9) dX12_endLevel_102 ib_9) ?_
      refine sj (j_iload_n hJ dX12_endLevel_104 rfl 0 rfl) ?_
      refine sj (j_imul hJ dX12_endLevel_105) ?_
      refine sj_rI hJ dX12_endLevel_106 (fun v12 => ?_)
      refine sj (j_istore_n hJ (L' := [(3, .int v12), (2, .int v10), (0, .ref p0), (1, .int s.1)]) dX12_endLevel_107 rfl (by decide) rfl) ?_
      refine sj (j_aload_n hJ dX12_endLevel_108 rfl 2 rfl) ?_
      refine sj_gR hJ fl_X12_16 rfl dX12_endLevel_109 (fun v13 => ?_)
      refine sj (j_iload_n hJ dX12_endLevel_112 rfl 0 rfl) ?_
      refine sj_rI hJ dX12_endLevel_113 (fun v14 => ?_)
      refine sj (j_bipush hJ (v := 9) dX12_endLevel_114 ib_9) ?_
      refine sj_if (j_icmp_ne hJ (tgt := 143) dX12_endLevel_116 (by decide)) (fun _ => ?_) (fun _ => ?_)
      · refine sj (j_aload_n hJ dX12_endLevel_119 rfl 2 rfl) ?_
        refine sj (j_iload_n hJ dX12_endLevel_120 rfl 1 rfl) ?_
        refine sj (j_iload_n hJ dX12_endLevel_121 rfl 0 rfl) ?_
        refine sj_callVip hJ [.int v10, .int v12] (st := []) (fr' := 4) (lo' := 94) ml_X12_267 hc_12 (by decide) (by decide) (Nat.le_of_ble_eq_true rfl) dX12_endLevel_122 rfl (fun _ h9 => ct_X12_holds h9) (fun v15 => ?_)
        refine sj_if (j_if_ne hJ (tgt := 143) dX12_endLevel_125 (by decide)) (fun _ => ?_) (fun _ => ?_)
        · refine sj (j_aload_n hJ dX12_endLevel_128 rfl 2 rfl) ?_
          refine sj (j_aload_n hJ dX12_endLevel_129 rfl 2 rfl) ?_
          refine sj (j_iload_n hJ dX12_endLevel_130 rfl 1 rfl) ?_
          refine sj (j_aload_n hJ dX12_endLevel_131 rfl 2 rfl) ?_
          refine sj_gR hJ fl_X12_28 rfl dX12_endLevel_132 (fun v16 => ?_)
          refine sj (j_iload_n hJ dX12_endLevel_135 rfl 0 rfl) ?_
          refine sj_rI hJ dX12_endLevel_136 (fun v17 => ?_)
          refine sj_callVi hJ [.int v10, .int v17] (st := [.ref p0]) (fr' := 0) (lo' := 0) ml_X12_261 hc_12 (by decide) (by decide) (Nat.le_of_ble_eq_true rfl) dX12_endLevel_137 rfl (fun _ h9 => ct_X12_another h9) (fun v18 => ?_)
          refine sj_callVv hJ [.int v18.1] (st := []) (fr' := 0) (lo' := 0) ml_X12_297 hc_12 (by decide) (by decide) (Nat.le_of_ble_eq_true rfl) dX12_endLevel_140 rfl (fun _ h9 => ct_X12_forNext h9) (fun v19 => ?_)
          refine sj (j_sub hJ (L' := [(0, .ref p0), (1, .int s.1)]) [2, 3] rfl) ?_
          exact w_X12_endLevel_b143 hI σ p0 s.1 v19
        · refine sj (j_sub hJ (L' := [(0, .ref p0), (1, .int s.1)]) [2, 3] rfl) ?_
          exact w_X12_endLevel_b143 hI σ p0 s.1 s.2
      · refine sj (j_sub hJ (L' := [(0, .ref p0), (1, .int s.1)]) [2, 3] rfl) ?_
        exact w_X12_endLevel_b143 hI σ p0 s.1 s.2
    · exact sj_vret hI dX12_endLevel_149 (fun h => h)
set_option maxHeartbeats 4000000 in
set_option maxRecDepth 100000 in
theorem w_X12_endLevel_b2 {J : JT} {an : Option Value × St × Dy} (hI : Isj cX12_endLevel 4 RX12 "endLevel" 5 117 none an J) {β : Bu} (σ : St) (p0 : Nat) (p1 : Int32) (δ : Dy) : SJ (m_X12_endLevel_b2 σ p0 p1 δ) (PV σ an) (J 2 [(0, .ref p0), (1, .int p1)] [] β σ δ) := by
  have hJ := hI.cor
  unfold m_X12_endLevel_b2
  refine sj_lp (G := fun s : (Int32 × Dy) => J 2 [(0, .ref p0), (1, .int s.1)] [] β σ s.2) (fun s => ?_) (p1, δ)
  refine sj (j_iload_n hJ dX12_endLevel_2 rfl 1 rfl) ?_
  refine sj (j_aload_n hJ dX12_endLevel_3 rfl 0 rfl) ?_
  refine sj_gR hJ fl_X12_76 rfl dX12_endLevel_4 (fun v1 => ?_)
  refine sj (j_aload_n hJ dX12_endLevel_7 rfl 0 rfl) ?_
  refine sj_gI hJ fl_X12_255 (Or.inl rfl) dX12_endLevel_8 (fun v2 => ?_)
  refine sj_rI hJ dX12_endLevel_11 (fun v3 => ?_)
  refine sj_if (j_icmp_ge hJ (tgt := 60) dX12_endLevel_12 (by decide)) (fun _ => ?_) (fun _ => ?_)
  · refine sj (j_iconst hJ (v := 0) dX12_endLevel_60 ic_0) ?_
    refine sj (j_istore_n hJ (L' := [(1, .int (0 : Int32)), (0, .ref p0)]) dX12_endLevel_61 rfl (by decide) rfl) ?_
    refine sj (j_sub hJ (L' := [(0, .ref p0), (1, .int (0 : Int32))]) [1, 0] rfl) ?_
    refine sj_map ?_
    exact w_X12_endLevel_b62 hI σ p0 (0 : Int32) s.2
  · refine sj (j_aload_n hJ dX12_endLevel_15 rfl 0 rfl) ?_
    refine sj_gR hJ fl_X12_73 rfl dX12_endLevel_16 (fun v20 => ?_)
    refine sj (j_sipush hJ (v := 500) dX12_endLevel_19 is_500) ?_
    refine sj (j_aload_n hJ dX12_endLevel_22 rfl 0 rfl) ?_
    refine sj_gI hJ fl_X12_255 (Or.inl rfl) dX12_endLevel_23 (fun v21 => ?_)
    refine sj (j_imul hJ dX12_endLevel_26) ?_
    refine sj (j_iload_n hJ dX12_endLevel_27 rfl 1 rfl) ?_
    refine sj (j_iadd hJ dX12_endLevel_28) ?_
    refine sj_rI hJ dX12_endLevel_29 (fun v22 => ?_)
    refine sj (j_istore_n hJ (L' := [(2, .int v22), (0, .ref p0), (1, .int s.1)]) dX12_endLevel_30 rfl (by decide) rfl) ?_
    refine sj (j_aload_n hJ dX12_endLevel_31 rfl 1 rfl) ?_
    refine sj (j_dup hJ dX12_endLevel_32 rfl) ?_
    refine sj_gI hJ fl_X12_133 (Or.inr rfl) dX12_endLevel_33 (fun v23 => ?_)
    refine sj (j_aload_n hJ dX12_endLevel_36 rfl 1 rfl) ?_
    refine sj (j_iload_n hJ dX12_endLevel_37 rfl 0 rfl) ?_
    refine sj (j_aload_n hJ dX12_endLevel_38 rfl 1 rfl) ?_
    refine sj_gR hJ fl_X12_58 rfl dX12_endLevel_39 (fun v24 => ?_)
    refine sj (j_bipush hJ (v := 9) dX12_endLevel_42 ib_9) ?_
    refine sj (j_iload_n hJ dX12_endLevel_44 rfl 0 rfl) ?_
    refine sj (j_imul hJ dX12_endLevel_45) ?_
    refine sj_rI hJ dX12_endLevel_46 (fun v25 => ?_)
    refine sj_callVip hJ [.int v22, .int v25] (st := [.int v23, .ref p0]) (fr' := 4) (lo' := 94) ml_X12_267 hc_12 (by decide) (by decide) (Nat.le_of_ble_eq_true rfl) dX12_endLevel_47 rfl (fun _ h9 => ct_X12_holds h9) (fun v26 => ?_)
    refine sj (j_ior hJ dX12_endLevel_50) ?_
    refine sj_pZ hJ fl_X12_133 rfl dX12_endLevel_51 (fun d27 => ?_)
    refine sj (j_iinc hJ (L' := [(1, .int (s.1 + (1 : Int32))), (2, .int v22), (0, .ref p0)]) dX12_endLevel_54 2 rfl (congrArg (fun z => s.1 + z) ic_1) (by decide) rfl) ?_
    refine sj (j_goto hJ (tgt := 2) dX12_endLevel_57 (by decide)) ?_
    refine sj (j_sub hJ (L' := [(0, .ref p0), (1, .int (s.1 + (1 : Int32)))]) [2, 0] rfl) ?_
    exact sj_end (fun h => h)
set_option maxHeartbeats 4000000 in
set_option maxRecDepth 100000 in
theorem w_X12_endLevel {J : JT} {an : Option Value × St × Dy} (hI : Isj cX12_endLevel 4 RX12 "endLevel" 5 117 none an J) {β : Bu} (σ : St) (p0 : Nat) (δ : Dy) : SJ (m_X12_endLevel σ p0 δ) (PV σ an) (J 0 [(0, .ref p0)] [] β σ δ) := by
  have hJ := hI.cor
  unfold m_X12_endLevel
  refine sj (j_iconst hJ (v := 0) dX12_endLevel_0 ic_0) ?_
  refine sj (j_istore_n hJ (L' := [(1, .int (0 : Int32)), (0, .ref p0)]) dX12_endLevel_1 rfl (by decide) rfl) ?_
  refine sj (j_sub hJ (L' := [(0, .ref p0), (1, .int (0 : Int32))]) [1, 0] rfl) ?_
  exact w_X12_endLevel_b2 hI σ p0 (0 : Int32) δ
theorem ct_X12_endLevel {σ : St} {p0 : Nat} {δ : Dy} {r : Dy} (h : m_X12_endLevel σ p0 δ = some r) : CT yX12_endLevel cX12_endLevel 4 none 5 117 0 0 [.ref p0] σ δ (none, σ, r) := CT_of (by decide +kernel) (Nat.le_of_ble_eq_true rfl) (fun J hI => w_X12_endLevel hI σ p0 δ r h rfl)
def m_X12_commit_b31 (σ : St) (p0 : Nat) (p1 : Int32) (p2 : Int32) (p3 : Int32) (δ : Dy) : Option Dy := lp (fun (s : (Int32 × Dy)) =>
  if p2 ≤ s.1 then
    some (Sum.inr s.2)
  else
    (gR σ 12 p0 29).bind fun v7 =>
    (rI σ s.2 v7 (p1 + s.1)).bind fun v8 =>
    (chk σ 12 p0).bind fun _ => (m_X12_forNext σ p0 v8 s.2).bind fun v9 =>
    some (Sum.inl ((s.1 + (1 : Int32)), v9))) (p3, δ)
def m_X12_commit (σ : St) (p0 : Nat) (δ : Dy) : Option Dy :=
  (gI σ δ 12 p0 33).bind fun v1 =>
  (gR σ 12 p0 30).bind fun v2 =>
  (gI σ δ 12 p0 33).bind fun v3 =>
  (rI σ δ v2 v3).bind fun v4 =>
  (gI σ δ 12 p0 33).bind fun v5 =>
  (pI σ δ 12 p0 33 (v5 - (1 : Int32))).bind fun d6 =>
  m_X12_commit_b31 σ p0 ((500 : Int32) * v1) v4 (0 : Int32) d6
set_option maxHeartbeats 4000000 in
set_option maxRecDepth 100000 in
theorem w_X12_commit_b31 {J : JT} {an : Option Value × St × Dy} (hI : Isj cX12_commit 4 RX12 "commit" 1 21 none an J) {β : Bu} (σ : St) (p0 : Nat) (p1 : Int32) (p2 : Int32) (p3 : Int32) (δ : Dy) : SJ (m_X12_commit_b31 σ p0 p1 p2 p3 δ) (PV σ an) (J 31 [(0, .ref p0), (1, .int p1), (2, .int p2), (3, .int p3)] [] β σ δ) := by
  have hJ := hI.cor
  unfold m_X12_commit_b31
  refine sj_lp (G := fun s : (Int32 × Dy) => J 31 [(0, .ref p0), (1, .int p1), (2, .int p2), (3, .int s.1)] [] β σ s.2) (fun s => ?_) (p3, δ)
  refine sj (j_iload_n hJ dX12_commit_31 rfl 3 rfl) ?_
  refine sj (j_iload_n hJ dX12_commit_32 rfl 2 rfl) ?_
  refine sj_if (j_icmp_ge hJ (tgt := 54) dX12_commit_33 (by decide)) (fun _ => ?_) (fun _ => ?_)
  · exact sj_vret hI dX12_commit_54 (fun h => h)
  · refine sj (j_aload_n hJ dX12_commit_36 rfl 0 rfl) ?_
    refine sj (j_aload_n hJ dX12_commit_37 rfl 0 rfl) ?_
    refine sj_gR hJ fl_X12_79 rfl dX12_commit_38 (fun v7 => ?_)
    refine sj (j_iload_n hJ dX12_commit_41 rfl 1 rfl) ?_
    refine sj (j_iload_n hJ dX12_commit_42 rfl 3 rfl) ?_
    refine sj (j_iadd hJ dX12_commit_43) ?_
    refine sj_rI hJ dX12_commit_44 (fun v8 => ?_)
    refine sj_callVv hJ [.int v8] (st := []) (fr' := 0) (lo' := 0) ml_X12_297 hc_12 (by decide) (by decide) (Nat.le_of_ble_eq_true rfl) dX12_commit_45 rfl (fun _ h9 => ct_X12_forNext h9) (fun v9 => ?_)
    refine sj (j_iinc hJ (L' := [(3, .int (s.1 + (1 : Int32))), (0, .ref p0), (1, .int p1), (2, .int p2)]) dX12_commit_48 3 rfl (congrArg (fun z => s.1 + z) ic_1) (by decide) rfl) ?_
    refine sj (j_goto hJ (tgt := 31) dX12_commit_51 (by decide)) ?_
    refine sj (j_sub hJ (L' := [(0, .ref p0), (1, .int p1), (2, .int p2), (3, .int (s.1 + (1 : Int32)))]) [1, 2, 3, 0] rfl) ?_
    exact sj_end (fun h => h)
set_option maxHeartbeats 4000000 in
set_option maxRecDepth 100000 in
theorem w_X12_commit {J : JT} {an : Option Value × St × Dy} (hI : Isj cX12_commit 4 RX12 "commit" 1 21 none an J) {β : Bu} (σ : St) (p0 : Nat) (δ : Dy) : SJ (m_X12_commit σ p0 δ) (PV σ an) (J 0 [(0, .ref p0)] [] β σ δ) := by
  have hJ := hI.cor
  unfold m_X12_commit
  refine sj (j_sipush hJ (v := 500) dX12_commit_0 is_500) ?_
  refine sj (j_aload_n hJ dX12_commit_3 rfl 0 rfl) ?_
  refine sj_gI hJ fl_X12_255 (Or.inl rfl) dX12_commit_4 (fun v1 => ?_)
  refine sj (j_imul hJ dX12_commit_7) ?_
  refine sj (j_istore_n hJ (L' := [(1, .int ((500 : Int32) * v1)), (0, .ref p0)]) dX12_commit_8 rfl (by decide) rfl) ?_
  refine sj (j_aload_n hJ dX12_commit_9 rfl 1 rfl) ?_
  refine sj_gR hJ fl_X12_82 rfl dX12_commit_10 (fun v2 => ?_)
  refine sj (j_aload_n hJ dX12_commit_13 rfl 1 rfl) ?_
  refine sj_gI hJ fl_X12_255 (Or.inl rfl) dX12_commit_14 (fun v3 => ?_)
  refine sj_rI hJ dX12_commit_17 (fun v4 => ?_)
  refine sj (j_istore_n hJ (L' := [(2, .int v4), (1, .int ((500 : Int32) * v1)), (0, .ref p0)]) dX12_commit_18 rfl (by decide) rfl) ?_
  refine sj (j_aload_n hJ dX12_commit_19 rfl 2 rfl) ?_
  refine sj (j_dup hJ dX12_commit_20 rfl) ?_
  refine sj_gI hJ fl_X12_255 (Or.inl rfl) dX12_commit_21 (fun v5 => ?_)
  refine sj (j_iconst hJ (v := 1) dX12_commit_24 ic_1) ?_
  refine sj (j_isub hJ dX12_commit_25) ?_
  refine sj_pI hJ fl_X12_255 rfl dX12_commit_26 (fun d6 => ?_)
  refine sj (j_iconst hJ (v := 0) dX12_commit_29 ic_0) ?_
  refine sj (j_istore_n hJ (L' := [(3, .int (0 : Int32)), (2, .int v4), (1, .int ((500 : Int32) * v1)), (0, .ref p0)]) dX12_commit_30 rfl (by decide) rfl) ?_
  refine sj (j_sub hJ (L' := [(0, .ref p0), (1, .int ((500 : Int32) * v1)), (2, .int v4), (3, .int (0 : Int32))]) [3, 2, 1, 0] rfl) ?_
  exact w_X12_commit_b31 hI σ p0 ((500 : Int32) * v1) v4 (0 : Int32) d6
theorem ct_X12_commit {σ : St} {p0 : Nat} {δ : Dy} {r : Dy} (h : m_X12_commit σ p0 δ = some r) : CT yX12_commit cX12_commit 4 none 1 21 0 0 [.ref p0] σ δ (none, σ, r) := CT_of (by decide +kernel) (Nat.le_of_ble_eq_true rfl) (fun J hI => w_X12_commit hI σ p0 δ r h rfl)
def m_X12_finish_b144 (σ : St) (p0 : Nat) (p1 : Int32) (q0 : Nat) (q1 : Int32) (q2 : Int32) (δ : Dy) : Option ((Int32 × Dy) ⊕ Dy) :=
  (wI σ δ q0 q1 q2).bind fun d18 =>
  some (Sum.inl ((p1 + (1 : Int32)), d18))
def m_X12_finish_b96 (σ : St) (p0 : Nat) (p1 : Int32) (δ : Dy) : Option Dy := lp (fun (s : (Int32 × Dy)) =>
  (gR σ 12 p0 0).bind fun v8 =>
  (rI σ s.2 v8 (121 : Int32)).bind fun v9 =>
  if v9 ≤ s.1 then
    (gR σ 12 p0 0).bind fun v10 =>
    (rI σ s.2 v10 (7039 : Int32)).bind fun v11 =>
    (wI σ s.2 v10 (7039 : Int32) (v11 + (1 : Int32))).bind fun d12 =>
    some (Sum.inr d12)
  else
    (gR σ 12 p0 0).bind fun v13 =>
    (gR σ 12 p0 0).bind fun v14 =>
    (rI σ s.2 v14 ((522 : Int32) + s.1)).bind fun v15 =>
    if v15 = (1 : Int32) then
      (gR σ 12 p0 0).bind fun v16 =>
      (rI σ s.2 v16 ((422 : Int32) + s.1)).bind fun v17 =>
      m_X12_finish_b144 σ p0 s.1 v13 ((422 : Int32) + s.1) v17 s.2
    else
      m_X12_finish_b144 σ p0 s.1 v13 ((422 : Int32) + s.1) (0 : Int32) s.2) (p1, δ)
def m_X12_finish_b28 (σ : St) (p0 : Nat) (p1 : Int32) (p2 : Int32) (δ : Dy) : Option ((Int32 × Dy) ⊕ Dy) := lp (fun (s : (Int32 × Dy)) =>
  if (9 : Int32) ≤ s.1 then
    some (Sum.inr (Sum.inl ((p1 + (1 : Int32)), s.2)))
  else
    (gR σ 12 p0 0).bind fun v21 =>
    (gR σ 12 p0 21).bind fun v22 =>
    (gR σ 12 p0 29).bind fun v23 =>
    (rI σ s.2 v23 p1).bind fun v24 =>
    (rI σ s.2 v22 (((9 : Int32) * v24) + s.1)).bind fun v25 =>
    (wI σ s.2 v21 (((7042 : Int32) + ((9 : Int32) * p1)) + s.1) v25).bind fun d26 =>
    some (Sum.inl ((s.1 + (1 : Int32)), d26))) (p2, δ)
def m_X12_finish_b16 (σ : St) (p0 : Nat) (p1 : Int32) (δ : Dy) : Option Dy := lp (fun (s : (Int32 × Dy)) =>
  (gR σ 12 p0 30).bind fun v5 =>
  (rI σ s.2 v5 (0 : Int32)).bind fun v6 =>
  if v6 ≤ s.1 then
    (gI σ s.2 12 p0 35).bind fun v7 =>
    if v7 = 0 then
      (m_X12_finish_b96 σ p0 (0 : Int32) s.2).bind fun r => some (Sum.inr r)
    else
      (gR σ 12 p0 0).bind fun v19 =>
      (wI σ s.2 v19 (7040 : Int32) (1 : Int32)).bind fun d20 =>
      some (Sum.inr d20)
  else
    m_X12_finish_b28 σ p0 s.1 (0 : Int32) s.2) (p1, δ)
def m_X12_finish (σ : St) (p0 : Nat) (δ : Dy) : Option Dy :=
  (gR σ 12 p0 0).bind fun v1 =>
  (gR σ 12 p0 30).bind fun v2 =>
  (rI σ δ v2 (0 : Int32)).bind fun v3 =>
  (wI σ δ v1 (7041 : Int32) v3).bind fun d4 =>
  m_X12_finish_b16 σ p0 (0 : Int32) d4
set_option maxHeartbeats 4000000 in
set_option maxRecDepth 100000 in
theorem w_X12_finish_b144 {J : JT} {an : Option Value × St × Dy} (hI : Isj cX12_finish 3 RX12 "finish" 0 0 none an J) {β : Bu} (σ : St) (p0 : Nat) (p1 : Int32) (q0 : Nat) (q1 : Int32) (q2 : Int32) (δ : Dy) : SJ (m_X12_finish_b144 σ p0 p1 q0 q1 q2 δ) (PL (fun s : (Int32 × Dy) => J 96 [(0, .ref p0), (1, .int s.1)] [] β σ s.2) (PV σ an)) (J 144 [(0, .ref p0), (1, .int p1)] [.int q2, .int q1, .ref q0] β σ δ) := by
  have hJ := hI.cor
  unfold m_X12_finish_b144
  refine sj_wI hJ dX12_finish_144 (fun d18 => ?_)
  refine sj (j_iinc hJ (L' := [(1, .int (p1 + (1 : Int32))), (0, .ref p0)]) dX12_finish_145 1 rfl (congrArg (fun z => p1 + z) ic_1) (by decide) rfl) ?_
  refine sj (j_goto hJ (tgt := 96) dX12_finish_148 (by decide)) ?_
  refine sj (j_sub hJ (L' := [(0, .ref p0), (1, .int (p1 + (1 : Int32)))]) [1, 0] rfl) ?_
  exact sj_end (fun h => h)
set_option maxHeartbeats 4000000 in
set_option maxRecDepth 100000 in
theorem w_X12_finish_b96 {J : JT} {an : Option Value × St × Dy} (hI : Isj cX12_finish 3 RX12 "finish" 0 0 none an J) {β : Bu} (σ : St) (p0 : Nat) (p1 : Int32) (δ : Dy) : SJ (m_X12_finish_b96 σ p0 p1 δ) (PV σ an) (J 96 [(0, .ref p0), (1, .int p1)] [] β σ δ) := by
  have hJ := hI.cor
  unfold m_X12_finish_b96
  refine sj_lp (G := fun s : (Int32 × Dy) => J 96 [(0, .ref p0), (1, .int s.1)] [] β σ s.2) (fun s => ?_) (p1, δ)
  refine sj (j_iload_n hJ dX12_finish_96 rfl 1 rfl) ?_
  refine sj (j_aload_n hJ dX12_finish_97 rfl 0 rfl) ?_
  refine sj_gR hJ fl_X12_7 rfl dX12_finish_98 (fun v8 => ?_)
  refine sj (j_bipush hJ (v := 121) dX12_finish_101 ib_121) ?_
  refine sj_rI hJ dX12_finish_103 (fun v9 => ?_)
  refine sj_if (j_icmp_ge hJ (tgt := 151) dX12_finish_104 (by decide)) (fun _ => ?_) (fun _ => ?_)
  · refine sj (j_aload_n hJ dX12_finish_151 rfl 0 rfl) ?_
    refine sj_gR hJ fl_X12_7 rfl dX12_finish_152 (fun v10 => ?_)
    refine sj (j_sipush hJ (v := 7039) dX12_finish_155 is_7039) ?_
    refine sj (j_dup2 hJ dX12_finish_158 rfl rfl) ?_
    refine sj_rI hJ dX12_finish_159 (fun v11 => ?_)
    refine sj (j_iconst hJ (v := 1) dX12_finish_160 ic_1) ?_
    refine sj (j_iadd hJ dX12_finish_161) ?_
    refine sj_wI hJ dX12_finish_162 (fun d12 => ?_)
    exact sj_vret hI dX12_finish_163 (fun h => h)
  · refine sj (j_aload_n hJ dX12_finish_107 rfl 0 rfl) ?_
    refine sj_gR hJ fl_X12_7 rfl dX12_finish_108 (fun v13 => ?_)
    refine sj (j_sipush hJ (v := 422) dX12_finish_111 is_422) ?_
    refine sj (j_iload_n hJ dX12_finish_114 rfl 1 rfl) ?_
    refine sj (j_iadd hJ dX12_finish_115) ?_
    refine sj (j_aload_n hJ dX12_finish_116 rfl 0 rfl) ?_
    refine sj_gR hJ fl_X12_7 rfl dX12_finish_117 (fun v14 => ?_)
    refine sj (j_sipush hJ (v := 522) dX12_finish_120 is_522) ?_
    refine sj (j_iload_n hJ dX12_finish_123 rfl 1 rfl) ?_
    refine sj (j_iadd hJ dX12_finish_124) ?_
    refine sj_rI hJ dX12_finish_125 (fun v15 => ?_)
    refine sj (j_iconst hJ (v := 1) dX12_finish_126 ic_1) ?_
    refine sj_if (j_icmp_ne hJ (tgt := 143) dX12_finish_127 (by decide)) (fun _ => ?_) (fun _ => ?_)
    · refine sj (j_aload_n hJ dX12_finish_130 rfl 0 rfl) ?_
      refine sj_gR hJ fl_X12_7 rfl dX12_finish_131 (fun v16 => ?_)
      refine sj (j_sipush hJ (v := 422) dX12_finish_134 is_422) ?_
      refine sj (j_iload_n hJ dX12_finish_137 rfl 1 rfl) ?_
      refine sj (j_iadd hJ dX12_finish_138) ?_
      refine sj_rI hJ dX12_finish_139 (fun v17 => ?_)
      refine sj (j_goto hJ (tgt := 144) dX12_finish_140 (by decide)) ?_
      exact w_X12_finish_b144 hI σ p0 s.1 v13 ((422 : Int32) + s.1) v17 s.2
    · refine sj (j_iconst hJ (v := 0) dX12_finish_143 ic_0) ?_
      exact w_X12_finish_b144 hI σ p0 s.1 v13 ((422 : Int32) + s.1) (0 : Int32) s.2
set_option maxHeartbeats 4000000 in
set_option maxRecDepth 100000 in
theorem w_X12_finish_b28 {J : JT} {an : Option Value × St × Dy} (hI : Isj cX12_finish 3 RX12 "finish" 0 0 none an J) {β : Bu} (σ : St) (p0 : Nat) (p1 : Int32) (p2 : Int32) (δ : Dy) : SJ (m_X12_finish_b28 σ p0 p1 p2 δ) (PL (fun s : (Int32 × Dy) => J 16 [(0, .ref p0), (1, .int s.1)] [] β σ s.2) (PV σ an)) (J 28 [(0, .ref p0), (1, .int p1), (2, .int p2)] [] β σ δ) := by
  have hJ := hI.cor
  unfold m_X12_finish_b28
  refine sj_lp (G := fun s : (Int32 × Dy) => J 28 [(0, .ref p0), (1, .int p1), (2, .int s.1)] [] β σ s.2) (fun s => ?_) (p2, δ)
  refine sj (j_iload_n hJ dX12_finish_28 rfl 2 rfl) ?_
  refine sj (j_bipush hJ (v := 9) dX12_finish_29 ib_9) ?_
  refine sj_if (j_icmp_ge hJ (tgt := 71) dX12_finish_31 (by decide)) (fun _ => ?_) (fun _ => ?_)
  · refine sj (j_iinc hJ (L' := [(1, .int (p1 + (1 : Int32))), (0, .ref p0), (2, .int s.1)]) dX12_finish_71 1 rfl (congrArg (fun z => p1 + z) ic_1) (by decide) rfl) ?_
    refine sj (j_goto hJ (tgt := 16) dX12_finish_74 (by decide)) ?_
    refine sj (j_sub hJ (L' := [(0, .ref p0), (1, .int (p1 + (1 : Int32)))]) [1, 0] rfl) ?_
    exact sj_end (fun h => h)
  · refine sj (j_aload_n hJ dX12_finish_34 rfl 0 rfl) ?_
    refine sj_gR hJ fl_X12_7 rfl dX12_finish_35 (fun v21 => ?_)
    refine sj (j_sipush hJ (v := 7042) dX12_finish_38 is_7042) ?_
    refine sj (j_bipush hJ (v := 9) dX12_finish_41 ib_9) ?_
    refine sj (j_iload_n hJ dX12_finish_43 rfl 1 rfl) ?_
    refine sj (j_imul hJ dX12_finish_44) ?_
    refine sj (j_iadd hJ dX12_finish_45) ?_
    refine sj (j_iload_n hJ dX12_finish_46 rfl 2 rfl) ?_
    refine sj (j_iadd hJ dX12_finish_47) ?_
    refine sj (j_aload_n hJ dX12_finish_48 rfl 0 rfl) ?_
    refine sj_gR hJ fl_X12_58 rfl dX12_finish_49 (fun v22 => ?_)
    refine sj (j_bipush hJ (v := 9) dX12_finish_52 ib_9) ?_
    refine sj (j_aload_n hJ dX12_finish_54 rfl 0 rfl) ?_
    refine sj_gR hJ fl_X12_79 rfl dX12_finish_55 (fun v23 => ?_)
    refine sj (j_iload_n hJ dX12_finish_58 rfl 1 rfl) ?_
    refine sj_rI hJ dX12_finish_59 (fun v24 => ?_)
    refine sj (j_imul hJ dX12_finish_60) ?_
    refine sj (j_iload_n hJ dX12_finish_61 rfl 2 rfl) ?_
    refine sj (j_iadd hJ dX12_finish_62) ?_
    refine sj_rI hJ dX12_finish_63 (fun v25 => ?_)
    refine sj_wI hJ dX12_finish_64 (fun d26 => ?_)
    refine sj (j_iinc hJ (L' := [(2, .int (s.1 + (1 : Int32))), (0, .ref p0), (1, .int p1)]) dX12_finish_65 2 rfl (congrArg (fun z => s.1 + z) ic_1) (by decide) rfl) ?_
    refine sj (j_goto hJ (tgt := 28) dX12_finish_68 (by decide)) ?_
    refine sj (j_sub hJ (L' := [(0, .ref p0), (1, .int p1), (2, .int (s.1 + (1 : Int32)))]) [1, 2, 0] rfl) ?_
    exact sj_end (fun h => h)
set_option maxHeartbeats 4000000 in
set_option maxRecDepth 100000 in
theorem w_X12_finish_b16 {J : JT} {an : Option Value × St × Dy} (hI : Isj cX12_finish 3 RX12 "finish" 0 0 none an J) {β : Bu} (σ : St) (p0 : Nat) (p1 : Int32) (δ : Dy) : SJ (m_X12_finish_b16 σ p0 p1 δ) (PV σ an) (J 16 [(0, .ref p0), (1, .int p1)] [] β σ δ) := by
  have hJ := hI.cor
  unfold m_X12_finish_b16
  refine sj_lp (G := fun s : (Int32 × Dy) => J 16 [(0, .ref p0), (1, .int s.1)] [] β σ s.2) (fun s => ?_) (p1, δ)
  refine sj (j_iload_n hJ dX12_finish_16 rfl 1 rfl) ?_
  refine sj (j_aload_n hJ dX12_finish_17 rfl 0 rfl) ?_
  refine sj_gR hJ fl_X12_82 rfl dX12_finish_18 (fun v5 => ?_)
  refine sj (j_iconst hJ (v := 0) dX12_finish_21 ic_0) ?_
  refine sj_rI hJ dX12_finish_22 (fun v6 => ?_)
  refine sj_if (j_icmp_ge hJ (tgt := 77) dX12_finish_23 (by decide)) (fun _ => ?_) (fun _ => ?_)
  · refine sj (j_aload_n hJ dX12_finish_77 rfl 0 rfl) ?_
    refine sj_gI hJ fl_X12_133 (Or.inr rfl) dX12_finish_78 (fun v7 => ?_)
    refine sj_if (j_if_eq hJ (tgt := 94) dX12_finish_81 (by decide)) (fun _ => ?_) (fun _ => ?_)
    · refine sj (j_iconst hJ (v := 0) dX12_finish_94 ic_0) ?_
      refine sj (j_istore_n hJ (L' := [(1, .int (0 : Int32)), (0, .ref p0)]) dX12_finish_95 rfl (by decide) rfl) ?_
      refine sj (j_sub hJ (L' := [(0, .ref p0), (1, .int (0 : Int32))]) [1, 0] rfl) ?_
      refine sj_map ?_
      exact w_X12_finish_b96 hI σ p0 (0 : Int32) s.2
    · refine sj (j_aload_n hJ dX12_finish_84 rfl 0 rfl) ?_
      refine sj_gR hJ fl_X12_7 rfl dX12_finish_85 (fun v19 => ?_)
      refine sj (j_sipush hJ (v := 7040) dX12_finish_88 is_7040) ?_
      refine sj (j_iconst hJ (v := 1) dX12_finish_91 ic_1) ?_
      refine sj_wI hJ dX12_finish_92 (fun d20 => ?_)
      exact sj_vret hI dX12_finish_93 (fun h => h)
  · refine sj (j_iconst hJ (v := 0) dX12_finish_26 ic_0) ?_
    refine sj (j_istore_n hJ (L' := [(2, .int (0 : Int32)), (0, .ref p0), (1, .int s.1)]) dX12_finish_27 rfl (by decide) rfl) ?_
    refine sj (j_sub hJ (L' := [(0, .ref p0), (1, .int s.1), (2, .int (0 : Int32))]) [1, 2, 0] rfl) ?_
    exact w_X12_finish_b28 hI σ p0 s.1 (0 : Int32) s.2
set_option maxHeartbeats 4000000 in
set_option maxRecDepth 100000 in
theorem w_X12_finish {J : JT} {an : Option Value × St × Dy} (hI : Isj cX12_finish 3 RX12 "finish" 0 0 none an J) {β : Bu} (σ : St) (p0 : Nat) (δ : Dy) : SJ (m_X12_finish σ p0 δ) (PV σ an) (J 0 [(0, .ref p0)] [] β σ δ) := by
  have hJ := hI.cor
  unfold m_X12_finish
  refine sj (j_aload_n hJ dX12_finish_0 rfl 0 rfl) ?_
  refine sj_gR hJ fl_X12_7 rfl dX12_finish_1 (fun v1 => ?_)
  refine sj (j_sipush hJ (v := 7041) dX12_finish_4 is_7041) ?_
  refine sj (j_aload_n hJ dX12_finish_7 rfl 0 rfl) ?_
  refine sj_gR hJ fl_X12_82 rfl dX12_finish_8 (fun v2 => ?_)
  refine sj (j_iconst hJ (v := 0) dX12_finish_11 ic_0) ?_
  refine sj_rI hJ dX12_finish_12 (fun v3 => ?_)
  refine sj_wI hJ dX12_finish_13 (fun d4 => ?_)
  refine sj (j_iconst hJ (v := 0) dX12_finish_14 ic_0) ?_
  refine sj (j_istore_n hJ (L' := [(1, .int (0 : Int32)), (0, .ref p0)]) dX12_finish_15 rfl (by decide) rfl) ?_
  refine sj (j_sub hJ (L' := [(0, .ref p0), (1, .int (0 : Int32))]) [1, 0] rfl) ?_
  exact w_X12_finish_b16 hI σ p0 (0 : Int32) d4
theorem ct_X12_finish {σ : St} {p0 : Nat} {δ : Dy} {r : Dy} (h : m_X12_finish σ p0 δ = some r) : CT yX12_finish cX12_finish 3 none 0 0 0 0 [.ref p0] σ δ (none, σ, r) := CT_of (by decide +kernel) (Nat.le_of_ble_eq_true rfl) (fun J hI => w_X12_finish hI σ p0 δ r h rfl)
def m_X12_run_b243 (σ : St) (p0 : Nat) (q0 : Int32) (δ : Dy) : Option ((Int32 × Dy) ⊕ Dy) :=
  (gI σ δ 12 p0 33).bind fun v36 =>
  if v36 ≤ 0 then
    some (Sum.inl (q0, δ))
  else
    (gI σ δ 12 p0 35).bind fun v37 =>
    if v37 = 0 then
      (chk σ 12 p0).bind fun _ => (m_X12_commit σ p0 δ).bind fun v38 =>
      some (Sum.inl (q0, v38))
    else
      some (Sum.inl (q0, δ))
def m_X12_run_b238 (σ : St) (p0 : Nat) (δ : Dy) : Option ((Int32 × Dy) ⊕ Dy) :=
  m_X12_run_b243 σ p0 (1 : Int32) δ
def m_X12_run_b208 (σ : St) (p0 : Nat) (p1 : Int32) (δ : Dy) : Option ((Int32 × Dy) ⊕ Dy) :=
  (gR σ 12 p0 24).bind fun v31 =>
  (gI σ δ 12 p0 33).bind fun v32 =>
  (rI σ δ v31 v32).bind fun v33 =>
  if v33 = 0 then
    (chk σ 12 p0).bind fun _ => (m_X12_endLevel σ p0 δ).bind fun v34 =>
    (gI σ v34 12 p0 33).bind fun v35 =>
    if 0 < v35 then
      m_X12_run_b238 σ p0 v34
    else
      (gI σ v34 12 p0 35).bind fun v39 =>
      if v39 = 0 then
        m_X12_run_b243 σ p0 (0 : Int32) v34
      else
        m_X12_run_b238 σ p0 v34
  else
    some (Sum.inl (p1, δ))
def m_X12_run_b153 (σ : St) (p0 : Nat) (p1 : Int32) (δ : Dy) : Option ((Int32 × Dy) ⊕ Dy) :=
  (gI σ δ 12 p0 35).bind fun v22 =>
  if v22 = 0 then
    (gR σ 12 p0 24).bind fun v23 =>
    (gI σ δ 12 p0 33).bind fun v24 =>
    (rI σ δ v23 v24).bind fun v25 =>
    if v25 ≤ 0 then
      (chk σ 12 p0).bind fun _ => (m_X12_wakeAll σ p0 δ).bind fun v26 =>
      (gR σ 12 p0 24).bind fun v27 =>
      (gI σ v26 12 p0 33).bind fun v28 =>
      (rI σ v26 v27 v28).bind fun v29 =>
      if v29 = 0 then
        (chk σ 12 p0).bind fun _ => (m_X12_assume σ p0 v26).bind fun v30 =>
        m_X12_run_b208 σ p0 p1 v30
      else
        m_X12_run_b208 σ p0 p1 v26
    else
      (chk σ 12 p0).bind fun _ => (m_X12_dequeue σ p0 δ).bind fun v40 =>
      (chk σ 12 p0).bind fun _ => (m_X12_act σ p0 v40.1 v40.2).bind fun v41 =>
      some (Sum.inl (p1, v41))
  else
    some (Sum.inl ((0 : Int32), δ))
def m_X12_run_b128 (σ : St) (p0 : Nat) (p1 : Int32) (δ : Dy) : Option Dy := lp (fun (s : (Int32 × Dy)) =>
  if s.1 = 0 then
    (chk σ 12 p0).bind fun _ => (m_X12_finish σ p0 s.2).bind fun v20 =>
    some (Sum.inr v20)
  else
    (gI σ s.2 12 p0 35).bind fun v21 =>
    if v21 = 0 then
      m_X12_run_b153 σ p0 s.1 s.2
    else
      (gI σ s.2 12 p0 33).bind fun v42 =>
      if v42 ≤ 0 then
        m_X12_run_b153 σ p0 s.1 s.2
      else
        (chk σ 12 p0).bind fun _ => (m_X12_forget σ p0 s.2).bind fun v43 =>
        some (Sum.inl (s.1, v43))) (p1, δ)
def m_X12_run_b105 (σ : St) (p0 : Nat) (p1 : Int32) (δ : Dy) : Option Dy := lp (fun (s : (Int32 × Dy)) =>
  (gI σ s.2 12 p0 22).bind fun v19 =>
  if v19 ≤ s.1 then
    (m_X12_run_b128 σ p0 (1 : Int32) s.2).bind fun r => some (Sum.inr r)
  else
    (gR σ 12 p0 23).bind fun v44 =>
    (wI σ s.2 v44 s.1 s.1).bind fun d45 =>
    some (Sum.inl ((s.1 + (1 : Int32)), d45))) (p1, δ)
def m_X12_run_b70 (σ : St) (p0 : Nat) (p1 : Int32) (δ : Dy) : Option Dy := lp (fun (s : (Int32 × Dy)) =>
  (gI σ s.2 12 p0 22).bind fun v18 =>
  if ((9 : Int32) * v18) ≤ s.1 then
    (m_X12_run_b105 σ p0 (0 : Int32) s.2).bind fun r => some (Sum.inr r)
  else
    (gR σ 12 p0 21).bind fun v46 =>
    (gR σ 12 p0 0).bind fun v47 =>
    (rI σ s.2 v47 ((7042 : Int32) + s.1)).bind fun v48 =>
    (wI σ s.2 v46 s.1 v48).bind fun d49 =>
    some (Sum.inl ((s.1 + (1 : Int32)), d49))) (p1, δ)
def m_X12_run (σ : St) (p0 : Nat) (δ : Dy) : Option Dy :=
  (pI σ δ 12 p0 33 (0 : Int32)).bind fun d1 =>
  (pI σ d1 12 p0 34 (0 : Int32)).bind fun d2 =>
  (pI σ d2 12 p0 44 (0 : Int32)).bind fun d3 =>
  (pZ σ d3 12 p0 35 (0 : Int32)).bind fun d4 =>
  (pI σ d4 12 p0 37 (0 : Int32)).bind fun d5 =>
  (gR σ 12 p0 0).bind fun v6 =>
  (rI σ d5 v6 (7041 : Int32)).bind fun v7 =>
  (pI σ d5 12 p0 22 v7).bind fun d8 =>
  (gR σ 12 p0 24).bind fun v9 =>
  (gI σ d8 12 p0 22).bind fun v10 =>
  (wI σ d8 v9 (0 : Int32) v10).bind fun d11 =>
  (gR σ 12 p0 26).bind fun v12 =>
  (wI σ d11 v12 (0 : Int32) (0 : Int32)).bind fun d13 =>
  (gR σ 12 p0 28).bind fun v14 =>
  (wI σ d13 v14 (0 : Int32) (0 : Int32)).bind fun d15 =>
  (gR σ 12 p0 30).bind fun v16 =>
  (wI σ d15 v16 (0 : Int32) (0 : Int32)).bind fun d17 =>
  m_X12_run_b70 σ p0 (0 : Int32) d17
set_option maxHeartbeats 4000000 in
set_option maxRecDepth 100000 in
theorem w_X12_run_b243 {J : JT} {an : Option Value × St × Dy} (hI : Isj cX12_run 2 RX12 "run" 8 194 none an J) {β : Bu} (σ : St) (p0 : Nat) (q0 : Int32) (δ : Dy) : SJ (m_X12_run_b243 σ p0 q0 δ) (PL (fun s : (Int32 × Dy) => J 128 [(0, .ref p0), (1, .int s.1)] [] β σ s.2) (PV σ an)) (J 243 [(0, .ref p0)] [.int q0] β σ δ) := by
  have hJ := hI.cor
  unfold m_X12_run_b243
  refine sj (j_istore_n hJ (L' := [(1, .int q0), (0, .ref p0)]) dX12_run_243 rfl (by decide) rfl) ?_
  refine sj (j_aload_n hJ dX12_run_244 rfl 1 rfl) ?_
  refine sj_gI hJ fl_X12_255 (Or.inl rfl) dX12_run_245 (fun v36 => ?_)
  refine sj_if (j_if_le hJ (tgt := 128) dX12_run_248 (by decide)) (fun _ => ?_) (fun _ => ?_)
  · refine sj (j_sub hJ (L' := [(0, .ref p0), (1, .int q0)]) [1, 0] rfl) ?_
    exact sj_end (fun h => h)
  · refine sj (j_aload_n hJ dX12_run_251 rfl 1 rfl) ?_
    refine sj_gI hJ fl_X12_133 (Or.inr rfl) dX12_run_252 (fun v37 => ?_)
    refine sj_if (j_if_ne hJ (tgt := 128) dX12_run_255 (by decide)) (fun _ => ?_) (fun _ => ?_)
    · refine sj (j_aload_n hJ dX12_run_258 rfl 1 rfl) ?_
      refine sj_callVv hJ [] (st := []) (fr' := 1) (lo' := 21) ml_X12_333 hc_12 (by decide) (by decide) (Nat.le_of_ble_eq_true rfl) dX12_run_259 rfl (fun _ h9 => ct_X12_commit h9) (fun v38 => ?_)
      refine sj (j_goto hJ (tgt := 128) dX12_run_262 (by decide)) ?_
      refine sj (j_sub hJ (L' := [(0, .ref p0), (1, .int q0)]) [1, 0] rfl) ?_
      exact sj_end (fun h => h)
    · refine sj (j_sub hJ (L' := [(0, .ref p0), (1, .int q0)]) [1, 0] rfl) ?_
      exact sj_end (fun h => h)
set_option maxHeartbeats 4000000 in
set_option maxRecDepth 100000 in
theorem w_X12_run_b238 {J : JT} {an : Option Value × St × Dy} (hI : Isj cX12_run 2 RX12 "run" 8 194 none an J) {β : Bu} (σ : St) (p0 : Nat) (δ : Dy) : SJ (m_X12_run_b238 σ p0 δ) (PL (fun s : (Int32 × Dy) => J 128 [(0, .ref p0), (1, .int s.1)] [] β σ s.2) (PV σ an)) (J 238 [(0, .ref p0)] [] β σ δ) := by
  have hJ := hI.cor
  unfold m_X12_run_b238
  refine sj (j_iconst hJ (v := 1) dX12_run_238 ic_1) ?_
  refine sj (j_goto hJ (tgt := 243) dX12_run_239 (by decide)) ?_
  exact w_X12_run_b243 hI σ p0 (1 : Int32) δ
set_option maxHeartbeats 4000000 in
set_option maxRecDepth 100000 in
theorem w_X12_run_b208 {J : JT} {an : Option Value × St × Dy} (hI : Isj cX12_run 2 RX12 "run" 8 194 none an J) {β : Bu} (σ : St) (p0 : Nat) (p1 : Int32) (δ : Dy) : SJ (m_X12_run_b208 σ p0 p1 δ) (PL (fun s : (Int32 × Dy) => J 128 [(0, .ref p0), (1, .int s.1)] [] β σ s.2) (PV σ an)) (J 208 [(0, .ref p0), (1, .int p1)] [] β σ δ) := by
  have hJ := hI.cor
  unfold m_X12_run_b208
  refine sj (j_aload_n hJ dX12_run_208 rfl 0 rfl) ?_
  refine sj_gR hJ fl_X12_64 rfl dX12_run_209 (fun v31 => ?_)
  refine sj (j_aload_n hJ dX12_run_212 rfl 0 rfl) ?_
  refine sj_gI hJ fl_X12_255 (Or.inl rfl) dX12_run_213 (fun v32 => ?_)
  refine sj_rI hJ dX12_run_216 (fun v33 => ?_)
  refine sj_if (j_if_ne hJ (tgt := 128) dX12_run_217 (by decide)) (fun _ => ?_) (fun _ => ?_)
  · refine sj (j_aload_n hJ dX12_run_220 rfl 0 rfl) ?_
    refine sj_callVv hJ [] (st := []) (fr' := 5) (lo' := 117) ml_X12_330 hc_12 (by decide) (by decide) (Nat.le_of_ble_eq_true rfl) dX12_run_221 rfl (fun _ h9 => ct_X12_endLevel h9) (fun v34 => ?_)
    refine sj (j_aload_n hJ dX12_run_224 rfl 0 rfl) ?_
    refine sj_gI hJ fl_X12_255 (Or.inl rfl) dX12_run_225 (fun v35 => ?_)
    refine sj_if (j_if_gt hJ (tgt := 238) dX12_run_228 (by decide)) (fun _ => ?_) (fun _ => ?_)
    · refine sj (j_sub hJ (L' := [(0, .ref p0)]) [0] rfl) ?_
      exact w_X12_run_b238 hI σ p0 v34
    · refine sj (j_aload_n hJ dX12_run_231 rfl 0 rfl) ?_
      refine sj_gI hJ fl_X12_133 (Or.inr rfl) dX12_run_232 (fun v39 => ?_)
      refine sj_if (j_if_eq hJ (tgt := 242) dX12_run_235 (by decide)) (fun _ => ?_) (fun _ => ?_)
      · refine sj (j_iconst hJ (v := 0) dX12_run_242 ic_0) ?_
        refine sj (j_sub hJ (L' := [(0, .ref p0)]) [0] rfl) ?_
        exact w_X12_run_b243 hI σ p0 (0 : Int32) v34
      · refine sj (j_sub hJ (L' := [(0, .ref p0)]) [0] rfl) ?_
        exact w_X12_run_b238 hI σ p0 v34
  · exact sj_end (fun h => h)
set_option maxHeartbeats 4000000 in
set_option maxRecDepth 100000 in
theorem w_X12_run_b153 {J : JT} {an : Option Value × St × Dy} (hI : Isj cX12_run 2 RX12 "run" 8 194 none an J) {β : Bu} (σ : St) (p0 : Nat) (p1 : Int32) (δ : Dy) : SJ (m_X12_run_b153 σ p0 p1 δ) (PL (fun s : (Int32 × Dy) => J 128 [(0, .ref p0), (1, .int s.1)] [] β σ s.2) (PV σ an)) (J 153 [(0, .ref p0), (1, .int p1)] [] β σ δ) := by
  have hJ := hI.cor
  unfold m_X12_run_b153
  refine sj (j_aload_n hJ dX12_run_153 rfl 0 rfl) ?_
  refine sj_gI hJ fl_X12_133 (Or.inr rfl) dX12_run_154 (fun v22 => ?_)
  refine sj_if (j_if_eq hJ (tgt := 165) dX12_run_157 (by decide)) (fun _ => ?_) (fun _ => ?_)
  · refine sj (j_aload_n hJ dX12_run_165 rfl 0 rfl) ?_
    refine sj_gR hJ fl_X12_64 rfl dX12_run_166 (fun v23 => ?_)
    refine sj (j_aload_n hJ dX12_run_169 rfl 0 rfl) ?_
    refine sj_gI hJ fl_X12_255 (Or.inl rfl) dX12_run_170 (fun v24 => ?_)
    refine sj_rI hJ dX12_run_173 (fun v25 => ?_)
    refine sj_if (j_if_le hJ (tgt := 188) dX12_run_174 (by decide)) (fun _ => ?_) (fun _ => ?_)
    · refine sj (j_aload_n hJ dX12_run_188 rfl 0 rfl) ?_
      refine sj_callVv hJ [] (st := []) (fr' := 6) (lo' := 141) ml_X12_324 hc_12 (by decide) (by decide) (Nat.le_of_ble_eq_true rfl) dX12_run_189 rfl (fun _ h9 => ct_X12_wakeAll h9) (fun v26 => ?_)
      refine sj (j_aload_n hJ dX12_run_192 rfl 0 rfl) ?_
      refine sj_gR hJ fl_X12_64 rfl dX12_run_193 (fun v27 => ?_)
      refine sj (j_aload_n hJ dX12_run_196 rfl 0 rfl) ?_
      refine sj_gI hJ fl_X12_255 (Or.inl rfl) dX12_run_197 (fun v28 => ?_)
      refine sj_rI hJ dX12_run_200 (fun v29 => ?_)
      refine sj_if (j_if_ne hJ (tgt := 208) dX12_run_201 (by decide)) (fun _ => ?_) (fun _ => ?_)
      · refine sj (j_aload_n hJ dX12_run_204 rfl 0 rfl) ?_
        refine sj_callVv hJ [] (st := []) (fr' := 5) (lo' := 117) ml_X12_327 hc_12 (by decide) (by decide) (Nat.le_of_ble_eq_true rfl) dX12_run_205 rfl (fun _ h9 => ct_X12_assume h9) (fun v30 => ?_)
        exact w_X12_run_b208 hI σ p0 p1 v30
      · exact w_X12_run_b208 hI σ p0 p1 v26
    · refine sj (j_aload_n hJ dX12_run_177 rfl 0 rfl) ?_
      refine sj (j_aload_n hJ dX12_run_178 rfl 0 rfl) ?_
      refine sj_callVi hJ [] (st := [.ref p0]) (fr' := 0) (lo' := 0) ml_X12_318 hc_12 (by decide) (by decide) (Nat.le_of_ble_eq_true rfl) dX12_run_179 rfl (fun _ h9 => ct_X12_dequeue h9) (fun v40 => ?_)
      refine sj_callVv hJ [.int v40.1] (st := []) (fr' := 7) (lo' := 169) ml_X12_321 hc_12 (by decide) (by decide) (Nat.le_of_ble_eq_true rfl) dX12_run_182 rfl (fun _ h9 => ct_X12_act h9) (fun v41 => ?_)
      refine sj (j_goto hJ (tgt := 128) dX12_run_185 (by decide)) ?_
      exact sj_end (fun h => h)
  · refine sj (j_iconst hJ (v := 0) dX12_run_160 ic_0) ?_
    refine sj (j_istore_n hJ (L' := [(1, .int (0 : Int32)), (0, .ref p0)]) dX12_run_161 rfl (by decide) rfl) ?_
    refine sj (j_goto hJ (tgt := 128) dX12_run_162 (by decide)) ?_
    refine sj (j_sub hJ (L' := [(0, .ref p0), (1, .int (0 : Int32))]) [1, 0] rfl) ?_
    exact sj_end (fun h => h)
set_option maxHeartbeats 4000000 in
set_option maxRecDepth 100000 in
theorem w_X12_run_b128 {J : JT} {an : Option Value × St × Dy} (hI : Isj cX12_run 2 RX12 "run" 8 194 none an J) {β : Bu} (σ : St) (p0 : Nat) (p1 : Int32) (δ : Dy) : SJ (m_X12_run_b128 σ p0 p1 δ) (PV σ an) (J 128 [(0, .ref p0), (1, .int p1)] [] β σ δ) := by
  have hJ := hI.cor
  unfold m_X12_run_b128
  refine sj_lp (G := fun s : (Int32 × Dy) => J 128 [(0, .ref p0), (1, .int s.1)] [] β σ s.2) (fun s => ?_) (p1, δ)
  refine sj (j_iload_n hJ dX12_run_128 rfl 1 rfl) ?_
  refine sj_if (j_if_eq hJ (tgt := 265) dX12_run_129 (by decide)) (fun _ => ?_) (fun _ => ?_)
  · refine sj (j_aload_n hJ dX12_run_265 rfl 0 rfl) ?_
    refine sj_callVv hJ [] (st := []) (fr' := 0) (lo' := 0) ml_X12_336 hc_12 (by decide) (by decide) (Nat.le_of_ble_eq_true rfl) dX12_run_266 rfl (fun _ h9 => ct_X12_finish h9) (fun v20 => ?_)
    exact sj_vret hI dX12_run_269 (fun h => h)
  · refine sj (j_aload_n hJ dX12_run_132 rfl 0 rfl) ?_
    refine sj_gI hJ fl_X12_133 (Or.inr rfl) dX12_run_133 (fun v21 => ?_)
    refine sj_if (j_if_eq hJ (tgt := 153) dX12_run_136 (by decide)) (fun _ => ?_) (fun _ => ?_)
    · exact w_X12_run_b153 hI σ p0 s.1 s.2
    · refine sj (j_aload_n hJ dX12_run_139 rfl 0 rfl) ?_
      refine sj_gI hJ fl_X12_255 (Or.inl rfl) dX12_run_140 (fun v42 => ?_)
      refine sj_if (j_if_le hJ (tgt := 153) dX12_run_143 (by decide)) (fun _ => ?_) (fun _ => ?_)
      · exact w_X12_run_b153 hI σ p0 s.1 s.2
      · refine sj (j_aload_n hJ dX12_run_146 rfl 0 rfl) ?_
        refine sj_callVv hJ [] (st := []) (fr' := 1) (lo' := 24) ml_X12_315 hc_12 (by decide) (by decide) (Nat.le_of_ble_eq_true rfl) dX12_run_147 rfl (fun _ h9 => ct_X12_forget h9) (fun v43 => ?_)
        refine sj (j_goto hJ (tgt := 128) dX12_run_150 (by decide)) ?_
        exact sj_end (fun h => h)
set_option maxHeartbeats 4000000 in
set_option maxRecDepth 100000 in
theorem w_X12_run_b105 {J : JT} {an : Option Value × St × Dy} (hI : Isj cX12_run 2 RX12 "run" 8 194 none an J) {β : Bu} (σ : St) (p0 : Nat) (p1 : Int32) (δ : Dy) : SJ (m_X12_run_b105 σ p0 p1 δ) (PV σ an) (J 105 [(0, .ref p0), (1, .int p1)] [] β σ δ) := by
  have hJ := hI.cor
  unfold m_X12_run_b105
  refine sj_lp (G := fun s : (Int32 × Dy) => J 105 [(0, .ref p0), (1, .int s.1)] [] β σ s.2) (fun s => ?_) (p1, δ)
  refine sj (j_iload_n hJ dX12_run_105 rfl 1 rfl) ?_
  refine sj (j_aload_n hJ dX12_run_106 rfl 0 rfl) ?_
  refine sj_gI hJ fl_X12_252 (Or.inl rfl) dX12_run_107 (fun v19 => ?_)
  refine sj_if (j_icmp_ge hJ (tgt := 126) dX12_run_110 (by decide)) (fun _ => ?_) (fun _ => ?_)
  · refine sj (j_iconst hJ (v := 1) dX12_run_126 ic_1) ?_
    refine sj (j_istore_n hJ (L' := [(1, .int (1 : Int32)), (0, .ref p0)]) dX12_run_127 rfl (by decide) rfl) ?_
    refine sj (j_sub hJ (L' := [(0, .ref p0), (1, .int (1 : Int32))]) [1, 0] rfl) ?_
    refine sj_map ?_
    exact w_X12_run_b128 hI σ p0 (1 : Int32) s.2
  · refine sj (j_aload_n hJ dX12_run_113 rfl 0 rfl) ?_
    refine sj_gR hJ fl_X12_61 rfl dX12_run_114 (fun v44 => ?_)
    refine sj (j_iload_n hJ dX12_run_117 rfl 1 rfl) ?_
    refine sj (j_iload_n hJ dX12_run_118 rfl 1 rfl) ?_
    refine sj_wI hJ dX12_run_119 (fun d45 => ?_)
    refine sj (j_iinc hJ (L' := [(1, .int (s.1 + (1 : Int32))), (0, .ref p0)]) dX12_run_120 1 rfl (congrArg (fun z => s.1 + z) ic_1) (by decide) rfl) ?_
    refine sj (j_goto hJ (tgt := 105) dX12_run_123 (by decide)) ?_
    refine sj (j_sub hJ (L' := [(0, .ref p0), (1, .int (s.1 + (1 : Int32)))]) [1, 0] rfl) ?_
    exact sj_end (fun h => h)
set_option maxHeartbeats 4000000 in
set_option maxRecDepth 100000 in
theorem w_X12_run_b70 {J : JT} {an : Option Value × St × Dy} (hI : Isj cX12_run 2 RX12 "run" 8 194 none an J) {β : Bu} (σ : St) (p0 : Nat) (p1 : Int32) (δ : Dy) : SJ (m_X12_run_b70 σ p0 p1 δ) (PV σ an) (J 70 [(0, .ref p0), (1, .int p1)] [] β σ δ) := by
  have hJ := hI.cor
  unfold m_X12_run_b70
  refine sj_lp (G := fun s : (Int32 × Dy) => J 70 [(0, .ref p0), (1, .int s.1)] [] β σ s.2) (fun s => ?_) (p1, δ)
  refine sj (j_iload_n hJ dX12_run_70 rfl 1 rfl) ?_
  refine sj (j_bipush hJ (v := 9) dX12_run_71 ib_9) ?_
  refine sj (j_aload_n hJ dX12_run_73 rfl 0 rfl) ?_
  refine sj_gI hJ fl_X12_252 (Or.inl rfl) dX12_run_74 (fun v18 => ?_)
  refine sj (j_imul hJ dX12_run_77) ?_
  refine sj_if (j_icmp_ge hJ (tgt := 103) dX12_run_78 (by decide)) (fun _ => ?_) (fun _ => ?_)
  · refine sj (j_iconst hJ (v := 0) dX12_run_103 ic_0) ?_
    refine sj (j_istore_n hJ (L' := [(1, .int (0 : Int32)), (0, .ref p0)]) dX12_run_104 rfl (by decide) rfl) ?_
    refine sj (j_sub hJ (L' := [(0, .ref p0), (1, .int (0 : Int32))]) [1, 0] rfl) ?_
    refine sj_map ?_
    exact w_X12_run_b105 hI σ p0 (0 : Int32) s.2
  · refine sj (j_aload_n hJ dX12_run_81 rfl 0 rfl) ?_
    refine sj_gR hJ fl_X12_58 rfl dX12_run_82 (fun v46 => ?_)
    refine sj (j_iload_n hJ dX12_run_85 rfl 1 rfl) ?_
    refine sj (j_aload_n hJ dX12_run_86 rfl 0 rfl) ?_
    refine sj_gR hJ fl_X12_7 rfl dX12_run_87 (fun v47 => ?_)
    refine sj (j_sipush hJ (v := 7042) dX12_run_90 is_7042) ?_
    refine sj (j_iload_n hJ dX12_run_93 rfl 1 rfl) ?_
    refine sj (j_iadd hJ dX12_run_94) ?_
    refine sj_rI hJ dX12_run_95 (fun v48 => ?_)
    refine sj_wI hJ dX12_run_96 (fun d49 => ?_)
    refine sj (j_iinc hJ (L' := [(1, .int (s.1 + (1 : Int32))), (0, .ref p0)]) dX12_run_97 1 rfl (congrArg (fun z => s.1 + z) ic_1) (by decide) rfl) ?_
    refine sj (j_goto hJ (tgt := 70) dX12_run_100 (by decide)) ?_
    refine sj (j_sub hJ (L' := [(0, .ref p0), (1, .int (s.1 + (1 : Int32)))]) [1, 0] rfl) ?_
    exact sj_end (fun h => h)
set_option maxHeartbeats 4000000 in
set_option maxRecDepth 100000 in
theorem w_X12_run {J : JT} {an : Option Value × St × Dy} (hI : Isj cX12_run 2 RX12 "run" 8 194 none an J) {β : Bu} (σ : St) (p0 : Nat) (δ : Dy) : SJ (m_X12_run σ p0 δ) (PV σ an) (J 0 [(0, .ref p0)] [] β σ δ) := by
  have hJ := hI.cor
  unfold m_X12_run
  refine sj (j_aload_n hJ dX12_run_0 rfl 0 rfl) ?_
  refine sj (j_iconst hJ (v := 0) dX12_run_1 ic_0) ?_
  refine sj_pI hJ fl_X12_255 rfl dX12_run_2 (fun d1 => ?_)
  refine sj (j_aload_n hJ dX12_run_5 rfl 0 rfl) ?_
  refine sj (j_iconst hJ (v := 0) dX12_run_6 ic_0) ?_
  refine sj_pI hJ fl_X12_181 rfl dX12_run_7 (fun d2 => ?_)
  refine sj (j_aload_n hJ dX12_run_10 rfl 0 rfl) ?_
  refine sj (j_iconst hJ (v := 0) dX12_run_11 ic_0) ?_
  refine sj_pI hJ fl_X12_309 rfl dX12_run_12 (fun d3 => ?_)
  refine sj (j_aload_n hJ dX12_run_15 rfl 0 rfl) ?_
  refine sj (j_iconst hJ (v := 0) dX12_run_16 ic_0) ?_
  refine sj_pZ hJ fl_X12_133 rfl dX12_run_17 (fun d4 => ?_)
  refine sj (j_aload_n hJ dX12_run_20 rfl 0 rfl) ?_
  refine sj (j_iconst hJ (v := 0) dX12_run_21 ic_0) ?_
  refine sj_pI hJ fl_X12_156 rfl dX12_run_22 (fun d5 => ?_)
  refine sj (j_aload_n hJ dX12_run_25 rfl 0 rfl) ?_
  refine sj (j_aload_n hJ dX12_run_26 rfl 0 rfl) ?_
  refine sj_gR hJ fl_X12_7 rfl dX12_run_27 (fun v6 => ?_)
  refine sj (j_sipush hJ (v := 7041) dX12_run_30 is_7041) ?_
  refine sj_rI hJ dX12_run_33 (fun v7 => ?_)
  refine sj_pI hJ fl_X12_252 rfl dX12_run_34 (fun d8 => ?_)
  refine sj (j_aload_n hJ dX12_run_37 rfl 0 rfl) ?_
  refine sj_gR hJ fl_X12_64 rfl dX12_run_38 (fun v9 => ?_)
  refine sj (j_iconst hJ (v := 0) dX12_run_41 ic_0) ?_
  refine sj (j_aload_n hJ dX12_run_42 rfl 0 rfl) ?_
  refine sj_gI hJ fl_X12_252 (Or.inl rfl) dX12_run_43 (fun v10 => ?_)
  refine sj_wI hJ dX12_run_46 (fun d11 => ?_)
  refine sj (j_aload_n hJ dX12_run_47 rfl 0 rfl) ?_
  refine sj_gR hJ fl_X12_70 rfl dX12_run_48 (fun v12 => ?_)
  refine sj (j_iconst hJ (v := 0) dX12_run_51 ic_0) ?_
  refine sj (j_iconst hJ (v := 0) dX12_run_52 ic_0) ?_
  refine sj_wI hJ dX12_run_53 (fun d13 => ?_)
  refine sj (j_aload_n hJ dX12_run_54 rfl 0 rfl) ?_
  refine sj_gR hJ fl_X12_76 rfl dX12_run_55 (fun v14 => ?_)
  refine sj (j_iconst hJ (v := 0) dX12_run_58 ic_0) ?_
  refine sj (j_iconst hJ (v := 0) dX12_run_59 ic_0) ?_
  refine sj_wI hJ dX12_run_60 (fun d15 => ?_)
  refine sj (j_aload_n hJ dX12_run_61 rfl 0 rfl) ?_
  refine sj_gR hJ fl_X12_82 rfl dX12_run_62 (fun v16 => ?_)
  refine sj (j_iconst hJ (v := 0) dX12_run_65 ic_0) ?_
  refine sj (j_iconst hJ (v := 0) dX12_run_66 ic_0) ?_
  refine sj_wI hJ dX12_run_67 (fun d17 => ?_)
  refine sj (j_iconst hJ (v := 0) dX12_run_68 ic_0) ?_
  refine sj (j_istore_n hJ (L' := [(1, .int (0 : Int32)), (0, .ref p0)]) dX12_run_69 rfl (by decide) rfl) ?_
  refine sj (j_sub hJ (L' := [(0, .ref p0), (1, .int (0 : Int32))]) [1, 0] rfl) ?_
  exact w_X12_run_b70 hI σ p0 (0 : Int32) d17
theorem ct_X12_run {σ : St} {p0 : Nat} {δ : Dy} {r : Dy} (h : m_X12_run σ p0 δ = some r) : CT yX12_run cX12_run 2 none 8 194 0 0 [.ref p0] σ δ (none, σ, r) := CT_of (by decide +kernel) (Nat.le_of_ble_eq_true rfl) (fun J hI => w_X12_run hI σ p0 δ r h rfl)
def m_X12_isOutside (σ : St) (p0 : Nat) (p1 : Int32) (δ : Dy) : Option Int32 :=
  (m_X12_isValue σ p1 δ).bind fun v1 =>
  if v1 = 0 then
    (gR σ 12 p0 0).bind fun v2 =>
    (rI σ δ v2 (0 : Int32)).bind fun v3 =>
    (m_X12_in σ p1 (400 : Int32) (((400 : Int32) + v3) - (1 : Int32)) δ).bind fun v4 =>
    if v4 = 0 then
      some (0 : Int32)
    else
      some (1 : Int32)
  else
    some (1 : Int32)
set_option maxHeartbeats 4000000 in
set_option maxRecDepth 100000 in
theorem w_X12_isOutside {J : JT} {an : Option Value × St × Dy} (hI : Isj cX12_isOutside 2 RX12 "isOutside" 2 42 (some .boolean) an J) {β : Bu} (σ : St) (p0 : Nat) (p1 : Int32) (δ : Dy) : SJ (m_X12_isOutside σ p0 p1 δ) (PIp σ δ an) (J 0 [(0, .ref p0), (1, .int p1)] [] β σ δ) := by
  have hJ := hI.cor
  unfold m_X12_isOutside
  refine sj (j_iload_n hJ dX12_isOutside_0 rfl 1 rfl) ?_
  refine sj_callSip hJ [.int p1] (st := []) (fr' := 1) (lo' := 22) ml_X12_126 (by decide) (by decide) (Nat.le_of_ble_eq_true rfl) dX12_isOutside_1 rfl (fun _ h9 => ct_X12_isValue h9) (fun v1 => ?_)
  refine sj_if (j_if_ne hJ (tgt := 29) dX12_isOutside_4 (by decide)) (fun _ => ?_) (fun _ => ?_)
  · refine sj (j_iload_n hJ dX12_isOutside_7 rfl 1 rfl) ?_
    refine sj (j_sipush hJ (v := 400) dX12_isOutside_8 is_400) ?_
    refine sj (j_sipush hJ (v := 400) dX12_isOutside_11 is_400) ?_
    refine sj (j_aload_n hJ dX12_isOutside_14 rfl 0 rfl) ?_
    refine sj_gR hJ fl_X12_7 rfl dX12_isOutside_15 (fun v2 => ?_)
    refine sj (j_iconst hJ (v := 0) dX12_isOutside_18 ic_0) ?_
    refine sj_rI hJ dX12_isOutside_19 (fun v3 => ?_)
    refine sj (j_iadd hJ dX12_isOutside_20) ?_
    refine sj (j_iconst hJ (v := 1) dX12_isOutside_21 ic_1) ?_
    refine sj (j_isub hJ dX12_isOutside_22) ?_
    refine sj_callSip hJ [.int p1, .int (400 : Int32), .int (((400 : Int32) + v3) - (1 : Int32))] (st := []) (fr' := 0) (lo' := 0) ml_X12_122 (by decide) (by decide) (Nat.le_of_ble_eq_true rfl) dX12_isOutside_23 rfl (fun _ h9 => ct_X12_in h9) (fun v4 => ?_)
    refine sj_if (j_if_eq hJ (tgt := 33) dX12_isOutside_26 (by decide)) (fun _ => ?_) (fun _ => ?_)
    · refine sj (j_iconst hJ (v := 0) dX12_isOutside_33 ic_0) ?_
      exact sj_zret hI (by decide) dX12_isOutside_34 (fun h => h)
    · refine sj (j_iconst hJ (v := 1) dX12_isOutside_29 ic_1) ?_
      refine sj (j_goto hJ (tgt := 34) dX12_isOutside_30 (by decide)) ?_
      exact sj_zret hI (by decide) dX12_isOutside_34 (fun h => h)
  · refine sj (j_iconst hJ (v := 1) dX12_isOutside_29 ic_1) ?_
    refine sj (j_goto hJ (tgt := 34) dX12_isOutside_30 (by decide)) ?_
    exact sj_zret hI (by decide) dX12_isOutside_34 (fun h => h)
theorem ct_X12_isOutside {σ : St} {p0 : Nat} {p1 : Int32} {δ : Dy} {r : Int32} (h : m_X12_isOutside σ p0 p1 δ = some r) : CT yX12_isOutside cX12_isOutside 2 (some .boolean) 2 42 0 0 [.ref p0, .int p1] σ δ ((some (.int r)), σ, δ) := CT_of (by decide +kernel) (Nat.le_of_ble_eq_true rfl) (fun J hI => w_X12_isOutside hI σ p0 p1 δ r h rfl)
def m_X12_begin_b43 (σ : St) (p0 : Nat) (δ : Dy) : Option (Int32 × Dy) :=
  (chk σ 12 p0).bind fun _ => (m_X12_stop σ p0 (1 : Int32) δ).bind fun v3 =>
  some (v3.1, v3.2)
def m_X12_begin_b65 (σ : St) (p0 : Nat) (δ : Dy) : Option (Int32 × Dy) :=
  (chk σ 12 p0).bind fun _ => (m_X12_stop σ p0 (2 : Int32) δ).bind fun v5 =>
  some (v5.1, v5.2)
def m_X12_begin_b96 (σ : St) (p0 : Nat) (δ : Dy) : Option (Int32 × Dy) :=
  (chk σ 12 p0).bind fun _ => (m_X12_stop σ p0 (3 : Int32) δ).bind fun v9 =>
  some (v9.1, v9.2)
def m_X12_begin_b122 (σ : St) (p0 : Nat) (p1 : Int32) (p2 : Int32) (p3 : Int32) (p4 : Int32) (p5 : Int32) (δ : Dy) : Option (Int32 × Dy) := lp (fun (s : (Int32 × Dy)) =>
  if (9 : Int32) ≤ s.1 then
    (gR σ 12 p0 0).bind fun v14 =>
    (wI σ s.2 v14 p4 p1).bind fun d15 =>
    (gR σ 12 p0 0).bind fun v16 =>
    (wI σ d15 v16 (p4 + (1 : Int32)) p2).bind fun d17 =>
    (gR σ 12 p0 0).bind fun v18 =>
    (wI σ d17 v18 (p4 + (2 : Int32)) p3).bind fun d19 =>
    (gR σ 12 p0 0).bind fun v20 =>
    (rI σ d19 v20 (7041 : Int32)).bind fun v21 =>
    (wI σ d19 v20 (7041 : Int32) (v21 + (1 : Int32))).bind fun d22 =>
    (gR σ 12 p0 0).bind fun v23 =>
    (rI σ d22 v23 (7041 : Int32)).bind fun v24 =>
    some (Sum.inr (v24, d22))
  else
    (gR σ 12 p0 0).bind fun v25 =>
    (wI σ s.2 v25 (p4 + s.1) (0 : Int32)).bind fun d26 =>
    some (Sum.inl ((s.1 + (1 : Int32)), d26))) (p5, δ)
def m_X12_begin_b49 (σ : St) (p0 : Nat) (p1 : Int32) (p2 : Int32) (p3 : Int32) (δ : Dy) : Option (Int32 × Dy) :=
  (chk σ 12 p0).bind fun _ => (m_X12_isOutside σ p0 p2 δ).bind fun v4 =>
  if v4 = 0 then
    m_X12_begin_b65 σ p0 δ
  else
    (chk σ 12 p0).bind fun _ => (m_X12_isOutside σ p0 p3 δ).bind fun v6 =>
    if v6 = 0 then
      m_X12_begin_b65 σ p0 δ
    else
      (gR σ 12 p0 0).bind fun v7 =>
      (rI σ δ v7 (7040 : Int32)).bind fun v8 =>
      if v8 = (1 : Int32) then
        m_X12_begin_b96 σ p0 δ
      else
        (gR σ 12 p0 0).bind fun v10 =>
        (rI σ δ v10 (7041 : Int32)).bind fun v11 =>
        if v11 < (30 : Int32) then
          (gR σ 12 p0 0).bind fun v12 =>
          (rI σ δ v12 (7041 : Int32)).bind fun v13 =>
          m_X12_begin_b122 σ p0 p1 p2 p3 ((7042 : Int32) + ((9 : Int32) * v13)) (0 : Int32) δ
        else
          m_X12_begin_b96 σ p0 δ
def m_X12_begin_b28 (σ : St) (p0 : Nat) (p1 : Int32) (p2 : Int32) (p3 : Int32) (δ : Dy) : Option (Int32 × Dy) :=
  if p3 < (400 : Int32) then
    m_X12_begin_b49 σ p0 p1 p2 p3 δ
  else
    (chk σ 12 p0).bind fun _ => (m_X12_isOutside σ p0 p3 δ).bind fun v27 =>
    if v27 = 0 then
      m_X12_begin_b43 σ p0 δ
    else
      m_X12_begin_b49 σ p0 p1 p2 p3 δ
def m_X12_begin (σ : St) (p0 : Nat) (p1 : Int32) (p2 : Int32) (p3 : Int32) (δ : Dy) : Option (Int32 × Dy) :=
  (pI σ δ 12 p0 50 (0 : Int32)).bind fun d1 =>
  (chk σ 12 p0).bind fun _ => (m_X12_isNode σ p0 p1 d1).bind fun v2 =>
  if v2 = 0 then
    m_X12_begin_b43 σ p0 d1
  else
    if p2 < (400 : Int32) then
      m_X12_begin_b28 σ p0 p1 p2 p3 d1
    else
      (chk σ 12 p0).bind fun _ => (m_X12_isOutside σ p0 p2 d1).bind fun v28 =>
      if v28 = 0 then
        m_X12_begin_b43 σ p0 d1
      else
        m_X12_begin_b28 σ p0 p1 p2 p3 d1
set_option maxHeartbeats 4000000 in
set_option maxRecDepth 100000 in
theorem w_X12_begin_b43 {J : JT} {an : Option Value × St × Dy} (hI : Isj cX12_begin 6 RX12 "begin" 3 63 (some .int) an J) {β : Bu} (σ : St) (p0 : Nat) (δ : Dy) : SJ (m_X12_begin_b43 σ p0 δ) (PI σ an) (J 43 [(0, .ref p0)] [] β σ δ) := by
  have hJ := hI.cor
  unfold m_X12_begin_b43
  refine sj (j_aload_n hJ dX12_begin_43 rfl 0 rfl) ?_
  refine sj (j_iconst hJ (v := 1) dX12_begin_44 ic_1) ?_
  refine sj_callVi hJ [.int (1 : Int32)] (st := []) (fr' := 0) (lo' := 0) ml_X12_137 hc_12 (by decide) (by decide) (Nat.le_of_ble_eq_true rfl) dX12_begin_45 rfl (fun _ h9 => ct_X12_stop h9) (fun v3 => ?_)
  exact sj_iret hI dX12_begin_48 (fun h => h)
set_option maxHeartbeats 4000000 in
set_option maxRecDepth 100000 in
theorem w_X12_begin_b65 {J : JT} {an : Option Value × St × Dy} (hI : Isj cX12_begin 6 RX12 "begin" 3 63 (some .int) an J) {β : Bu} (σ : St) (p0 : Nat) (δ : Dy) : SJ (m_X12_begin_b65 σ p0 δ) (PI σ an) (J 65 [(0, .ref p0)] [] β σ δ) := by
  have hJ := hI.cor
  unfold m_X12_begin_b65
  refine sj (j_aload_n hJ dX12_begin_65 rfl 0 rfl) ?_
  refine sj (j_iconst hJ (v := 2) dX12_begin_66 ic_2) ?_
  refine sj_callVi hJ [.int (2 : Int32)] (st := []) (fr' := 0) (lo' := 0) ml_X12_137 hc_12 (by decide) (by decide) (Nat.le_of_ble_eq_true rfl) dX12_begin_67 rfl (fun _ h9 => ct_X12_stop h9) (fun v5 => ?_)
  exact sj_iret hI dX12_begin_70 (fun h => h)
set_option maxHeartbeats 4000000 in
set_option maxRecDepth 100000 in
theorem w_X12_begin_b96 {J : JT} {an : Option Value × St × Dy} (hI : Isj cX12_begin 6 RX12 "begin" 3 63 (some .int) an J) {β : Bu} (σ : St) (p0 : Nat) (δ : Dy) : SJ (m_X12_begin_b96 σ p0 δ) (PI σ an) (J 96 [(0, .ref p0)] [] β σ δ) := by
  have hJ := hI.cor
  unfold m_X12_begin_b96
  refine sj (j_aload_n hJ dX12_begin_96 rfl 0 rfl) ?_
  refine sj (j_iconst hJ (v := 3) dX12_begin_97 ic_3) ?_
  refine sj_callVi hJ [.int (3 : Int32)] (st := []) (fr' := 0) (lo' := 0) ml_X12_137 hc_12 (by decide) (by decide) (Nat.le_of_ble_eq_true rfl) dX12_begin_98 rfl (fun _ h9 => ct_X12_stop h9) (fun v9 => ?_)
  exact sj_iret hI dX12_begin_101 (fun h => h)
set_option maxHeartbeats 4000000 in
set_option maxRecDepth 100000 in
theorem w_X12_begin_b122 {J : JT} {an : Option Value × St × Dy} (hI : Isj cX12_begin 6 RX12 "begin" 3 63 (some .int) an J) {β : Bu} (σ : St) (p0 : Nat) (p1 : Int32) (p2 : Int32) (p3 : Int32) (p4 : Int32) (p5 : Int32) (δ : Dy) : SJ (m_X12_begin_b122 σ p0 p1 p2 p3 p4 p5 δ) (PI σ an) (J 122 [(0, .ref p0), (1, .int p1), (2, .int p2), (3, .int p3), (4, .int p4), (5, .int p5)] [] β σ δ) := by
  have hJ := hI.cor
  unfold m_X12_begin_b122
  refine sj_lp (G := fun s : (Int32 × Dy) => J 122 [(0, .ref p0), (1, .int p1), (2, .int p2), (3, .int p3), (4, .int p4), (5, .int s.1)] [] β σ s.2) (fun s => ?_) (p5, δ)
  refine sj (j_iload hJ dX12_begin_122 5 rfl) ?_
  refine sj (j_bipush hJ (v := 9) dX12_begin_124 ib_9) ?_
  refine sj_if (j_icmp_ge hJ (tgt := 146) dX12_begin_126 (by decide)) (fun _ => ?_) (fun _ => ?_)
  · refine sj (j_aload_n hJ dX12_begin_146 rfl 0 rfl) ?_
    refine sj_gR hJ fl_X12_7 rfl dX12_begin_147 (fun v14 => ?_)
    refine sj (j_iload hJ dX12_begin_150 4 rfl) ?_
    refine sj (j_iload_n hJ dX12_begin_152 rfl 1 rfl) ?_
    refine sj_wI hJ dX12_begin_153 (fun d15 => ?_)
    refine sj (j_aload_n hJ dX12_begin_154 rfl 0 rfl) ?_
    refine sj_gR hJ fl_X12_7 rfl dX12_begin_155 (fun v16 => ?_)
    refine sj (j_iload hJ dX12_begin_158 4 rfl) ?_
    refine sj (j_iconst hJ (v := 1) dX12_begin_160 ic_1) ?_
    refine sj (j_iadd hJ dX12_begin_161) ?_
    refine sj (j_iload_n hJ dX12_begin_162 rfl 2 rfl) ?_
    refine sj_wI hJ dX12_begin_163 (fun d17 => ?_)
    refine sj (j_aload_n hJ dX12_begin_164 rfl 0 rfl) ?_
    refine sj_gR hJ fl_X12_7 rfl dX12_begin_165 (fun v18 => ?_)
    refine sj (j_iload hJ dX12_begin_168 4 rfl) ?_
    refine sj (j_iconst hJ (v := 2) dX12_begin_170 ic_2) ?_
    refine sj (j_iadd hJ dX12_begin_171) ?_
    refine sj (j_iload_n hJ dX12_begin_172 rfl 3 rfl) ?_
    refine sj_wI hJ dX12_begin_173 (fun d19 => ?_)
    refine sj (j_aload_n hJ dX12_begin_174 rfl 0 rfl) ?_
    refine sj_gR hJ fl_X12_7 rfl dX12_begin_175 (fun v20 => ?_)
    refine sj (j_sipush hJ (v := 7041) dX12_begin_178 is_7041) ?_
    refine sj (j_dup2 hJ dX12_begin_181 rfl rfl) ?_
    refine sj_rI hJ dX12_begin_182 (fun v21 => ?_)
    refine sj (j_iconst hJ (v := 1) dX12_begin_183 ic_1) ?_
    refine sj (j_iadd hJ dX12_begin_184) ?_
    refine sj_wI hJ dX12_begin_185 (fun d22 => ?_)
    refine sj (j_aload_n hJ dX12_begin_186 rfl 0 rfl) ?_
    refine sj_gR hJ fl_X12_7 rfl dX12_begin_187 (fun v23 => ?_)
    refine sj (j_sipush hJ (v := 7041) dX12_begin_190 is_7041) ?_
    refine sj_rI hJ dX12_begin_193 (fun v24 => ?_)
    exact sj_iret hI dX12_begin_194 (fun h => h)
  · refine sj (j_aload_n hJ dX12_begin_129 rfl 0 rfl) ?_
    refine sj_gR hJ fl_X12_7 rfl dX12_begin_130 (fun v25 => ?_)
    refine sj (j_iload hJ dX12_begin_133 4 rfl) ?_
    refine sj (j_iload hJ dX12_begin_135 5 rfl) ?_
    refine sj (j_iadd hJ dX12_begin_137) ?_
    refine sj (j_iconst hJ (v := 0) dX12_begin_138 ic_0) ?_
    refine sj_wI hJ dX12_begin_139 (fun d26 => ?_)
    refine sj (j_iinc hJ (L' := [(5, .int (s.1 + (1 : Int32))), (0, .ref p0), (1, .int p1), (2, .int p2), (3, .int p3), (4, .int p4)]) dX12_begin_140 5 rfl (congrArg (fun z => s.1 + z) ic_1) (by decide) rfl) ?_
    refine sj (j_goto hJ (tgt := 122) dX12_begin_143 (by decide)) ?_
    refine sj (j_sub hJ (L' := [(0, .ref p0), (1, .int p1), (2, .int p2), (3, .int p3), (4, .int p4), (5, .int (s.1 + (1 : Int32)))]) [1, 2, 3, 4, 5, 0] rfl) ?_
    exact sj_end (fun h => h)
set_option maxHeartbeats 4000000 in
set_option maxRecDepth 100000 in
theorem w_X12_begin_b49 {J : JT} {an : Option Value × St × Dy} (hI : Isj cX12_begin 6 RX12 "begin" 3 63 (some .int) an J) {β : Bu} (σ : St) (p0 : Nat) (p1 : Int32) (p2 : Int32) (p3 : Int32) (δ : Dy) : SJ (m_X12_begin_b49 σ p0 p1 p2 p3 δ) (PI σ an) (J 49 [(0, .ref p0), (1, .int p1), (2, .int p2), (3, .int p3)] [] β σ δ) := by
  have hJ := hI.cor
  unfold m_X12_begin_b49
  refine sj (j_aload_n hJ dX12_begin_49 rfl 0 rfl) ?_
  refine sj (j_iload_n hJ dX12_begin_50 rfl 2 rfl) ?_
  refine sj_callVip hJ [.int p2] (st := []) (fr' := 2) (lo' := 42) ml_X12_339 hc_12 (by decide) (by decide) (Nat.le_of_ble_eq_true rfl) dX12_begin_51 rfl (fun _ h9 => ct_X12_isOutside h9) (fun v4 => ?_)
  refine sj_if (j_if_eq hJ (tgt := 65) dX12_begin_54 (by decide)) (fun _ => ?_) (fun _ => ?_)
  · refine sj (j_sub hJ (L' := [(0, .ref p0)]) [0] rfl) ?_
    exact w_X12_begin_b65 hI σ p0 δ
  · refine sj (j_aload_n hJ dX12_begin_57 rfl 0 rfl) ?_
    refine sj (j_iload_n hJ dX12_begin_58 rfl 3 rfl) ?_
    refine sj_callVip hJ [.int p3] (st := []) (fr' := 2) (lo' := 42) ml_X12_339 hc_12 (by decide) (by decide) (Nat.le_of_ble_eq_true rfl) dX12_begin_59 rfl (fun _ h9 => ct_X12_isOutside h9) (fun v6 => ?_)
    refine sj_if (j_if_ne hJ (tgt := 71) dX12_begin_62 (by decide)) (fun _ => ?_) (fun _ => ?_)
    · refine sj (j_sub hJ (L' := [(0, .ref p0)]) [0] rfl) ?_
      exact w_X12_begin_b65 hI σ p0 δ
    · refine sj (j_aload_n hJ dX12_begin_71 rfl 0 rfl) ?_
      refine sj_gR hJ fl_X12_7 rfl dX12_begin_72 (fun v7 => ?_)
      refine sj (j_sipush hJ (v := 7040) dX12_begin_75 is_7040) ?_
      refine sj_rI hJ dX12_begin_78 (fun v8 => ?_)
      refine sj (j_iconst hJ (v := 1) dX12_begin_79 ic_1) ?_
      refine sj_if (j_icmp_eq hJ (tgt := 96) dX12_begin_80 (by decide)) (fun _ => ?_) (fun _ => ?_)
      · refine sj (j_sub hJ (L' := [(0, .ref p0)]) [0] rfl) ?_
        exact w_X12_begin_b96 hI σ p0 δ
      · refine sj (j_aload_n hJ dX12_begin_83 rfl 0 rfl) ?_
        refine sj_gR hJ fl_X12_7 rfl dX12_begin_84 (fun v10 => ?_)
        refine sj (j_sipush hJ (v := 7041) dX12_begin_87 is_7041) ?_
        refine sj_rI hJ dX12_begin_90 (fun v11 => ?_)
        refine sj (j_bipush hJ (v := 30) dX12_begin_91 ib_30) ?_
        refine sj_if (j_icmp_lt hJ (tgt := 102) dX12_begin_93 (by decide)) (fun _ => ?_) (fun _ => ?_)
        · refine sj (j_sipush hJ (v := 7042) dX12_begin_102 is_7042) ?_
          refine sj (j_bipush hJ (v := 9) dX12_begin_105 ib_9) ?_
          refine sj (j_aload_n hJ dX12_begin_107 rfl 0 rfl) ?_
          refine sj_gR hJ fl_X12_7 rfl dX12_begin_108 (fun v12 => ?_)
          refine sj (j_sipush hJ (v := 7041) dX12_begin_111 is_7041) ?_
          refine sj_rI hJ dX12_begin_114 (fun v13 => ?_)
          refine sj (j_imul hJ dX12_begin_115) ?_
          refine sj (j_iadd hJ dX12_begin_116) ?_
          refine sj (j_istore hJ (L' := [(4, .int ((7042 : Int32) + ((9 : Int32) * v13))), (0, .ref p0), (1, .int p1), (2, .int p2), (3, .int p3)]) dX12_begin_117 (by decide) rfl) ?_
          refine sj (j_iconst hJ (v := 0) dX12_begin_119 ic_0) ?_
          refine sj (j_istore hJ (L' := [(5, .int (0 : Int32)), (4, .int ((7042 : Int32) + ((9 : Int32) * v13))), (0, .ref p0), (1, .int p1), (2, .int p2), (3, .int p3)]) dX12_begin_120 (by decide) rfl) ?_
          refine sj (j_sub hJ (L' := [(0, .ref p0), (1, .int p1), (2, .int p2), (3, .int p3), (4, .int ((7042 : Int32) + ((9 : Int32) * v13))), (5, .int (0 : Int32))]) [2, 3, 4, 5, 1, 0] rfl) ?_
          exact w_X12_begin_b122 hI σ p0 p1 p2 p3 ((7042 : Int32) + ((9 : Int32) * v13)) (0 : Int32) δ
        · refine sj (j_sub hJ (L' := [(0, .ref p0)]) [0] rfl) ?_
          exact w_X12_begin_b96 hI σ p0 δ
set_option maxHeartbeats 4000000 in
set_option maxRecDepth 100000 in
theorem w_X12_begin_b28 {J : JT} {an : Option Value × St × Dy} (hI : Isj cX12_begin 6 RX12 "begin" 3 63 (some .int) an J) {β : Bu} (σ : St) (p0 : Nat) (p1 : Int32) (p2 : Int32) (p3 : Int32) (δ : Dy) : SJ (m_X12_begin_b28 σ p0 p1 p2 p3 δ) (PI σ an) (J 28 [(0, .ref p0), (1, .int p1), (2, .int p2), (3, .int p3)] [] β σ δ) := by
  have hJ := hI.cor
  unfold m_X12_begin_b28
  refine sj (j_iload_n hJ dX12_begin_28 rfl 3 rfl) ?_
  refine sj (j_sipush hJ (v := 400) dX12_begin_29 is_400) ?_
  refine sj_if (j_icmp_lt hJ (tgt := 49) dX12_begin_32 (by decide)) (fun _ => ?_) (fun _ => ?_)
  · exact w_X12_begin_b49 hI σ p0 p1 p2 p3 δ
  · refine sj (j_aload_n hJ dX12_begin_35 rfl 0 rfl) ?_
    refine sj (j_iload_n hJ dX12_begin_36 rfl 3 rfl) ?_
    refine sj_callVip hJ [.int p3] (st := []) (fr' := 2) (lo' := 42) ml_X12_339 hc_12 (by decide) (by decide) (Nat.le_of_ble_eq_true rfl) dX12_begin_37 rfl (fun _ h9 => ct_X12_isOutside h9) (fun v27 => ?_)
    refine sj_if (j_if_ne hJ (tgt := 49) dX12_begin_40 (by decide)) (fun _ => ?_) (fun _ => ?_)
    · refine sj (j_sub hJ (L' := [(0, .ref p0)]) [0] rfl) ?_
      exact w_X12_begin_b43 hI σ p0 δ
    · exact w_X12_begin_b49 hI σ p0 p1 p2 p3 δ
set_option maxHeartbeats 4000000 in
set_option maxRecDepth 100000 in
theorem w_X12_begin {J : JT} {an : Option Value × St × Dy} (hI : Isj cX12_begin 6 RX12 "begin" 3 63 (some .int) an J) {β : Bu} (σ : St) (p0 : Nat) (p1 : Int32) (p2 : Int32) (p3 : Int32) (δ : Dy) : SJ (m_X12_begin σ p0 p1 p2 p3 δ) (PI σ an) (J 0 [(0, .ref p0), (1, .int p1), (2, .int p2), (3, .int p3)] [] β σ δ) := by
  have hJ := hI.cor
  unfold m_X12_begin
  refine sj (j_aload_n hJ dX12_begin_0 rfl 0 rfl) ?_
  refine sj (j_iconst hJ (v := 0) dX12_begin_1 ic_0) ?_
  refine sj_pI hJ fl_X12_118 rfl dX12_begin_2 (fun d1 => ?_)
  refine sj (j_aload_n hJ dX12_begin_5 rfl 0 rfl) ?_
  refine sj (j_iload_n hJ dX12_begin_6 rfl 1 rfl) ?_
  refine sj_callVip hJ [.int p1] (st := []) (fr' := 1) (lo' := 22) ml_X12_225 hc_12 (by decide) (by decide) (Nat.le_of_ble_eq_true rfl) dX12_begin_7 rfl (fun _ h9 => ct_X12_isNode h9) (fun v2 => ?_)
  refine sj_if (j_if_eq hJ (tgt := 43) dX12_begin_10 (by decide)) (fun _ => ?_) (fun _ => ?_)
  · refine sj (j_sub hJ (L' := [(0, .ref p0)]) [0] rfl) ?_
    exact w_X12_begin_b43 hI σ p0 d1
  · refine sj (j_iload_n hJ dX12_begin_13 rfl 2 rfl) ?_
    refine sj (j_sipush hJ (v := 400) dX12_begin_14 is_400) ?_
    refine sj_if (j_icmp_lt hJ (tgt := 28) dX12_begin_17 (by decide)) (fun _ => ?_) (fun _ => ?_)
    · exact w_X12_begin_b28 hI σ p0 p1 p2 p3 d1
    · refine sj (j_aload_n hJ dX12_begin_20 rfl 0 rfl) ?_
      refine sj (j_iload_n hJ dX12_begin_21 rfl 2 rfl) ?_
      refine sj_callVip hJ [.int p2] (st := []) (fr' := 2) (lo' := 42) ml_X12_339 hc_12 (by decide) (by decide) (Nat.le_of_ble_eq_true rfl) dX12_begin_22 rfl (fun _ h9 => ct_X12_isOutside h9) (fun v28 => ?_)
      refine sj_if (j_if_eq hJ (tgt := 43) dX12_begin_25 (by decide)) (fun _ => ?_) (fun _ => ?_)
      · refine sj (j_sub hJ (L' := [(0, .ref p0)]) [0] rfl) ?_
        exact w_X12_begin_b43 hI σ p0 d1
      · exact w_X12_begin_b28 hI σ p0 p1 p2 p3 d1
theorem ct_X12_begin {σ : St} {p0 : Nat} {p1 : Int32} {p2 : Int32} {p3 : Int32} {δ : Dy} {r : (Int32 × Dy)} (h : m_X12_begin σ p0 p1 p2 p3 δ = some r) : CT yX12_begin cX12_begin 6 (some .int) 3 63 0 0 [.ref p0, .int p1, .int p2, .int p3] σ δ ((some (.int r.1)), σ, r.2) := CT_of (by decide +kernel) (Nat.le_of_ble_eq_true rfl) (fun J hI => w_X12_begin hI σ p0 p1 p2 p3 δ r h rfl)
def m_X12_step_b30 (σ : St) (p0 : Nat) (δ : Dy) : Option (Int32 × Dy) :=
  (chk σ 12 p0).bind fun _ => (m_X12_stop σ p0 (1 : Int32) δ).bind fun v4 =>
  some (v4.1, v4.2)
def m_X12_step (σ : St) (p0 : Nat) (δ : Dy) : Option (Int32 × Dy) :=
  (pI σ δ 12 p0 50 (0 : Int32)).bind fun d1 =>
  (gR σ 12 p0 0).bind fun v2 =>
  (rI σ d1 v2 (7040 : Int32)).bind fun v3 =>
  if v3 = (1 : Int32) then
    m_X12_step_b30 σ p0 d1
  else
    (gR σ 12 p0 0).bind fun v5 =>
    (rI σ d1 v5 (9742 : Int32)).bind fun v6 =>
    if v6 = (30 : Int32) then
      m_X12_step_b30 σ p0 d1
    else
      (gR σ 12 p0 0).bind fun v7 =>
      (rI σ d1 v7 (9742 : Int32)).bind fun v8 =>
      (wI σ d1 v7 (9742 : Int32) (v8 + (1 : Int32))).bind fun d9 =>
      (pZ σ d9 12 p0 41 (0 : Int32)).bind fun d10 =>
      (chk σ 12 p0).bind fun _ => (m_X12_run σ p0 d10).bind fun v11 =>
      (gI σ v11 12 p0 34).bind fun v12 =>
      some (v12, v11)
set_option maxHeartbeats 4000000 in
set_option maxRecDepth 100000 in
theorem w_X12_step_b30 {J : JT} {an : Option Value × St × Dy} (hI : Isj cX12_step 1 RX12 "step" 9 215 (some .int) an J) {β : Bu} (σ : St) (p0 : Nat) (δ : Dy) : SJ (m_X12_step_b30 σ p0 δ) (PI σ an) (J 30 [(0, .ref p0)] [] β σ δ) := by
  have hJ := hI.cor
  unfold m_X12_step_b30
  refine sj (j_aload_n hJ dX12_step_30 rfl 0 rfl) ?_
  refine sj (j_iconst hJ (v := 1) dX12_step_31 ic_1) ?_
  refine sj_callVi hJ [.int (1 : Int32)] (st := []) (fr' := 0) (lo' := 0) ml_X12_137 hc_12 (by decide) (by decide) (Nat.le_of_ble_eq_true rfl) dX12_step_32 rfl (fun _ h9 => ct_X12_stop h9) (fun v4 => ?_)
  exact sj_iret hI dX12_step_35 (fun h => h)
set_option maxHeartbeats 4000000 in
set_option maxRecDepth 100000 in
theorem w_X12_step {J : JT} {an : Option Value × St × Dy} (hI : Isj cX12_step 1 RX12 "step" 9 215 (some .int) an J) {β : Bu} (σ : St) (p0 : Nat) (δ : Dy) : SJ (m_X12_step σ p0 δ) (PI σ an) (J 0 [(0, .ref p0)] [] β σ δ) := by
  have hJ := hI.cor
  unfold m_X12_step
  refine sj (j_aload_n hJ dX12_step_0 rfl 0 rfl) ?_
  refine sj (j_iconst hJ (v := 0) dX12_step_1 ic_0) ?_
  refine sj_pI hJ fl_X12_118 rfl dX12_step_2 (fun d1 => ?_)
  refine sj (j_aload_n hJ dX12_step_5 rfl 0 rfl) ?_
  refine sj_gR hJ fl_X12_7 rfl dX12_step_6 (fun v2 => ?_)
  refine sj (j_sipush hJ (v := 7040) dX12_step_9 is_7040) ?_
  refine sj_rI hJ dX12_step_12 (fun v3 => ?_)
  refine sj (j_iconst hJ (v := 1) dX12_step_13 ic_1) ?_
  refine sj_if (j_icmp_eq hJ (tgt := 30) dX12_step_14 (by decide)) (fun _ => ?_) (fun _ => ?_)
  · exact w_X12_step_b30 hI σ p0 d1
  · refine sj (j_aload_n hJ dX12_step_17 rfl 0 rfl) ?_
    refine sj_gR hJ fl_X12_7 rfl dX12_step_18 (fun v5 => ?_)
    refine sj (j_sipush hJ (v := 9742) dX12_step_21 is_9742) ?_
    refine sj_rI hJ dX12_step_24 (fun v6 => ?_)
    refine sj (j_bipush hJ (v := 30) dX12_step_25 ib_30) ?_
    refine sj_if (j_icmp_ne hJ (tgt := 36) dX12_step_27 (by decide)) (fun _ => ?_) (fun _ => ?_)
    · exact w_X12_step_b30 hI σ p0 d1
    · refine sj (j_aload_n hJ dX12_step_36 rfl 0 rfl) ?_
      refine sj_gR hJ fl_X12_7 rfl dX12_step_37 (fun v7 => ?_)
      refine sj (j_sipush hJ (v := 9742) dX12_step_40 is_9742) ?_
      refine sj (j_dup2 hJ dX12_step_43 rfl rfl) ?_
      refine sj_rI hJ dX12_step_44 (fun v8 => ?_)
      refine sj (j_iconst hJ (v := 1) dX12_step_45 ic_1) ?_
      refine sj (j_iadd hJ dX12_step_46) ?_
      refine sj_wI hJ dX12_step_47 (fun d9 => ?_)
      refine sj (j_aload_n hJ dX12_step_48 rfl 0 rfl) ?_
      refine sj (j_iconst hJ (v := 0) dX12_step_49 ic_0) ?_
      refine sj_pZ hJ fl_X12_306 rfl dX12_step_50 (fun d10 => ?_)
      refine sj (j_aload_n hJ dX12_step_53 rfl 0 rfl) ?_
      refine sj_callVv hJ [] (st := []) (fr' := 8) (lo' := 194) ml_X12_342 hc_12 (by decide) (by decide) (Nat.le_of_ble_eq_true rfl) dX12_step_54 rfl (fun _ h9 => ct_X12_run h9) (fun v11 => ?_)
      refine sj (j_aload_n hJ dX12_step_57 rfl 0 rfl) ?_
      refine sj_gI hJ fl_X12_181 (Or.inl rfl) dX12_step_58 (fun v12 => ?_)
      exact sj_iret hI dX12_step_61 (fun h => h)
theorem ct_X12_step {σ : St} {p0 : Nat} {δ : Dy} {r : (Int32 × Dy)} (h : m_X12_step σ p0 δ = some r) : CT yX12_step cX12_step 1 (some .int) 9 215 0 0 [.ref p0] σ δ ((some (.int r.1)), σ, r.2) := CT_of (by decide +kernel) (Nat.le_of_ble_eq_true rfl) (fun J hI => w_X12_step hI σ p0 δ r h rfl)
def m_X12_seed (σ : St) (p0 : Nat) (p1 : Int32) (δ : Dy) : Option (Int32 × Dy) :=
  (pI σ δ 12 p0 50 (0 : Int32)).bind fun d1 =>
  (m_X12_in σ p1 (0 : Int32) (65536 : Int32) d1).bind fun v2 =>
  if v2 = 0 then
    (chk σ 12 p0).bind fun _ => (m_X12_stop σ p0 (1 : Int32) d1).bind fun v3 =>
    some (v3.1, v3.2)
  else
    (gR σ 12 p0 0).bind fun v4 =>
    (rI σ d1 v4 (7038 : Int32)).bind fun v5 =>
    (gR σ 12 p0 0).bind fun v6 =>
    (wI σ d1 v6 (7038 : Int32) p1).bind fun d7 =>
    some (v5, d7)
set_option maxHeartbeats 4000000 in
set_option maxRecDepth 100000 in
theorem w_X12_seed {J : JT} {an : Option Value × St × Dy} (hI : Isj cX12_seed 3 RX12 "seed" 1 22 (some .int) an J) {β : Bu} (σ : St) (p0 : Nat) (p1 : Int32) (δ : Dy) : SJ (m_X12_seed σ p0 p1 δ) (PI σ an) (J 0 [(0, .ref p0), (1, .int p1)] [] β σ δ) := by
  have hJ := hI.cor
  unfold m_X12_seed
  refine sj (j_aload_n hJ dX12_seed_0 rfl 0 rfl) ?_
  refine sj (j_iconst hJ (v := 0) dX12_seed_1 ic_0) ?_
  refine sj_pI hJ fl_X12_118 rfl dX12_seed_2 (fun d1 => ?_)
  refine sj (j_iload_n hJ dX12_seed_5 rfl 1 rfl) ?_
  refine sj (j_iconst hJ (v := 0) dX12_seed_6 ic_0) ?_
  refine sj (j_ldcw hJ (v := 65536) dX12_seed_7 wd_2130) ?_
  refine sj_callSip hJ [.int p1, .int (0 : Int32), .int (65536 : Int32)] (st := []) (fr' := 0) (lo' := 0) ml_X12_122 (by decide) (by decide) (Nat.le_of_ble_eq_true rfl) dX12_seed_10 rfl (fun _ h9 => ct_X12_in h9) (fun v2 => ?_)
  refine sj_if (j_if_ne hJ (tgt := 22) dX12_seed_13 (by decide)) (fun _ => ?_) (fun _ => ?_)
  · refine sj (j_aload_n hJ dX12_seed_16 rfl 0 rfl) ?_
    refine sj (j_iconst hJ (v := 1) dX12_seed_17 ic_1) ?_
    refine sj_callVi hJ [.int (1 : Int32)] (st := []) (fr' := 0) (lo' := 0) ml_X12_137 hc_12 (by decide) (by decide) (Nat.le_of_ble_eq_true rfl) dX12_seed_18 rfl (fun _ h9 => ct_X12_stop h9) (fun v3 => ?_)
    exact sj_iret hI dX12_seed_21 (fun h => h)
  · refine sj (j_aload_n hJ dX12_seed_22 rfl 0 rfl) ?_
    refine sj_gR hJ fl_X12_7 rfl dX12_seed_23 (fun v4 => ?_)
    refine sj (j_sipush hJ (v := 7038) dX12_seed_26 is_7038) ?_
    refine sj_rI hJ dX12_seed_29 (fun v5 => ?_)
    refine sj (j_istore_n hJ (L' := [(2, .int v5), (0, .ref p0), (1, .int p1)]) dX12_seed_30 rfl (by decide) rfl) ?_
    refine sj (j_aload_n hJ dX12_seed_31 rfl 1 rfl) ?_
    refine sj_gR hJ fl_X12_7 rfl dX12_seed_32 (fun v6 => ?_)
    refine sj (j_sipush hJ (v := 7038) dX12_seed_35 is_7038) ?_
    refine sj (j_iload_n hJ dX12_seed_38 rfl 2 rfl) ?_
    refine sj_wI hJ dX12_seed_39 (fun d7 => ?_)
    refine sj (j_iload_n hJ dX12_seed_40 rfl 0 rfl) ?_
    exact sj_iret hI dX12_seed_41 (fun h => h)
theorem ct_X12_seed {σ : St} {p0 : Nat} {p1 : Int32} {δ : Dy} {r : (Int32 × Dy)} (h : m_X12_seed σ p0 p1 δ = some r) : CT yX12_seed cX12_seed 3 (some .int) 1 22 0 0 [.ref p0, .int p1] σ δ ((some (.int r.1)), σ, r.2) := CT_of (by decide +kernel) (Nat.le_of_ble_eq_true rfl) (fun J hI => w_X12_seed hI σ p0 p1 δ r h rfl)
def m_X12_asTold (σ : St) (p0 : Nat) (p1 : Int32) (δ : Dy) : Option Int32 :=
  (chk σ 12 p0).bind fun _ => (m_X12_valueOf σ p0 p1 δ).bind fun v1 =>
  if v1 = (100 : Int32) then
    (gR σ 12 p0 0).bind fun v2 =>
    (rI σ δ v2 (((1 : Int32) + p1) - (400 : Int32))).bind fun v3 =>
    some ((400 : Int32) + v3)
  else
    some v1
set_option maxHeartbeats 4000000 in
set_option maxRecDepth 100000 in
theorem w_X12_asTold {J : JT} {an : Option Value × St × Dy} (hI : Isj cX12_asTold 3 RX12 "asTold" 1 21 (some .int) an J) {β : Bu} (σ : St) (p0 : Nat) (p1 : Int32) (δ : Dy) : SJ (m_X12_asTold σ p0 p1 δ) (PIp σ δ an) (J 0 [(0, .ref p0), (1, .int p1)] [] β σ δ) := by
  have hJ := hI.cor
  unfold m_X12_asTold
  refine sj (j_aload_n hJ dX12_asTold_0 rfl 0 rfl) ?_
  refine sj (j_iload_n hJ dX12_asTold_1 rfl 1 rfl) ?_
  refine sj_callVip hJ [.int p1] (st := []) (fr' := 0) (lo' := 0) ml_X12_145 hc_12 (by decide) (by decide) (Nat.le_of_ble_eq_true rfl) dX12_asTold_2 rfl (fun _ h9 => ct_X12_valueOf h9) (fun v1 => ?_)
  refine sj (j_istore_n hJ (L' := [(2, .int v1), (0, .ref p0), (1, .int p1)]) dX12_asTold_5 rfl (by decide) rfl) ?_
  refine sj (j_iload_n hJ dX12_asTold_6 rfl 0 rfl) ?_
  refine sj (j_bipush hJ (v := 100) dX12_asTold_7 ib_100) ?_
  refine sj_if (j_icmp_eq hJ (tgt := 16) dX12_asTold_9 (by decide)) (fun _ => ?_) (fun _ => ?_)
  · refine sj (j_sipush hJ (v := 400) dX12_asTold_16 is_400) ?_
    refine sj (j_aload_n hJ dX12_asTold_19 rfl 1 rfl) ?_
    refine sj_gR hJ fl_X12_7 rfl dX12_asTold_20 (fun v2 => ?_)
    refine sj (j_iconst hJ (v := 1) dX12_asTold_23 ic_1) ?_
    refine sj (j_iload_n hJ dX12_asTold_24 rfl 2 rfl) ?_
    refine sj (j_iadd hJ dX12_asTold_25) ?_
    refine sj (j_sipush hJ (v := 400) dX12_asTold_26 is_400) ?_
    refine sj (j_isub hJ dX12_asTold_29) ?_
    refine sj_rI hJ dX12_asTold_30 (fun v3 => ?_)
    refine sj (j_iadd hJ dX12_asTold_31) ?_
    exact sj_iret hI dX12_asTold_32 (fun h => h)
  · refine sj (j_iload_n hJ dX12_asTold_12 rfl 0 rfl) ?_
    refine sj (j_goto hJ (tgt := 32) dX12_asTold_13 (by decide)) ?_
    exact sj_iret hI dX12_asTold_32 (fun h => h)
theorem ct_X12_asTold {σ : St} {p0 : Nat} {p1 : Int32} {δ : Dy} {r : Int32} (h : m_X12_asTold σ p0 p1 δ = some r) : CT yX12_asTold cX12_asTold 3 (some .int) 1 21 0 0 [.ref p0, .int p1] σ δ ((some (.int r)), σ, δ) := CT_of (by decide +kernel) (Nat.le_of_ble_eq_true rfl) (fun J hI => w_X12_asTold hI σ p0 p1 δ r h rfl)
def m_X12_layEnd_b223 (σ : St) (p0 : Nat) (p1 : Int32) (p2 : Int32) (δ : Dy) : Option ((Int32 × Int32 × Dy) ⊕ Dy) :=
  some (Sum.inl (p1, (p2 + (1 : Int32)), δ))
def m_X12_layEnd_b212 (σ : St) (p0 : Nat) (p1 : Int32) (p2 : Int32) (p3 : Int32) (p4 : Int32) (δ : Dy) : Option ((Int32 × Int32 × Dy) ⊕ Dy) :=
  (gR σ 12 p0 48).bind fun v21 =>
  (wI σ δ v21 p4 p3).bind fun d22 =>
  m_X12_layEnd_b223 σ p0 (p1 + (1 : Int32)) p2 d22
def m_X12_layEnd_b170 (σ : St) (p0 : Nat) (p1 : Int32) (p2 : Int32) (p3 : Int32) (p4 : Int32) (δ : Dy) : Option ((Int32 × Int32 × Dy) ⊕ Dy) := lp (fun (s : (Int32 × Dy)) =>
  if s.1 ≤ (62 : Int32) then
    (m_X12_layEnd_b212 σ p0 p1 p2 p3 s.1 s.2).bind fun r => some (Sum.inr r)
  else
    (gR σ 12 p0 48).bind fun v23 =>
    (rI σ s.2 v23 (s.1 - (1 : Int32))).bind fun v24 =>
    if v24 ≤ p3 then
      (m_X12_layEnd_b212 σ p0 p1 p2 p3 s.1 s.2).bind fun r => some (Sum.inr r)
    else
      (gR σ 12 p0 48).bind fun v25 =>
      (gR σ 12 p0 48).bind fun v26 =>
      (rI σ s.2 v26 (s.1 - (1 : Int32))).bind fun v27 =>
      (wI σ s.2 v25 s.1 v27).bind fun d28 =>
      some (Sum.inl ((s.1 + (-1 : Int32)), d28))) (p4, δ)
def m_X12_layEnd_b68 (σ : St) (p0 : Nat) (p1 : Int32) (p2 : Int32) (δ : Dy) : Option Dy := lp (fun (s : (Int32 × Int32 × Dy)) =>
  (gR σ 12 p0 0).bind fun v5 =>
  (rI σ s.2.2 v5 (121 : Int32)).bind fun v6 =>
  if v6 ≤ s.2.1 then
    (gR σ 12 p0 48).bind fun v7 =>
    (wI σ s.2.2 v7 (61 : Int32) s.1).bind fun d8 =>
    some (Sum.inr d8)
  else
    (gR σ 12 p0 0).bind fun v9 =>
    (rI σ s.2.2 v9 ((422 : Int32) + s.2.1)).bind fun v10 =>
    if v10 = (1 : Int32) then
      (gR σ 12 p0 0).bind fun v11 =>
      (rI σ s.2.2 v11 ((122 : Int32) + s.2.1)).bind fun v12 =>
      (gR σ 12 p0 0).bind fun v13 =>
      (rI σ s.2.2 v13 ((522 : Int32) + s.2.1)).bind fun v14 =>
      (gR σ 12 p0 0).bind fun v15 =>
      (rI σ s.2.2 v15 ((222 : Int32) + s.2.1)).bind fun v16 =>
      (chk σ 12 p0).bind fun _ => (m_X12_asTold σ p0 v16 s.2.2).bind fun v17 =>
      (gR σ 12 p0 0).bind fun v18 =>
      (rI σ s.2.2 v18 ((322 : Int32) + s.2.1)).bind fun v19 =>
      (chk σ 12 p0).bind fun _ => (m_X12_asTold σ p0 v19 s.2.2).bind fun v20 =>
      m_X12_layEnd_b170 σ p0 s.1 s.2.1 ((((600 : Int32) * ((((600 : Int32) * (((2 : Int32) * v12) + v14)) + v17) + (99 : Int32))) + v20) + (99 : Int32)) ((62 : Int32) + s.1) s.2.2
    else
      m_X12_layEnd_b223 σ p0 s.1 s.2.1 s.2.2) (p1, p2, δ)
def m_X12_layEnd_b57 (σ : St) (p0 : Nat) (p1 : Int32) (q0 : Nat) (q1 : Int32) (q2 : Int32) (δ : Dy) : Option ((Int32 × Dy) ⊕ Dy) :=
  (wI σ δ q0 q1 q2).bind fun d31 =>
  some (Sum.inl ((p1 + (1 : Int32)), d31))
def m_X12_layEnd_b16 (σ : St) (p0 : Nat) (p1 : Int32) (δ : Dy) : Option Dy := lp (fun (s : (Int32 × Dy)) =>
  if (60 : Int32) ≤ s.1 then
    (m_X12_layEnd_b68 σ p0 (0 : Int32) (0 : Int32) s.2).bind fun r => some (Sum.inr r)
  else
    (gR σ 12 p0 48).bind fun v29 =>
    (gI σ s.2 12 p0 49).bind fun v30 =>
    if v30 ≤ s.1 then
      m_X12_layEnd_b57 σ p0 s.1 v29 ((1 : Int32) + s.1) (0 : Int32) s.2
    else
      (gR σ 12 p0 0).bind fun v32 =>
      (gR σ 12 p0 0).bind fun v33 =>
      (rI σ s.2 v33 ((1 : Int32) + s.1)).bind fun v34 =>
      (rI σ s.2 v32 ((61 : Int32) + v34)).bind fun v35 =>
      m_X12_layEnd_b57 σ p0 s.1 v29 ((1 : Int32) + s.1) v35 s.2) (p1, δ)
def m_X12_layEnd (σ : St) (p0 : Nat) (δ : Dy) : Option Dy :=
  (gR σ 12 p0 48).bind fun v1 =>
  (gR σ 12 p0 0).bind fun v2 =>
  (rI σ δ v2 (7040 : Int32)).bind fun v3 =>
  (wI σ δ v1 (0 : Int32) v3).bind fun d4 =>
  m_X12_layEnd_b16 σ p0 (0 : Int32) d4
set_option maxHeartbeats 4000000 in
set_option maxRecDepth 100000 in
theorem w_X12_layEnd_b223 {J : JT} {an : Option Value × St × Dy} (hI : Isj cX12_layEnd 5 RX12 "layEnd" 2 43 none an J) {β : Bu} (σ : St) (p0 : Nat) (p1 : Int32) (p2 : Int32) (δ : Dy) : SJ (m_X12_layEnd_b223 σ p0 p1 p2 δ) (PL (fun s : (Int32 × Int32 × Dy) => J 68 [(0, .ref p0), (1, .int s.1), (2, .int s.2.1)] [] β σ s.2.2) (PV σ an)) (J 223 [(0, .ref p0), (1, .int p1), (2, .int p2)] [] β σ δ) := by
  have hJ := hI.cor
  unfold m_X12_layEnd_b223
  refine sj (j_iinc hJ (L' := [(2, .int (p2 + (1 : Int32))), (0, .ref p0), (1, .int p1)]) dX12_layEnd_223 2 rfl (congrArg (fun z => p2 + z) ic_1) (by decide) rfl) ?_
  refine sj (j_goto hJ (tgt := 68) dX12_layEnd_226 (by decide)) ?_
  refine sj (j_sub hJ (L' := [(0, .ref p0), (1, .int p1), (2, .int (p2 + (1 : Int32)))]) [1, 2, 0] rfl) ?_
  exact sj_end (fun h => h)
set_option maxHeartbeats 4000000 in
set_option maxRecDepth 100000 in
theorem w_X12_layEnd_b212 {J : JT} {an : Option Value × St × Dy} (hI : Isj cX12_layEnd 5 RX12 "layEnd" 2 43 none an J) {β : Bu} (σ : St) (p0 : Nat) (p1 : Int32) (p2 : Int32) (p3 : Int32) (p4 : Int32) (δ : Dy) : SJ (m_X12_layEnd_b212 σ p0 p1 p2 p3 p4 δ) (PL (fun s : (Int32 × Int32 × Dy) => J 68 [(0, .ref p0), (1, .int s.1), (2, .int s.2.1)] [] β σ s.2.2) (PV σ an)) (J 212 [(0, .ref p0), (1, .int p1), (2, .int p2), (3, .int p3), (4, .int p4)] [] β σ δ) := by
  have hJ := hI.cor
  unfold m_X12_layEnd_b212
  refine sj (j_aload_n hJ dX12_layEnd_212 rfl 0 rfl) ?_
  refine sj_gR hJ fl_X12_115 rfl dX12_layEnd_213 (fun v21 => ?_)
  refine sj (j_iload hJ dX12_layEnd_216 4 rfl) ?_
  refine sj (j_iload_n hJ dX12_layEnd_218 rfl 3 rfl) ?_
  refine sj_wI hJ dX12_layEnd_219 (fun d22 => ?_)
  refine sj (j_iinc hJ (L' := [(1, .int (p1 + (1 : Int32))), (0, .ref p0), (2, .int p2), (3, .int p3), (4, .int p4)]) dX12_layEnd_220 1 rfl (congrArg (fun z => p1 + z) ic_1) (by decide) rfl) ?_
  refine sj (j_sub hJ (L' := [(0, .ref p0), (1, .int (p1 + (1 : Int32))), (2, .int p2)]) [1, 0, 2] rfl) ?_
  exact w_X12_layEnd_b223 hI σ p0 (p1 + (1 : Int32)) p2 d22
set_option maxHeartbeats 4000000 in
set_option maxRecDepth 100000 in
theorem w_X12_layEnd_b170 {J : JT} {an : Option Value × St × Dy} (hI : Isj cX12_layEnd 5 RX12 "layEnd" 2 43 none an J) {β : Bu} (σ : St) (p0 : Nat) (p1 : Int32) (p2 : Int32) (p3 : Int32) (p4 : Int32) (δ : Dy) : SJ (m_X12_layEnd_b170 σ p0 p1 p2 p3 p4 δ) (PL (fun s : (Int32 × Int32 × Dy) => J 68 [(0, .ref p0), (1, .int s.1), (2, .int s.2.1)] [] β σ s.2.2) (PV σ an)) (J 170 [(0, .ref p0), (1, .int p1), (2, .int p2), (3, .int p3), (4, .int p4)] [] β σ δ) := by
  have hJ := hI.cor
  unfold m_X12_layEnd_b170
  refine sj_lp (G := fun s : (Int32 × Dy) => J 170 [(0, .ref p0), (1, .int p1), (2, .int p2), (3, .int p3), (4, .int s.1)] [] β σ s.2) (fun s => ?_) (p4, δ)
  refine sj (j_iload hJ dX12_layEnd_170 4 rfl) ?_
  refine sj (j_bipush hJ (v := 62) dX12_layEnd_172 ib_62) ?_
  refine sj_if (j_icmp_le hJ (tgt := 212) dX12_layEnd_174 (by decide)) (fun _ => ?_) (fun _ => ?_)
  · refine sj_map ?_
    exact w_X12_layEnd_b212 hI σ p0 p1 p2 p3 s.1 s.2
  · refine sj (j_aload_n hJ dX12_layEnd_177 rfl 0 rfl) ?_
    refine sj_gR hJ fl_X12_115 rfl dX12_layEnd_178 (fun v23 => ?_)
    refine sj (j_iload hJ dX12_layEnd_181 4 rfl) ?_
    refine sj (j_iconst hJ (v := 1) dX12_layEnd_183 ic_1) ?_
    refine sj (j_isub hJ dX12_layEnd_184) ?_
    refine sj_rI hJ dX12_layEnd_185 (fun v24 => ?_)
    refine sj (j_iload_n hJ dX12_layEnd_186 rfl 3 rfl) ?_
    refine sj_if (j_icmp_le hJ (tgt := 212) dX12_layEnd_187 (by decide)) (fun _ => ?_) (fun _ => ?_)
    · refine sj_map ?_
      exact w_X12_layEnd_b212 hI σ p0 p1 p2 p3 s.1 s.2
    · refine sj (j_aload_n hJ dX12_layEnd_190 rfl 0 rfl) ?_
      refine sj_gR hJ fl_X12_115 rfl dX12_layEnd_191 (fun v25 => ?_)
      refine sj (j_iload hJ dX12_layEnd_194 4 rfl) ?_
      refine sj (j_aload_n hJ dX12_layEnd_196 rfl 0 rfl) ?_
      refine sj_gR hJ fl_X12_115 rfl dX12_layEnd_197 (fun v26 => ?_)
      refine sj (j_iload hJ dX12_layEnd_200 4 rfl) ?_
      refine sj (j_iconst hJ (v := 1) dX12_layEnd_202 ic_1) ?_
      refine sj (j_isub hJ dX12_layEnd_203) ?_
      refine sj_rI hJ dX12_layEnd_204 (fun v27 => ?_)
      refine sj_wI hJ dX12_layEnd_205 (fun d28 => ?_)
      refine sj (j_iinc hJ (L' := [(4, .int (s.1 + (-1 : Int32))), (0, .ref p0), (1, .int p1), (2, .int p2), (3, .int p3)]) dX12_layEnd_206 4 rfl (congrArg (fun z => s.1 + z) ic_m1) (by decide) rfl) ?_
      refine sj (j_goto hJ (tgt := 170) dX12_layEnd_209 (by decide)) ?_
      refine sj (j_sub hJ (L' := [(0, .ref p0), (1, .int p1), (2, .int p2), (3, .int p3), (4, .int (s.1 + (-1 : Int32)))]) [1, 2, 3, 4, 0] rfl) ?_
      exact sj_end (fun h => h)
set_option maxHeartbeats 4000000 in
set_option maxRecDepth 100000 in
theorem w_X12_layEnd_b68 {J : JT} {an : Option Value × St × Dy} (hI : Isj cX12_layEnd 5 RX12 "layEnd" 2 43 none an J) {β : Bu} (σ : St) (p0 : Nat) (p1 : Int32) (p2 : Int32) (δ : Dy) : SJ (m_X12_layEnd_b68 σ p0 p1 p2 δ) (PV σ an) (J 68 [(0, .ref p0), (1, .int p1), (2, .int p2)] [] β σ δ) := by
  have hJ := hI.cor
  unfold m_X12_layEnd_b68
  refine sj_lp (G := fun s : (Int32 × Int32 × Dy) => J 68 [(0, .ref p0), (1, .int s.1), (2, .int s.2.1)] [] β σ s.2.2) (fun s => ?_) (p1, p2, δ)
  refine sj (j_iload_n hJ dX12_layEnd_68 rfl 2 rfl) ?_
  refine sj (j_aload_n hJ dX12_layEnd_69 rfl 0 rfl) ?_
  refine sj_gR hJ fl_X12_7 rfl dX12_layEnd_70 (fun v5 => ?_)
  refine sj (j_bipush hJ (v := 121) dX12_layEnd_73 ib_121) ?_
  refine sj_rI hJ dX12_layEnd_75 (fun v6 => ?_)
  refine sj_if (j_icmp_ge hJ (tgt := 229) dX12_layEnd_76 (by decide)) (fun _ => ?_) (fun _ => ?_)
  · refine sj (j_aload_n hJ dX12_layEnd_229 rfl 0 rfl) ?_
    refine sj_gR hJ fl_X12_115 rfl dX12_layEnd_230 (fun v7 => ?_)
    refine sj (j_bipush hJ (v := 61) dX12_layEnd_233 ib_61) ?_
    refine sj (j_iload_n hJ dX12_layEnd_235 rfl 1 rfl) ?_
    refine sj_wI hJ dX12_layEnd_236 (fun d8 => ?_)
    exact sj_vret hI dX12_layEnd_237 (fun h => h)
  · refine sj (j_aload_n hJ dX12_layEnd_79 rfl 0 rfl) ?_
    refine sj_gR hJ fl_X12_7 rfl dX12_layEnd_80 (fun v9 => ?_)
    refine sj (j_sipush hJ (v := 422) dX12_layEnd_83 is_422) ?_
    refine sj (j_iload_n hJ dX12_layEnd_86 rfl 2 rfl) ?_
    refine sj (j_iadd hJ dX12_layEnd_87) ?_
    refine sj_rI hJ dX12_layEnd_88 (fun v10 => ?_)
    refine sj (j_iconst hJ (v := 1) dX12_layEnd_89 ic_1) ?_
    refine sj_if (j_icmp_ne hJ (tgt := 223) dX12_layEnd_90 (by decide)) (fun _ => ?_) (fun _ => ?_)
    · refine sj (j_iconst hJ (v := 2) dX12_layEnd_93 ic_2) ?_
      refine sj (j_aload_n hJ dX12_layEnd_94 rfl 0 rfl) ?_
      refine sj_gR hJ fl_X12_7 rfl dX12_layEnd_95 (fun v11 => ?_)
      refine sj (j_bipush hJ (v := 122) dX12_layEnd_98 ib_122) ?_
      refine sj (j_iload_n hJ dX12_layEnd_100 rfl 2 rfl) ?_
      refine sj (j_iadd hJ dX12_layEnd_101) ?_
      refine sj_rI hJ dX12_layEnd_102 (fun v12 => ?_)
      refine sj (j_imul hJ dX12_layEnd_103) ?_
      refine sj (j_aload_n hJ dX12_layEnd_104 rfl 0 rfl) ?_
      refine sj_gR hJ fl_X12_7 rfl dX12_layEnd_105 (fun v13 => ?_)
      refine sj (j_sipush hJ (v := 522) dX12_layEnd_108 is_522) ?_
      refine sj (j_iload_n hJ dX12_layEnd_111 rfl 2 rfl) ?_
      refine sj (j_iadd hJ dX12_layEnd_112) ?_
      refine sj_rI hJ dX12_layEnd_113 (fun v14 => ?_)
      refine sj (j_iadd hJ dX12_layEnd_114) ?_
      refine sj (j_istore_n hJ (L' := [(3, .int (((2 : Int32) * v12) + v14)), (0, .ref p0), (1, .int s.1), (2, .int s.2.1)]) dX12_layEnd_115 rfl (by decide) rfl) ?_
      refine sj (j_sipush hJ (v := 600) dX12_layEnd_116 is_600) ?_
      refine sj (j_iload_n hJ dX12_layEnd_119 rfl 0 rfl) ?_
      refine sj (j_imul hJ dX12_layEnd_120) ?_
      refine sj (j_aload_n hJ dX12_layEnd_121 rfl 1 rfl) ?_
      refine sj (j_aload_n hJ dX12_layEnd_122 rfl 1 rfl) ?_
      refine sj_gR hJ fl_X12_7 rfl dX12_layEnd_123 (fun v15 => ?_)
      refine sj (j_sipush hJ (v := 222) dX12_layEnd_126 is_222) ?_
      refine sj (j_iload_n hJ dX12_layEnd_129 rfl 3 rfl) ?_
      refine sj (j_iadd hJ dX12_layEnd_130) ?_
      refine sj_rI hJ dX12_layEnd_131 (fun v16 => ?_)
      refine sj_callVip hJ [.int v16] (st := [.int ((600 : Int32) * (((2 : Int32) * v12) + v14))]) (fr' := 1) (lo' := 21) ml_X12_349 hc_12 (by decide) (by decide) (Nat.le_of_ble_eq_true rfl) dX12_layEnd_132 rfl (fun _ h9 => ct_X12_asTold h9) (fun v17 => ?_)
      refine sj (j_iadd hJ dX12_layEnd_135) ?_
      refine sj (j_bipush hJ (v := 99) dX12_layEnd_136 ib_99) ?_
      refine sj (j_iadd hJ dX12_layEnd_138) ?_
      refine sj (j_istore_n hJ (L' := [(3, .int ((((600 : Int32) * (((2 : Int32) * v12) + v14)) + v17) + (99 : Int32))), (0, .ref p0), (1, .int s.1), (2, .int s.2.1)]) dX12_layEnd_139 rfl (by decide) rfl) ?_
      refine sj (j_sipush hJ (v := 600) dX12_layEnd_140 is_600) ?_
      refine sj (j_iload_n hJ dX12_layEnd_143 rfl 0 rfl) ?_
      refine sj (j_imul hJ dX12_layEnd_144) ?_
      refine sj (j_aload_n hJ dX12_layEnd_145 rfl 1 rfl) ?_
      refine sj (j_aload_n hJ dX12_layEnd_146 rfl 1 rfl) ?_
      refine sj_gR hJ fl_X12_7 rfl dX12_layEnd_147 (fun v18 => ?_)
      refine sj (j_sipush hJ (v := 322) dX12_layEnd_150 is_322) ?_
      refine sj (j_iload_n hJ dX12_layEnd_153 rfl 3 rfl) ?_
      refine sj (j_iadd hJ dX12_layEnd_154) ?_
      refine sj_rI hJ dX12_layEnd_155 (fun v19 => ?_)
      refine sj_callVip hJ [.int v19] (st := [.int ((600 : Int32) * ((((600 : Int32) * (((2 : Int32) * v12) + v14)) + v17) + (99 : Int32)))]) (fr' := 1) (lo' := 21) ml_X12_349 hc_12 (by decide) (by decide) (Nat.le_of_ble_eq_true rfl) dX12_layEnd_156 rfl (fun _ h9 => ct_X12_asTold h9) (fun v20 => ?_)
      refine sj (j_iadd hJ dX12_layEnd_159) ?_
      refine sj (j_bipush hJ (v := 99) dX12_layEnd_160 ib_99) ?_
      refine sj (j_iadd hJ dX12_layEnd_162) ?_
      refine sj (j_istore_n hJ (L' := [(3, .int ((((600 : Int32) * ((((600 : Int32) * (((2 : Int32) * v12) + v14)) + v17) + (99 : Int32))) + v20) + (99 : Int32))), (0, .ref p0), (1, .int s.1), (2, .int s.2.1)]) dX12_layEnd_163 rfl (by decide) rfl) ?_
      refine sj (j_bipush hJ (v := 62) dX12_layEnd_164 ib_62) ?_
      refine sj (j_iload_n hJ dX12_layEnd_166 rfl 2 rfl) ?_
      refine sj (j_iadd hJ dX12_layEnd_167) ?_
      refine sj (j_istore hJ (L' := [(4, .int ((62 : Int32) + s.1)), (3, .int ((((600 : Int32) * ((((600 : Int32) * (((2 : Int32) * v12) + v14)) + v17) + (99 : Int32))) + v20) + (99 : Int32))), (0, .ref p0), (1, .int s.1), (2, .int s.2.1)]) dX12_layEnd_168 (by decide) rfl) ?_
      refine sj (j_sub hJ (L' := [(0, .ref p0), (1, .int s.1), (2, .int s.2.1), (3, .int ((((600 : Int32) * ((((600 : Int32) * (((2 : Int32) * v12) + v14)) + v17) + (99 : Int32))) + v20) + (99 : Int32))), (4, .int ((62 : Int32) + s.1))]) [2, 3, 4, 1, 0] rfl) ?_
      exact w_X12_layEnd_b170 hI σ p0 s.1 s.2.1 ((((600 : Int32) * ((((600 : Int32) * (((2 : Int32) * v12) + v14)) + v17) + (99 : Int32))) + v20) + (99 : Int32)) ((62 : Int32) + s.1) s.2.2
    · exact w_X12_layEnd_b223 hI σ p0 s.1 s.2.1 s.2.2
set_option maxHeartbeats 4000000 in
set_option maxRecDepth 100000 in
theorem w_X12_layEnd_b57 {J : JT} {an : Option Value × St × Dy} (hI : Isj cX12_layEnd 5 RX12 "layEnd" 2 43 none an J) {β : Bu} (σ : St) (p0 : Nat) (p1 : Int32) (q0 : Nat) (q1 : Int32) (q2 : Int32) (δ : Dy) : SJ (m_X12_layEnd_b57 σ p0 p1 q0 q1 q2 δ) (PL (fun s : (Int32 × Dy) => J 16 [(0, .ref p0), (1, .int s.1)] [] β σ s.2) (PV σ an)) (J 57 [(0, .ref p0), (1, .int p1)] [.int q2, .int q1, .ref q0] β σ δ) := by
  have hJ := hI.cor
  unfold m_X12_layEnd_b57
  refine sj_wI hJ dX12_layEnd_57 (fun d31 => ?_)
  refine sj (j_iinc hJ (L' := [(1, .int (p1 + (1 : Int32))), (0, .ref p0)]) dX12_layEnd_58 1 rfl (congrArg (fun z => p1 + z) ic_1) (by decide) rfl) ?_
  refine sj (j_goto hJ (tgt := 16) dX12_layEnd_61 (by decide)) ?_
  refine sj (j_sub hJ (L' := [(0, .ref p0), (1, .int (p1 + (1 : Int32)))]) [1, 0] rfl) ?_
  exact sj_end (fun h => h)
set_option maxHeartbeats 4000000 in
set_option maxRecDepth 100000 in
theorem w_X12_layEnd_b16 {J : JT} {an : Option Value × St × Dy} (hI : Isj cX12_layEnd 5 RX12 "layEnd" 2 43 none an J) {β : Bu} (σ : St) (p0 : Nat) (p1 : Int32) (δ : Dy) : SJ (m_X12_layEnd_b16 σ p0 p1 δ) (PV σ an) (J 16 [(0, .ref p0), (1, .int p1)] [] β σ δ) := by
  have hJ := hI.cor
  unfold m_X12_layEnd_b16
  refine sj_lp (G := fun s : (Int32 × Dy) => J 16 [(0, .ref p0), (1, .int s.1)] [] β σ s.2) (fun s => ?_) (p1, δ)
  refine sj (j_iload_n hJ dX12_layEnd_16 rfl 1 rfl) ?_
  refine sj (j_bipush hJ (v := 60) dX12_layEnd_17 ib_60) ?_
  refine sj_if (j_icmp_ge hJ (tgt := 64) dX12_layEnd_19 (by decide)) (fun _ => ?_) (fun _ => ?_)
  · refine sj (j_iconst hJ (v := 0) dX12_layEnd_64 ic_0) ?_
    refine sj (j_istore_n hJ (L' := [(1, .int (0 : Int32)), (0, .ref p0)]) dX12_layEnd_65 rfl (by decide) rfl) ?_
    refine sj (j_iconst hJ (v := 0) dX12_layEnd_66 ic_0) ?_
    refine sj (j_istore_n hJ (L' := [(2, .int (0 : Int32)), (1, .int (0 : Int32)), (0, .ref p0)]) dX12_layEnd_67 rfl (by decide) rfl) ?_
    refine sj (j_sub hJ (L' := [(0, .ref p0), (1, .int (0 : Int32)), (2, .int (0 : Int32))]) [2, 1, 0] rfl) ?_
    refine sj_map ?_
    exact w_X12_layEnd_b68 hI σ p0 (0 : Int32) (0 : Int32) s.2
  · refine sj (j_aload_n hJ dX12_layEnd_22 rfl 0 rfl) ?_
    refine sj_gR hJ fl_X12_115 rfl dX12_layEnd_23 (fun v29 => ?_)
    refine sj (j_iconst hJ (v := 1) dX12_layEnd_26 ic_1) ?_
    refine sj (j_iload_n hJ dX12_layEnd_27 rfl 1 rfl) ?_
    refine sj (j_iadd hJ dX12_layEnd_28) ?_
    refine sj (j_iload_n hJ dX12_layEnd_29 rfl 1 rfl) ?_
    refine sj (j_aload_n hJ dX12_layEnd_30 rfl 0 rfl) ?_
    refine sj_gI hJ fl_X12_346 (Or.inl rfl) dX12_layEnd_31 (fun v30 => ?_)
    refine sj_if (j_icmp_ge hJ (tgt := 56) dX12_layEnd_34 (by decide)) (fun _ => ?_) (fun _ => ?_)
    · refine sj (j_iconst hJ (v := 0) dX12_layEnd_56 ic_0) ?_
      exact w_X12_layEnd_b57 hI σ p0 s.1 v29 ((1 : Int32) + s.1) (0 : Int32) s.2
    · refine sj (j_aload_n hJ dX12_layEnd_37 rfl 0 rfl) ?_
      refine sj_gR hJ fl_X12_7 rfl dX12_layEnd_38 (fun v32 => ?_)
      refine sj (j_bipush hJ (v := 61) dX12_layEnd_41 ib_61) ?_
      refine sj (j_aload_n hJ dX12_layEnd_43 rfl 0 rfl) ?_
      refine sj_gR hJ fl_X12_7 rfl dX12_layEnd_44 (fun v33 => ?_)
      refine sj (j_iconst hJ (v := 1) dX12_layEnd_47 ic_1) ?_
      refine sj (j_iload_n hJ dX12_layEnd_48 rfl 1 rfl) ?_
      refine sj (j_iadd hJ dX12_layEnd_49) ?_
      refine sj_rI hJ dX12_layEnd_50 (fun v34 => ?_)
      refine sj (j_iadd hJ dX12_layEnd_51) ?_
      refine sj_rI hJ dX12_layEnd_52 (fun v35 => ?_)
      refine sj (j_goto hJ (tgt := 57) dX12_layEnd_53 (by decide)) ?_
      exact w_X12_layEnd_b57 hI σ p0 s.1 v29 ((1 : Int32) + s.1) v35 s.2
set_option maxHeartbeats 4000000 in
set_option maxRecDepth 100000 in
theorem w_X12_layEnd {J : JT} {an : Option Value × St × Dy} (hI : Isj cX12_layEnd 5 RX12 "layEnd" 2 43 none an J) {β : Bu} (σ : St) (p0 : Nat) (δ : Dy) : SJ (m_X12_layEnd σ p0 δ) (PV σ an) (J 0 [(0, .ref p0)] [] β σ δ) := by
  have hJ := hI.cor
  unfold m_X12_layEnd
  refine sj (j_aload_n hJ dX12_layEnd_0 rfl 0 rfl) ?_
  refine sj_gR hJ fl_X12_115 rfl dX12_layEnd_1 (fun v1 => ?_)
  refine sj (j_iconst hJ (v := 0) dX12_layEnd_4 ic_0) ?_
  refine sj (j_aload_n hJ dX12_layEnd_5 rfl 0 rfl) ?_
  refine sj_gR hJ fl_X12_7 rfl dX12_layEnd_6 (fun v2 => ?_)
  refine sj (j_sipush hJ (v := 7040) dX12_layEnd_9 is_7040) ?_
  refine sj_rI hJ dX12_layEnd_12 (fun v3 => ?_)
  refine sj_wI hJ dX12_layEnd_13 (fun d4 => ?_)
  refine sj (j_iconst hJ (v := 0) dX12_layEnd_14 ic_0) ?_
  refine sj (j_istore_n hJ (L' := [(1, .int (0 : Int32)), (0, .ref p0)]) dX12_layEnd_15 rfl (by decide) rfl) ?_
  refine sj (j_sub hJ (L' := [(0, .ref p0), (1, .int (0 : Int32))]) [1, 0] rfl) ?_
  exact w_X12_layEnd_b16 hI σ p0 (0 : Int32) d4
theorem ct_X12_layEnd {σ : St} {p0 : Nat} {δ : Dy} {r : Dy} (h : m_X12_layEnd σ p0 δ = some r) : CT yX12_layEnd cX12_layEnd 5 none 2 43 0 0 [.ref p0] σ δ (none, σ, r) := CT_of (by decide +kernel) (Nat.le_of_ble_eq_true rfl) (fun J hI => w_X12_layEnd hI σ p0 δ r h rfl)
