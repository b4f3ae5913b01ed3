def m_law_b2400 (xs : Nat → Int32) (N : Nat) (σ : St) (k : Nat) (p1 : Nat) (p2 : Nat) (p3 : Nat) (p4 : Int32) (δ : Dy) : Option ((Nat × Int32 × Dy) ⊕ Unit) :=
  some (Sum.inl (k + 1, (p4 + (6 : Int32)), δ))
set_option maxHeartbeats 8000000 in
set_option maxRecDepth 100000 in
theorem w_law_b2400 {xs : Nat → Int32} {N : Nat} {J : JT} (hI : IsL xs N J) (σ : St) (k : Nat) (hk : k < 600) (p1 : Nat) (p2 : Nat) (p3 : Nat) (p4 : Int32) (δ : Dy) : SJ (m_law_b2400 xs N σ k p1 p2 p3 p4 δ) (PL (fun s : Nat × Int32 × Dy => J 23 [(0, .ref roB), (1, .ref p1), (2, .ref p2), (3, .ref p3), (4, .int s.2.1)] [] (600 - s.1, 3600 - 6 * s.1) σ s.2.2) (fun _ : Unit => True)) (J 2400 [(0, .ref roB), (1, .ref p1), (2, .ref p2), (3, .ref p3), (4, .int p4)] [] (600 - (k + 1), 3600 - 6 * (k + 1)) σ δ) := by
  have hJ := hI.cor
  unfold m_law_b2400
  refine sj (j_iinc hJ (L' := [(4, .int (p4 + (6 : Int32))), (0, .ref roB), (1, .ref p1), (2, .ref p2), (3, .ref p3)]) dL_law_2400 4 rfl (congrArg (fun z => p4 + z) ic_6) (by decide) rfl) ?_
  refine sj (j_goto hJ (tgt := 23) dL_law_2403 (by decide)) ?_
  refine sj (j_sub hJ (L' := [(0, .ref roB), (1, .ref p1), (2, .ref p2), (3, .ref p3), (4, .int (p4 + (6 : Int32)))]) [1, 2, 3, 4, 0] rfl) ?_
  exact sj_end (fun h => h)
def m_law_b241 (xs : Nat → Int32) (N : Nat) (σ : St) (k : Nat) (p1 : Nat) (p2 : Nat) (p3 : Nat) (p4 : Int32) (δ : Dy) : Option ((Nat × Int32 × Dy) ⊕ Unit) :=
  m_law_b2400 xs N σ k p1 p2 p3 p4 δ
set_option maxHeartbeats 8000000 in
set_option maxRecDepth 100000 in
theorem w_law_b241 {xs : Nat → Int32} {N : Nat} {J : JT} (hI : IsL xs N J) (σ : St) (k : Nat) (hk : k < 600) (p1 : Nat) (p2 : Nat) (p3 : Nat) (p4 : Int32) (δ : Dy) : SJ (m_law_b241 xs N σ k p1 p2 p3 p4 δ) (PL (fun s : Nat × Int32 × Dy => J 23 [(0, .ref roB), (1, .ref p1), (2, .ref p2), (3, .ref p3), (4, .int s.2.1)] [] (600 - s.1, 3600 - 6 * s.1) σ s.2.2) (fun _ : Unit => True)) (J 241 [(0, .ref roB), (1, .ref p1), (2, .ref p2), (3, .ref p3), (4, .int p4)] [] (600 - (k + 1), 3600 - 6 * (k + 1)) σ δ) := by
  have hJ := hI.cor
  unfold m_law_b241
  refine sj (j_goto hJ (tgt := 2400) dL_law_241 (by decide)) ?_
  refine sj (j_beta hJ (β' := (600 - (k + 1), 3600 - 6 * (k + 1))) (by dsimp only; omega) (by dsimp only; omega)) ?_
  exact w_law_b2400 hI σ k hk p1 p2 p3 p4 δ
def m_law_b200 (xs : Nat → Int32) (N : Nat) (σ : St) (k : Nat) (p1 : Nat) (p2 : Nat) (p3 : Nat) (p4 : Int32) (δ : Dy) : Option ((Nat × Int32 × Dy) ⊕ Unit) :=
  (m_L_variable σ p1 p3 δ).bind fun v3 =>
  (chk σ 12 p2).bind fun _ => (m_X12_variable σ p2 v3.2).bind fun v4 =>
  (chk σ 12 p2).bind fun _ => (m_X12_thrown σ p2 v4.2).bind fun v5 =>
  if v5 = v3.1 then
    if v3.1 = 0 then
      (rL σ v4.2 p3 (0 : Int32)).bind fun v6 =>
      if (lg_cmp v6 (v4.1).toInt64) = 0 then
        m_law_b241 xs N σ k p1 p2 p3 p4 v4.2
      else
        none
    else
      m_law_b241 xs N σ k p1 p2 p3 p4 v4.2
  else
    none
set_option maxHeartbeats 8000000 in
set_option maxRecDepth 100000 in
theorem w_law_b200 {xs : Nat → Int32} {N : Nat} {J : JT} (hI : IsL xs N J) (σ : St) (k : Nat) (hk : k < 600) (p1 : Nat) (p2 : Nat) (p3 : Nat) (p4 : Int32) (δ : Dy) : SJ (m_law_b200 xs N σ k p1 p2 p3 p4 δ) (PL (fun s : Nat × Int32 × Dy => J 23 [(0, .ref roB), (1, .ref p1), (2, .ref p2), (3, .ref p3), (4, .int s.2.1)] [] (600 - s.1, 3600 - 6 * s.1) σ s.2.2) (fun _ : Unit => True)) (J 200 [(0, .ref roB), (1, .ref p1), (2, .ref p2), (3, .ref p3), (4, .int p4)] [] (600 - k, 3600 - 6 * k) σ δ) := by
  have hJ := hI.cor
  unfold m_law_b200
  refine sj (j_aload_n hJ dL_law_200 rfl 1 rfl) ?_
  refine sj (j_aload_n hJ dL_law_201 rfl 3 rfl) ?_
  refine sl_callW hJ [.ref p1, .ref p3] (st := []) (fr' := 10) (lo' := 250) mlw_113 (by decide) (by decide) (Nat.le_of_ble_eq_true rfl) (by dsimp only; omega) (by dsimp only; omega) dL_law_202 rfl (fun _ h9 => ct_L_variable h9) (fun v3 => ?_)
  refine sj (j_istore hJ (L' := [(5, .int v3.1), (0, .ref roB), (1, .ref p1), (2, .ref p2), (3, .ref p3), (4, .int p4)]) dL_law_205 (by decide) rfl) ?_
  refine sj (j_aload_n hJ dL_law_207 rfl 3 rfl) ?_
  refine sj_callVi hJ [] (st := []) (fr' := 1) (lo' := 21) ml_L_118 hc_12 (by decide) (by decide) (Nat.le_of_ble_eq_true rfl) dL_law_208 rfl (fun _ h9 => ct_X12_variable h9) (fun v4 => ?_)
  refine sj (j_istore hJ (L' := [(6, .int v4.1), (5, .int v3.1), (0, .ref roB), (1, .ref p1), (2, .ref p2), (3, .ref p3), (4, .int p4)]) dL_law_211 (by decide) rfl) ?_
  refine sj (j_aload_n hJ dL_law_213 rfl 4 rfl) ?_
  refine sj_callVip hJ [] (st := []) (fr' := 0) (lo' := 0) ml_L_119 hc_12 (by decide) (by decide) (Nat.le_of_ble_eq_true rfl) dL_law_214 rfl (fun _ h9 => ct_X12_thrown h9) (fun v5 => ?_)
  refine sj (j_iload hJ dL_law_217 1 rfl) ?_
  refine sj_if (j_icmp_eq hJ (tgt := 224) dL_law_219 (by decide)) (fun _ => ?_) (fun _ => ?_)
  · refine sj (j_iload hJ dL_law_224 1 rfl) ?_
    refine sj_if (j_if_ne hJ (tgt := 241) dL_law_226 (by decide)) (fun _ => ?_) (fun _ => ?_)
    · refine sj (j_aload_n hJ dL_law_229 rfl 5 rfl) ?_
      refine sj (j_iconst hJ (v := 0) dL_law_230 ic_0) ?_
      refine sj_rL hJ dL_law_231 (fun v6 => ?_)
      refine sj (j_iload hJ dL_law_232 0 rfl) ?_
      refine sj (j_i2l hJ dL_law_234) ?_
      refine sj (j_lcmp hJ dL_law_235) ?_
      refine sj_if (j_if_eq hJ (tgt := 241) dL_law_236 (by decide)) (fun _ => ?_) (fun _ => ?_)
      · refine sj (j_sub hJ (L' := [(0, .ref roB), (1, .ref p1), (2, .ref p2), (3, .ref p3), (4, .int p4)]) [2, 3, 4, 5, 6] rfl) ?_
        refine sj (j_beta hJ (β' := (600 - (k + 1), 3600 - 6 * (k + 1))) (by dsimp only; omega) (by dsimp only; omega)) ?_
        exact w_law_b241 hI σ k hk p1 p2 p3 p4 v4.2
      · refine sj (j_iconst hJ (v := 0) dL_law_239 ic_0) ?_
        exact sj_none
    · refine sj (j_sub hJ (L' := [(0, .ref roB), (1, .ref p1), (2, .ref p2), (3, .ref p3), (4, .int p4)]) [2, 3, 4, 5, 6] rfl) ?_
      refine sj (j_beta hJ (β' := (600 - (k + 1), 3600 - 6 * (k + 1))) (by dsimp only; omega) (by dsimp only; omega)) ?_
      exact w_law_b241 hI σ k hk p1 p2 p3 p4 v4.2
  · refine sj (j_iconst hJ (v := 0) dL_law_222 ic_0) ?_
    exact sj_none
def m_law_b309 (xs : Nat → Int32) (N : Nat) (σ : St) (k : Nat) (p1 : Nat) (p2 : Nat) (p3 : Nat) (p4 : Int32) (δ : Dy) : Option ((Nat × Int32 × Dy) ⊕ Unit) :=
  m_law_b2400 xs N σ k p1 p2 p3 p4 δ
set_option maxHeartbeats 8000000 in
set_option maxRecDepth 100000 in
theorem w_law_b309 {xs : Nat → Int32} {N : Nat} {J : JT} (hI : IsL xs N J) (σ : St) (k : Nat) (hk : k < 600) (p1 : Nat) (p2 : Nat) (p3 : Nat) (p4 : Int32) (δ : Dy) : SJ (m_law_b309 xs N σ k p1 p2 p3 p4 δ) (PL (fun s : Nat × Int32 × Dy => J 23 [(0, .ref roB), (1, .ref p1), (2, .ref p2), (3, .ref p3), (4, .int s.2.1)] [] (600 - s.1, 3600 - 6 * s.1) σ s.2.2) (fun _ : Unit => True)) (J 309 [(0, .ref roB), (1, .ref p1), (2, .ref p2), (3, .ref p3), (4, .int p4)] [] (600 - (k + 1), 3600 - 6 * (k + 1)) σ δ) := by
  have hJ := hI.cor
  unfold m_law_b309
  refine sj (j_goto hJ (tgt := 2400) dL_law_309 (by decide)) ?_
  refine sj (j_beta hJ (β' := (600 - (k + 1), 3600 - 6 * (k + 1))) (by dsimp only; omega) (by dsimp only; omega)) ?_
  exact w_law_b2400 hI σ k hk p1 p2 p3 p4 δ
def m_law_b244 (xs : Nat → Int32) (N : Nat) (σ : St) (k : Nat) (p1 : Nat) (p2 : Nat) (p3 : Nat) (p4 : Int32) (δ : Dy) : Option ((Nat × Int32 × Dy) ⊕ Unit) :=
  (rS xs N (p4 + (1 : Int32))).bind fun v7 =>
  (rS xs N (p4 + (2 : Int32))).bind fun v8 =>
  (m_L_equate σ p1 v7 v8 p3 δ).bind fun v9 =>
  (rS xs N (p4 + (1 : Int32))).bind fun v10 =>
  (rS xs N (p4 + (2 : Int32))).bind fun v11 =>
  (chk σ 12 p2).bind fun _ => (m_X12_equate σ p2 v10 v11 v9.2).bind fun v12 =>
  (chk σ 12 p2).bind fun _ => (m_X12_thrown σ p2 v12.2).bind fun v13 =>
  if v13 = v9.1 then
    if v9.1 = 0 then
      (rL σ v12.2 p3 (0 : Int32)).bind fun v14 =>
      if (lg_cmp v14 (v12.1).toInt64) = 0 then
        m_law_b309 xs N σ k p1 p2 p3 p4 v12.2
      else
        none
    else
      m_law_b309 xs N σ k p1 p2 p3 p4 v12.2
  else
    none
set_option maxHeartbeats 8000000 in
set_option maxRecDepth 100000 in
theorem w_law_b244 {xs : Nat → Int32} {N : Nat} {J : JT} (hI : IsL xs N J) (σ : St) (k : Nat) (hk : k < 600) (p1 : Nat) (p2 : Nat) (p3 : Nat) (p4 : Int32) (δ : Dy) : SJ (m_law_b244 xs N σ k p1 p2 p3 p4 δ) (PL (fun s : Nat × Int32 × Dy => J 23 [(0, .ref roB), (1, .ref p1), (2, .ref p2), (3, .ref p3), (4, .int s.2.1)] [] (600 - s.1, 3600 - 6 * s.1) σ s.2.2) (fun _ : Unit => True)) (J 244 [(0, .ref roB), (1, .ref p1), (2, .ref p2), (3, .ref p3), (4, .int p4)] [] (600 - k, 3600 - 6 * k) σ δ) := by
  have hJ := hI.cor
  unfold m_law_b244
  refine sj (j_aload_n hJ dL_law_244 rfl 1 rfl) ?_
  refine sj (j_aload_n hJ dL_law_245 rfl 0 rfl) ?_
  refine sj (j_iload hJ dL_law_246 4 rfl) ?_
  refine sj (j_iconst hJ (v := 1) dL_law_248 ic_1) ?_
  refine sj (j_iadd hJ dL_law_249) ?_
  refine sl_rS hI dL_law_250 (fun v7 => ?_)
  refine sj (j_aload_n hJ dL_law_251 rfl 0 rfl) ?_
  refine sj (j_iload hJ dL_law_252 4 rfl) ?_
  refine sj (j_iconst hJ (v := 2) dL_law_254 ic_2) ?_
  refine sj (j_iadd hJ dL_law_255) ?_
  refine sl_rS hI dL_law_256 (fun v8 => ?_)
  refine sj (j_aload_n hJ dL_law_257 rfl 3 rfl) ?_
  refine sl_callW hJ [.ref p1, .int v7, .int v8, .ref p3] (st := []) (fr' := 11) (lo' := 272) mlw_122 (by decide) (by decide) (Nat.le_of_ble_eq_true rfl) (by dsimp only; omega) (by dsimp only; omega) dL_law_258 rfl (fun _ h9 => ct_L_equate h9) (fun v9 => ?_)
  refine sj (j_istore hJ (L' := [(5, .int v9.1), (0, .ref roB), (1, .ref p1), (2, .ref p2), (3, .ref p3), (4, .int p4)]) dL_law_261 (by decide) rfl) ?_
  refine sj (j_aload_n hJ dL_law_263 rfl 3 rfl) ?_
  refine sj (j_aload_n hJ dL_law_264 rfl 1 rfl) ?_
  refine sj (j_iload hJ dL_law_265 5 rfl) ?_
  refine sj (j_iconst hJ (v := 1) dL_law_267 ic_1) ?_
  refine sj (j_iadd hJ dL_law_268) ?_
  refine sl_rS hI dL_law_269 (fun v10 => ?_)
  refine sj (j_aload_n hJ dL_law_270 rfl 1 rfl) ?_
  refine sj (j_iload hJ dL_law_271 5 rfl) ?_
  refine sj (j_iconst hJ (v := 2) dL_law_273 ic_2) ?_
  refine sj (j_iadd hJ dL_law_274) ?_
  refine sl_rS hI dL_law_275 (fun v11 => ?_)
  refine sj_callVi hJ [.int v10, .int v11] (st := []) (fr' := 3) (lo' := 62) ml_L_125 hc_12 (by decide) (by decide) (Nat.le_of_ble_eq_true rfl) dL_law_276 rfl (fun _ h9 => ct_X12_equate h9) (fun v12 => ?_)
  refine sj (j_istore hJ (L' := [(6, .int v12.1), (5, .int v9.1), (0, .ref roB), (1, .ref p1), (2, .ref p2), (3, .ref p3), (4, .int p4)]) dL_law_279 (by decide) rfl) ?_
  refine sj (j_aload_n hJ dL_law_281 rfl 4 rfl) ?_
  refine sj_callVip hJ [] (st := []) (fr' := 0) (lo' := 0) ml_L_119 hc_12 (by decide) (by decide) (Nat.le_of_ble_eq_true rfl) dL_law_282 rfl (fun _ h9 => ct_X12_thrown h9) (fun v13 => ?_)
  refine sj (j_iload hJ dL_law_285 1 rfl) ?_
  refine sj_if (j_icmp_eq hJ (tgt := 292) dL_law_287 (by decide)) (fun _ => ?_) (fun _ => ?_)
  · refine sj (j_iload hJ dL_law_292 1 rfl) ?_
    refine sj_if (j_if_ne hJ (tgt := 309) dL_law_294 (by decide)) (fun _ => ?_) (fun _ => ?_)
    · refine sj (j_aload_n hJ dL_law_297 rfl 5 rfl) ?_
      refine sj (j_iconst hJ (v := 0) dL_law_298 ic_0) ?_
      refine sj_rL hJ dL_law_299 (fun v14 => ?_)
      refine sj (j_iload hJ dL_law_300 0 rfl) ?_
      refine sj (j_i2l hJ dL_law_302) ?_
      refine sj (j_lcmp hJ dL_law_303) ?_
      refine sj_if (j_if_eq hJ (tgt := 309) dL_law_304 (by decide)) (fun _ => ?_) (fun _ => ?_)
      · refine sj (j_sub hJ (L' := [(0, .ref roB), (1, .ref p1), (2, .ref p2), (3, .ref p3), (4, .int p4)]) [2, 3, 4, 5, 6] rfl) ?_
        refine sj (j_beta hJ (β' := (600 - (k + 1), 3600 - 6 * (k + 1))) (by dsimp only; omega) (by dsimp only; omega)) ?_
        exact w_law_b309 hI σ k hk p1 p2 p3 p4 v12.2
      · refine sj (j_iconst hJ (v := 0) dL_law_307 ic_0) ?_
        exact sj_none
    · refine sj (j_sub hJ (L' := [(0, .ref roB), (1, .ref p1), (2, .ref p2), (3, .ref p3), (4, .int p4)]) [2, 3, 4, 5, 6] rfl) ?_
      refine sj (j_beta hJ (β' := (600 - (k + 1), 3600 - 6 * (k + 1))) (by dsimp only; omega) (by dsimp only; omega)) ?_
      exact w_law_b309 hI σ k hk p1 p2 p3 p4 v12.2
  · refine sj (j_iconst hJ (v := 0) dL_law_290 ic_0) ?_
    exact sj_none
def m_law_b417 (xs : Nat → Int32) (N : Nat) (σ : St) (k : Nat) (p1 : Nat) (p2 : Nat) (p3 : Nat) (p4 : Int32) (δ : Dy) : Option ((Nat × Int32 × Dy) ⊕ Unit) :=
  m_law_b2400 xs N σ k p1 p2 p3 p4 δ
set_option maxHeartbeats 8000000 in
set_option maxRecDepth 100000 in
theorem w_law_b417 {xs : Nat → Int32} {N : Nat} {J : JT} (hI : IsL xs N J) (σ : St) (k : Nat) (hk : k < 600) (p1 : Nat) (p2 : Nat) (p3 : Nat) (p4 : Int32) (δ : Dy) : SJ (m_law_b417 xs N σ k p1 p2 p3 p4 δ) (PL (fun s : Nat × Int32 × Dy => J 23 [(0, .ref roB), (1, .ref p1), (2, .ref p2), (3, .ref p3), (4, .int s.2.1)] [] (600 - s.1, 3600 - 6 * s.1) σ s.2.2) (fun _ : Unit => True)) (J 417 [(0, .ref roB), (1, .ref p1), (2, .ref p2), (3, .ref p3), (4, .int p4)] [] (600 - (k + 1), 3600 - 6 * (k + 1)) σ δ) := by
  have hJ := hI.cor
  unfold m_law_b417
  refine sj (j_goto hJ (tgt := 2400) dL_law_417 (by decide)) ?_
  refine sj (j_beta hJ (β' := (600 - (k + 1), 3600 - 6 * (k + 1))) (by dsimp only; omega) (by dsimp only; omega)) ?_
  exact w_law_b2400 hI σ k hk p1 p2 p3 p4 δ
def m_law_b384 (xs : Nat → Int32) (N : Nat) (σ : St) (k : Nat) (p1 : Nat) (p2 : Nat) (p3 : Nat) (p4 : Int32) (p5 : Int32) (q0 : Nat) (q1 : Int32) (q2 : Int32) (q3 : Int32) (q4 : Int32) (δ : Dy) : Option ((Nat × Int32 × Dy) ⊕ Unit) :=
  (chk σ 12 q0).bind fun _ => (m_X12_token σ q0 q1 q2 q3 q4 δ).bind fun v24 =>
  (chk σ 12 p2).bind fun _ => (m_X12_thrown σ p2 v24.2).bind fun v25 =>
  if v25 = p5 then
    if p5 = 0 then
      (rL σ v24.2 p3 (0 : Int32)).bind fun v26 =>
      if (lg_cmp v26 (v24.1).toInt64) = 0 then
        m_law_b417 xs N σ k p1 p2 p3 p4 v24.2
      else
        none
    else
      m_law_b417 xs N σ k p1 p2 p3 p4 v24.2
  else
    none
set_option maxHeartbeats 8000000 in
set_option maxRecDepth 100000 in
theorem w_law_b384 {xs : Nat → Int32} {N : Nat} {J : JT} (hI : IsL xs N J) (σ : St) (k : Nat) (hk : k < 600) (p1 : Nat) (p2 : Nat) (p3 : Nat) (p4 : Int32) (p5 : Int32) (q0 : Nat) (q1 : Int32) (q2 : Int32) (q3 : Int32) (q4 : Int32) (δ : Dy) : SJ (m_law_b384 xs N σ k p1 p2 p3 p4 p5 q0 q1 q2 q3 q4 δ) (PL (fun s : Nat × Int32 × Dy => J 23 [(0, .ref roB), (1, .ref p1), (2, .ref p2), (3, .ref p3), (4, .int s.2.1)] [] (600 - s.1, 3600 - 6 * s.1) σ s.2.2) (fun _ : Unit => True)) (J 384 [(0, .ref roB), (1, .ref p1), (2, .ref p2), (3, .ref p3), (4, .int p4), (5, .int p5)] [.int q4, .int q3, .int q2, .int q1, .ref q0] (600 - (k + 1), 3600 - 6 * (k + 1)) σ δ) := by
  have hJ := hI.cor
  unfold m_law_b384
  refine sj_callVi hJ [.int q1, .int q2, .int q3, .int q4] (st := []) (fr' := 3) (lo' := 62) ml_L_129 hc_12 (by decide) (by decide) (Nat.le_of_ble_eq_true rfl) dL_law_384 rfl (fun _ h9 => ct_X12_token h9) (fun v24 => ?_)
  refine sj (j_istore hJ (L' := [(6, .int v24.1), (0, .ref roB), (1, .ref p1), (2, .ref p2), (3, .ref p3), (4, .int p4), (5, .int p5)]) dL_law_387 (by decide) rfl) ?_
  refine sj (j_aload_n hJ dL_law_389 rfl 3 rfl) ?_
  refine sj_callVip hJ [] (st := []) (fr' := 0) (lo' := 0) ml_L_119 hc_12 (by decide) (by decide) (Nat.le_of_ble_eq_true rfl) dL_law_390 rfl (fun _ h9 => ct_X12_thrown h9) (fun v25 => ?_)
  refine sj (j_iload hJ dL_law_393 6 rfl) ?_
  refine sj_if (j_icmp_eq hJ (tgt := 400) dL_law_395 (by decide)) (fun _ => ?_) (fun _ => ?_)
  · refine sj (j_iload hJ dL_law_400 6 rfl) ?_
    refine sj_if (j_if_ne hJ (tgt := 417) dL_law_402 (by decide)) (fun _ => ?_) (fun _ => ?_)
    · refine sj (j_aload_n hJ dL_law_405 rfl 4 rfl) ?_
      refine sj (j_iconst hJ (v := 0) dL_law_406 ic_0) ?_
      refine sj_rL hJ dL_law_407 (fun v26 => ?_)
      refine sj (j_iload hJ dL_law_408 0 rfl) ?_
      refine sj (j_i2l hJ dL_law_410) ?_
      refine sj (j_lcmp hJ dL_law_411) ?_
      refine sj_if (j_if_eq hJ (tgt := 417) dL_law_412 (by decide)) (fun _ => ?_) (fun _ => ?_)
      · refine sj (j_sub hJ (L' := [(0, .ref roB), (1, .ref p1), (2, .ref p2), (3, .ref p3), (4, .int p4)]) [1, 2, 3, 4, 5] rfl) ?_
        refine sj (j_beta hJ (β' := (600 - (k + 1), 3600 - 6 * (k + 1))) (by dsimp only; omega) (by dsimp only; omega)) ?_
        exact w_law_b417 hI σ k hk p1 p2 p3 p4 v24.2
      · refine sj (j_iconst hJ (v := 0) dL_law_415 ic_0) ?_
        exact sj_none
    · refine sj (j_sub hJ (L' := [(0, .ref roB), (1, .ref p1), (2, .ref p2), (3, .ref p3), (4, .int p4)]) [1, 2, 3, 4, 5] rfl) ?_
      refine sj (j_beta hJ (β' := (600 - (k + 1), 3600 - 6 * (k + 1))) (by dsimp only; omega) (by dsimp only; omega)) ?_
      exact w_law_b417 hI σ k hk p1 p2 p3 p4 v24.2
  · refine sj (j_iconst hJ (v := 0) dL_law_398 ic_0) ?_
    exact sj_none
def m_law_b345 (xs : Nat → Int32) (N : Nat) (σ : St) (k : Nat) (p1 : Nat) (p2 : Nat) (p3 : Nat) (p4 : Int32) (q0 : Nat) (q1 : Int32) (q2 : Int32) (q3 : Int32) (q4 : Int32) (δ : Dy) : Option ((Nat × Int32 × Dy) ⊕ Unit) :=
  (m_L_token σ q0 q1 q2 q3 q4 p3 δ).bind fun v19 =>
  (rS xs N (p4 + (1 : Int32))).bind fun v20 =>
  (rS xs N (p4 + (2 : Int32))).bind fun v21 =>
  (rS xs N (p4 + (3 : Int32))).bind fun v22 =>
  (rS xs N (p4 + (4 : Int32))).bind fun v23 =>
  if v23 = 0 then
    m_law_b384 xs N σ k p1 p2 p3 p4 v19.1 p2 v20 v21 v22 (0 : Int32) v19.2
  else
    m_law_b384 xs N σ k p1 p2 p3 p4 v19.1 p2 v20 v21 v22 (1 : Int32) v19.2
set_option maxHeartbeats 8000000 in
set_option maxRecDepth 100000 in
theorem w_law_b345 {xs : Nat → Int32} {N : Nat} {J : JT} (hI : IsL xs N J) (σ : St) (k : Nat) (hk : k < 600) (p1 : Nat) (p2 : Nat) (p3 : Nat) (p4 : Int32) (q0 : Nat) (q1 : Int32) (q2 : Int32) (q3 : Int32) (q4 : Int32) (δ : Dy) : SJ (m_law_b345 xs N σ k p1 p2 p3 p4 q0 q1 q2 q3 q4 δ) (PL (fun s : Nat × Int32 × Dy => J 23 [(0, .ref roB), (1, .ref p1), (2, .ref p2), (3, .ref p3), (4, .int s.2.1)] [] (600 - s.1, 3600 - 6 * s.1) σ s.2.2) (fun _ : Unit => True)) (J 345 [(0, .ref roB), (1, .ref p1), (2, .ref p2), (3, .ref p3), (4, .int p4)] [.int q4, .int q3, .int q2, .int q1, .ref q0] (600 - k, 3600 - 6 * k) σ δ) := by
  have hJ := hI.cor
  unfold m_law_b345
  refine sj (j_aload_n hJ dL_law_345 rfl 3 rfl) ?_
  refine sl_callW hJ [.ref q0, .int q1, .int q2, .int q3, .int q4, .ref p3] (st := []) (fr' := 12) (lo' := 295) mlw_126 (by decide) (by decide) (Nat.le_of_ble_eq_true rfl) (by dsimp only; omega) (by dsimp only; omega) dL_law_346 rfl (fun _ h9 => ct_L_token h9) (fun v19 => ?_)
  refine sj (j_istore hJ (L' := [(5, .int v19.1), (0, .ref roB), (1, .ref p1), (2, .ref p2), (3, .ref p3), (4, .int p4)]) dL_law_349 (by decide) rfl) ?_
  refine sj (j_aload_n hJ dL_law_351 rfl 3 rfl) ?_
  refine sj (j_aload_n hJ dL_law_352 rfl 1 rfl) ?_
  refine sj (j_iload hJ dL_law_353 5 rfl) ?_
  refine sj (j_iconst hJ (v := 1) dL_law_355 ic_1) ?_
  refine sj (j_iadd hJ dL_law_356) ?_
  refine sl_rS hI dL_law_357 (fun v20 => ?_)
  refine sj (j_aload_n hJ dL_law_358 rfl 1 rfl) ?_
  refine sj (j_iload hJ dL_law_359 5 rfl) ?_
  refine sj (j_iconst hJ (v := 2) dL_law_361 ic_2) ?_
  refine sj (j_iadd hJ dL_law_362) ?_
  refine sl_rS hI dL_law_363 (fun v21 => ?_)
  refine sj (j_aload_n hJ dL_law_364 rfl 1 rfl) ?_
  refine sj (j_iload hJ dL_law_365 5 rfl) ?_
  refine sj (j_iconst hJ (v := 3) dL_law_367 ic_3) ?_
  refine sj (j_iadd hJ dL_law_368) ?_
  refine sl_rS hI dL_law_369 (fun v22 => ?_)
  refine sj (j_aload_n hJ dL_law_370 rfl 1 rfl) ?_
  refine sj (j_iload hJ dL_law_371 5 rfl) ?_
  refine sj (j_iconst hJ (v := 4) dL_law_373 ic_4) ?_
  refine sj (j_iadd hJ dL_law_374) ?_
  refine sl_rS hI dL_law_375 (fun v23 => ?_)
  refine sj_if (j_if_eq hJ (tgt := 383) dL_law_376 (by decide)) (fun _ => ?_) (fun _ => ?_)
  · refine sj (j_iconst hJ (v := 0) dL_law_383 ic_0) ?_
    refine sj (j_sub hJ (L' := [(0, .ref roB), (1, .ref p1), (2, .ref p2), (3, .ref p3), (4, .int p4), (5, .int v19.1)]) [1, 2, 3, 4, 5, 0] rfl) ?_
    refine sj (j_beta hJ (β' := (600 - (k + 1), 3600 - 6 * (k + 1))) (by dsimp only; omega) (by dsimp only; omega)) ?_
    exact w_law_b384 hI σ k hk p1 p2 p3 p4 v19.1 p2 v20 v21 v22 (0 : Int32) v19.2
  · refine sj (j_iconst hJ (v := 1) dL_law_379 ic_1) ?_
    refine sj (j_goto hJ (tgt := 384) dL_law_380 (by decide)) ?_
    refine sj (j_sub hJ (L' := [(0, .ref roB), (1, .ref p1), (2, .ref p2), (3, .ref p3), (4, .int p4), (5, .int v19.1)]) [1, 2, 3, 4, 5, 0] rfl) ?_
    refine sj (j_beta hJ (β' := (600 - (k + 1), 3600 - 6 * (k + 1))) (by dsimp only; omega) (by dsimp only; omega)) ?_
    exact w_law_b384 hI σ k hk p1 p2 p3 p4 v19.1 p2 v20 v21 v22 (1 : Int32) v19.2
def m_law_b312 (xs : Nat → Int32) (N : Nat) (σ : St) (k : Nat) (p1 : Nat) (p2 : Nat) (p3 : Nat) (p4 : Int32) (δ : Dy) : Option ((Nat × Int32 × Dy) ⊕ Unit) :=
  (rS xs N (p4 + (1 : Int32))).bind fun v15 =>
  (rS xs N (p4 + (2 : Int32))).bind fun v16 =>
  (rS xs N (p4 + (3 : Int32))).bind fun v17 =>
  (rS xs N (p4 + (4 : Int32))).bind fun v18 =>
  if v18 = 0 then
    m_law_b345 xs N σ k p1 p2 p3 p4 p1 v15 v16 v17 (0 : Int32) δ
  else
    m_law_b345 xs N σ k p1 p2 p3 p4 p1 v15 v16 v17 (1 : Int32) δ
set_option maxHeartbeats 8000000 in
set_option maxRecDepth 100000 in
theorem w_law_b312 {xs : Nat → Int32} {N : Nat} {J : JT} (hI : IsL xs N J) (σ : St) (k : Nat) (hk : k < 600) (p1 : Nat) (p2 : Nat) (p3 : Nat) (p4 : Int32) (δ : Dy) : SJ (m_law_b312 xs N σ k p1 p2 p3 p4 δ) (PL (fun s : Nat × Int32 × Dy => J 23 [(0, .ref roB), (1, .ref p1), (2, .ref p2), (3, .ref p3), (4, .int s.2.1)] [] (600 - s.1, 3600 - 6 * s.1) σ s.2.2) (fun _ : Unit => True)) (J 312 [(0, .ref roB), (1, .ref p1), (2, .ref p2), (3, .ref p3), (4, .int p4)] [] (600 - k, 3600 - 6 * k) σ δ) := by
  have hJ := hI.cor
  unfold m_law_b312
  refine sj (j_aload_n hJ dL_law_312 rfl 1 rfl) ?_
  refine sj (j_aload_n hJ dL_law_313 rfl 0 rfl) ?_
  refine sj (j_iload hJ dL_law_314 4 rfl) ?_
  refine sj (j_iconst hJ (v := 1) dL_law_316 ic_1) ?_
  refine sj (j_iadd hJ dL_law_317) ?_
  refine sl_rS hI dL_law_318 (fun v15 => ?_)
  refine sj (j_aload_n hJ dL_law_319 rfl 0 rfl) ?_
  refine sj (j_iload hJ dL_law_320 4 rfl) ?_
  refine sj (j_iconst hJ (v := 2) dL_law_322 ic_2) ?_
  refine sj (j_iadd hJ dL_law_323) ?_
  refine sl_rS hI dL_law_324 (fun v16 => ?_)
  refine sj (j_aload_n hJ dL_law_325 rfl 0 rfl) ?_
  refine sj (j_iload hJ dL_law_326 4 rfl) ?_
  refine sj (j_iconst hJ (v := 3) dL_law_328 ic_3) ?_
  refine sj (j_iadd hJ dL_law_329) ?_
  refine sl_rS hI dL_law_330 (fun v17 => ?_)
  refine sj (j_aload_n hJ dL_law_331 rfl 0 rfl) ?_
  refine sj (j_iload hJ dL_law_332 4 rfl) ?_
  refine sj (j_iconst hJ (v := 4) dL_law_334 ic_4) ?_
  refine sj (j_iadd hJ dL_law_335) ?_
  refine sl_rS hI dL_law_336 (fun v18 => ?_)
  refine sj_if (j_if_eq hJ (tgt := 344) dL_law_337 (by decide)) (fun _ => ?_) (fun _ => ?_)
  · refine sj (j_iconst hJ (v := 0) dL_law_344 ic_0) ?_
    refine sj (j_beta hJ (β' := (600 - k, 3600 - 6 * k)) (by dsimp only; omega) (by dsimp only; omega)) ?_
    exact w_law_b345 hI σ k hk p1 p2 p3 p4 p1 v15 v16 v17 (0 : Int32) δ
  · refine sj (j_iconst hJ (v := 1) dL_law_340 ic_1) ?_
    refine sj (j_goto hJ (tgt := 345) dL_law_341 (by decide)) ?_
    refine sj (j_beta hJ (β' := (600 - k, 3600 - 6 * k)) (by dsimp only; omega) (by dsimp only; omega)) ?_
    exact w_law_b345 hI σ k hk p1 p2 p3 p4 p1 v15 v16 v17 (1 : Int32) δ
def m_law_b485 (xs : Nat → Int32) (N : Nat) (σ : St) (k : Nat) (p1 : Nat) (p2 : Nat) (p3 : Nat) (p4 : Int32) (δ : Dy) : Option ((Nat × Int32 × Dy) ⊕ Unit) :=
  m_law_b2400 xs N σ k p1 p2 p3 p4 δ
set_option maxHeartbeats 8000000 in
set_option maxRecDepth 100000 in
theorem w_law_b485 {xs : Nat → Int32} {N : Nat} {J : JT} (hI : IsL xs N J) (σ : St) (k : Nat) (hk : k < 600) (p1 : Nat) (p2 : Nat) (p3 : Nat) (p4 : Int32) (δ : Dy) : SJ (m_law_b485 xs N σ k p1 p2 p3 p4 δ) (PL (fun s : Nat × Int32 × Dy => J 23 [(0, .ref roB), (1, .ref p1), (2, .ref p2), (3, .ref p3), (4, .int s.2.1)] [] (600 - s.1, 3600 - 6 * s.1) σ s.2.2) (fun _ : Unit => True)) (J 485 [(0, .ref roB), (1, .ref p1), (2, .ref p2), (3, .ref p3), (4, .int p4)] [] (600 - (k + 1), 3600 - 6 * (k + 1)) σ δ) := by
  have hJ := hI.cor
  unfold m_law_b485
  refine sj (j_goto hJ (tgt := 2400) dL_law_485 (by decide)) ?_
  refine sj (j_beta hJ (β' := (600 - (k + 1), 3600 - 6 * (k + 1))) (by dsimp only; omega) (by dsimp only; omega)) ?_
  exact w_law_b2400 hI σ k hk p1 p2 p3 p4 δ
def m_law_b420 (xs : Nat → Int32) (N : Nat) (σ : St) (k : Nat) (p1 : Nat) (p2 : Nat) (p3 : Nat) (p4 : Int32) (δ : Dy) : Option ((Nat × Int32 × Dy) ⊕ Unit) :=
  (rS xs N (p4 + (1 : Int32))).bind fun v27 =>
  (rS xs N (p4 + (2 : Int32))).bind fun v28 =>
  (m_L_both σ p1 v27 v28 p3 δ).bind fun v29 =>
  (rS xs N (p4 + (1 : Int32))).bind fun v30 =>
  (rS xs N (p4 + (2 : Int32))).bind fun v31 =>
  (chk σ 12 p2).bind fun _ => (m_X12_both σ p2 v30 v31 v29.2).bind fun v32 =>
  (chk σ 12 p2).bind fun _ => (m_X12_thrown σ p2 v32.2).bind fun v33 =>
  if v33 = v29.1 then
    if v29.1 = 0 then
      (rL σ v32.2 p3 (0 : Int32)).bind fun v34 =>
      if (lg_cmp v34 (v32.1).toInt64) = 0 then
        m_law_b485 xs N σ k p1 p2 p3 p4 v32.2
      else
        none
    else
      m_law_b485 xs N σ k p1 p2 p3 p4 v32.2
  else
    none
set_option maxHeartbeats 8000000 in
set_option maxRecDepth 100000 in
theorem w_law_b420 {xs : Nat → Int32} {N : Nat} {J : JT} (hI : IsL xs N J) (σ : St) (k : Nat) (hk : k < 600) (p1 : Nat) (p2 : Nat) (p3 : Nat) (p4 : Int32) (δ : Dy) : SJ (m_law_b420 xs N σ k p1 p2 p3 p4 δ) (PL (fun s : Nat × Int32 × Dy => J 23 [(0, .ref roB), (1, .ref p1), (2, .ref p2), (3, .ref p3), (4, .int s.2.1)] [] (600 - s.1, 3600 - 6 * s.1) σ s.2.2) (fun _ : Unit => True)) (J 420 [(0, .ref roB), (1, .ref p1), (2, .ref p2), (3, .ref p3), (4, .int p4)] [] (600 - k, 3600 - 6 * k) σ δ) := by
  have hJ := hI.cor
  unfold m_law_b420
  refine sj (j_aload_n hJ dL_law_420 rfl 1 rfl) ?_
  refine sj (j_aload_n hJ dL_law_421 rfl 0 rfl) ?_
  refine sj (j_iload hJ dL_law_422 4 rfl) ?_
  refine sj (j_iconst hJ (v := 1) dL_law_424 ic_1) ?_
  refine sj (j_iadd hJ dL_law_425) ?_
  refine sl_rS hI dL_law_426 (fun v27 => ?_)
  refine sj (j_aload_n hJ dL_law_427 rfl 0 rfl) ?_
  refine sj (j_iload hJ dL_law_428 4 rfl) ?_
  refine sj (j_iconst hJ (v := 2) dL_law_430 ic_2) ?_
  refine sj (j_iadd hJ dL_law_431) ?_
  refine sl_rS hI dL_law_432 (fun v28 => ?_)
  refine sj (j_aload_n hJ dL_law_433 rfl 3 rfl) ?_
  refine sl_callW hJ [.ref p1, .int v27, .int v28, .ref p3] (st := []) (fr' := 11) (lo' := 272) mlw_130 (by decide) (by decide) (Nat.le_of_ble_eq_true rfl) (by dsimp only; omega) (by dsimp only; omega) dL_law_434 rfl (fun _ h9 => ct_L_both h9) (fun v29 => ?_)
  refine sj (j_istore hJ (L' := [(5, .int v29.1), (0, .ref roB), (1, .ref p1), (2, .ref p2), (3, .ref p3), (4, .int p4)]) dL_law_437 (by decide) rfl) ?_
  refine sj (j_aload_n hJ dL_law_439 rfl 3 rfl) ?_
  refine sj (j_aload_n hJ dL_law_440 rfl 1 rfl) ?_
  refine sj (j_iload hJ dL_law_441 5 rfl) ?_
  refine sj (j_iconst hJ (v := 1) dL_law_443 ic_1) ?_
  refine sj (j_iadd hJ dL_law_444) ?_
  refine sl_rS hI dL_law_445 (fun v30 => ?_)
  refine sj (j_aload_n hJ dL_law_446 rfl 1 rfl) ?_
  refine sj (j_iload hJ dL_law_447 5 rfl) ?_
  refine sj (j_iconst hJ (v := 2) dL_law_449 ic_2) ?_
  refine sj (j_iadd hJ dL_law_450) ?_
  refine sl_rS hI dL_law_451 (fun v31 => ?_)
  refine sj_callVi hJ [.int v30, .int v31] (st := []) (fr' := 2) (lo' := 43) ml_L_132 hc_12 (by decide) (by decide) (Nat.le_of_ble_eq_true rfl) dL_law_452 rfl (fun _ h9 => ct_X12_both h9) (fun v32 => ?_)
  refine sj (j_istore hJ (L' := [(6, .int v32.1), (5, .int v29.1), (0, .ref roB), (1, .ref p1), (2, .ref p2), (3, .ref p3), (4, .int p4)]) dL_law_455 (by decide) rfl) ?_
  refine sj (j_aload_n hJ dL_law_457 rfl 4 rfl) ?_
  refine sj_callVip hJ [] (st := []) (fr' := 0) (lo' := 0) ml_L_119 hc_12 (by decide) (by decide) (Nat.le_of_ble_eq_true rfl) dL_law_458 rfl (fun _ h9 => ct_X12_thrown h9) (fun v33 => ?_)
  refine sj (j_iload hJ dL_law_461 1 rfl) ?_
  refine sj_if (j_icmp_eq hJ (tgt := 468) dL_law_463 (by decide)) (fun _ => ?_) (fun _ => ?_)
  · refine sj (j_iload hJ dL_law_468 1 rfl) ?_
    refine sj_if (j_if_ne hJ (tgt := 485) dL_law_470 (by decide)) (fun _ => ?_) (fun _ => ?_)
    · refine sj (j_aload_n hJ dL_law_473 rfl 5 rfl) ?_
      refine sj (j_iconst hJ (v := 0) dL_law_474 ic_0) ?_
      refine sj_rL hJ dL_law_475 (fun v34 => ?_)
      refine sj (j_iload hJ dL_law_476 0 rfl) ?_
      refine sj (j_i2l hJ dL_law_478) ?_
      refine sj (j_lcmp hJ dL_law_479) ?_
      refine sj_if (j_if_eq hJ (tgt := 485) dL_law_480 (by decide)) (fun _ => ?_) (fun _ => ?_)
      · refine sj (j_sub hJ (L' := [(0, .ref roB), (1, .ref p1), (2, .ref p2), (3, .ref p3), (4, .int p4)]) [2, 3, 4, 5, 6] rfl) ?_
        refine sj (j_beta hJ (β' := (600 - (k + 1), 3600 - 6 * (k + 1))) (by dsimp only; omega) (by dsimp only; omega)) ?_
        exact w_law_b485 hI σ k hk p1 p2 p3 p4 v32.2
      · refine sj (j_iconst hJ (v := 0) dL_law_483 ic_0) ?_
        exact sj_none
    · refine sj (j_sub hJ (L' := [(0, .ref roB), (1, .ref p1), (2, .ref p2), (3, .ref p3), (4, .int p4)]) [2, 3, 4, 5, 6] rfl) ?_
      refine sj (j_beta hJ (β' := (600 - (k + 1), 3600 - 6 * (k + 1))) (by dsimp only; omega) (by dsimp only; omega)) ?_
      exact w_law_b485 hI σ k hk p1 p2 p3 p4 v32.2
  · refine sj (j_iconst hJ (v := 0) dL_law_466 ic_0) ?_
    exact sj_none
def m_law_b577 (xs : Nat → Int32) (N : Nat) (σ : St) (k : Nat) (p1 : Nat) (p2 : Nat) (p3 : Nat) (p4 : Int32) (δ : Dy) : Option ((Nat × Int32 × Dy) ⊕ Unit) :=
  m_law_b2400 xs N σ k p1 p2 p3 p4 δ
set_option maxHeartbeats 8000000 in
set_option maxRecDepth 100000 in
theorem w_law_b577 {xs : Nat → Int32} {N : Nat} {J : JT} (hI : IsL xs N J) (σ : St) (k : Nat) (hk : k < 600) (p1 : Nat) (p2 : Nat) (p3 : Nat) (p4 : Int32) (δ : Dy) : SJ (m_law_b577 xs N σ k p1 p2 p3 p4 δ) (PL (fun s : Nat × Int32 × Dy => J 23 [(0, .ref roB), (1, .ref p1), (2, .ref p2), (3, .ref p3), (4, .int s.2.1)] [] (600 - s.1, 3600 - 6 * s.1) σ s.2.2) (fun _ : Unit => True)) (J 577 [(0, .ref roB), (1, .ref p1), (2, .ref p2), (3, .ref p3), (4, .int p4)] [] (600 - (k + 1), 3600 - 6 * (k + 1)) σ δ) := by
  have hJ := hI.cor
  unfold m_law_b577
  refine sj (j_goto hJ (tgt := 2400) dL_law_577 (by decide)) ?_
  refine sj (j_beta hJ (β' := (600 - (k + 1), 3600 - 6 * (k + 1))) (by dsimp only; omega) (by dsimp only; omega)) ?_
  exact w_law_b2400 hI σ k hk p1 p2 p3 p4 δ
def m_law_b488 (xs : Nat → Int32) (N : Nat) (σ : St) (k : Nat) (p1 : Nat) (p2 : Nat) (p3 : Nat) (p4 : Int32) (δ : Dy) : Option ((Nat × Int32 × Dy) ⊕ Unit) :=
  (rS xs N (p4 + (1 : Int32))).bind fun v35 =>
  (rS xs N (p4 + (2 : Int32))).bind fun v36 =>
  (rS xs N (p4 + (3 : Int32))).bind fun v37 =>
  (rS xs N (p4 + (4 : Int32))).bind fun v38 =>
  (m_L_when σ p1 v35 v36 v37 v38 p3 δ).bind fun v39 =>
  (rS xs N (p4 + (1 : Int32))).bind fun v40 =>
  (rS xs N (p4 + (2 : Int32))).bind fun v41 =>
  (rS xs N (p4 + (3 : Int32))).bind fun v42 =>
  (rS xs N (p4 + (4 : Int32))).bind fun v43 =>
  (chk σ 12 p2).bind fun _ => (m_X12_when σ p2 v40 v41 v42 v43 v39.2).bind fun v44 =>
  (chk σ 12 p2).bind fun _ => (m_X12_thrown σ p2 v44.2).bind fun v45 =>
  if v45 = v39.1 then
    if v39.1 = 0 then
      (rL σ v44.2 p3 (0 : Int32)).bind fun v46 =>
      if (lg_cmp v46 (v44.1).toInt64) = 0 then
        m_law_b577 xs N σ k p1 p2 p3 p4 v44.2
      else
        none
    else
      m_law_b577 xs N σ k p1 p2 p3 p4 v44.2
  else
    none
set_option maxHeartbeats 8000000 in
set_option maxRecDepth 100000 in
theorem w_law_b488 {xs : Nat → Int32} {N : Nat} {J : JT} (hI : IsL xs N J) (σ : St) (k : Nat) (hk : k < 600) (p1 : Nat) (p2 : Nat) (p3 : Nat) (p4 : Int32) (δ : Dy) : SJ (m_law_b488 xs N σ k p1 p2 p3 p4 δ) (PL (fun s : Nat × Int32 × Dy => J 23 [(0, .ref roB), (1, .ref p1), (2, .ref p2), (3, .ref p3), (4, .int s.2.1)] [] (600 - s.1, 3600 - 6 * s.1) σ s.2.2) (fun _ : Unit => True)) (J 488 [(0, .ref roB), (1, .ref p1), (2, .ref p2), (3, .ref p3), (4, .int p4)] [] (600 - k, 3600 - 6 * k) σ δ) := by
  have hJ := hI.cor
  unfold m_law_b488
  refine sj (j_aload_n hJ dL_law_488 rfl 1 rfl) ?_
  refine sj (j_aload_n hJ dL_law_489 rfl 0 rfl) ?_
  refine sj (j_iload hJ dL_law_490 4 rfl) ?_
  refine sj (j_iconst hJ (v := 1) dL_law_492 ic_1) ?_
  refine sj (j_iadd hJ dL_law_493) ?_
  refine sl_rS hI dL_law_494 (fun v35 => ?_)
  refine sj (j_aload_n hJ dL_law_495 rfl 0 rfl) ?_
  refine sj (j_iload hJ dL_law_496 4 rfl) ?_
  refine sj (j_iconst hJ (v := 2) dL_law_498 ic_2) ?_
  refine sj (j_iadd hJ dL_law_499) ?_
  refine sl_rS hI dL_law_500 (fun v36 => ?_)
  refine sj (j_aload_n hJ dL_law_501 rfl 0 rfl) ?_
  refine sj (j_iload hJ dL_law_502 4 rfl) ?_
  refine sj (j_iconst hJ (v := 3) dL_law_504 ic_3) ?_
  refine sj (j_iadd hJ dL_law_505) ?_
  refine sl_rS hI dL_law_506 (fun v37 => ?_)
  refine sj (j_aload_n hJ dL_law_507 rfl 0 rfl) ?_
  refine sj (j_iload hJ dL_law_508 4 rfl) ?_
  refine sj (j_iconst hJ (v := 4) dL_law_510 ic_4) ?_
  refine sj (j_iadd hJ dL_law_511) ?_
  refine sl_rS hI dL_law_512 (fun v38 => ?_)
  refine sj (j_aload_n hJ dL_law_513 rfl 3 rfl) ?_
  refine sl_callW hJ [.ref p1, .int v35, .int v36, .int v37, .int v38, .ref p3] (st := []) (fr' := 12) (lo' := 296) mlw_133 (by decide) (by decide) (Nat.le_of_ble_eq_true rfl) (by dsimp only; omega) (by dsimp only; omega) dL_law_514 rfl (fun _ h9 => ct_L_when h9) (fun v39 => ?_)
  refine sj (j_istore hJ (L' := [(5, .int v39.1), (0, .ref roB), (1, .ref p1), (2, .ref p2), (3, .ref p3), (4, .int p4)]) dL_law_517 (by decide) rfl) ?_
  refine sj (j_aload_n hJ dL_law_519 rfl 3 rfl) ?_
  refine sj (j_aload_n hJ dL_law_520 rfl 1 rfl) ?_
  refine sj (j_iload hJ dL_law_521 5 rfl) ?_
  refine sj (j_iconst hJ (v := 1) dL_law_523 ic_1) ?_
  refine sj (j_iadd hJ dL_law_524) ?_
  refine sl_rS hI dL_law_525 (fun v40 => ?_)
  refine sj (j_aload_n hJ dL_law_526 rfl 1 rfl) ?_
  refine sj (j_iload hJ dL_law_527 5 rfl) ?_
  refine sj (j_iconst hJ (v := 2) dL_law_529 ic_2) ?_
  refine sj (j_iadd hJ dL_law_530) ?_
  refine sl_rS hI dL_law_531 (fun v41 => ?_)
  refine sj (j_aload_n hJ dL_law_532 rfl 1 rfl) ?_
  refine sj (j_iload hJ dL_law_533 5 rfl) ?_
  refine sj (j_iconst hJ (v := 3) dL_law_535 ic_3) ?_
  refine sj (j_iadd hJ dL_law_536) ?_
  refine sl_rS hI dL_law_537 (fun v42 => ?_)
  refine sj (j_aload_n hJ dL_law_538 rfl 1 rfl) ?_
  refine sj (j_iload hJ dL_law_539 5 rfl) ?_
  refine sj (j_iconst hJ (v := 4) dL_law_541 ic_4) ?_
  refine sj (j_iadd hJ dL_law_542) ?_
  refine sl_rS hI dL_law_543 (fun v43 => ?_)
  refine sj_callVi hJ [.int v40, .int v41, .int v42, .int v43] (st := []) (fr' := 4) (lo' := 84) ml_L_136 hc_12 (by decide) (by decide) (Nat.le_of_ble_eq_true rfl) dL_law_544 rfl (fun _ h9 => ct_X12_when h9) (fun v44 => ?_)
  refine sj (j_istore hJ (L' := [(6, .int v44.1), (5, .int v39.1), (0, .ref roB), (1, .ref p1), (2, .ref p2), (3, .ref p3), (4, .int p4)]) dL_law_547 (by decide) rfl) ?_
  refine sj (j_aload_n hJ dL_law_549 rfl 4 rfl) ?_
  refine sj_callVip hJ [] (st := []) (fr' := 0) (lo' := 0) ml_L_119 hc_12 (by decide) (by decide) (Nat.le_of_ble_eq_true rfl) dL_law_550 rfl (fun _ h9 => ct_X12_thrown h9) (fun v45 => ?_)
  refine sj (j_iload hJ dL_law_553 1 rfl) ?_
  refine sj_if (j_icmp_eq hJ (tgt := 560) dL_law_555 (by decide)) (fun _ => ?_) (fun _ => ?_)
  · refine sj (j_iload hJ dL_law_560 1 rfl) ?_
    refine sj_if (j_if_ne hJ (tgt := 577) dL_law_562 (by decide)) (fun _ => ?_) (fun _ => ?_)
    · refine sj (j_aload_n hJ dL_law_565 rfl 5 rfl) ?_
      refine sj (j_iconst hJ (v := 0) dL_law_566 ic_0) ?_
      refine sj_rL hJ dL_law_567 (fun v46 => ?_)
      refine sj (j_iload hJ dL_law_568 0 rfl) ?_
      refine sj (j_i2l hJ dL_law_570) ?_
      refine sj (j_lcmp hJ dL_law_571) ?_
      refine sj_if (j_if_eq hJ (tgt := 577) dL_law_572 (by decide)) (fun _ => ?_) (fun _ => ?_)
      · refine sj (j_sub hJ (L' := [(0, .ref roB), (1, .ref p1), (2, .ref p2), (3, .ref p3), (4, .int p4)]) [2, 3, 4, 5, 6] rfl) ?_
        refine sj (j_beta hJ (β' := (600 - (k + 1), 3600 - 6 * (k + 1))) (by dsimp only; omega) (by dsimp only; omega)) ?_
        exact w_law_b577 hI σ k hk p1 p2 p3 p4 v44.2
      · refine sj (j_iconst hJ (v := 0) dL_law_575 ic_0) ?_
        exact sj_none
    · refine sj (j_sub hJ (L' := [(0, .ref roB), (1, .ref p1), (2, .ref p2), (3, .ref p3), (4, .int p4)]) [2, 3, 4, 5, 6] rfl) ?_
      refine sj (j_beta hJ (β' := (600 - (k + 1), 3600 - 6 * (k + 1))) (by dsimp only; omega) (by dsimp only; omega)) ?_
      exact w_law_b577 hI σ k hk p1 p2 p3 p4 v44.2
  · refine sj (j_iconst hJ (v := 0) dL_law_558 ic_0) ?_
    exact sj_none
def m_law_b669 (xs : Nat → Int32) (N : Nat) (σ : St) (k : Nat) (p1 : Nat) (p2 : Nat) (p3 : Nat) (p4 : Int32) (δ : Dy) : Option ((Nat × Int32 × Dy) ⊕ Unit) :=
  m_law_b2400 xs N σ k p1 p2 p3 p4 δ
set_option maxHeartbeats 8000000 in
set_option maxRecDepth 100000 in
theorem w_law_b669 {xs : Nat → Int32} {N : Nat} {J : JT} (hI : IsL xs N J) (σ : St) (k : Nat) (hk : k < 600) (p1 : Nat) (p2 : Nat) (p3 : Nat) (p4 : Int32) (δ : Dy) : SJ (m_law_b669 xs N σ k p1 p2 p3 p4 δ) (PL (fun s : Nat × Int32 × Dy => J 23 [(0, .ref roB), (1, .ref p1), (2, .ref p2), (3, .ref p3), (4, .int s.2.1)] [] (600 - s.1, 3600 - 6 * s.1) σ s.2.2) (fun _ : Unit => True)) (J 669 [(0, .ref roB), (1, .ref p1), (2, .ref p2), (3, .ref p3), (4, .int p4)] [] (600 - (k + 1), 3600 - 6 * (k + 1)) σ δ) := by
  have hJ := hI.cor
  unfold m_law_b669
  refine sj (j_goto hJ (tgt := 2400) dL_law_669 (by decide)) ?_
  refine sj (j_beta hJ (β' := (600 - (k + 1), 3600 - 6 * (k + 1))) (by dsimp only; omega) (by dsimp only; omega)) ?_
  exact w_law_b2400 hI σ k hk p1 p2 p3 p4 δ
def m_law_b580 (xs : Nat → Int32) (N : Nat) (σ : St) (k : Nat) (p1 : Nat) (p2 : Nat) (p3 : Nat) (p4 : Int32) (δ : Dy) : Option ((Nat × Int32 × Dy) ⊕ Unit) :=
  (rS xs N (p4 + (1 : Int32))).bind fun v47 =>
  (rS xs N (p4 + (2 : Int32))).bind fun v48 =>
  (rS xs N (p4 + (3 : Int32))).bind fun v49 =>
  (rS xs N (p4 + (4 : Int32))).bind fun v50 =>
  (m_L_either σ p1 v47 v48 v49 v50 p3 δ).bind fun v51 =>
  (rS xs N (p4 + (1 : Int32))).bind fun v52 =>
  (rS xs N (p4 + (2 : Int32))).bind fun v53 =>
  (rS xs N (p4 + (3 : Int32))).bind fun v54 =>
  (rS xs N (p4 + (4 : Int32))).bind fun v55 =>
  (chk σ 12 p2).bind fun _ => (m_X12_either σ p2 v52 v53 v54 v55 v51.2).bind fun v56 =>
  (chk σ 12 p2).bind fun _ => (m_X12_thrown σ p2 v56.2).bind fun v57 =>
  if v57 = v51.1 then
    if v51.1 = 0 then
      (rL σ v56.2 p3 (0 : Int32)).bind fun v58 =>
      if (lg_cmp v58 (v56.1).toInt64) = 0 then
        m_law_b669 xs N σ k p1 p2 p3 p4 v56.2
      else
        none
    else
      m_law_b669 xs N σ k p1 p2 p3 p4 v56.2
  else
    none
set_option maxHeartbeats 8000000 in
set_option maxRecDepth 100000 in
theorem w_law_b580 {xs : Nat → Int32} {N : Nat} {J : JT} (hI : IsL xs N J) (σ : St) (k : Nat) (hk : k < 600) (p1 : Nat) (p2 : Nat) (p3 : Nat) (p4 : Int32) (δ : Dy) : SJ (m_law_b580 xs N σ k p1 p2 p3 p4 δ) (PL (fun s : Nat × Int32 × Dy => J 23 [(0, .ref roB), (1, .ref p1), (2, .ref p2), (3, .ref p3), (4, .int s.2.1)] [] (600 - s.1, 3600 - 6 * s.1) σ s.2.2) (fun _ : Unit => True)) (J 580 [(0, .ref roB), (1, .ref p1), (2, .ref p2), (3, .ref p3), (4, .int p4)] [] (600 - k, 3600 - 6 * k) σ δ) := by
  have hJ := hI.cor
  unfold m_law_b580
  refine sj (j_aload_n hJ dL_law_580 rfl 1 rfl) ?_
  refine sj (j_aload_n hJ dL_law_581 rfl 0 rfl) ?_
  refine sj (j_iload hJ dL_law_582 4 rfl) ?_
  refine sj (j_iconst hJ (v := 1) dL_law_584 ic_1) ?_
  refine sj (j_iadd hJ dL_law_585) ?_
  refine sl_rS hI dL_law_586 (fun v47 => ?_)
  refine sj (j_aload_n hJ dL_law_587 rfl 0 rfl) ?_
  refine sj (j_iload hJ dL_law_588 4 rfl) ?_
  refine sj (j_iconst hJ (v := 2) dL_law_590 ic_2) ?_
  refine sj (j_iadd hJ dL_law_591) ?_
  refine sl_rS hI dL_law_592 (fun v48 => ?_)
  refine sj (j_aload_n hJ dL_law_593 rfl 0 rfl) ?_
  refine sj (j_iload hJ dL_law_594 4 rfl) ?_
  refine sj (j_iconst hJ (v := 3) dL_law_596 ic_3) ?_
  refine sj (j_iadd hJ dL_law_597) ?_
  refine sl_rS hI dL_law_598 (fun v49 => ?_)
  refine sj (j_aload_n hJ dL_law_599 rfl 0 rfl) ?_
  refine sj (j_iload hJ dL_law_600 4 rfl) ?_
  refine sj (j_iconst hJ (v := 4) dL_law_602 ic_4) ?_
  refine sj (j_iadd hJ dL_law_603) ?_
  refine sl_rS hI dL_law_604 (fun v50 => ?_)
  refine sj (j_aload_n hJ dL_law_605 rfl 3 rfl) ?_
  refine sl_callW hJ [.ref p1, .int v47, .int v48, .int v49, .int v50, .ref p3] (st := []) (fr' := 11) (lo' := 275) mlw_137 (by decide) (by decide) (Nat.le_of_ble_eq_true rfl) (by dsimp only; omega) (by dsimp only; omega) dL_law_606 rfl (fun _ h9 => ct_L_either h9) (fun v51 => ?_)
  refine sj (j_istore hJ (L' := [(5, .int v51.1), (0, .ref roB), (1, .ref p1), (2, .ref p2), (3, .ref p3), (4, .int p4)]) dL_law_609 (by decide) rfl) ?_
  refine sj (j_aload_n hJ dL_law_611 rfl 3 rfl) ?_
  refine sj (j_aload_n hJ dL_law_612 rfl 1 rfl) ?_
  refine sj (j_iload hJ dL_law_613 5 rfl) ?_
  refine sj (j_iconst hJ (v := 1) dL_law_615 ic_1) ?_
  refine sj (j_iadd hJ dL_law_616) ?_
  refine sl_rS hI dL_law_617 (fun v52 => ?_)
  refine sj (j_aload_n hJ dL_law_618 rfl 1 rfl) ?_
  refine sj (j_iload hJ dL_law_619 5 rfl) ?_
  refine sj (j_iconst hJ (v := 2) dL_law_621 ic_2) ?_
  refine sj (j_iadd hJ dL_law_622) ?_
  refine sl_rS hI dL_law_623 (fun v53 => ?_)
  refine sj (j_aload_n hJ dL_law_624 rfl 1 rfl) ?_
  refine sj (j_iload hJ dL_law_625 5 rfl) ?_
  refine sj (j_iconst hJ (v := 3) dL_law_627 ic_3) ?_
  refine sj (j_iadd hJ dL_law_628) ?_
  refine sl_rS hI dL_law_629 (fun v54 => ?_)
  refine sj (j_aload_n hJ dL_law_630 rfl 1 rfl) ?_
  refine sj (j_iload hJ dL_law_631 5 rfl) ?_
  refine sj (j_iconst hJ (v := 4) dL_law_633 ic_4) ?_
  refine sj (j_iadd hJ dL_law_634) ?_
  refine sl_rS hI dL_law_635 (fun v55 => ?_)
  refine sj_callVi hJ [.int v52, .int v53, .int v54, .int v55] (st := []) (fr' := 2) (lo' := 43) ml_L_139 hc_12 (by decide) (by decide) (Nat.le_of_ble_eq_true rfl) dL_law_636 rfl (fun _ h9 => ct_X12_either h9) (fun v56 => ?_)
  refine sj (j_istore hJ (L' := [(6, .int v56.1), (5, .int v51.1), (0, .ref roB), (1, .ref p1), (2, .ref p2), (3, .ref p3), (4, .int p4)]) dL_law_639 (by decide) rfl) ?_
  refine sj (j_aload_n hJ dL_law_641 rfl 4 rfl) ?_
  refine sj_callVip hJ [] (st := []) (fr' := 0) (lo' := 0) ml_L_119 hc_12 (by decide) (by decide) (Nat.le_of_ble_eq_true rfl) dL_law_642 rfl (fun _ h9 => ct_X12_thrown h9) (fun v57 => ?_)
  refine sj (j_iload hJ dL_law_645 1 rfl) ?_
  refine sj_if (j_icmp_eq hJ (tgt := 652) dL_law_647 (by decide)) (fun _ => ?_) (fun _ => ?_)
  · refine sj (j_iload hJ dL_law_652 1 rfl) ?_
    refine sj_if (j_if_ne hJ (tgt := 669) dL_law_654 (by decide)) (fun _ => ?_) (fun _ => ?_)
    · refine sj (j_aload_n hJ dL_law_657 rfl 5 rfl) ?_
      refine sj (j_iconst hJ (v := 0) dL_law_658 ic_0) ?_
      refine sj_rL hJ dL_law_659 (fun v58 => ?_)
      refine sj (j_iload hJ dL_law_660 0 rfl) ?_
      refine sj (j_i2l hJ dL_law_662) ?_
      refine sj (j_lcmp hJ dL_law_663) ?_
      refine sj_if (j_if_eq hJ (tgt := 669) dL_law_664 (by decide)) (fun _ => ?_) (fun _ => ?_)
      · refine sj (j_sub hJ (L' := [(0, .ref roB), (1, .ref p1), (2, .ref p2), (3, .ref p3), (4, .int p4)]) [2, 3, 4, 5, 6] rfl) ?_
        refine sj (j_beta hJ (β' := (600 - (k + 1), 3600 - 6 * (k + 1))) (by dsimp only; omega) (by dsimp only; omega)) ?_
        exact w_law_b669 hI σ k hk p1 p2 p3 p4 v56.2
      · refine sj (j_iconst hJ (v := 0) dL_law_667 ic_0) ?_
        exact sj_none
    · refine sj (j_sub hJ (L' := [(0, .ref roB), (1, .ref p1), (2, .ref p2), (3, .ref p3), (4, .int p4)]) [2, 3, 4, 5, 6] rfl) ?_
      refine sj (j_beta hJ (β' := (600 - (k + 1), 3600 - 6 * (k + 1))) (by dsimp only; omega) (by dsimp only; omega)) ?_
      exact w_law_b669 hI σ k hk p1 p2 p3 p4 v56.2
  · refine sj (j_iconst hJ (v := 0) dL_law_650 ic_0) ?_
    exact sj_none
def m_law_b737 (xs : Nat → Int32) (N : Nat) (σ : St) (k : Nat) (p1 : Nat) (p2 : Nat) (p3 : Nat) (p4 : Int32) (δ : Dy) : Option ((Nat × Int32 × Dy) ⊕ Unit) :=
  m_law_b2400 xs N σ k p1 p2 p3 p4 δ
set_option maxHeartbeats 8000000 in
set_option maxRecDepth 100000 in
theorem w_law_b737 {xs : Nat → Int32} {N : Nat} {J : JT} (hI : IsL xs N J) (σ : St) (k : Nat) (hk : k < 600) (p1 : Nat) (p2 : Nat) (p3 : Nat) (p4 : Int32) (δ : Dy) : SJ (m_law_b737 xs N σ k p1 p2 p3 p4 δ) (PL (fun s : Nat × Int32 × Dy => J 23 [(0, .ref roB), (1, .ref p1), (2, .ref p2), (3, .ref p3), (4, .int s.2.1)] [] (600 - s.1, 3600 - 6 * s.1) σ s.2.2) (fun _ : Unit => True)) (J 737 [(0, .ref roB), (1, .ref p1), (2, .ref p2), (3, .ref p3), (4, .int p4)] [] (600 - (k + 1), 3600 - 6 * (k + 1)) σ δ) := by
  have hJ := hI.cor
  unfold m_law_b737
  refine sj (j_goto hJ (tgt := 2400) dL_law_737 (by decide)) ?_
  refine sj (j_beta hJ (β' := (600 - (k + 1), 3600 - 6 * (k + 1))) (by dsimp only; omega) (by dsimp only; omega)) ?_
  exact w_law_b2400 hI σ k hk p1 p2 p3 p4 δ
def m_law_b672 (xs : Nat → Int32) (N : Nat) (σ : St) (k : Nat) (p1 : Nat) (p2 : Nat) (p3 : Nat) (p4 : Int32) (δ : Dy) : Option ((Nat × Int32 × Dy) ⊕ Unit) :=
  (rS xs N (p4 + (1 : Int32))).bind fun v59 =>
  (rS xs N (p4 + (2 : Int32))).bind fun v60 =>
  (m_L_hide σ p1 v59 v60 p3 δ).bind fun v61 =>
  (rS xs N (p4 + (1 : Int32))).bind fun v62 =>
  (rS xs N (p4 + (2 : Int32))).bind fun v63 =>
  (chk σ 12 p2).bind fun _ => (m_X12_hide σ p2 v62 v63 v61.2).bind fun v64 =>
  (chk σ 12 p2).bind fun _ => (m_X12_thrown σ p2 v64.2).bind fun v65 =>
  if v65 = v61.1 then
    if v61.1 = 0 then
      (rL σ v64.2 p3 (0 : Int32)).bind fun v66 =>
      if (lg_cmp v66 (v64.1).toInt64) = 0 then
        m_law_b737 xs N σ k p1 p2 p3 p4 v64.2
      else
        none
    else
      m_law_b737 xs N σ k p1 p2 p3 p4 v64.2
  else
    none
set_option maxHeartbeats 8000000 in
set_option maxRecDepth 100000 in
theorem w_law_b672 {xs : Nat → Int32} {N : Nat} {J : JT} (hI : IsL xs N J) (σ : St) (k : Nat) (hk : k < 600) (p1 : Nat) (p2 : Nat) (p3 : Nat) (p4 : Int32) (δ : Dy) : SJ (m_law_b672 xs N σ k p1 p2 p3 p4 δ) (PL (fun s : Nat × Int32 × Dy => J 23 [(0, .ref roB), (1, .ref p1), (2, .ref p2), (3, .ref p3), (4, .int s.2.1)] [] (600 - s.1, 3600 - 6 * s.1) σ s.2.2) (fun _ : Unit => True)) (J 672 [(0, .ref roB), (1, .ref p1), (2, .ref p2), (3, .ref p3), (4, .int p4)] [] (600 - k, 3600 - 6 * k) σ δ) := by
  have hJ := hI.cor
  unfold m_law_b672
  refine sj (j_aload_n hJ dL_law_672 rfl 1 rfl) ?_
  refine sj (j_aload_n hJ dL_law_673 rfl 0 rfl) ?_
  refine sj (j_iload hJ dL_law_674 4 rfl) ?_
  refine sj (j_iconst hJ (v := 1) dL_law_676 ic_1) ?_
  refine sj (j_iadd hJ dL_law_677) ?_
  refine sl_rS hI dL_law_678 (fun v59 => ?_)
  refine sj (j_aload_n hJ dL_law_679 rfl 0 rfl) ?_
  refine sj (j_iload hJ dL_law_680 4 rfl) ?_
  refine sj (j_iconst hJ (v := 2) dL_law_682 ic_2) ?_
  refine sj (j_iadd hJ dL_law_683) ?_
  refine sl_rS hI dL_law_684 (fun v60 => ?_)
  refine sj (j_aload_n hJ dL_law_685 rfl 3 rfl) ?_
  refine sl_callW hJ [.ref p1, .int v59, .int v60, .ref p3] (st := []) (fr' := 11) (lo' := 273) mlw_140 (by decide) (by decide) (Nat.le_of_ble_eq_true rfl) (by dsimp only; omega) (by dsimp only; omega) dL_law_686 rfl (fun _ h9 => ct_L_hide h9) (fun v61 => ?_)
  refine sj (j_istore hJ (L' := [(5, .int v61.1), (0, .ref roB), (1, .ref p1), (2, .ref p2), (3, .ref p3), (4, .int p4)]) dL_law_689 (by decide) rfl) ?_
  refine sj (j_aload_n hJ dL_law_691 rfl 3 rfl) ?_
  refine sj (j_aload_n hJ dL_law_692 rfl 1 rfl) ?_
  refine sj (j_iload hJ dL_law_693 5 rfl) ?_
  refine sj (j_iconst hJ (v := 1) dL_law_695 ic_1) ?_
  refine sj (j_iadd hJ dL_law_696) ?_
  refine sl_rS hI dL_law_697 (fun v62 => ?_)
  refine sj (j_aload_n hJ dL_law_698 rfl 1 rfl) ?_
  refine sj (j_iload hJ dL_law_699 5 rfl) ?_
  refine sj (j_iconst hJ (v := 2) dL_law_701 ic_2) ?_
  refine sj (j_iadd hJ dL_law_702) ?_
  refine sl_rS hI dL_law_703 (fun v63 => ?_)
  refine sj_callVi hJ [.int v62, .int v63] (st := []) (fr' := 2) (lo' := 43) ml_L_142 hc_12 (by decide) (by decide) (Nat.le_of_ble_eq_true rfl) dL_law_704 rfl (fun _ h9 => ct_X12_hide h9) (fun v64 => ?_)
  refine sj (j_istore hJ (L' := [(6, .int v64.1), (5, .int v61.1), (0, .ref roB), (1, .ref p1), (2, .ref p2), (3, .ref p3), (4, .int p4)]) dL_law_707 (by decide) rfl) ?_
  refine sj (j_aload_n hJ dL_law_709 rfl 4 rfl) ?_
  refine sj_callVip hJ [] (st := []) (fr' := 0) (lo' := 0) ml_L_119 hc_12 (by decide) (by decide) (Nat.le_of_ble_eq_true rfl) dL_law_710 rfl (fun _ h9 => ct_X12_thrown h9) (fun v65 => ?_)
  refine sj (j_iload hJ dL_law_713 1 rfl) ?_
  refine sj_if (j_icmp_eq hJ (tgt := 720) dL_law_715 (by decide)) (fun _ => ?_) (fun _ => ?_)
  · refine sj (j_iload hJ dL_law_720 1 rfl) ?_
    refine sj_if (j_if_ne hJ (tgt := 737) dL_law_722 (by decide)) (fun _ => ?_) (fun _ => ?_)
    · refine sj (j_aload_n hJ dL_law_725 rfl 5 rfl) ?_
      refine sj (j_iconst hJ (v := 0) dL_law_726 ic_0) ?_
      refine sj_rL hJ dL_law_727 (fun v66 => ?_)
      refine sj (j_iload hJ dL_law_728 0 rfl) ?_
      refine sj (j_i2l hJ dL_law_730) ?_
      refine sj (j_lcmp hJ dL_law_731) ?_
      refine sj_if (j_if_eq hJ (tgt := 737) dL_law_732 (by decide)) (fun _ => ?_) (fun _ => ?_)
      · refine sj (j_sub hJ (L' := [(0, .ref roB), (1, .ref p1), (2, .ref p2), (3, .ref p3), (4, .int p4)]) [2, 3, 4, 5, 6] rfl) ?_
        refine sj (j_beta hJ (β' := (600 - (k + 1), 3600 - 6 * (k + 1))) (by dsimp only; omega) (by dsimp only; omega)) ?_
        exact w_law_b737 hI σ k hk p1 p2 p3 p4 v64.2
      · refine sj (j_iconst hJ (v := 0) dL_law_735 ic_0) ?_
        exact sj_none
    · refine sj (j_sub hJ (L' := [(0, .ref roB), (1, .ref p1), (2, .ref p2), (3, .ref p3), (4, .int p4)]) [2, 3, 4, 5, 6] rfl) ?_
      refine sj (j_beta hJ (β' := (600 - (k + 1), 3600 - 6 * (k + 1))) (by dsimp only; omega) (by dsimp only; omega)) ?_
      exact w_law_b737 hI σ k hk p1 p2 p3 p4 v64.2
  · refine sj (j_iconst hJ (v := 0) dL_law_718 ic_0) ?_
    exact sj_none
def m_law_b817 (xs : Nat → Int32) (N : Nat) (σ : St) (k : Nat) (p1 : Nat) (p2 : Nat) (p3 : Nat) (p4 : Int32) (δ : Dy) : Option ((Nat × Int32 × Dy) ⊕ Unit) :=
  m_law_b2400 xs N σ k p1 p2 p3 p4 δ
set_option maxHeartbeats 8000000 in
set_option maxRecDepth 100000 in
theorem w_law_b817 {xs : Nat → Int32} {N : Nat} {J : JT} (hI : IsL xs N J) (σ : St) (k : Nat) (hk : k < 600) (p1 : Nat) (p2 : Nat) (p3 : Nat) (p4 : Int32) (δ : Dy) : SJ (m_law_b817 xs N σ k p1 p2 p3 p4 δ) (PL (fun s : Nat × Int32 × Dy => J 23 [(0, .ref roB), (1, .ref p1), (2, .ref p2), (3, .ref p3), (4, .int s.2.1)] [] (600 - s.1, 3600 - 6 * s.1) σ s.2.2) (fun _ : Unit => True)) (J 817 [(0, .ref roB), (1, .ref p1), (2, .ref p2), (3, .ref p3), (4, .int p4)] [] (600 - (k + 1), 3600 - 6 * (k + 1)) σ δ) := by
  have hJ := hI.cor
  unfold m_law_b817
  refine sj (j_goto hJ (tgt := 2400) dL_law_817 (by decide)) ?_
  refine sj (j_beta hJ (β' := (600 - (k + 1), 3600 - 6 * (k + 1))) (by dsimp only; omega) (by dsimp only; omega)) ?_
  exact w_law_b2400 hI σ k hk p1 p2 p3 p4 δ
def m_law_b740 (xs : Nat → Int32) (N : Nat) (σ : St) (k : Nat) (p1 : Nat) (p2 : Nat) (p3 : Nat) (p4 : Int32) (δ : Dy) : Option ((Nat × Int32 × Dy) ⊕ Unit) :=
  (rS xs N (p4 + (1 : Int32))).bind fun v67 =>
  (rS xs N (p4 + (2 : Int32))).bind fun v68 =>
  (rS xs N (p4 + (3 : Int32))).bind fun v69 =>
  (m_L_call σ p1 v67 v68 v69 p3 δ).bind fun v70 =>
  (rS xs N (p4 + (1 : Int32))).bind fun v71 =>
  (rS xs N (p4 + (2 : Int32))).bind fun v72 =>
  (rS xs N (p4 + (3 : Int32))).bind fun v73 =>
  (chk σ 12 p2).bind fun _ => (m_X12_call σ p2 v71 v72 v73 v70.2).bind fun v74 =>
  (chk σ 12 p2).bind fun _ => (m_X12_thrown σ p2 v74.2).bind fun v75 =>
  if v75 = v70.1 then
    if v70.1 = 0 then
      (rL σ v74.2 p3 (0 : Int32)).bind fun v76 =>
      if (lg_cmp v76 (v74.1).toInt64) = 0 then
        m_law_b817 xs N σ k p1 p2 p3 p4 v74.2
      else
        none
    else
      m_law_b817 xs N σ k p1 p2 p3 p4 v74.2
  else
    none
set_option maxHeartbeats 8000000 in
set_option maxRecDepth 100000 in
theorem w_law_b740 {xs : Nat → Int32} {N : Nat} {J : JT} (hI : IsL xs N J) (σ : St) (k : Nat) (hk : k < 600) (p1 : Nat) (p2 : Nat) (p3 : Nat) (p4 : Int32) (δ : Dy) : SJ (m_law_b740 xs N σ k p1 p2 p3 p4 δ) (PL (fun s : Nat × Int32 × Dy => J 23 [(0, .ref roB), (1, .ref p1), (2, .ref p2), (3, .ref p3), (4, .int s.2.1)] [] (600 - s.1, 3600 - 6 * s.1) σ s.2.2) (fun _ : Unit => True)) (J 740 [(0, .ref roB), (1, .ref p1), (2, .ref p2), (3, .ref p3), (4, .int p4)] [] (600 - k, 3600 - 6 * k) σ δ) := by
  have hJ := hI.cor
  unfold m_law_b740
  refine sj (j_aload_n hJ dL_law_740 rfl 1 rfl) ?_
  refine sj (j_aload_n hJ dL_law_741 rfl 0 rfl) ?_
  refine sj (j_iload hJ dL_law_742 4 rfl) ?_
  refine sj (j_iconst hJ (v := 1) dL_law_744 ic_1) ?_
  refine sj (j_iadd hJ dL_law_745) ?_
  refine sl_rS hI dL_law_746 (fun v67 => ?_)
  refine sj (j_aload_n hJ dL_law_747 rfl 0 rfl) ?_
  refine sj (j_iload hJ dL_law_748 4 rfl) ?_
  refine sj (j_iconst hJ (v := 2) dL_law_750 ic_2) ?_
  refine sj (j_iadd hJ dL_law_751) ?_
  refine sl_rS hI dL_law_752 (fun v68 => ?_)
  refine sj (j_aload_n hJ dL_law_753 rfl 0 rfl) ?_
  refine sj (j_iload hJ dL_law_754 4 rfl) ?_
  refine sj (j_iconst hJ (v := 3) dL_law_756 ic_3) ?_
  refine sj (j_iadd hJ dL_law_757) ?_
  refine sl_rS hI dL_law_758 (fun v69 => ?_)
  refine sj (j_aload_n hJ dL_law_759 rfl 3 rfl) ?_
  refine sl_callW hJ [.ref p1, .int v67, .int v68, .int v69, .ref p3] (st := []) (fr' := 11) (lo' := 273) mlw_143 (by decide) (by decide) (Nat.le_of_ble_eq_true rfl) (by dsimp only; omega) (by dsimp only; omega) dL_law_760 rfl (fun _ h9 => ct_L_call h9) (fun v70 => ?_)
  refine sj (j_istore hJ (L' := [(5, .int v70.1), (0, .ref roB), (1, .ref p1), (2, .ref p2), (3, .ref p3), (4, .int p4)]) dL_law_763 (by decide) rfl) ?_
  refine sj (j_aload_n hJ dL_law_765 rfl 3 rfl) ?_
  refine sj (j_aload_n hJ dL_law_766 rfl 1 rfl) ?_
  refine sj (j_iload hJ dL_law_767 5 rfl) ?_
  refine sj (j_iconst hJ (v := 1) dL_law_769 ic_1) ?_
  refine sj (j_iadd hJ dL_law_770) ?_
  refine sl_rS hI dL_law_771 (fun v71 => ?_)
  refine sj (j_aload_n hJ dL_law_772 rfl 1 rfl) ?_
  refine sj (j_iload hJ dL_law_773 5 rfl) ?_
  refine sj (j_iconst hJ (v := 2) dL_law_775 ic_2) ?_
  refine sj (j_iadd hJ dL_law_776) ?_
  refine sl_rS hI dL_law_777 (fun v72 => ?_)
  refine sj (j_aload_n hJ dL_law_778 rfl 1 rfl) ?_
  refine sj (j_iload hJ dL_law_779 5 rfl) ?_
  refine sj (j_iconst hJ (v := 3) dL_law_781 ic_3) ?_
  refine sj (j_iadd hJ dL_law_782) ?_
  refine sl_rS hI dL_law_783 (fun v73 => ?_)
  refine sj_callVi hJ [.int v71, .int v72, .int v73] (st := []) (fr' := 3) (lo' := 62) ml_L_146 hc_12 (by decide) (by decide) (Nat.le_of_ble_eq_true rfl) dL_law_784 rfl (fun _ h9 => ct_X12_call h9) (fun v74 => ?_)
  refine sj (j_istore hJ (L' := [(6, .int v74.1), (5, .int v70.1), (0, .ref roB), (1, .ref p1), (2, .ref p2), (3, .ref p3), (4, .int p4)]) dL_law_787 (by decide) rfl) ?_
  refine sj (j_aload_n hJ dL_law_789 rfl 4 rfl) ?_
  refine sj_callVip hJ [] (st := []) (fr' := 0) (lo' := 0) ml_L_119 hc_12 (by decide) (by decide) (Nat.le_of_ble_eq_true rfl) dL_law_790 rfl (fun _ h9 => ct_X12_thrown h9) (fun v75 => ?_)
  refine sj (j_iload hJ dL_law_793 1 rfl) ?_
  refine sj_if (j_icmp_eq hJ (tgt := 800) dL_law_795 (by decide)) (fun _ => ?_) (fun _ => ?_)
  · refine sj (j_iload hJ dL_law_800 1 rfl) ?_
    refine sj_if (j_if_ne hJ (tgt := 817) dL_law_802 (by decide)) (fun _ => ?_) (fun _ => ?_)
    · refine sj (j_aload_n hJ dL_law_805 rfl 5 rfl) ?_
      refine sj (j_iconst hJ (v := 0) dL_law_806 ic_0) ?_
      refine sj_rL hJ dL_law_807 (fun v76 => ?_)
      refine sj (j_iload hJ dL_law_808 0 rfl) ?_
      refine sj (j_i2l hJ dL_law_810) ?_
      refine sj (j_lcmp hJ dL_law_811) ?_
      refine sj_if (j_if_eq hJ (tgt := 817) dL_law_812 (by decide)) (fun _ => ?_) (fun _ => ?_)
      · refine sj (j_sub hJ (L' := [(0, .ref roB), (1, .ref p1), (2, .ref p2), (3, .ref p3), (4, .int p4)]) [2, 3, 4, 5, 6] rfl) ?_
        refine sj (j_beta hJ (β' := (600 - (k + 1), 3600 - 6 * (k + 1))) (by dsimp only; omega) (by dsimp only; omega)) ?_
        exact w_law_b817 hI σ k hk p1 p2 p3 p4 v74.2
      · refine sj (j_iconst hJ (v := 0) dL_law_815 ic_0) ?_
        exact sj_none
    · refine sj (j_sub hJ (L' := [(0, .ref roB), (1, .ref p1), (2, .ref p2), (3, .ref p3), (4, .int p4)]) [2, 3, 4, 5, 6] rfl) ?_
      refine sj (j_beta hJ (β' := (600 - (k + 1), 3600 - 6 * (k + 1))) (by dsimp only; omega) (by dsimp only; omega)) ?_
      exact w_law_b817 hI σ k hk p1 p2 p3 p4 v74.2
  · refine sj (j_iconst hJ (v := 0) dL_law_798 ic_0) ?_
    exact sj_none
def m_law_b873 (xs : Nat → Int32) (N : Nat) (σ : St) (k : Nat) (p1 : Nat) (p2 : Nat) (p3 : Nat) (p4 : Int32) (δ : Dy) : Option ((Nat × Int32 × Dy) ⊕ Unit) :=
  m_law_b2400 xs N σ k p1 p2 p3 p4 δ
set_option maxHeartbeats 8000000 in
set_option maxRecDepth 100000 in
theorem w_law_b873 {xs : Nat → Int32} {N : Nat} {J : JT} (hI : IsL xs N J) (σ : St) (k : Nat) (hk : k < 600) (p1 : Nat) (p2 : Nat) (p3 : Nat) (p4 : Int32) (δ : Dy) : SJ (m_law_b873 xs N σ k p1 p2 p3 p4 δ) (PL (fun s : Nat × Int32 × Dy => J 23 [(0, .ref roB), (1, .ref p1), (2, .ref p2), (3, .ref p3), (4, .int s.2.1)] [] (600 - s.1, 3600 - 6 * s.1) σ s.2.2) (fun _ : Unit => True)) (J 873 [(0, .ref roB), (1, .ref p1), (2, .ref p2), (3, .ref p3), (4, .int p4)] [] (600 - (k + 1), 3600 - 6 * (k + 1)) σ δ) := by
  have hJ := hI.cor
  unfold m_law_b873
  refine sj (j_goto hJ (tgt := 2400) dL_law_873 (by decide)) ?_
  refine sj (j_beta hJ (β' := (600 - (k + 1), 3600 - 6 * (k + 1))) (by dsimp only; omega) (by dsimp only; omega)) ?_
  exact w_law_b2400 hI σ k hk p1 p2 p3 p4 δ
def m_law_b820 (xs : Nat → Int32) (N : Nat) (σ : St) (k : Nat) (p1 : Nat) (p2 : Nat) (p3 : Nat) (p4 : Int32) (δ : Dy) : Option ((Nat × Int32 × Dy) ⊕ Unit) :=
  (rS xs N (p4 + (1 : Int32))).bind fun v77 =>
  (m_L_next σ p1 v77 p3 δ).bind fun v78 =>
  (rS xs N (p4 + (1 : Int32))).bind fun v79 =>
  (chk σ 12 p2).bind fun _ => (m_X12_next σ p2 v79 v78.2).bind fun v80 =>
  (chk σ 12 p2).bind fun _ => (m_X12_thrown σ p2 v80.2).bind fun v81 =>
  if v81 = v78.1 then
    if v78.1 = 0 then
      (rL σ v80.2 p3 (0 : Int32)).bind fun v82 =>
      if (lg_cmp v82 (v80.1).toInt64) = 0 then
        m_law_b873 xs N σ k p1 p2 p3 p4 v80.2
      else
        none
    else
      m_law_b873 xs N σ k p1 p2 p3 p4 v80.2
  else
    none
set_option maxHeartbeats 8000000 in
set_option maxRecDepth 100000 in
theorem w_law_b820 {xs : Nat → Int32} {N : Nat} {J : JT} (hI : IsL xs N J) (σ : St) (k : Nat) (hk : k < 600) (p1 : Nat) (p2 : Nat) (p3 : Nat) (p4 : Int32) (δ : Dy) : SJ (m_law_b820 xs N σ k p1 p2 p3 p4 δ) (PL (fun s : Nat × Int32 × Dy => J 23 [(0, .ref roB), (1, .ref p1), (2, .ref p2), (3, .ref p3), (4, .int s.2.1)] [] (600 - s.1, 3600 - 6 * s.1) σ s.2.2) (fun _ : Unit => True)) (J 820 [(0, .ref roB), (1, .ref p1), (2, .ref p2), (3, .ref p3), (4, .int p4)] [] (600 - k, 3600 - 6 * k) σ δ) := by
  have hJ := hI.cor
  unfold m_law_b820
  refine sj (j_aload_n hJ dL_law_820 rfl 1 rfl) ?_
  refine sj (j_aload_n hJ dL_law_821 rfl 0 rfl) ?_
  refine sj (j_iload hJ dL_law_822 4 rfl) ?_
  refine sj (j_iconst hJ (v := 1) dL_law_824 ic_1) ?_
  refine sj (j_iadd hJ dL_law_825) ?_
  refine sl_rS hI dL_law_826 (fun v77 => ?_)
  refine sj (j_aload_n hJ dL_law_827 rfl 3 rfl) ?_
  refine sl_callW hJ [.ref p1, .int v77, .ref p3] (st := []) (fr' := 11) (lo' := 271) mlw_147 (by decide) (by decide) (Nat.le_of_ble_eq_true rfl) (by dsimp only; omega) (by dsimp only; omega) dL_law_828 rfl (fun _ h9 => ct_L_next h9) (fun v78 => ?_)
  refine sj (j_istore hJ (L' := [(5, .int v78.1), (0, .ref roB), (1, .ref p1), (2, .ref p2), (3, .ref p3), (4, .int p4)]) dL_law_831 (by decide) rfl) ?_
  refine sj (j_aload_n hJ dL_law_833 rfl 3 rfl) ?_
  refine sj (j_aload_n hJ dL_law_834 rfl 1 rfl) ?_
  refine sj (j_iload hJ dL_law_835 5 rfl) ?_
  refine sj (j_iconst hJ (v := 1) dL_law_837 ic_1) ?_
  refine sj (j_iadd hJ dL_law_838) ?_
  refine sl_rS hI dL_law_839 (fun v79 => ?_)
  refine sj_callVi hJ [.int v79] (st := []) (fr' := 2) (lo' := 43) ml_L_150 hc_12 (by decide) (by decide) (Nat.le_of_ble_eq_true rfl) dL_law_840 rfl (fun _ h9 => ct_X12_next h9) (fun v80 => ?_)
  refine sj (j_istore hJ (L' := [(6, .int v80.1), (5, .int v78.1), (0, .ref roB), (1, .ref p1), (2, .ref p2), (3, .ref p3), (4, .int p4)]) dL_law_843 (by decide) rfl) ?_
  refine sj (j_aload_n hJ dL_law_845 rfl 4 rfl) ?_
  refine sj_callVip hJ [] (st := []) (fr' := 0) (lo' := 0) ml_L_119 hc_12 (by decide) (by decide) (Nat.le_of_ble_eq_true rfl) dL_law_846 rfl (fun _ h9 => ct_X12_thrown h9) (fun v81 => ?_)
  refine sj (j_iload hJ dL_law_849 1 rfl) ?_
  refine sj_if (j_icmp_eq hJ (tgt := 856) dL_law_851 (by decide)) (fun _ => ?_) (fun _ => ?_)
  · refine sj (j_iload hJ dL_law_856 1 rfl) ?_
    refine sj_if (j_if_ne hJ (tgt := 873) dL_law_858 (by decide)) (fun _ => ?_) (fun _ => ?_)
    · refine sj (j_aload_n hJ dL_law_861 rfl 5 rfl) ?_
      refine sj (j_iconst hJ (v := 0) dL_law_862 ic_0) ?_
      refine sj_rL hJ dL_law_863 (fun v82 => ?_)
      refine sj (j_iload hJ dL_law_864 0 rfl) ?_
      refine sj (j_i2l hJ dL_law_866) ?_
      refine sj (j_lcmp hJ dL_law_867) ?_
      refine sj_if (j_if_eq hJ (tgt := 873) dL_law_868 (by decide)) (fun _ => ?_) (fun _ => ?_)
      · refine sj (j_sub hJ (L' := [(0, .ref roB), (1, .ref p1), (2, .ref p2), (3, .ref p3), (4, .int p4)]) [2, 3, 4, 5, 6] rfl) ?_
        refine sj (j_beta hJ (β' := (600 - (k + 1), 3600 - 6 * (k + 1))) (by dsimp only; omega) (by dsimp only; omega)) ?_
        exact w_law_b873 hI σ k hk p1 p2 p3 p4 v80.2
      · refine sj (j_iconst hJ (v := 0) dL_law_871 ic_0) ?_
        exact sj_none
    · refine sj (j_sub hJ (L' := [(0, .ref roB), (1, .ref p1), (2, .ref p2), (3, .ref p3), (4, .int p4)]) [2, 3, 4, 5, 6] rfl) ?_
      refine sj (j_beta hJ (β' := (600 - (k + 1), 3600 - 6 * (k + 1))) (by dsimp only; omega) (by dsimp only; omega)) ?_
      exact w_law_b873 hI σ k hk p1 p2 p3 p4 v80.2
  · refine sj (j_iconst hJ (v := 0) dL_law_854 ic_0) ?_
    exact sj_none
def m_law_b929 (xs : Nat → Int32) (N : Nat) (σ : St) (k : Nat) (p1 : Nat) (p2 : Nat) (p3 : Nat) (p4 : Int32) (δ : Dy) : Option ((Nat × Int32 × Dy) ⊕ Unit) :=
  m_law_b2400 xs N σ k p1 p2 p3 p4 δ
set_option maxHeartbeats 8000000 in
set_option maxRecDepth 100000 in
theorem w_law_b929 {xs : Nat → Int32} {N : Nat} {J : JT} (hI : IsL xs N J) (σ : St) (k : Nat) (hk : k < 600) (p1 : Nat) (p2 : Nat) (p3 : Nat) (p4 : Int32) (δ : Dy) : SJ (m_law_b929 xs N σ k p1 p2 p3 p4 δ) (PL (fun s : Nat × Int32 × Dy => J 23 [(0, .ref roB), (1, .ref p1), (2, .ref p2), (3, .ref p3), (4, .int s.2.1)] [] (600 - s.1, 3600 - 6 * s.1) σ s.2.2) (fun _ : Unit => True)) (J 929 [(0, .ref roB), (1, .ref p1), (2, .ref p2), (3, .ref p3), (4, .int p4)] [] (600 - (k + 1), 3600 - 6 * (k + 1)) σ δ) := by
  have hJ := hI.cor
  unfold m_law_b929
  refine sj (j_goto hJ (tgt := 2400) dL_law_929 (by decide)) ?_
  refine sj (j_beta hJ (β' := (600 - (k + 1), 3600 - 6 * (k + 1))) (by dsimp only; omega) (by dsimp only; omega)) ?_
  exact w_law_b2400 hI σ k hk p1 p2 p3 p4 δ
def m_law_b876 (xs : Nat → Int32) (N : Nat) (σ : St) (k : Nat) (p1 : Nat) (p2 : Nat) (p3 : Nat) (p4 : Int32) (δ : Dy) : Option ((Nat × Int32 × Dy) ⊕ Unit) :=
  (rS xs N (p4 + (1 : Int32))).bind fun v83 =>
  (m_L_each σ p1 v83 p3 δ).bind fun v84 =>
  (rS xs N (p4 + (1 : Int32))).bind fun v85 =>
  (chk σ 12 p2).bind fun _ => (m_X12_each σ p2 v85 v84.2).bind fun v86 =>
  (chk σ 12 p2).bind fun _ => (m_X12_thrown σ p2 v86.2).bind fun v87 =>
  if v87 = v84.1 then
    if v84.1 = 0 then
      (rL σ v86.2 p3 (0 : Int32)).bind fun v88 =>
      if (lg_cmp v88 (v86.1).toInt64) = 0 then
        m_law_b929 xs N σ k p1 p2 p3 p4 v86.2
      else
        none
    else
      m_law_b929 xs N σ k p1 p2 p3 p4 v86.2
  else
    none
set_option maxHeartbeats 8000000 in
set_option maxRecDepth 100000 in
theorem w_law_b876 {xs : Nat → Int32} {N : Nat} {J : JT} (hI : IsL xs N J) (σ : St) (k : Nat) (hk : k < 600) (p1 : Nat) (p2 : Nat) (p3 : Nat) (p4 : Int32) (δ : Dy) : SJ (m_law_b876 xs N σ k p1 p2 p3 p4 δ) (PL (fun s : Nat × Int32 × Dy => J 23 [(0, .ref roB), (1, .ref p1), (2, .ref p2), (3, .ref p3), (4, .int s.2.1)] [] (600 - s.1, 3600 - 6 * s.1) σ s.2.2) (fun _ : Unit => True)) (J 876 [(0, .ref roB), (1, .ref p1), (2, .ref p2), (3, .ref p3), (4, .int p4)] [] (600 - k, 3600 - 6 * k) σ δ) := by
  have hJ := hI.cor
  unfold m_law_b876
  refine sj (j_aload_n hJ dL_law_876 rfl 1 rfl) ?_
  refine sj (j_aload_n hJ dL_law_877 rfl 0 rfl) ?_
  refine sj (j_iload hJ dL_law_878 4 rfl) ?_
  refine sj (j_iconst hJ (v := 1) dL_law_880 ic_1) ?_
  refine sj (j_iadd hJ dL_law_881) ?_
  refine sl_rS hI dL_law_882 (fun v83 => ?_)
  refine sj (j_aload_n hJ dL_law_883 rfl 3 rfl) ?_
  refine sl_callW hJ [.ref p1, .int v83, .ref p3] (st := []) (fr' := 11) (lo' := 271) mlw_151 (by decide) (by decide) (Nat.le_of_ble_eq_true rfl) (by dsimp only; omega) (by dsimp only; omega) dL_law_884 rfl (fun _ h9 => ct_L_each h9) (fun v84 => ?_)
  refine sj (j_istore hJ (L' := [(5, .int v84.1), (0, .ref roB), (1, .ref p1), (2, .ref p2), (3, .ref p3), (4, .int p4)]) dL_law_887 (by decide) rfl) ?_
  refine sj (j_aload_n hJ dL_law_889 rfl 3 rfl) ?_
  refine sj (j_aload_n hJ dL_law_890 rfl 1 rfl) ?_
  refine sj (j_iload hJ dL_law_891 5 rfl) ?_
  refine sj (j_iconst hJ (v := 1) dL_law_893 ic_1) ?_
  refine sj (j_iadd hJ dL_law_894) ?_
  refine sl_rS hI dL_law_895 (fun v85 => ?_)
  refine sj_callVi hJ [.int v85] (st := []) (fr' := 2) (lo' := 43) ml_L_153 hc_12 (by decide) (by decide) (Nat.le_of_ble_eq_true rfl) dL_law_896 rfl (fun _ h9 => ct_X12_each h9) (fun v86 => ?_)
  refine sj (j_istore hJ (L' := [(6, .int v86.1), (5, .int v84.1), (0, .ref roB), (1, .ref p1), (2, .ref p2), (3, .ref p3), (4, .int p4)]) dL_law_899 (by decide) rfl) ?_
  refine sj (j_aload_n hJ dL_law_901 rfl 4 rfl) ?_
  refine sj_callVip hJ [] (st := []) (fr' := 0) (lo' := 0) ml_L_119 hc_12 (by decide) (by decide) (Nat.le_of_ble_eq_true rfl) dL_law_902 rfl (fun _ h9 => ct_X12_thrown h9) (fun v87 => ?_)
  refine sj (j_iload hJ dL_law_905 1 rfl) ?_
  refine sj_if (j_icmp_eq hJ (tgt := 912) dL_law_907 (by decide)) (fun _ => ?_) (fun _ => ?_)
  · refine sj (j_iload hJ dL_law_912 1 rfl) ?_
    refine sj_if (j_if_ne hJ (tgt := 929) dL_law_914 (by decide)) (fun _ => ?_) (fun _ => ?_)
    · refine sj (j_aload_n hJ dL_law_917 rfl 5 rfl) ?_
      refine sj (j_iconst hJ (v := 0) dL_law_918 ic_0) ?_
      refine sj_rL hJ dL_law_919 (fun v88 => ?_)
      refine sj (j_iload hJ dL_law_920 0 rfl) ?_
      refine sj (j_i2l hJ dL_law_922) ?_
      refine sj (j_lcmp hJ dL_law_923) ?_
      refine sj_if (j_if_eq hJ (tgt := 929) dL_law_924 (by decide)) (fun _ => ?_) (fun _ => ?_)
      · refine sj (j_sub hJ (L' := [(0, .ref roB), (1, .ref p1), (2, .ref p2), (3, .ref p3), (4, .int p4)]) [2, 3, 4, 5, 6] rfl) ?_
        refine sj (j_beta hJ (β' := (600 - (k + 1), 3600 - 6 * (k + 1))) (by dsimp only; omega) (by dsimp only; omega)) ?_
        exact w_law_b929 hI σ k hk p1 p2 p3 p4 v86.2
      · refine sj (j_iconst hJ (v := 0) dL_law_927 ic_0) ?_
        exact sj_none
    · refine sj (j_sub hJ (L' := [(0, .ref roB), (1, .ref p1), (2, .ref p2), (3, .ref p3), (4, .int p4)]) [2, 3, 4, 5, 6] rfl) ?_
      refine sj (j_beta hJ (β' := (600 - (k + 1), 3600 - 6 * (k + 1))) (by dsimp only; omega) (by dsimp only; omega)) ?_
      exact w_law_b929 hI σ k hk p1 p2 p3 p4 v86.2
  · refine sj (j_iconst hJ (v := 0) dL_law_910 ic_0) ?_
    exact sj_none
def m_law_b1049 (xs : Nat → Int32) (N : Nat) (σ : St) (k : Nat) (p1 : Nat) (p2 : Nat) (p3 : Nat) (p4 : Int32) (δ : Dy) : Option ((Nat × Int32 × Dy) ⊕ Unit) :=
  m_law_b2400 xs N σ k p1 p2 p3 p4 δ
set_option maxHeartbeats 8000000 in
set_option maxRecDepth 100000 in
theorem w_law_b1049 {xs : Nat → Int32} {N : Nat} {J : JT} (hI : IsL xs N J) (σ : St) (k : Nat) (hk : k < 600) (p1 : Nat) (p2 : Nat) (p3 : Nat) (p4 : Int32) (δ : Dy) : SJ (m_law_b1049 xs N σ k p1 p2 p3 p4 δ) (PL (fun s : Nat × Int32 × Dy => J 23 [(0, .ref roB), (1, .ref p1), (2, .ref p2), (3, .ref p3), (4, .int s.2.1)] [] (600 - s.1, 3600 - 6 * s.1) σ s.2.2) (fun _ : Unit => True)) (J 1049 [(0, .ref roB), (1, .ref p1), (2, .ref p2), (3, .ref p3), (4, .int p4)] [] (600 - (k + 1), 3600 - 6 * (k + 1)) σ δ) := by
  have hJ := hI.cor
  unfold m_law_b1049
  refine sj (j_goto hJ (tgt := 2400) dL_law_1049 (by decide)) ?_
  refine sj (j_beta hJ (β' := (600 - (k + 1), 3600 - 6 * (k + 1))) (by dsimp only; omega) (by dsimp only; omega)) ?_
  exact w_law_b2400 hI σ k hk p1 p2 p3 p4 δ
def m_law_b992 (xs : Nat → Int32) (N : Nat) (σ : St) (k : Nat) (p1 : Nat) (p2 : Nat) (p3 : Nat) (p4 : Int32) (p5 : Int32) (q0 : Nat) (q1 : Int32) (δ : Dy) : Option ((Nat × Int32 × Dy) ⊕ Unit) :=
  (rS xs N (p4 + (2 : Int32))).bind fun v96 =>
  (rS xs N (p4 + (3 : Int32))).bind fun v97 =>
  (rS xs N (p4 + (4 : Int32))).bind fun v98 =>
  (rS xs N (p4 + (5 : Int32))).bind fun v99 =>
  (chk σ 12 q0).bind fun _ => (m_X12_unless σ q0 q1 v96 v97 v98 v99 δ).bind fun v100 =>
  (chk σ 12 p2).bind fun _ => (m_X12_thrown σ p2 v100.2).bind fun v101 =>
  if v101 = p5 then
    if p5 = 0 then
      (rL σ v100.2 p3 (0 : Int32)).bind fun v102 =>
      if (lg_cmp v102 (v100.1).toInt64) = 0 then
        m_law_b1049 xs N σ k p1 p2 p3 p4 v100.2
      else
        none
    else
      m_law_b1049 xs N σ k p1 p2 p3 p4 v100.2
  else
    none
set_option maxHeartbeats 8000000 in
set_option maxRecDepth 100000 in
theorem w_law_b992 {xs : Nat → Int32} {N : Nat} {J : JT} (hI : IsL xs N J) (σ : St) (k : Nat) (hk : k < 600) (p1 : Nat) (p2 : Nat) (p3 : Nat) (p4 : Int32) (p5 : Int32) (q0 : Nat) (q1 : Int32) (δ : Dy) : SJ (m_law_b992 xs N σ k p1 p2 p3 p4 p5 q0 q1 δ) (PL (fun s : Nat × Int32 × Dy => J 23 [(0, .ref roB), (1, .ref p1), (2, .ref p2), (3, .ref p3), (4, .int s.2.1)] [] (600 - s.1, 3600 - 6 * s.1) σ s.2.2) (fun _ : Unit => True)) (J 992 [(0, .ref roB), (1, .ref p1), (2, .ref p2), (3, .ref p3), (4, .int p4), (5, .int p5)] [.int q1, .ref q0] (600 - (k + 1), 3600 - 6 * (k + 1)) σ δ) := by
  have hJ := hI.cor
  unfold m_law_b992
  refine sj (j_aload_n hJ dL_law_992 rfl 0 rfl) ?_
  refine sj (j_iload hJ dL_law_993 4 rfl) ?_
  refine sj (j_iconst hJ (v := 2) dL_law_995 ic_2) ?_
  refine sj (j_iadd hJ dL_law_996) ?_
  refine sl_rS hI dL_law_997 (fun v96 => ?_)
  refine sj (j_aload_n hJ dL_law_998 rfl 0 rfl) ?_
  refine sj (j_iload hJ dL_law_999 4 rfl) ?_
  refine sj (j_iconst hJ (v := 3) dL_law_1001 ic_3) ?_
  refine sj (j_iadd hJ dL_law_1002) ?_
  refine sl_rS hI dL_law_1003 (fun v97 => ?_)
  refine sj (j_aload_n hJ dL_law_1004 rfl 0 rfl) ?_
  refine sj (j_iload hJ dL_law_1005 4 rfl) ?_
  refine sj (j_iconst hJ (v := 4) dL_law_1007 ic_4) ?_
  refine sj (j_iadd hJ dL_law_1008) ?_
  refine sl_rS hI dL_law_1009 (fun v98 => ?_)
  refine sj (j_aload_n hJ dL_law_1010 rfl 0 rfl) ?_
  refine sj (j_iload hJ dL_law_1011 4 rfl) ?_
  refine sj (j_iconst hJ (v := 5) dL_law_1013 ic_5) ?_
  refine sj (j_iadd hJ dL_law_1014) ?_
  refine sl_rS hI dL_law_1015 (fun v99 => ?_)
  refine sj_callVi hJ [.int q1, .int v96, .int v97, .int v98, .int v99] (st := []) (fr' := 4) (lo' := 84) ml_L_157 hc_12 (by decide) (by decide) (Nat.le_of_ble_eq_true rfl) dL_law_1016 rfl (fun _ h9 => ct_X12_unless h9) (fun v100 => ?_)
  refine sj (j_istore hJ (L' := [(6, .int v100.1), (0, .ref roB), (1, .ref p1), (2, .ref p2), (3, .ref p3), (4, .int p4), (5, .int p5)]) dL_law_1019 (by decide) rfl) ?_
  refine sj (j_aload_n hJ dL_law_1021 rfl 3 rfl) ?_
  refine sj_callVip hJ [] (st := []) (fr' := 0) (lo' := 0) ml_L_119 hc_12 (by decide) (by decide) (Nat.le_of_ble_eq_true rfl) dL_law_1022 rfl (fun _ h9 => ct_X12_thrown h9) (fun v101 => ?_)
  refine sj (j_iload hJ dL_law_1025 6 rfl) ?_
  refine sj_if (j_icmp_eq hJ (tgt := 1032) dL_law_1027 (by decide)) (fun _ => ?_) (fun _ => ?_)
  · refine sj (j_iload hJ dL_law_1032 6 rfl) ?_
    refine sj_if (j_if_ne hJ (tgt := 1049) dL_law_1034 (by decide)) (fun _ => ?_) (fun _ => ?_)
    · refine sj (j_aload_n hJ dL_law_1037 rfl 4 rfl) ?_
      refine sj (j_iconst hJ (v := 0) dL_law_1038 ic_0) ?_
      refine sj_rL hJ dL_law_1039 (fun v102 => ?_)
      refine sj (j_iload hJ dL_law_1040 0 rfl) ?_
      refine sj (j_i2l hJ dL_law_1042) ?_
      refine sj (j_lcmp hJ dL_law_1043) ?_
      refine sj_if (j_if_eq hJ (tgt := 1049) dL_law_1044 (by decide)) (fun _ => ?_) (fun _ => ?_)
      · refine sj (j_sub hJ (L' := [(0, .ref roB), (1, .ref p1), (2, .ref p2), (3, .ref p3), (4, .int p4)]) [1, 2, 3, 4, 5] rfl) ?_
        refine sj (j_beta hJ (β' := (600 - (k + 1), 3600 - 6 * (k + 1))) (by dsimp only; omega) (by dsimp only; omega)) ?_
        exact w_law_b1049 hI σ k hk p1 p2 p3 p4 v100.2
      · refine sj (j_iconst hJ (v := 0) dL_law_1047 ic_0) ?_
        exact sj_none
    · refine sj (j_sub hJ (L' := [(0, .ref roB), (1, .ref p1), (2, .ref p2), (3, .ref p3), (4, .int p4)]) [1, 2, 3, 4, 5] rfl) ?_
      refine sj (j_beta hJ (β' := (600 - (k + 1), 3600 - 6 * (k + 1))) (by dsimp only; omega) (by dsimp only; omega)) ?_
      exact w_law_b1049 hI σ k hk p1 p2 p3 p4 v100.2
  · refine sj (j_iconst hJ (v := 0) dL_law_1030 ic_0) ?_
    exact sj_none
def m_law_b947 (xs : Nat → Int32) (N : Nat) (σ : St) (k : Nat) (p1 : Nat) (p2 : Nat) (p3 : Nat) (p4 : Int32) (q0 : Nat) (q1 : Int32) (δ : Dy) : Option ((Nat × Int32 × Dy) ⊕ Unit) :=
  (rS xs N (p4 + (2 : Int32))).bind fun v90 =>
  (rS xs N (p4 + (3 : Int32))).bind fun v91 =>
  (rS xs N (p4 + (4 : Int32))).bind fun v92 =>
  (rS xs N (p4 + (5 : Int32))).bind fun v93 =>
  (m_L_unless σ q0 q1 v90 v91 v92 v93 p3 δ).bind fun v94 =>
  (rS xs N (p4 + (1 : Int32))).bind fun v95 =>
  if v95 = 0 then
    m_law_b992 xs N σ k p1 p2 p3 p4 v94.1 p2 (0 : Int32) v94.2
  else
    m_law_b992 xs N σ k p1 p2 p3 p4 v94.1 p2 (1 : Int32) v94.2
set_option maxHeartbeats 8000000 in
set_option maxRecDepth 100000 in
theorem w_law_b947 {xs : Nat → Int32} {N : Nat} {J : JT} (hI : IsL xs N J) (σ : St) (k : Nat) (hk : k < 600) (p1 : Nat) (p2 : Nat) (p3 : Nat) (p4 : Int32) (q0 : Nat) (q1 : Int32) (δ : Dy) : SJ (m_law_b947 xs N σ k p1 p2 p3 p4 q0 q1 δ) (PL (fun s : Nat × Int32 × Dy => J 23 [(0, .ref roB), (1, .ref p1), (2, .ref p2), (3, .ref p3), (4, .int s.2.1)] [] (600 - s.1, 3600 - 6 * s.1) σ s.2.2) (fun _ : Unit => True)) (J 947 [(0, .ref roB), (1, .ref p1), (2, .ref p2), (3, .ref p3), (4, .int p4)] [.int q1, .ref q0] (600 - k, 3600 - 6 * k) σ δ) := by
  have hJ := hI.cor
  unfold m_law_b947
  refine sj (j_aload_n hJ dL_law_947 rfl 0 rfl) ?_
  refine sj (j_iload hJ dL_law_948 4 rfl) ?_
  refine sj (j_iconst hJ (v := 2) dL_law_950 ic_2) ?_
  refine sj (j_iadd hJ dL_law_951) ?_
  refine sl_rS hI dL_law_952 (fun v90 => ?_)
  refine sj (j_aload_n hJ dL_law_953 rfl 0 rfl) ?_
  refine sj (j_iload hJ dL_law_954 4 rfl) ?_
  refine sj (j_iconst hJ (v := 3) dL_law_956 ic_3) ?_
  refine sj (j_iadd hJ dL_law_957) ?_
  refine sl_rS hI dL_law_958 (fun v91 => ?_)
  refine sj (j_aload_n hJ dL_law_959 rfl 0 rfl) ?_
  refine sj (j_iload hJ dL_law_960 4 rfl) ?_
  refine sj (j_iconst hJ (v := 4) dL_law_962 ic_4) ?_
  refine sj (j_iadd hJ dL_law_963) ?_
  refine sl_rS hI dL_law_964 (fun v92 => ?_)
  refine sj (j_aload_n hJ dL_law_965 rfl 0 rfl) ?_
  refine sj (j_iload hJ dL_law_966 4 rfl) ?_
  refine sj (j_iconst hJ (v := 5) dL_law_968 ic_5) ?_
  refine sj (j_iadd hJ dL_law_969) ?_
  refine sl_rS hI dL_law_970 (fun v93 => ?_)
  refine sj (j_aload_n hJ dL_law_971 rfl 3 rfl) ?_
  refine sl_callW hJ [.ref q0, .int q1, .int v90, .int v91, .int v92, .int v93, .ref p3] (st := []) (fr' := 12) (lo' := 297) mlw_154 (by decide) (by decide) (Nat.le_of_ble_eq_true rfl) (by dsimp only; omega) (by dsimp only; omega) dL_law_972 rfl (fun _ h9 => ct_L_unless h9) (fun v94 => ?_)
  refine sj (j_istore hJ (L' := [(5, .int v94.1), (0, .ref roB), (1, .ref p1), (2, .ref p2), (3, .ref p3), (4, .int p4)]) dL_law_975 (by decide) rfl) ?_
  refine sj (j_aload_n hJ dL_law_977 rfl 3 rfl) ?_
  refine sj (j_aload_n hJ dL_law_978 rfl 1 rfl) ?_
  refine sj (j_iload hJ dL_law_979 5 rfl) ?_
  refine sj (j_iconst hJ (v := 1) dL_law_981 ic_1) ?_
  refine sj (j_iadd hJ dL_law_982) ?_
  refine sl_rS hI dL_law_983 (fun v95 => ?_)
  refine sj_if (j_if_eq hJ (tgt := 991) dL_law_984 (by decide)) (fun _ => ?_) (fun _ => ?_)
  · refine sj (j_iconst hJ (v := 0) dL_law_991 ic_0) ?_
    refine sj (j_sub hJ (L' := [(0, .ref roB), (1, .ref p1), (2, .ref p2), (3, .ref p3), (4, .int p4), (5, .int v94.1)]) [1, 2, 3, 4, 5, 0] rfl) ?_
    refine sj (j_beta hJ (β' := (600 - (k + 1), 3600 - 6 * (k + 1))) (by dsimp only; omega) (by dsimp only; omega)) ?_
    exact w_law_b992 hI σ k hk p1 p2 p3 p4 v94.1 p2 (0 : Int32) v94.2
  · refine sj (j_iconst hJ (v := 1) dL_law_987 ic_1) ?_
    refine sj (j_goto hJ (tgt := 992) dL_law_988 (by decide)) ?_
    refine sj (j_sub hJ (L' := [(0, .ref roB), (1, .ref p1), (2, .ref p2), (3, .ref p3), (4, .int p4), (5, .int v94.1)]) [1, 2, 3, 4, 5, 0] rfl) ?_
    refine sj (j_beta hJ (β' := (600 - (k + 1), 3600 - 6 * (k + 1))) (by dsimp only; omega) (by dsimp only; omega)) ?_
    exact w_law_b992 hI σ k hk p1 p2 p3 p4 v94.1 p2 (1 : Int32) v94.2
def m_law_b932 (xs : Nat → Int32) (N : Nat) (σ : St) (k : Nat) (p1 : Nat) (p2 : Nat) (p3 : Nat) (p4 : Int32) (δ : Dy) : Option ((Nat × Int32 × Dy) ⊕ Unit) :=
  (rS xs N (p4 + (1 : Int32))).bind fun v89 =>
  if v89 = 0 then
    m_law_b947 xs N σ k p1 p2 p3 p4 p1 (0 : Int32) δ
  else
    m_law_b947 xs N σ k p1 p2 p3 p4 p1 (1 : Int32) δ
set_option maxHeartbeats 8000000 in
set_option maxRecDepth 100000 in
theorem w_law_b932 {xs : Nat → Int32} {N : Nat} {J : JT} (hI : IsL xs N J) (σ : St) (k : Nat) (hk : k < 600) (p1 : Nat) (p2 : Nat) (p3 : Nat) (p4 : Int32) (δ : Dy) : SJ (m_law_b932 xs N σ k p1 p2 p3 p4 δ) (PL (fun s : Nat × Int32 × Dy => J 23 [(0, .ref roB), (1, .ref p1), (2, .ref p2), (3, .ref p3), (4, .int s.2.1)] [] (600 - s.1, 3600 - 6 * s.1) σ s.2.2) (fun _ : Unit => True)) (J 932 [(0, .ref roB), (1, .ref p1), (2, .ref p2), (3, .ref p3), (4, .int p4)] [] (600 - k, 3600 - 6 * k) σ δ) := by
  have hJ := hI.cor
  unfold m_law_b932
  refine sj (j_aload_n hJ dL_law_932 rfl 1 rfl) ?_
  refine sj (j_aload_n hJ dL_law_933 rfl 0 rfl) ?_
  refine sj (j_iload hJ dL_law_934 4 rfl) ?_
  refine sj (j_iconst hJ (v := 1) dL_law_936 ic_1) ?_
  refine sj (j_iadd hJ dL_law_937) ?_
  refine sl_rS hI dL_law_938 (fun v89 => ?_)
  refine sj_if (j_if_eq hJ (tgt := 946) dL_law_939 (by decide)) (fun _ => ?_) (fun _ => ?_)
  · refine sj (j_iconst hJ (v := 0) dL_law_946 ic_0) ?_
    refine sj (j_beta hJ (β' := (600 - k, 3600 - 6 * k)) (by dsimp only; omega) (by dsimp only; omega)) ?_
    exact w_law_b947 hI σ k hk p1 p2 p3 p4 p1 (0 : Int32) δ
  · refine sj (j_iconst hJ (v := 1) dL_law_942 ic_1) ?_
    refine sj (j_goto hJ (tgt := 947) dL_law_943 (by decide)) ?_
    refine sj (j_beta hJ (β' := (600 - k, 3600 - 6 * k)) (by dsimp only; omega) (by dsimp only; omega)) ?_
    exact w_law_b947 hI σ k hk p1 p2 p3 p4 p1 (1 : Int32) δ
def m_law_b1141 (xs : Nat → Int32) (N : Nat) (σ : St) (k : Nat) (p1 : Nat) (p2 : Nat) (p3 : Nat) (p4 : Int32) (δ : Dy) : Option ((Nat × Int32 × Dy) ⊕ Unit) :=
  m_law_b2400 xs N σ k p1 p2 p3 p4 δ
set_option maxHeartbeats 8000000 in
set_option maxRecDepth 100000 in
theorem w_law_b1141 {xs : Nat → Int32} {N : Nat} {J : JT} (hI : IsL xs N J) (σ : St) (k : Nat) (hk : k < 600) (p1 : Nat) (p2 : Nat) (p3 : Nat) (p4 : Int32) (δ : Dy) : SJ (m_law_b1141 xs N σ k p1 p2 p3 p4 δ) (PL (fun s : Nat × Int32 × Dy => J 23 [(0, .ref roB), (1, .ref p1), (2, .ref p2), (3, .ref p3), (4, .int s.2.1)] [] (600 - s.1, 3600 - 6 * s.1) σ s.2.2) (fun _ : Unit => True)) (J 1141 [(0, .ref roB), (1, .ref p1), (2, .ref p2), (3, .ref p3), (4, .int p4)] [] (600 - (k + 1), 3600 - 6 * (k + 1)) σ δ) := by
  have hJ := hI.cor
  unfold m_law_b1141
  refine sj (j_goto hJ (tgt := 2400) dL_law_1141 (by decide)) ?_
  refine sj (j_beta hJ (β' := (600 - (k + 1), 3600 - 6 * (k + 1))) (by dsimp only; omega) (by dsimp only; omega)) ?_
  exact w_law_b2400 hI σ k hk p1 p2 p3 p4 δ
def m_law_b1052 (xs : Nat → Int32) (N : Nat) (σ : St) (k : Nat) (p1 : Nat) (p2 : Nat) (p3 : Nat) (p4 : Int32) (δ : Dy) : Option ((Nat × Int32 × Dy) ⊕ Unit) :=
  (rS xs N (p4 + (1 : Int32))).bind fun v103 =>
  (rS xs N (p4 + (2 : Int32))).bind fun v104 =>
  (rS xs N (p4 + (3 : Int32))).bind fun v105 =>
  (rS xs N (p4 + (4 : Int32))).bind fun v106 =>
  (m_L_lot σ p1 v103 v104 v105 v106 p3 δ).bind fun v107 =>
  (rS xs N (p4 + (1 : Int32))).bind fun v108 =>
  (rS xs N (p4 + (2 : Int32))).bind fun v109 =>
  (rS xs N (p4 + (3 : Int32))).bind fun v110 =>
  (rS xs N (p4 + (4 : Int32))).bind fun v111 =>
  (chk σ 12 p2).bind fun _ => (m_X12_lot σ p2 v108 v109 v110 v111 v107.2).bind fun v112 =>
  (chk σ 12 p2).bind fun _ => (m_X12_thrown σ p2 v112.2).bind fun v113 =>
  if v113 = v107.1 then
    if v107.1 = 0 then
      (rL σ v112.2 p3 (0 : Int32)).bind fun v114 =>
      if (lg_cmp v114 (v112.1).toInt64) = 0 then
        m_law_b1141 xs N σ k p1 p2 p3 p4 v112.2
      else
        none
    else
      m_law_b1141 xs N σ k p1 p2 p3 p4 v112.2
  else
    none
set_option maxHeartbeats 8000000 in
set_option maxRecDepth 100000 in
theorem w_law_b1052 {xs : Nat → Int32} {N : Nat} {J : JT} (hI : IsL xs N J) (σ : St) (k : Nat) (hk : k < 600) (p1 : Nat) (p2 : Nat) (p3 : Nat) (p4 : Int32) (δ : Dy) : SJ (m_law_b1052 xs N σ k p1 p2 p3 p4 δ) (PL (fun s : Nat × Int32 × Dy => J 23 [(0, .ref roB), (1, .ref p1), (2, .ref p2), (3, .ref p3), (4, .int s.2.1)] [] (600 - s.1, 3600 - 6 * s.1) σ s.2.2) (fun _ : Unit => True)) (J 1052 [(0, .ref roB), (1, .ref p1), (2, .ref p2), (3, .ref p3), (4, .int p4)] [] (600 - k, 3600 - 6 * k) σ δ) := by
  have hJ := hI.cor
  unfold m_law_b1052
  refine sj (j_aload_n hJ dL_law_1052 rfl 1 rfl) ?_
  refine sj (j_aload_n hJ dL_law_1053 rfl 0 rfl) ?_
  refine sj (j_iload hJ dL_law_1054 4 rfl) ?_
  refine sj (j_iconst hJ (v := 1) dL_law_1056 ic_1) ?_
  refine sj (j_iadd hJ dL_law_1057) ?_
  refine sl_rS hI dL_law_1058 (fun v103 => ?_)
  refine sj (j_aload_n hJ dL_law_1059 rfl 0 rfl) ?_
  refine sj (j_iload hJ dL_law_1060 4 rfl) ?_
  refine sj (j_iconst hJ (v := 2) dL_law_1062 ic_2) ?_
  refine sj (j_iadd hJ dL_law_1063) ?_
  refine sl_rS hI dL_law_1064 (fun v104 => ?_)
  refine sj (j_aload_n hJ dL_law_1065 rfl 0 rfl) ?_
  refine sj (j_iload hJ dL_law_1066 4 rfl) ?_
  refine sj (j_iconst hJ (v := 3) dL_law_1068 ic_3) ?_
  refine sj (j_iadd hJ dL_law_1069) ?_
  refine sl_rS hI dL_law_1070 (fun v105 => ?_)
  refine sj (j_aload_n hJ dL_law_1071 rfl 0 rfl) ?_
  refine sj (j_iload hJ dL_law_1072 4 rfl) ?_
  refine sj (j_iconst hJ (v := 4) dL_law_1074 ic_4) ?_
  refine sj (j_iadd hJ dL_law_1075) ?_
  refine sl_rS hI dL_law_1076 (fun v106 => ?_)
  refine sj (j_aload_n hJ dL_law_1077 rfl 3 rfl) ?_
  refine sl_callW hJ [.ref p1, .int v103, .int v104, .int v105, .int v106, .ref p3] (st := []) (fr' := 11) (lo' := 275) mlw_158 (by decide) (by decide) (Nat.le_of_ble_eq_true rfl) (by dsimp only; omega) (by dsimp only; omega) dL_law_1078 rfl (fun _ h9 => ct_L_lot h9) (fun v107 => ?_)
  refine sj (j_istore hJ (L' := [(5, .int v107.1), (0, .ref roB), (1, .ref p1), (2, .ref p2), (3, .ref p3), (4, .int p4)]) dL_law_1081 (by decide) rfl) ?_
  refine sj (j_aload_n hJ dL_law_1083 rfl 3 rfl) ?_
  refine sj (j_aload_n hJ dL_law_1084 rfl 1 rfl) ?_
  refine sj (j_iload hJ dL_law_1085 5 rfl) ?_
  refine sj (j_iconst hJ (v := 1) dL_law_1087 ic_1) ?_
  refine sj (j_iadd hJ dL_law_1088) ?_
  refine sl_rS hI dL_law_1089 (fun v108 => ?_)
  refine sj (j_aload_n hJ dL_law_1090 rfl 1 rfl) ?_
  refine sj (j_iload hJ dL_law_1091 5 rfl) ?_
  refine sj (j_iconst hJ (v := 2) dL_law_1093 ic_2) ?_
  refine sj (j_iadd hJ dL_law_1094) ?_
  refine sl_rS hI dL_law_1095 (fun v109 => ?_)
  refine sj (j_aload_n hJ dL_law_1096 rfl 1 rfl) ?_
  refine sj (j_iload hJ dL_law_1097 5 rfl) ?_
  refine sj (j_iconst hJ (v := 3) dL_law_1099 ic_3) ?_
  refine sj (j_iadd hJ dL_law_1100) ?_
  refine sl_rS hI dL_law_1101 (fun v110 => ?_)
  refine sj (j_aload_n hJ dL_law_1102 rfl 1 rfl) ?_
  refine sj (j_iload hJ dL_law_1103 5 rfl) ?_
  refine sj (j_iconst hJ (v := 4) dL_law_1105 ic_4) ?_
  refine sj (j_iadd hJ dL_law_1106) ?_
  refine sl_rS hI dL_law_1107 (fun v111 => ?_)
  refine sj_callVi hJ [.int v108, .int v109, .int v110, .int v111] (st := []) (fr' := 2) (lo' := 43) ml_L_160 hc_12 (by decide) (by decide) (Nat.le_of_ble_eq_true rfl) dL_law_1108 rfl (fun _ h9 => ct_X12_lot h9) (fun v112 => ?_)
  refine sj (j_istore hJ (L' := [(6, .int v112.1), (5, .int v107.1), (0, .ref roB), (1, .ref p1), (2, .ref p2), (3, .ref p3), (4, .int p4)]) dL_law_1111 (by decide) rfl) ?_
  refine sj (j_aload_n hJ dL_law_1113 rfl 4 rfl) ?_
  refine sj_callVip hJ [] (st := []) (fr' := 0) (lo' := 0) ml_L_119 hc_12 (by decide) (by decide) (Nat.le_of_ble_eq_true rfl) dL_law_1114 rfl (fun _ h9 => ct_X12_thrown h9) (fun v113 => ?_)
  refine sj (j_iload hJ dL_law_1117 1 rfl) ?_
  refine sj_if (j_icmp_eq hJ (tgt := 1124) dL_law_1119 (by decide)) (fun _ => ?_) (fun _ => ?_)
  · refine sj (j_iload hJ dL_law_1124 1 rfl) ?_
    refine sj_if (j_if_ne hJ (tgt := 1141) dL_law_1126 (by decide)) (fun _ => ?_) (fun _ => ?_)
    · refine sj (j_aload_n hJ dL_law_1129 rfl 5 rfl) ?_
      refine sj (j_iconst hJ (v := 0) dL_law_1130 ic_0) ?_
      refine sj_rL hJ dL_law_1131 (fun v114 => ?_)
      refine sj (j_iload hJ dL_law_1132 0 rfl) ?_
      refine sj (j_i2l hJ dL_law_1134) ?_
      refine sj (j_lcmp hJ dL_law_1135) ?_
      refine sj_if (j_if_eq hJ (tgt := 1141) dL_law_1136 (by decide)) (fun _ => ?_) (fun _ => ?_)
      · refine sj (j_sub hJ (L' := [(0, .ref roB), (1, .ref p1), (2, .ref p2), (3, .ref p3), (4, .int p4)]) [2, 3, 4, 5, 6] rfl) ?_
        refine sj (j_beta hJ (β' := (600 - (k + 1), 3600 - 6 * (k + 1))) (by dsimp only; omega) (by dsimp only; omega)) ?_
        exact w_law_b1141 hI σ k hk p1 p2 p3 p4 v112.2
      · refine sj (j_iconst hJ (v := 0) dL_law_1139 ic_0) ?_
        exact sj_none
    · refine sj (j_sub hJ (L' := [(0, .ref roB), (1, .ref p1), (2, .ref p2), (3, .ref p3), (4, .int p4)]) [2, 3, 4, 5, 6] rfl) ?_
      refine sj (j_beta hJ (β' := (600 - (k + 1), 3600 - 6 * (k + 1))) (by dsimp only; omega) (by dsimp only; omega)) ?_
      exact w_law_b1141 hI σ k hk p1 p2 p3 p4 v112.2
  · refine sj (j_iconst hJ (v := 0) dL_law_1122 ic_0) ?_
    exact sj_none
def m_law_b1209 (xs : Nat → Int32) (N : Nat) (σ : St) (k : Nat) (p1 : Nat) (p2 : Nat) (p3 : Nat) (p4 : Int32) (δ : Dy) : Option ((Nat × Int32 × Dy) ⊕ Unit) :=
  m_law_b2400 xs N σ k p1 p2 p3 p4 δ
set_option maxHeartbeats 8000000 in
set_option maxRecDepth 100000 in
theorem w_law_b1209 {xs : Nat → Int32} {N : Nat} {J : JT} (hI : IsL xs N J) (σ : St) (k : Nat) (hk : k < 600) (p1 : Nat) (p2 : Nat) (p3 : Nat) (p4 : Int32) (δ : Dy) : SJ (m_law_b1209 xs N σ k p1 p2 p3 p4 δ) (PL (fun s : Nat × Int32 × Dy => J 23 [(0, .ref roB), (1, .ref p1), (2, .ref p2), (3, .ref p3), (4, .int s.2.1)] [] (600 - s.1, 3600 - 6 * s.1) σ s.2.2) (fun _ : Unit => True)) (J 1209 [(0, .ref roB), (1, .ref p1), (2, .ref p2), (3, .ref p3), (4, .int p4)] [] (600 - (k + 1), 3600 - 6 * (k + 1)) σ δ) := by
  have hJ := hI.cor
  unfold m_law_b1209
  refine sj (j_goto hJ (tgt := 2400) dL_law_1209 (by decide)) ?_
  refine sj (j_beta hJ (β' := (600 - (k + 1), 3600 - 6 * (k + 1))) (by dsimp only; omega) (by dsimp only; omega)) ?_
  exact w_law_b2400 hI σ k hk p1 p2 p3 p4 δ
def m_law_b1144 (xs : Nat → Int32) (N : Nat) (σ : St) (k : Nat) (p1 : Nat) (p2 : Nat) (p3 : Nat) (p4 : Int32) (δ : Dy) : Option ((Nat × Int32 × Dy) ⊕ Unit) :=
  (rS xs N (p4 + (1 : Int32))).bind fun v115 =>
  (rS xs N (p4 + (2 : Int32))).bind fun v116 =>
  (m_L_attempt σ p1 v115 v116 p3 δ).bind fun v117 =>
  (rS xs N (p4 + (1 : Int32))).bind fun v118 =>
  (rS xs N (p4 + (2 : Int32))).bind fun v119 =>
  (chk σ 12 p2).bind fun _ => (m_X12_attempt σ p2 v118 v119 v117.2).bind fun v120 =>
  (chk σ 12 p2).bind fun _ => (m_X12_thrown σ p2 v120.2).bind fun v121 =>
  if v121 = v117.1 then
    if v117.1 = 0 then
      (rL σ v120.2 p3 (0 : Int32)).bind fun v122 =>
      if (lg_cmp v122 (v120.1).toInt64) = 0 then
        m_law_b1209 xs N σ k p1 p2 p3 p4 v120.2
      else
        none
    else
      m_law_b1209 xs N σ k p1 p2 p3 p4 v120.2
  else
    none
set_option maxHeartbeats 8000000 in
set_option maxRecDepth 100000 in
theorem w_law_b1144 {xs : Nat → Int32} {N : Nat} {J : JT} (hI : IsL xs N J) (σ : St) (k : Nat) (hk : k < 600) (p1 : Nat) (p2 : Nat) (p3 : Nat) (p4 : Int32) (δ : Dy) : SJ (m_law_b1144 xs N σ k p1 p2 p3 p4 δ) (PL (fun s : Nat × Int32 × Dy => J 23 [(0, .ref roB), (1, .ref p1), (2, .ref p2), (3, .ref p3), (4, .int s.2.1)] [] (600 - s.1, 3600 - 6 * s.1) σ s.2.2) (fun _ : Unit => True)) (J 1144 [(0, .ref roB), (1, .ref p1), (2, .ref p2), (3, .ref p3), (4, .int p4)] [] (600 - k, 3600 - 6 * k) σ δ) := by
  have hJ := hI.cor
  unfold m_law_b1144
  refine sj (j_aload_n hJ dL_law_1144 rfl 1 rfl) ?_
  refine sj (j_aload_n hJ dL_law_1145 rfl 0 rfl) ?_
  refine sj (j_iload hJ dL_law_1146 4 rfl) ?_
  refine sj (j_iconst hJ (v := 1) dL_law_1148 ic_1) ?_
  refine sj (j_iadd hJ dL_law_1149) ?_
  refine sl_rS hI dL_law_1150 (fun v115 => ?_)
  refine sj (j_aload_n hJ dL_law_1151 rfl 0 rfl) ?_
  refine sj (j_iload hJ dL_law_1152 4 rfl) ?_
  refine sj (j_iconst hJ (v := 2) dL_law_1154 ic_2) ?_
  refine sj (j_iadd hJ dL_law_1155) ?_
  refine sl_rS hI dL_law_1156 (fun v116 => ?_)
  refine sj (j_aload_n hJ dL_law_1157 rfl 3 rfl) ?_
  refine sl_callW hJ [.ref p1, .int v115, .int v116, .ref p3] (st := []) (fr' := 11) (lo' := 272) mlw_161 (by decide) (by decide) (Nat.le_of_ble_eq_true rfl) (by dsimp only; omega) (by dsimp only; omega) dL_law_1158 rfl (fun _ h9 => ct_L_attempt h9) (fun v117 => ?_)
  refine sj (j_istore hJ (L' := [(5, .int v117.1), (0, .ref roB), (1, .ref p1), (2, .ref p2), (3, .ref p3), (4, .int p4)]) dL_law_1161 (by decide) rfl) ?_
  refine sj (j_aload_n hJ dL_law_1163 rfl 3 rfl) ?_
  refine sj (j_aload_n hJ dL_law_1164 rfl 1 rfl) ?_
  refine sj (j_iload hJ dL_law_1165 5 rfl) ?_
  refine sj (j_iconst hJ (v := 1) dL_law_1167 ic_1) ?_
  refine sj (j_iadd hJ dL_law_1168) ?_
  refine sl_rS hI dL_law_1169 (fun v118 => ?_)
  refine sj (j_aload_n hJ dL_law_1170 rfl 1 rfl) ?_
  refine sj (j_iload hJ dL_law_1171 5 rfl) ?_
  refine sj (j_iconst hJ (v := 2) dL_law_1173 ic_2) ?_
  refine sj (j_iadd hJ dL_law_1174) ?_
  refine sl_rS hI dL_law_1175 (fun v119 => ?_)
  refine sj_callVi hJ [.int v118, .int v119] (st := []) (fr' := 2) (lo' := 43) ml_L_163 hc_12 (by decide) (by decide) (Nat.le_of_ble_eq_true rfl) dL_law_1176 rfl (fun _ h9 => ct_X12_attempt h9) (fun v120 => ?_)
  refine sj (j_istore hJ (L' := [(6, .int v120.1), (5, .int v117.1), (0, .ref roB), (1, .ref p1), (2, .ref p2), (3, .ref p3), (4, .int p4)]) dL_law_1179 (by decide) rfl) ?_
  refine sj (j_aload_n hJ dL_law_1181 rfl 4 rfl) ?_
  refine sj_callVip hJ [] (st := []) (fr' := 0) (lo' := 0) ml_L_119 hc_12 (by decide) (by decide) (Nat.le_of_ble_eq_true rfl) dL_law_1182 rfl (fun _ h9 => ct_X12_thrown h9) (fun v121 => ?_)
  refine sj (j_iload hJ dL_law_1185 1 rfl) ?_
  refine sj_if (j_icmp_eq hJ (tgt := 1192) dL_law_1187 (by decide)) (fun _ => ?_) (fun _ => ?_)
  · refine sj (j_iload hJ dL_law_1192 1 rfl) ?_
    refine sj_if (j_if_ne hJ (tgt := 1209) dL_law_1194 (by decide)) (fun _ => ?_) (fun _ => ?_)
    · refine sj (j_aload_n hJ dL_law_1197 rfl 5 rfl) ?_
      refine sj (j_iconst hJ (v := 0) dL_law_1198 ic_0) ?_
      refine sj_rL hJ dL_law_1199 (fun v122 => ?_)
      refine sj (j_iload hJ dL_law_1200 0 rfl) ?_
      refine sj (j_i2l hJ dL_law_1202) ?_
      refine sj (j_lcmp hJ dL_law_1203) ?_
      refine sj_if (j_if_eq hJ (tgt := 1209) dL_law_1204 (by decide)) (fun _ => ?_) (fun _ => ?_)
      · refine sj (j_sub hJ (L' := [(0, .ref roB), (1, .ref p1), (2, .ref p2), (3, .ref p3), (4, .int p4)]) [2, 3, 4, 5, 6] rfl) ?_
        refine sj (j_beta hJ (β' := (600 - (k + 1), 3600 - 6 * (k + 1))) (by dsimp only; omega) (by dsimp only; omega)) ?_
        exact w_law_b1209 hI σ k hk p1 p2 p3 p4 v120.2
      · refine sj (j_iconst hJ (v := 0) dL_law_1207 ic_0) ?_
        exact sj_none
    · refine sj (j_sub hJ (L' := [(0, .ref roB), (1, .ref p1), (2, .ref p2), (3, .ref p3), (4, .int p4)]) [2, 3, 4, 5, 6] rfl) ?_
      refine sj (j_beta hJ (β' := (600 - (k + 1), 3600 - 6 * (k + 1))) (by dsimp only; omega) (by dsimp only; omega)) ?_
      exact w_law_b1209 hI σ k hk p1 p2 p3 p4 v120.2
  · refine sj (j_iconst hJ (v := 0) dL_law_1190 ic_0) ?_
    exact sj_none
def m_law_b1277 (xs : Nat → Int32) (N : Nat) (σ : St) (k : Nat) (p1 : Nat) (p2 : Nat) (p3 : Nat) (p4 : Int32) (δ : Dy) : Option ((Nat × Int32 × Dy) ⊕ Unit) :=
  m_law_b2400 xs N σ k p1 p2 p3 p4 δ
set_option maxHeartbeats 8000000 in
set_option maxRecDepth 100000 in
theorem w_law_b1277 {xs : Nat → Int32} {N : Nat} {J : JT} (hI : IsL xs N J) (σ : St) (k : Nat) (hk : k < 600) (p1 : Nat) (p2 : Nat) (p3 : Nat) (p4 : Int32) (δ : Dy) : SJ (m_law_b1277 xs N σ k p1 p2 p3 p4 δ) (PL (fun s : Nat × Int32 × Dy => J 23 [(0, .ref roB), (1, .ref p1), (2, .ref p2), (3, .ref p3), (4, .int s.2.1)] [] (600 - s.1, 3600 - 6 * s.1) σ s.2.2) (fun _ : Unit => True)) (J 1277 [(0, .ref roB), (1, .ref p1), (2, .ref p2), (3, .ref p3), (4, .int p4)] [] (600 - (k + 1), 3600 - 6 * (k + 1)) σ δ) := by
  have hJ := hI.cor
  unfold m_law_b1277
  refine sj (j_goto hJ (tgt := 2400) dL_law_1277 (by decide)) ?_
  refine sj (j_beta hJ (β' := (600 - (k + 1), 3600 - 6 * (k + 1))) (by dsimp only; omega) (by dsimp only; omega)) ?_
  exact w_law_b2400 hI σ k hk p1 p2 p3 p4 δ
def m_law_b1212 (xs : Nat → Int32) (N : Nat) (σ : St) (k : Nat) (p1 : Nat) (p2 : Nat) (p3 : Nat) (p4 : Int32) (δ : Dy) : Option ((Nat × Int32 × Dy) ⊕ Unit) :=
  (rS xs N (p4 + (1 : Int32))).bind fun v123 =>
  (rS xs N (p4 + (2 : Int32))).bind fun v124 =>
  (m_L_define σ p1 v123 v124 p3 δ).bind fun v125 =>
  (rS xs N (p4 + (1 : Int32))).bind fun v126 =>
  (rS xs N (p4 + (2 : Int32))).bind fun v127 =>
  (chk σ 12 p2).bind fun _ => (m_X12_define σ p2 v126 v127 v125.2).bind fun v128 =>
  (chk σ 12 p2).bind fun _ => (m_X12_thrown σ p2 v128.2).bind fun v129 =>
  if v129 = v125.1 then
    if v125.1 = 0 then
      (rL σ v128.2 p3 (0 : Int32)).bind fun v130 =>
      if (lg_cmp v130 (v128.1).toInt64) = 0 then
        m_law_b1277 xs N σ k p1 p2 p3 p4 v128.2
      else
        none
    else
      m_law_b1277 xs N σ k p1 p2 p3 p4 v128.2
  else
    none
set_option maxHeartbeats 8000000 in
set_option maxRecDepth 100000 in
theorem w_law_b1212 {xs : Nat → Int32} {N : Nat} {J : JT} (hI : IsL xs N J) (σ : St) (k : Nat) (hk : k < 600) (p1 : Nat) (p2 : Nat) (p3 : Nat) (p4 : Int32) (δ : Dy) : SJ (m_law_b1212 xs N σ k p1 p2 p3 p4 δ) (PL (fun s : Nat × Int32 × Dy => J 23 [(0, .ref roB), (1, .ref p1), (2, .ref p2), (3, .ref p3), (4, .int s.2.1)] [] (600 - s.1, 3600 - 6 * s.1) σ s.2.2) (fun _ : Unit => True)) (J 1212 [(0, .ref roB), (1, .ref p1), (2, .ref p2), (3, .ref p3), (4, .int p4)] [] (600 - k, 3600 - 6 * k) σ δ) := by
  have hJ := hI.cor
  unfold m_law_b1212
  refine sj (j_aload_n hJ dL_law_1212 rfl 1 rfl) ?_
  refine sj (j_aload_n hJ dL_law_1213 rfl 0 rfl) ?_
  refine sj (j_iload hJ dL_law_1214 4 rfl) ?_
  refine sj (j_iconst hJ (v := 1) dL_law_1216 ic_1) ?_
  refine sj (j_iadd hJ dL_law_1217) ?_
  refine sl_rS hI dL_law_1218 (fun v123 => ?_)
  refine sj (j_aload_n hJ dL_law_1219 rfl 0 rfl) ?_
  refine sj (j_iload hJ dL_law_1220 4 rfl) ?_
  refine sj (j_iconst hJ (v := 2) dL_law_1222 ic_2) ?_
  refine sj (j_iadd hJ dL_law_1223) ?_
  refine sl_rS hI dL_law_1224 (fun v124 => ?_)
  refine sj (j_aload_n hJ dL_law_1225 rfl 3 rfl) ?_
  refine sl_callW hJ [.ref p1, .int v123, .int v124, .ref p3] (st := []) (fr' := 11) (lo' := 273) mlw_164 (by decide) (by decide) (Nat.le_of_ble_eq_true rfl) (by dsimp only; omega) (by dsimp only; omega) dL_law_1226 rfl (fun _ h9 => ct_L_define h9) (fun v125 => ?_)
  refine sj (j_istore hJ (L' := [(5, .int v125.1), (0, .ref roB), (1, .ref p1), (2, .ref p2), (3, .ref p3), (4, .int p4)]) dL_law_1229 (by decide) rfl) ?_
  refine sj (j_aload_n hJ dL_law_1231 rfl 3 rfl) ?_
  refine sj (j_aload_n hJ dL_law_1232 rfl 1 rfl) ?_
  refine sj (j_iload hJ dL_law_1233 5 rfl) ?_
  refine sj (j_iconst hJ (v := 1) dL_law_1235 ic_1) ?_
  refine sj (j_iadd hJ dL_law_1236) ?_
  refine sl_rS hI dL_law_1237 (fun v126 => ?_)
  refine sj (j_aload_n hJ dL_law_1238 rfl 1 rfl) ?_
  refine sj (j_iload hJ dL_law_1239 5 rfl) ?_
  refine sj (j_iconst hJ (v := 2) dL_law_1241 ic_2) ?_
  refine sj (j_iadd hJ dL_law_1242) ?_
  refine sl_rS hI dL_law_1243 (fun v127 => ?_)
  refine sj_callVi hJ [.int v126, .int v127] (st := []) (fr' := 2) (lo' := 43) ml_L_166 hc_12 (by decide) (by decide) (Nat.le_of_ble_eq_true rfl) dL_law_1244 rfl (fun _ h9 => ct_X12_define h9) (fun v128 => ?_)
  refine sj (j_istore hJ (L' := [(6, .int v128.1), (5, .int v125.1), (0, .ref roB), (1, .ref p1), (2, .ref p2), (3, .ref p3), (4, .int p4)]) dL_law_1247 (by decide) rfl) ?_
  refine sj (j_aload_n hJ dL_law_1249 rfl 4 rfl) ?_
  refine sj_callVip hJ [] (st := []) (fr' := 0) (lo' := 0) ml_L_119 hc_12 (by decide) (by decide) (Nat.le_of_ble_eq_true rfl) dL_law_1250 rfl (fun _ h9 => ct_X12_thrown h9) (fun v129 => ?_)
  refine sj (j_iload hJ dL_law_1253 1 rfl) ?_
  refine sj_if (j_icmp_eq hJ (tgt := 1260) dL_law_1255 (by decide)) (fun _ => ?_) (fun _ => ?_)
  · refine sj (j_iload hJ dL_law_1260 1 rfl) ?_
    refine sj_if (j_if_ne hJ (tgt := 1277) dL_law_1262 (by decide)) (fun _ => ?_) (fun _ => ?_)
    · refine sj (j_aload_n hJ dL_law_1265 rfl 5 rfl) ?_
      refine sj (j_iconst hJ (v := 0) dL_law_1266 ic_0) ?_
      refine sj_rL hJ dL_law_1267 (fun v130 => ?_)
      refine sj (j_iload hJ dL_law_1268 0 rfl) ?_
      refine sj (j_i2l hJ dL_law_1270) ?_
      refine sj (j_lcmp hJ dL_law_1271) ?_
      refine sj_if (j_if_eq hJ (tgt := 1277) dL_law_1272 (by decide)) (fun _ => ?_) (fun _ => ?_)
      · refine sj (j_sub hJ (L' := [(0, .ref roB), (1, .ref p1), (2, .ref p2), (3, .ref p3), (4, .int p4)]) [2, 3, 4, 5, 6] rfl) ?_
        refine sj (j_beta hJ (β' := (600 - (k + 1), 3600 - 6 * (k + 1))) (by dsimp only; omega) (by dsimp only; omega)) ?_
        exact w_law_b1277 hI σ k hk p1 p2 p3 p4 v128.2
      · refine sj (j_iconst hJ (v := 0) dL_law_1275 ic_0) ?_
        exact sj_none
    · refine sj (j_sub hJ (L' := [(0, .ref roB), (1, .ref p1), (2, .ref p2), (3, .ref p3), (4, .int p4)]) [2, 3, 4, 5, 6] rfl) ?_
      refine sj (j_beta hJ (β' := (600 - (k + 1), 3600 - 6 * (k + 1))) (by dsimp only; omega) (by dsimp only; omega)) ?_
      exact w_law_b1277 hI σ k hk p1 p2 p3 p4 v128.2
  · refine sj (j_iconst hJ (v := 0) dL_law_1258 ic_0) ?_
    exact sj_none
def m_law_b1392 (xs : Nat → Int32) (N : Nat) (σ : St) (k : Nat) (p1 : Nat) (p2 : Nat) (p3 : Nat) (p4 : Int32) (δ : Dy) : Option ((Nat × Int32 × Dy) ⊕ Unit) :=
  m_law_b2400 xs N σ k p1 p2 p3 p4 δ
set_option maxHeartbeats 8000000 in
set_option maxRecDepth 100000 in
theorem w_law_b1392 {xs : Nat → Int32} {N : Nat} {J : JT} (hI : IsL xs N J) (σ : St) (k : Nat) (hk : k < 600) (p1 : Nat) (p2 : Nat) (p3 : Nat) (p4 : Int32) (δ : Dy) : SJ (m_law_b1392 xs N σ k p1 p2 p3 p4 δ) (PL (fun s : Nat × Int32 × Dy => J 23 [(0, .ref roB), (1, .ref p1), (2, .ref p2), (3, .ref p3), (4, .int s.2.1)] [] (600 - s.1, 3600 - 6 * s.1) σ s.2.2) (fun _ : Unit => True)) (J 1392 [(0, .ref roB), (1, .ref p1), (2, .ref p2), (3, .ref p3), (4, .int p4)] [] (600 - (k + 1), 3600 - 6 * (k + 1)) σ δ) := by
  have hJ := hI.cor
  unfold m_law_b1392
  refine sj (j_goto hJ (tgt := 2400) dL_law_1392 (by decide)) ?_
  refine sj (j_beta hJ (β' := (600 - (k + 1), 3600 - 6 * (k + 1))) (by dsimp only; omega) (by dsimp only; omega)) ?_
  exact w_law_b2400 hI σ k hk p1 p2 p3 p4 δ
def m_law_b1386 (xs : Nat → Int32) (N : Nat) (σ : St) (k : Nat) (p1 : Nat) (p2 : Nat) (p3 : Nat) (p4 : Int32) (q0 : Int64) (q1 : Int64) (δ : Dy) : Option ((Nat × Int32 × Dy) ⊕ Unit) :=
  if (lg_cmp q0 q1) = 0 then
    m_law_b1392 xs N σ k p1 p2 p3 p4 δ
  else
    none
set_option maxHeartbeats 8000000 in
set_option maxRecDepth 100000 in
theorem w_law_b1386 {xs : Nat → Int32} {N : Nat} {J : JT} (hI : IsL xs N J) (σ : St) (k : Nat) (hk : k < 600) (p1 : Nat) (p2 : Nat) (p3 : Nat) (p4 : Int32) (q0 : Int64) (q1 : Int64) (δ : Dy) : SJ (m_law_b1386 xs N σ k p1 p2 p3 p4 q0 q1 δ) (PL (fun s : Nat × Int32 × Dy => J 23 [(0, .ref roB), (1, .ref p1), (2, .ref p2), (3, .ref p3), (4, .int s.2.1)] [] (600 - s.1, 3600 - 6 * s.1) σ s.2.2) (fun _ : Unit => True)) (J 1386 [(0, .ref roB), (1, .ref p1), (2, .ref p2), (3, .ref p3), (4, .int p4)] [.long q1, .long q0] (600 - (k + 1), 3600 - 6 * (k + 1)) σ δ) := by
  have hJ := hI.cor
  unfold m_law_b1386
  refine sj (j_lcmp hJ dL_law_1386) ?_
  refine sj_if (j_if_eq hJ (tgt := 1392) dL_law_1387 (by decide)) (fun _ => ?_) (fun _ => ?_)
  · refine sj (j_beta hJ (β' := (600 - (k + 1), 3600 - 6 * (k + 1))) (by dsimp only; omega) (by dsimp only; omega)) ?_
    exact w_law_b1392 hI σ k hk p1 p2 p3 p4 δ
  · refine sj (j_iconst hJ (v := 0) dL_law_1390 ic_0) ?_
    exact sj_none
def m_law_b1352 (xs : Nat → Int32) (N : Nat) (σ : St) (k : Nat) (p1 : Nat) (p2 : Nat) (p3 : Nat) (p4 : Int32) (p5 : Int32) (q0 : Nat) (q1 : Int32) (q2 : Int32) (q3 : Int32) (q4 : Int32) (δ : Dy) : Option ((Nat × Int32 × Dy) ⊕ Unit) :=
  (chk σ 12 q0).bind fun _ => (m_X12_head σ q0 q1 q2 q3 q4 δ).bind fun v140 =>
  (chk σ 12 p2).bind fun _ => (m_X12_thrown σ p2 v140.2).bind fun v141 =>
  if v141 = p5 then
    if p5 = 0 then
      (rL σ v140.2 p3 (0 : Int32)).bind fun v142 =>
      if v140.1 = 0 then
        m_law_b1386 xs N σ k p1 p2 p3 p4 v142 (0 : Int64) v140.2
      else
        m_law_b1386 xs N σ k p1 p2 p3 p4 v142 (1 : Int64) v140.2
    else
      m_law_b1392 xs N σ k p1 p2 p3 p4 v140.2
  else
    none
set_option maxHeartbeats 8000000 in
set_option maxRecDepth 100000 in
theorem w_law_b1352 {xs : Nat → Int32} {N : Nat} {J : JT} (hI : IsL xs N J) (σ : St) (k : Nat) (hk : k < 600) (p1 : Nat) (p2 : Nat) (p3 : Nat) (p4 : Int32) (p5 : Int32) (q0 : Nat) (q1 : Int32) (q2 : Int32) (q3 : Int32) (q4 : Int32) (δ : Dy) : SJ (m_law_b1352 xs N σ k p1 p2 p3 p4 p5 q0 q1 q2 q3 q4 δ) (PL (fun s : Nat × Int32 × Dy => J 23 [(0, .ref roB), (1, .ref p1), (2, .ref p2), (3, .ref p3), (4, .int s.2.1)] [] (600 - s.1, 3600 - 6 * s.1) σ s.2.2) (fun _ : Unit => True)) (J 1352 [(0, .ref roB), (1, .ref p1), (2, .ref p2), (3, .ref p3), (4, .int p4), (5, .int p5)] [.int q4, .int q3, .int q2, .int q1, .ref q0] (600 - (k + 1), 3600 - 6 * (k + 1)) σ δ) := by
  have hJ := hI.cor
  unfold m_law_b1352
  refine sj_callVi hJ [.int q1, .int q2, .int q3, .int q4] (st := []) (fr' := 4) (lo' := 82) ml_L_169 hc_12 (by decide) (by decide) (Nat.le_of_ble_eq_true rfl) dL_law_1352 rfl (fun _ h9 => ct_X12_head h9) (fun v140 => ?_)
  refine sj (j_istore hJ (L' := [(6, .int v140.1), (0, .ref roB), (1, .ref p1), (2, .ref p2), (3, .ref p3), (4, .int p4), (5, .int p5)]) dL_law_1355 (by decide) rfl) ?_
  refine sj (j_aload_n hJ dL_law_1357 rfl 3 rfl) ?_
  refine sj_callVip hJ [] (st := []) (fr' := 0) (lo' := 0) ml_L_119 hc_12 (by decide) (by decide) (Nat.le_of_ble_eq_true rfl) dL_law_1358 rfl (fun _ h9 => ct_X12_thrown h9) (fun v141 => ?_)
  refine sj (j_iload hJ dL_law_1361 6 rfl) ?_
  refine sj_if (j_icmp_eq hJ (tgt := 1368) dL_law_1363 (by decide)) (fun _ => ?_) (fun _ => ?_)
  · refine sj (j_iload hJ dL_law_1368 6 rfl) ?_
    refine sj_if (j_if_ne hJ (tgt := 1392) dL_law_1370 (by decide)) (fun _ => ?_) (fun _ => ?_)
    · refine sj (j_aload_n hJ dL_law_1373 rfl 4 rfl) ?_
      refine sj (j_iconst hJ (v := 0) dL_law_1374 ic_0) ?_
      refine sj_rL hJ dL_law_1375 (fun v142 => ?_)
      refine sj (j_iload hJ dL_law_1376 0 rfl) ?_
      refine sj_if (j_if_eq hJ (tgt := 1385) dL_law_1378 (by decide)) (fun _ => ?_) (fun _ => ?_)
      · refine sj (j_lconst hJ (v := 0) dL_law_1385 rfl) ?_
        refine sj (j_sub hJ (L' := [(0, .ref roB), (1, .ref p1), (2, .ref p2), (3, .ref p3), (4, .int p4)]) [1, 2, 3, 4, 5] rfl) ?_
        refine sj (j_beta hJ (β' := (600 - (k + 1), 3600 - 6 * (k + 1))) (by dsimp only; omega) (by dsimp only; omega)) ?_
        exact w_law_b1386 hI σ k hk p1 p2 p3 p4 v142 (0 : Int64) v140.2
      · refine sj (j_lconst hJ (v := 1) dL_law_1381 rfl) ?_
        refine sj (j_goto hJ (tgt := 1386) dL_law_1382 (by decide)) ?_
        refine sj (j_sub hJ (L' := [(0, .ref roB), (1, .ref p1), (2, .ref p2), (3, .ref p3), (4, .int p4)]) [1, 2, 3, 4, 5] rfl) ?_
        refine sj (j_beta hJ (β' := (600 - (k + 1), 3600 - 6 * (k + 1))) (by dsimp only; omega) (by dsimp only; omega)) ?_
        exact w_law_b1386 hI σ k hk p1 p2 p3 p4 v142 (1 : Int64) v140.2
    · refine sj (j_sub hJ (L' := [(0, .ref roB), (1, .ref p1), (2, .ref p2), (3, .ref p3), (4, .int p4)]) [1, 2, 3, 4, 5] rfl) ?_
      refine sj (j_beta hJ (β' := (600 - (k + 1), 3600 - 6 * (k + 1))) (by dsimp only; omega) (by dsimp only; omega)) ?_
      exact w_law_b1392 hI σ k hk p1 p2 p3 p4 v140.2
  · refine sj (j_iconst hJ (v := 0) dL_law_1366 ic_0) ?_
    exact sj_none
def m_law_b1313 (xs : Nat → Int32) (N : Nat) (σ : St) (k : Nat) (p1 : Nat) (p2 : Nat) (p3 : Nat) (p4 : Int32) (q0 : Nat) (q1 : Int32) (q2 : Int32) (q3 : Int32) (q4 : Int32) (δ : Dy) : Option ((Nat × Int32 × Dy) ⊕ Unit) :=
  (m_L_head σ q0 q1 q2 q3 q4 p3 δ).bind fun v135 =>
  (rS xs N (p4 + (1 : Int32))).bind fun v136 =>
  (rS xs N (p4 + (2 : Int32))).bind fun v137 =>
  (rS xs N (p4 + (3 : Int32))).bind fun v138 =>
  (rS xs N (p4 + (4 : Int32))).bind fun v139 =>
  if v139 = 0 then
    m_law_b1352 xs N σ k p1 p2 p3 p4 v135.1 p2 v136 v137 v138 (0 : Int32) v135.2
  else
    m_law_b1352 xs N σ k p1 p2 p3 p4 v135.1 p2 v136 v137 v138 (1 : Int32) v135.2
set_option maxHeartbeats 8000000 in
set_option maxRecDepth 100000 in
theorem w_law_b1313 {xs : Nat → Int32} {N : Nat} {J : JT} (hI : IsL xs N J) (σ : St) (k : Nat) (hk : k < 600) (p1 : Nat) (p2 : Nat) (p3 : Nat) (p4 : Int32) (q0 : Nat) (q1 : Int32) (q2 : Int32) (q3 : Int32) (q4 : Int32) (δ : Dy) : SJ (m_law_b1313 xs N σ k p1 p2 p3 p4 q0 q1 q2 q3 q4 δ) (PL (fun s : Nat × Int32 × Dy => J 23 [(0, .ref roB), (1, .ref p1), (2, .ref p2), (3, .ref p3), (4, .int s.2.1)] [] (600 - s.1, 3600 - 6 * s.1) σ s.2.2) (fun _ : Unit => True)) (J 1313 [(0, .ref roB), (1, .ref p1), (2, .ref p2), (3, .ref p3), (4, .int p4)] [.int q4, .int q3, .int q2, .int q1, .ref q0] (600 - k, 3600 - 6 * k) σ δ) := by
  have hJ := hI.cor
  unfold m_law_b1313
  refine sj (j_aload_n hJ dL_law_1313 rfl 3 rfl) ?_
  refine sl_callW hJ [.ref q0, .int q1, .int q2, .int q3, .int q4, .ref p3] (st := []) (fr' := 12) (lo' := 297) mlw_167 (by decide) (by decide) (Nat.le_of_ble_eq_true rfl) (by dsimp only; omega) (by dsimp only; omega) dL_law_1314 rfl (fun _ h9 => ct_L_head h9) (fun v135 => ?_)
  refine sj (j_istore hJ (L' := [(5, .int v135.1), (0, .ref roB), (1, .ref p1), (2, .ref p2), (3, .ref p3), (4, .int p4)]) dL_law_1317 (by decide) rfl) ?_
  refine sj (j_aload_n hJ dL_law_1319 rfl 3 rfl) ?_
  refine sj (j_aload_n hJ dL_law_1320 rfl 1 rfl) ?_
  refine sj (j_iload hJ dL_law_1321 5 rfl) ?_
  refine sj (j_iconst hJ (v := 1) dL_law_1323 ic_1) ?_
  refine sj (j_iadd hJ dL_law_1324) ?_
  refine sl_rS hI dL_law_1325 (fun v136 => ?_)
  refine sj (j_aload_n hJ dL_law_1326 rfl 1 rfl) ?_
  refine sj (j_iload hJ dL_law_1327 5 rfl) ?_
  refine sj (j_iconst hJ (v := 2) dL_law_1329 ic_2) ?_
  refine sj (j_iadd hJ dL_law_1330) ?_
  refine sl_rS hI dL_law_1331 (fun v137 => ?_)
  refine sj (j_aload_n hJ dL_law_1332 rfl 1 rfl) ?_
  refine sj (j_iload hJ dL_law_1333 5 rfl) ?_
  refine sj (j_iconst hJ (v := 3) dL_law_1335 ic_3) ?_
  refine sj (j_iadd hJ dL_law_1336) ?_
  refine sl_rS hI dL_law_1337 (fun v138 => ?_)
  refine sj (j_aload_n hJ dL_law_1338 rfl 1 rfl) ?_
  refine sj (j_iload hJ dL_law_1339 5 rfl) ?_
  refine sj (j_iconst hJ (v := 4) dL_law_1341 ic_4) ?_
  refine sj (j_iadd hJ dL_law_1342) ?_
  refine sl_rS hI dL_law_1343 (fun v139 => ?_)
  refine sj_if (j_if_eq hJ (tgt := 1351) dL_law_1344 (by decide)) (fun _ => ?_) (fun _ => ?_)
  · refine sj (j_iconst hJ (v := 0) dL_law_1351 ic_0) ?_
    refine sj (j_sub hJ (L' := [(0, .ref roB), (1, .ref p1), (2, .ref p2), (3, .ref p3), (4, .int p4), (5, .int v135.1)]) [1, 2, 3, 4, 5, 0] rfl) ?_
    refine sj (j_beta hJ (β' := (600 - (k + 1), 3600 - 6 * (k + 1))) (by dsimp only; omega) (by dsimp only; omega)) ?_
    exact w_law_b1352 hI σ k hk p1 p2 p3 p4 v135.1 p2 v136 v137 v138 (0 : Int32) v135.2
  · refine sj (j_iconst hJ (v := 1) dL_law_1347 ic_1) ?_
    refine sj (j_goto hJ (tgt := 1352) dL_law_1348 (by decide)) ?_
    refine sj (j_sub hJ (L' := [(0, .ref roB), (1, .ref p1), (2, .ref p2), (3, .ref p3), (4, .int p4), (5, .int v135.1)]) [1, 2, 3, 4, 5, 0] rfl) ?_
    refine sj (j_beta hJ (β' := (600 - (k + 1), 3600 - 6 * (k + 1))) (by dsimp only; omega) (by dsimp only; omega)) ?_
    exact w_law_b1352 hI σ k hk p1 p2 p3 p4 v135.1 p2 v136 v137 v138 (1 : Int32) v135.2
def m_law_b1280 (xs : Nat → Int32) (N : Nat) (σ : St) (k : Nat) (p1 : Nat) (p2 : Nat) (p3 : Nat) (p4 : Int32) (δ : Dy) : Option ((Nat × Int32 × Dy) ⊕ Unit) :=
  (rS xs N (p4 + (1 : Int32))).bind fun v131 =>
  (rS xs N (p4 + (2 : Int32))).bind fun v132 =>
  (rS xs N (p4 + (3 : Int32))).bind fun v133 =>
  (rS xs N (p4 + (4 : Int32))).bind fun v134 =>
  if v134 = 0 then
    m_law_b1313 xs N σ k p1 p2 p3 p4 p1 v131 v132 v133 (0 : Int32) δ
  else
    m_law_b1313 xs N σ k p1 p2 p3 p4 p1 v131 v132 v133 (1 : Int32) δ
set_option maxHeartbeats 8000000 in
set_option maxRecDepth 100000 in
theorem w_law_b1280 {xs : Nat → Int32} {N : Nat} {J : JT} (hI : IsL xs N J) (σ : St) (k : Nat) (hk : k < 600) (p1 : Nat) (p2 : Nat) (p3 : Nat) (p4 : Int32) (δ : Dy) : SJ (m_law_b1280 xs N σ k p1 p2 p3 p4 δ) (PL (fun s : Nat × Int32 × Dy => J 23 [(0, .ref roB), (1, .ref p1), (2, .ref p2), (3, .ref p3), (4, .int s.2.1)] [] (600 - s.1, 3600 - 6 * s.1) σ s.2.2) (fun _ : Unit => True)) (J 1280 [(0, .ref roB), (1, .ref p1), (2, .ref p2), (3, .ref p3), (4, .int p4)] [] (600 - k, 3600 - 6 * k) σ δ) := by
  have hJ := hI.cor
  unfold m_law_b1280
  refine sj (j_aload_n hJ dL_law_1280 rfl 1 rfl) ?_
  refine sj (j_aload_n hJ dL_law_1281 rfl 0 rfl) ?_
  refine sj (j_iload hJ dL_law_1282 4 rfl) ?_
  refine sj (j_iconst hJ (v := 1) dL_law_1284 ic_1) ?_
  refine sj (j_iadd hJ dL_law_1285) ?_
  refine sl_rS hI dL_law_1286 (fun v131 => ?_)
  refine sj (j_aload_n hJ dL_law_1287 rfl 0 rfl) ?_
  refine sj (j_iload hJ dL_law_1288 4 rfl) ?_
  refine sj (j_iconst hJ (v := 2) dL_law_1290 ic_2) ?_
  refine sj (j_iadd hJ dL_law_1291) ?_
  refine sl_rS hI dL_law_1292 (fun v132 => ?_)
  refine sj (j_aload_n hJ dL_law_1293 rfl 0 rfl) ?_
  refine sj (j_iload hJ dL_law_1294 4 rfl) ?_
  refine sj (j_iconst hJ (v := 3) dL_law_1296 ic_3) ?_
  refine sj (j_iadd hJ dL_law_1297) ?_
  refine sl_rS hI dL_law_1298 (fun v133 => ?_)
  refine sj (j_aload_n hJ dL_law_1299 rfl 0 rfl) ?_
  refine sj (j_iload hJ dL_law_1300 4 rfl) ?_
  refine sj (j_iconst hJ (v := 4) dL_law_1302 ic_4) ?_
  refine sj (j_iadd hJ dL_law_1303) ?_
  refine sl_rS hI dL_law_1304 (fun v134 => ?_)
  refine sj_if (j_if_eq hJ (tgt := 1312) dL_law_1305 (by decide)) (fun _ => ?_) (fun _ => ?_)
  · refine sj (j_iconst hJ (v := 0) dL_law_1312 ic_0) ?_
    refine sj (j_beta hJ (β' := (600 - k, 3600 - 6 * k)) (by dsimp only; omega) (by dsimp only; omega)) ?_
    exact w_law_b1313 hI σ k hk p1 p2 p3 p4 p1 v131 v132 v133 (0 : Int32) δ
  · refine sj (j_iconst hJ (v := 1) dL_law_1308 ic_1) ?_
    refine sj (j_goto hJ (tgt := 1313) dL_law_1309 (by decide)) ?_
    refine sj (j_beta hJ (β' := (600 - k, 3600 - 6 * k)) (by dsimp only; omega) (by dsimp only; omega)) ?_
    exact w_law_b1313 hI σ k hk p1 p2 p3 p4 p1 v131 v132 v133 (1 : Int32) δ
def m_law_b1500 (xs : Nat → Int32) (N : Nat) (σ : St) (k : Nat) (p1 : Nat) (p2 : Nat) (p3 : Nat) (p4 : Int32) (δ : Dy) : Option ((Nat × Int32 × Dy) ⊕ Unit) :=
  m_law_b2400 xs N σ k p1 p2 p3 p4 δ
set_option maxHeartbeats 8000000 in
set_option maxRecDepth 100000 in
theorem w_law_b1500 {xs : Nat → Int32} {N : Nat} {J : JT} (hI : IsL xs N J) (σ : St) (k : Nat) (hk : k < 600) (p1 : Nat) (p2 : Nat) (p3 : Nat) (p4 : Int32) (δ : Dy) : SJ (m_law_b1500 xs N σ k p1 p2 p3 p4 δ) (PL (fun s : Nat × Int32 × Dy => J 23 [(0, .ref roB), (1, .ref p1), (2, .ref p2), (3, .ref p3), (4, .int s.2.1)] [] (600 - s.1, 3600 - 6 * s.1) σ s.2.2) (fun _ : Unit => True)) (J 1500 [(0, .ref roB), (1, .ref p1), (2, .ref p2), (3, .ref p3), (4, .int p4)] [] (600 - (k + 1), 3600 - 6 * (k + 1)) σ δ) := by
  have hJ := hI.cor
  unfold m_law_b1500
  refine sj (j_goto hJ (tgt := 2400) dL_law_1500 (by decide)) ?_
  refine sj (j_beta hJ (β' := (600 - (k + 1), 3600 - 6 * (k + 1))) (by dsimp only; omega) (by dsimp only; omega)) ?_
  exact w_law_b2400 hI σ k hk p1 p2 p3 p4 δ
def m_law_b1467 (xs : Nat → Int32) (N : Nat) (σ : St) (k : Nat) (p1 : Nat) (p2 : Nat) (p3 : Nat) (p4 : Int32) (p5 : Int32) (q0 : Nat) (q1 : Int32) (q2 : Int32) (q3 : Int32) (q4 : Int32) (δ : Dy) : Option ((Nat × Int32 × Dy) ⊕ Unit) :=
  (chk σ 12 q0).bind fun _ => (m_X12_other σ q0 q1 q2 q3 q4 δ).bind fun v152 =>
  (chk σ 12 p2).bind fun _ => (m_X12_thrown σ p2 v152.2).bind fun v153 =>
  if v153 = p5 then
    if p5 = 0 then
      (rL σ v152.2 p3 (0 : Int32)).bind fun v154 =>
      if (lg_cmp v154 (v152.1).toInt64) = 0 then
        m_law_b1500 xs N σ k p1 p2 p3 p4 v152.2
      else
        none
    else
      m_law_b1500 xs N σ k p1 p2 p3 p4 v152.2
  else
    none
set_option maxHeartbeats 8000000 in
set_option maxRecDepth 100000 in
theorem w_law_b1467 {xs : Nat → Int32} {N : Nat} {J : JT} (hI : IsL xs N J) (σ : St) (k : Nat) (hk : k < 600) (p1 : Nat) (p2 : Nat) (p3 : Nat) (p4 : Int32) (p5 : Int32) (q0 : Nat) (q1 : Int32) (q2 : Int32) (q3 : Int32) (q4 : Int32) (δ : Dy) : SJ (m_law_b1467 xs N σ k p1 p2 p3 p4 p5 q0 q1 q2 q3 q4 δ) (PL (fun s : Nat × Int32 × Dy => J 23 [(0, .ref roB), (1, .ref p1), (2, .ref p2), (3, .ref p3), (4, .int s.2.1)] [] (600 - s.1, 3600 - 6 * s.1) σ s.2.2) (fun _ : Unit => True)) (J 1467 [(0, .ref roB), (1, .ref p1), (2, .ref p2), (3, .ref p3), (4, .int p4), (5, .int p5)] [.int q4, .int q3, .int q2, .int q1, .ref q0] (600 - (k + 1), 3600 - 6 * (k + 1)) σ δ) := by
  have hJ := hI.cor
  unfold m_law_b1467
  refine sj_callVi hJ [.int q1, .int q2, .int q3, .int q4] (st := []) (fr' := 4) (lo' := 82) ml_L_172 hc_12 (by decide) (by decide) (Nat.le_of_ble_eq_true rfl) dL_law_1467 rfl (fun _ h9 => ct_X12_other h9) (fun v152 => ?_)
  refine sj (j_istore hJ (L' := [(6, .int v152.1), (0, .ref roB), (1, .ref p1), (2, .ref p2), (3, .ref p3), (4, .int p4), (5, .int p5)]) dL_law_1470 (by decide) rfl) ?_
  refine sj (j_aload_n hJ dL_law_1472 rfl 3 rfl) ?_
  refine sj_callVip hJ [] (st := []) (fr' := 0) (lo' := 0) ml_L_119 hc_12 (by decide) (by decide) (Nat.le_of_ble_eq_true rfl) dL_law_1473 rfl (fun _ h9 => ct_X12_thrown h9) (fun v153 => ?_)
  refine sj (j_iload hJ dL_law_1476 6 rfl) ?_
  refine sj_if (j_icmp_eq hJ (tgt := 1483) dL_law_1478 (by decide)) (fun _ => ?_) (fun _ => ?_)
  · refine sj (j_iload hJ dL_law_1483 6 rfl) ?_
    refine sj_if (j_if_ne hJ (tgt := 1500) dL_law_1485 (by decide)) (fun _ => ?_) (fun _ => ?_)
    · refine sj (j_aload_n hJ dL_law_1488 rfl 4 rfl) ?_
      refine sj (j_iconst hJ (v := 0) dL_law_1489 ic_0) ?_
      refine sj_rL hJ dL_law_1490 (fun v154 => ?_)
      refine sj (j_iload hJ dL_law_1491 0 rfl) ?_
      refine sj (j_i2l hJ dL_law_1493) ?_
      refine sj (j_lcmp hJ dL_law_1494) ?_
      refine sj_if (j_if_eq hJ (tgt := 1500) dL_law_1495 (by decide)) (fun _ => ?_) (fun _ => ?_)
      · refine sj (j_sub hJ (L' := [(0, .ref roB), (1, .ref p1), (2, .ref p2), (3, .ref p3), (4, .int p4)]) [1, 2, 3, 4, 5] rfl) ?_
        refine sj (j_beta hJ (β' := (600 - (k + 1), 3600 - 6 * (k + 1))) (by dsimp only; omega) (by dsimp only; omega)) ?_
        exact w_law_b1500 hI σ k hk p1 p2 p3 p4 v152.2
      · refine sj (j_iconst hJ (v := 0) dL_law_1498 ic_0) ?_
        exact sj_none
    · refine sj (j_sub hJ (L' := [(0, .ref roB), (1, .ref p1), (2, .ref p2), (3, .ref p3), (4, .int p4)]) [1, 2, 3, 4, 5] rfl) ?_
      refine sj (j_beta hJ (β' := (600 - (k + 1), 3600 - 6 * (k + 1))) (by dsimp only; omega) (by dsimp only; omega)) ?_
      exact w_law_b1500 hI σ k hk p1 p2 p3 p4 v152.2
  · refine sj (j_iconst hJ (v := 0) dL_law_1481 ic_0) ?_
    exact sj_none
def m_law_b1428 (xs : Nat → Int32) (N : Nat) (σ : St) (k : Nat) (p1 : Nat) (p2 : Nat) (p3 : Nat) (p4 : Int32) (q0 : Nat) (q1 : Int32) (q2 : Int32) (q3 : Int32) (q4 : Int32) (δ : Dy) : Option ((Nat × Int32 × Dy) ⊕ Unit) :=
  (m_L_other σ q0 q1 q2 q3 q4 p3 δ).bind fun v147 =>
  (rS xs N (p4 + (1 : Int32))).bind fun v148 =>
  (rS xs N (p4 + (2 : Int32))).bind fun v149 =>
  (rS xs N (p4 + (3 : Int32))).bind fun v150 =>
  (rS xs N (p4 + (4 : Int32))).bind fun v151 =>
  if v151 = 0 then
    m_law_b1467 xs N σ k p1 p2 p3 p4 v147.1 p2 v148 v149 v150 (0 : Int32) v147.2
  else
    m_law_b1467 xs N σ k p1 p2 p3 p4 v147.1 p2 v148 v149 v150 (1 : Int32) v147.2
set_option maxHeartbeats 8000000 in
set_option maxRecDepth 100000 in
theorem w_law_b1428 {xs : Nat → Int32} {N : Nat} {J : JT} (hI : IsL xs N J) (σ : St) (k : Nat) (hk : k < 600) (p1 : Nat) (p2 : Nat) (p3 : Nat) (p4 : Int32) (q0 : Nat) (q1 : Int32) (q2 : Int32) (q3 : Int32) (q4 : Int32) (δ : Dy) : SJ (m_law_b1428 xs N σ k p1 p2 p3 p4 q0 q1 q2 q3 q4 δ) (PL (fun s : Nat × Int32 × Dy => J 23 [(0, .ref roB), (1, .ref p1), (2, .ref p2), (3, .ref p3), (4, .int s.2.1)] [] (600 - s.1, 3600 - 6 * s.1) σ s.2.2) (fun _ : Unit => True)) (J 1428 [(0, .ref roB), (1, .ref p1), (2, .ref p2), (3, .ref p3), (4, .int p4)] [.int q4, .int q3, .int q2, .int q1, .ref q0] (600 - k, 3600 - 6 * k) σ δ) := by
  have hJ := hI.cor
  unfold m_law_b1428
  refine sj (j_aload_n hJ dL_law_1428 rfl 3 rfl) ?_
  refine sl_callW hJ [.ref q0, .int q1, .int q2, .int q3, .int q4, .ref p3] (st := []) (fr' := 12) (lo' := 296) mlw_170 (by decide) (by decide) (Nat.le_of_ble_eq_true rfl) (by dsimp only; omega) (by dsimp only; omega) dL_law_1429 rfl (fun _ h9 => ct_L_other h9) (fun v147 => ?_)
  refine sj (j_istore hJ (L' := [(5, .int v147.1), (0, .ref roB), (1, .ref p1), (2, .ref p2), (3, .ref p3), (4, .int p4)]) dL_law_1432 (by decide) rfl) ?_
  refine sj (j_aload_n hJ dL_law_1434 rfl 3 rfl) ?_
  refine sj (j_aload_n hJ dL_law_1435 rfl 1 rfl) ?_
  refine sj (j_iload hJ dL_law_1436 5 rfl) ?_
  refine sj (j_iconst hJ (v := 1) dL_law_1438 ic_1) ?_
  refine sj (j_iadd hJ dL_law_1439) ?_
  refine sl_rS hI dL_law_1440 (fun v148 => ?_)
  refine sj (j_aload_n hJ dL_law_1441 rfl 1 rfl) ?_
  refine sj (j_iload hJ dL_law_1442 5 rfl) ?_
  refine sj (j_iconst hJ (v := 2) dL_law_1444 ic_2) ?_
  refine sj (j_iadd hJ dL_law_1445) ?_
  refine sl_rS hI dL_law_1446 (fun v149 => ?_)
  refine sj (j_aload_n hJ dL_law_1447 rfl 1 rfl) ?_
  refine sj (j_iload hJ dL_law_1448 5 rfl) ?_
  refine sj (j_iconst hJ (v := 3) dL_law_1450 ic_3) ?_
  refine sj (j_iadd hJ dL_law_1451) ?_
  refine sl_rS hI dL_law_1452 (fun v150 => ?_)
  refine sj (j_aload_n hJ dL_law_1453 rfl 1 rfl) ?_
  refine sj (j_iload hJ dL_law_1454 5 rfl) ?_
  refine sj (j_iconst hJ (v := 4) dL_law_1456 ic_4) ?_
  refine sj (j_iadd hJ dL_law_1457) ?_
  refine sl_rS hI dL_law_1458 (fun v151 => ?_)
  refine sj_if (j_if_eq hJ (tgt := 1466) dL_law_1459 (by decide)) (fun _ => ?_) (fun _ => ?_)
  · refine sj (j_iconst hJ (v := 0) dL_law_1466 ic_0) ?_
    refine sj (j_sub hJ (L' := [(0, .ref roB), (1, .ref p1), (2, .ref p2), (3, .ref p3), (4, .int p4), (5, .int v147.1)]) [1, 2, 3, 4, 5, 0] rfl) ?_
    refine sj (j_beta hJ (β' := (600 - (k + 1), 3600 - 6 * (k + 1))) (by dsimp only; omega) (by dsimp only; omega)) ?_
    exact w_law_b1467 hI σ k hk p1 p2 p3 p4 v147.1 p2 v148 v149 v150 (0 : Int32) v147.2
  · refine sj (j_iconst hJ (v := 1) dL_law_1462 ic_1) ?_
    refine sj (j_goto hJ (tgt := 1467) dL_law_1463 (by decide)) ?_
    refine sj (j_sub hJ (L' := [(0, .ref roB), (1, .ref p1), (2, .ref p2), (3, .ref p3), (4, .int p4), (5, .int v147.1)]) [1, 2, 3, 4, 5, 0] rfl) ?_
    refine sj (j_beta hJ (β' := (600 - (k + 1), 3600 - 6 * (k + 1))) (by dsimp only; omega) (by dsimp only; omega)) ?_
    exact w_law_b1467 hI σ k hk p1 p2 p3 p4 v147.1 p2 v148 v149 v150 (1 : Int32) v147.2
def m_law_b1395 (xs : Nat → Int32) (N : Nat) (σ : St) (k : Nat) (p1 : Nat) (p2 : Nat) (p3 : Nat) (p4 : Int32) (δ : Dy) : Option ((Nat × Int32 × Dy) ⊕ Unit) :=
  (rS xs N (p4 + (1 : Int32))).bind fun v143 =>
  (rS xs N (p4 + (2 : Int32))).bind fun v144 =>
  (rS xs N (p4 + (3 : Int32))).bind fun v145 =>
  (rS xs N (p4 + (4 : Int32))).bind fun v146 =>
  if v146 = 0 then
    m_law_b1428 xs N σ k p1 p2 p3 p4 p1 v143 v144 v145 (0 : Int32) δ
  else
    m_law_b1428 xs N σ k p1 p2 p3 p4 p1 v143 v144 v145 (1 : Int32) δ
set_option maxHeartbeats 8000000 in
set_option maxRecDepth 100000 in
theorem w_law_b1395 {xs : Nat → Int32} {N : Nat} {J : JT} (hI : IsL xs N J) (σ : St) (k : Nat) (hk : k < 600) (p1 : Nat) (p2 : Nat) (p3 : Nat) (p4 : Int32) (δ : Dy) : SJ (m_law_b1395 xs N σ k p1 p2 p3 p4 δ) (PL (fun s : Nat × Int32 × Dy => J 23 [(0, .ref roB), (1, .ref p1), (2, .ref p2), (3, .ref p3), (4, .int s.2.1)] [] (600 - s.1, 3600 - 6 * s.1) σ s.2.2) (fun _ : Unit => True)) (J 1395 [(0, .ref roB), (1, .ref p1), (2, .ref p2), (3, .ref p3), (4, .int p4)] [] (600 - k, 3600 - 6 * k) σ δ) := by
  have hJ := hI.cor
  unfold m_law_b1395
  refine sj (j_aload_n hJ dL_law_1395 rfl 1 rfl) ?_
  refine sj (j_aload_n hJ dL_law_1396 rfl 0 rfl) ?_
  refine sj (j_iload hJ dL_law_1397 4 rfl) ?_
  refine sj (j_iconst hJ (v := 1) dL_law_1399 ic_1) ?_
  refine sj (j_iadd hJ dL_law_1400) ?_
  refine sl_rS hI dL_law_1401 (fun v143 => ?_)
  refine sj (j_aload_n hJ dL_law_1402 rfl 0 rfl) ?_
  refine sj (j_iload hJ dL_law_1403 4 rfl) ?_
  refine sj (j_iconst hJ (v := 2) dL_law_1405 ic_2) ?_
  refine sj (j_iadd hJ dL_law_1406) ?_
  refine sl_rS hI dL_law_1407 (fun v144 => ?_)
  refine sj (j_aload_n hJ dL_law_1408 rfl 0 rfl) ?_
  refine sj (j_iload hJ dL_law_1409 4 rfl) ?_
  refine sj (j_iconst hJ (v := 3) dL_law_1411 ic_3) ?_
  refine sj (j_iadd hJ dL_law_1412) ?_
  refine sl_rS hI dL_law_1413 (fun v145 => ?_)
  refine sj (j_aload_n hJ dL_law_1414 rfl 0 rfl) ?_
  refine sj (j_iload hJ dL_law_1415 4 rfl) ?_
  refine sj (j_iconst hJ (v := 4) dL_law_1417 ic_4) ?_
  refine sj (j_iadd hJ dL_law_1418) ?_
  refine sl_rS hI dL_law_1419 (fun v146 => ?_)
  refine sj_if (j_if_eq hJ (tgt := 1427) dL_law_1420 (by decide)) (fun _ => ?_) (fun _ => ?_)
  · refine sj (j_iconst hJ (v := 0) dL_law_1427 ic_0) ?_
    refine sj (j_beta hJ (β' := (600 - k, 3600 - 6 * k)) (by dsimp only; omega) (by dsimp only; omega)) ?_
    exact w_law_b1428 hI σ k hk p1 p2 p3 p4 p1 v143 v144 v145 (0 : Int32) δ
  · refine sj (j_iconst hJ (v := 1) dL_law_1423 ic_1) ?_
    refine sj (j_goto hJ (tgt := 1428) dL_law_1424 (by decide)) ?_
    refine sj (j_beta hJ (β' := (600 - k, 3600 - 6 * k)) (by dsimp only; omega) (by dsimp only; omega)) ?_
    exact w_law_b1428 hI σ k hk p1 p2 p3 p4 p1 v143 v144 v145 (1 : Int32) δ
def m_law_b1587 (xs : Nat → Int32) (N : Nat) (σ : St) (k : Nat) (p1 : Nat) (p2 : Nat) (p3 : Nat) (p4 : Int32) (δ : Dy) : Option ((Nat × Int32 × Dy) ⊕ Unit) :=
  m_law_b2400 xs N σ k p1 p2 p3 p4 δ
set_option maxHeartbeats 8000000 in
set_option maxRecDepth 100000 in
theorem w_law_b1587 {xs : Nat → Int32} {N : Nat} {J : JT} (hI : IsL xs N J) (σ : St) (k : Nat) (hk : k < 600) (p1 : Nat) (p2 : Nat) (p3 : Nat) (p4 : Int32) (δ : Dy) : SJ (m_law_b1587 xs N σ k p1 p2 p3 p4 δ) (PL (fun s : Nat × Int32 × Dy => J 23 [(0, .ref roB), (1, .ref p1), (2, .ref p2), (3, .ref p3), (4, .int s.2.1)] [] (600 - s.1, 3600 - 6 * s.1) σ s.2.2) (fun _ : Unit => True)) (J 1587 [(0, .ref roB), (1, .ref p1), (2, .ref p2), (3, .ref p3), (4, .int p4)] [] (600 - (k + 1), 3600 - 6 * (k + 1)) σ δ) := by
  have hJ := hI.cor
  unfold m_law_b1587
  refine sj (j_goto hJ (tgt := 2400) dL_law_1587 (by decide)) ?_
  refine sj (j_beta hJ (β' := (600 - (k + 1), 3600 - 6 * (k + 1))) (by dsimp only; omega) (by dsimp only; omega)) ?_
  exact w_law_b2400 hI σ k hk p1 p2 p3 p4 δ
def m_law_b1581 (xs : Nat → Int32) (N : Nat) (σ : St) (k : Nat) (p1 : Nat) (p2 : Nat) (p3 : Nat) (p4 : Int32) (q0 : Int64) (q1 : Int64) (δ : Dy) : Option ((Nat × Int32 × Dy) ⊕ Unit) :=
  if (lg_cmp q0 q1) = 0 then
    m_law_b1587 xs N σ k p1 p2 p3 p4 δ
  else
    none
set_option maxHeartbeats 8000000 in
set_option maxRecDepth 100000 in
theorem w_law_b1581 {xs : Nat → Int32} {N : Nat} {J : JT} (hI : IsL xs N J) (σ : St) (k : Nat) (hk : k < 600) (p1 : Nat) (p2 : Nat) (p3 : Nat) (p4 : Int32) (q0 : Int64) (q1 : Int64) (δ : Dy) : SJ (m_law_b1581 xs N σ k p1 p2 p3 p4 q0 q1 δ) (PL (fun s : Nat × Int32 × Dy => J 23 [(0, .ref roB), (1, .ref p1), (2, .ref p2), (3, .ref p3), (4, .int s.2.1)] [] (600 - s.1, 3600 - 6 * s.1) σ s.2.2) (fun _ : Unit => True)) (J 1581 [(0, .ref roB), (1, .ref p1), (2, .ref p2), (3, .ref p3), (4, .int p4)] [.long q1, .long q0] (600 - (k + 1), 3600 - 6 * (k + 1)) σ δ) := by
  have hJ := hI.cor
  unfold m_law_b1581
  refine sj (j_lcmp hJ dL_law_1581) ?_
  refine sj_if (j_if_eq hJ (tgt := 1587) dL_law_1582 (by decide)) (fun _ => ?_) (fun _ => ?_)
  · refine sj (j_beta hJ (β' := (600 - (k + 1), 3600 - 6 * (k + 1))) (by dsimp only; omega) (by dsimp only; omega)) ?_
    exact w_law_b1587 hI σ k hk p1 p2 p3 p4 δ
  · refine sj (j_iconst hJ (v := 0) dL_law_1585 ic_0) ?_
    exact sj_none
def m_law_b1503 (xs : Nat → Int32) (N : Nat) (σ : St) (k : Nat) (p1 : Nat) (p2 : Nat) (p3 : Nat) (p4 : Int32) (δ : Dy) : Option ((Nat × Int32 × Dy) ⊕ Unit) :=
  (rS xs N (p4 + (1 : Int32))).bind fun v155 =>
  (rS xs N (p4 + (2 : Int32))).bind fun v156 =>
  (rS xs N (p4 + (3 : Int32))).bind fun v157 =>
  (m_L_guard σ p1 v155 v156 v157 p3 δ).bind fun v158 =>
  (rS xs N (p4 + (1 : Int32))).bind fun v159 =>
  (rS xs N (p4 + (2 : Int32))).bind fun v160 =>
  (rS xs N (p4 + (3 : Int32))).bind fun v161 =>
  (chk σ 12 p2).bind fun _ => (m_X12_guard σ p2 v159 v160 v161 v158.2).bind fun v162 =>
  (chk σ 12 p2).bind fun _ => (m_X12_thrown σ p2 v162.2).bind fun v163 =>
  if v163 = v158.1 then
    if v158.1 = 0 then
      (rL σ v162.2 p3 (0 : Int32)).bind fun v164 =>
      if v162.1 = 0 then
        m_law_b1581 xs N σ k p1 p2 p3 p4 v164 (0 : Int64) v162.2
      else
        m_law_b1581 xs N σ k p1 p2 p3 p4 v164 (1 : Int64) v162.2
    else
      m_law_b1587 xs N σ k p1 p2 p3 p4 v162.2
  else
    none
set_option maxHeartbeats 8000000 in
set_option maxRecDepth 100000 in
theorem w_law_b1503 {xs : Nat → Int32} {N : Nat} {J : JT} (hI : IsL xs N J) (σ : St) (k : Nat) (hk : k < 600) (p1 : Nat) (p2 : Nat) (p3 : Nat) (p4 : Int32) (δ : Dy) : SJ (m_law_b1503 xs N σ k p1 p2 p3 p4 δ) (PL (fun s : Nat × Int32 × Dy => J 23 [(0, .ref roB), (1, .ref p1), (2, .ref p2), (3, .ref p3), (4, .int s.2.1)] [] (600 - s.1, 3600 - 6 * s.1) σ s.2.2) (fun _ : Unit => True)) (J 1503 [(0, .ref roB), (1, .ref p1), (2, .ref p2), (3, .ref p3), (4, .int p4)] [] (600 - k, 3600 - 6 * k) σ δ) := by
  have hJ := hI.cor
  unfold m_law_b1503
  refine sj (j_aload_n hJ dL_law_1503 rfl 1 rfl) ?_
  refine sj (j_aload_n hJ dL_law_1504 rfl 0 rfl) ?_
  refine sj (j_iload hJ dL_law_1505 4 rfl) ?_
  refine sj (j_iconst hJ (v := 1) dL_law_1507 ic_1) ?_
  refine sj (j_iadd hJ dL_law_1508) ?_
  refine sl_rS hI dL_law_1509 (fun v155 => ?_)
  refine sj (j_aload_n hJ dL_law_1510 rfl 0 rfl) ?_
  refine sj (j_iload hJ dL_law_1511 4 rfl) ?_
  refine sj (j_iconst hJ (v := 2) dL_law_1513 ic_2) ?_
  refine sj (j_iadd hJ dL_law_1514) ?_
  refine sl_rS hI dL_law_1515 (fun v156 => ?_)
  refine sj (j_aload_n hJ dL_law_1516 rfl 0 rfl) ?_
  refine sj (j_iload hJ dL_law_1517 4 rfl) ?_
  refine sj (j_iconst hJ (v := 3) dL_law_1519 ic_3) ?_
  refine sj (j_iadd hJ dL_law_1520) ?_
  refine sl_rS hI dL_law_1521 (fun v157 => ?_)
  refine sj (j_aload_n hJ dL_law_1522 rfl 3 rfl) ?_
  refine sl_callW hJ [.ref p1, .int v155, .int v156, .int v157, .ref p3] (st := []) (fr' := 12) (lo' := 296) mlw_173 (by decide) (by decide) (Nat.le_of_ble_eq_true rfl) (by dsimp only; omega) (by dsimp only; omega) dL_law_1523 rfl (fun _ h9 => ct_L_guard h9) (fun v158 => ?_)
  refine sj (j_istore hJ (L' := [(5, .int v158.1), (0, .ref roB), (1, .ref p1), (2, .ref p2), (3, .ref p3), (4, .int p4)]) dL_law_1526 (by decide) rfl) ?_
  refine sj (j_aload_n hJ dL_law_1528 rfl 3 rfl) ?_
  refine sj (j_aload_n hJ dL_law_1529 rfl 1 rfl) ?_
  refine sj (j_iload hJ dL_law_1530 5 rfl) ?_
  refine sj (j_iconst hJ (v := 1) dL_law_1532 ic_1) ?_
  refine sj (j_iadd hJ dL_law_1533) ?_
  refine sl_rS hI dL_law_1534 (fun v159 => ?_)
  refine sj (j_aload_n hJ dL_law_1535 rfl 1 rfl) ?_
  refine sj (j_iload hJ dL_law_1536 5 rfl) ?_
  refine sj (j_iconst hJ (v := 2) dL_law_1538 ic_2) ?_
  refine sj (j_iadd hJ dL_law_1539) ?_
  refine sl_rS hI dL_law_1540 (fun v160 => ?_)
  refine sj (j_aload_n hJ dL_law_1541 rfl 1 rfl) ?_
  refine sj (j_iload hJ dL_law_1542 5 rfl) ?_
  refine sj (j_iconst hJ (v := 3) dL_law_1544 ic_3) ?_
  refine sj (j_iadd hJ dL_law_1545) ?_
  refine sl_rS hI dL_law_1546 (fun v161 => ?_)
  refine sj_callVi hJ [.int v159, .int v160, .int v161] (st := []) (fr' := 3) (lo' := 65) ml_L_175 hc_12 (by decide) (by decide) (Nat.le_of_ble_eq_true rfl) dL_law_1547 rfl (fun _ h9 => ct_X12_guard h9) (fun v162 => ?_)
  refine sj (j_istore hJ (L' := [(6, .int v162.1), (5, .int v158.1), (0, .ref roB), (1, .ref p1), (2, .ref p2), (3, .ref p3), (4, .int p4)]) dL_law_1550 (by decide) rfl) ?_
  refine sj (j_aload_n hJ dL_law_1552 rfl 4 rfl) ?_
  refine sj_callVip hJ [] (st := []) (fr' := 0) (lo' := 0) ml_L_119 hc_12 (by decide) (by decide) (Nat.le_of_ble_eq_true rfl) dL_law_1553 rfl (fun _ h9 => ct_X12_thrown h9) (fun v163 => ?_)
  refine sj (j_iload hJ dL_law_1556 1 rfl) ?_
  refine sj_if (j_icmp_eq hJ (tgt := 1563) dL_law_1558 (by decide)) (fun _ => ?_) (fun _ => ?_)
  · refine sj (j_iload hJ dL_law_1563 1 rfl) ?_
    refine sj_if (j_if_ne hJ (tgt := 1587) dL_law_1565 (by decide)) (fun _ => ?_) (fun _ => ?_)
    · refine sj (j_aload_n hJ dL_law_1568 rfl 5 rfl) ?_
      refine sj (j_iconst hJ (v := 0) dL_law_1569 ic_0) ?_
      refine sj_rL hJ dL_law_1570 (fun v164 => ?_)
      refine sj (j_iload hJ dL_law_1571 0 rfl) ?_
      refine sj_if (j_if_eq hJ (tgt := 1580) dL_law_1573 (by decide)) (fun _ => ?_) (fun _ => ?_)
      · refine sj (j_lconst hJ (v := 0) dL_law_1580 rfl) ?_
        refine sj (j_sub hJ (L' := [(0, .ref roB), (1, .ref p1), (2, .ref p2), (3, .ref p3), (4, .int p4)]) [2, 3, 4, 5, 6] rfl) ?_
        refine sj (j_beta hJ (β' := (600 - (k + 1), 3600 - 6 * (k + 1))) (by dsimp only; omega) (by dsimp only; omega)) ?_
        exact w_law_b1581 hI σ k hk p1 p2 p3 p4 v164 (0 : Int64) v162.2
      · refine sj (j_lconst hJ (v := 1) dL_law_1576 rfl) ?_
        refine sj (j_goto hJ (tgt := 1581) dL_law_1577 (by decide)) ?_
        refine sj (j_sub hJ (L' := [(0, .ref roB), (1, .ref p1), (2, .ref p2), (3, .ref p3), (4, .int p4)]) [2, 3, 4, 5, 6] rfl) ?_
        refine sj (j_beta hJ (β' := (600 - (k + 1), 3600 - 6 * (k + 1))) (by dsimp only; omega) (by dsimp only; omega)) ?_
        exact w_law_b1581 hI σ k hk p1 p2 p3 p4 v164 (1 : Int64) v162.2
    · refine sj (j_sub hJ (L' := [(0, .ref roB), (1, .ref p1), (2, .ref p2), (3, .ref p3), (4, .int p4)]) [2, 3, 4, 5, 6] rfl) ?_
      refine sj (j_beta hJ (β' := (600 - (k + 1), 3600 - 6 * (k + 1))) (by dsimp only; omega) (by dsimp only; omega)) ?_
      exact w_law_b1587 hI σ k hk p1 p2 p3 p4 v162.2
  · refine sj (j_iconst hJ (v := 0) dL_law_1561 ic_0) ?_
    exact sj_none
def m_law_b1667 (xs : Nat → Int32) (N : Nat) (σ : St) (k : Nat) (p1 : Nat) (p2 : Nat) (p3 : Nat) (p4 : Int32) (δ : Dy) : Option ((Nat × Int32 × Dy) ⊕ Unit) :=
  m_law_b2400 xs N σ k p1 p2 p3 p4 δ
set_option maxHeartbeats 8000000 in
set_option maxRecDepth 100000 in
theorem w_law_b1667 {xs : Nat → Int32} {N : Nat} {J : JT} (hI : IsL xs N J) (σ : St) (k : Nat) (hk : k < 600) (p1 : Nat) (p2 : Nat) (p3 : Nat) (p4 : Int32) (δ : Dy) : SJ (m_law_b1667 xs N σ k p1 p2 p3 p4 δ) (PL (fun s : Nat × Int32 × Dy => J 23 [(0, .ref roB), (1, .ref p1), (2, .ref p2), (3, .ref p3), (4, .int s.2.1)] [] (600 - s.1, 3600 - 6 * s.1) σ s.2.2) (fun _ : Unit => True)) (J 1667 [(0, .ref roB), (1, .ref p1), (2, .ref p2), (3, .ref p3), (4, .int p4)] [] (600 - (k + 1), 3600 - 6 * (k + 1)) σ δ) := by
  have hJ := hI.cor
  unfold m_law_b1667
  refine sj (j_goto hJ (tgt := 2400) dL_law_1667 (by decide)) ?_
  refine sj (j_beta hJ (β' := (600 - (k + 1), 3600 - 6 * (k + 1))) (by dsimp only; omega) (by dsimp only; omega)) ?_
  exact w_law_b2400 hI σ k hk p1 p2 p3 p4 δ
def m_law_b1590 (xs : Nat → Int32) (N : Nat) (σ : St) (k : Nat) (p1 : Nat) (p2 : Nat) (p3 : Nat) (p4 : Int32) (δ : Dy) : Option ((Nat × Int32 × Dy) ⊕ Unit) :=
  (rS xs N (p4 + (1 : Int32))).bind fun v165 =>
  (rS xs N (p4 + (2 : Int32))).bind fun v166 =>
  (rS xs N (p4 + (3 : Int32))).bind fun v167 =>
  (m_L_body σ p1 v165 v166 v167 p3 δ).bind fun v168 =>
  (rS xs N (p4 + (1 : Int32))).bind fun v169 =>
  (rS xs N (p4 + (2 : Int32))).bind fun v170 =>
  (rS xs N (p4 + (3 : Int32))).bind fun v171 =>
  (chk σ 12 p2).bind fun _ => (m_X12_body σ p2 v169 v170 v171 v168.2).bind fun v172 =>
  (chk σ 12 p2).bind fun _ => (m_X12_thrown σ p2 v172.2).bind fun v173 =>
  if v173 = v168.1 then
    if v168.1 = 0 then
      (rL σ v172.2 p3 (0 : Int32)).bind fun v174 =>
      if (lg_cmp v174 (v172.1).toInt64) = 0 then
        m_law_b1667 xs N σ k p1 p2 p3 p4 v172.2
      else
        none
    else
      m_law_b1667 xs N σ k p1 p2 p3 p4 v172.2
  else
    none
set_option maxHeartbeats 8000000 in
set_option maxRecDepth 100000 in
theorem w_law_b1590 {xs : Nat → Int32} {N : Nat} {J : JT} (hI : IsL xs N J) (σ : St) (k : Nat) (hk : k < 600) (p1 : Nat) (p2 : Nat) (p3 : Nat) (p4 : Int32) (δ : Dy) : SJ (m_law_b1590 xs N σ k p1 p2 p3 p4 δ) (PL (fun s : Nat × Int32 × Dy => J 23 [(0, .ref roB), (1, .ref p1), (2, .ref p2), (3, .ref p3), (4, .int s.2.1)] [] (600 - s.1, 3600 - 6 * s.1) σ s.2.2) (fun _ : Unit => True)) (J 1590 [(0, .ref roB), (1, .ref p1), (2, .ref p2), (3, .ref p3), (4, .int p4)] [] (600 - k, 3600 - 6 * k) σ δ) := by
  have hJ := hI.cor
  unfold m_law_b1590
  refine sj (j_aload_n hJ dL_law_1590 rfl 1 rfl) ?_
  refine sj (j_aload_n hJ dL_law_1591 rfl 0 rfl) ?_
  refine sj (j_iload hJ dL_law_1592 4 rfl) ?_
  refine sj (j_iconst hJ (v := 1) dL_law_1594 ic_1) ?_
  refine sj (j_iadd hJ dL_law_1595) ?_
  refine sl_rS hI dL_law_1596 (fun v165 => ?_)
  refine sj (j_aload_n hJ dL_law_1597 rfl 0 rfl) ?_
  refine sj (j_iload hJ dL_law_1598 4 rfl) ?_
  refine sj (j_iconst hJ (v := 2) dL_law_1600 ic_2) ?_
  refine sj (j_iadd hJ dL_law_1601) ?_
  refine sl_rS hI dL_law_1602 (fun v166 => ?_)
  refine sj (j_aload_n hJ dL_law_1603 rfl 0 rfl) ?_
  refine sj (j_iload hJ dL_law_1604 4 rfl) ?_
  refine sj (j_iconst hJ (v := 3) dL_law_1606 ic_3) ?_
  refine sj (j_iadd hJ dL_law_1607) ?_
  refine sl_rS hI dL_law_1608 (fun v167 => ?_)
  refine sj (j_aload_n hJ dL_law_1609 rfl 3 rfl) ?_
  refine sl_callW hJ [.ref p1, .int v165, .int v166, .int v167, .ref p3] (st := []) (fr' := 12) (lo' := 295) mlw_176 (by decide) (by decide) (Nat.le_of_ble_eq_true rfl) (by dsimp only; omega) (by dsimp only; omega) dL_law_1610 rfl (fun _ h9 => ct_L_body h9) (fun v168 => ?_)
  refine sj (j_istore hJ (L' := [(5, .int v168.1), (0, .ref roB), (1, .ref p1), (2, .ref p2), (3, .ref p3), (4, .int p4)]) dL_law_1613 (by decide) rfl) ?_
  refine sj (j_aload_n hJ dL_law_1615 rfl 3 rfl) ?_
  refine sj (j_aload_n hJ dL_law_1616 rfl 1 rfl) ?_
  refine sj (j_iload hJ dL_law_1617 5 rfl) ?_
  refine sj (j_iconst hJ (v := 1) dL_law_1619 ic_1) ?_
  refine sj (j_iadd hJ dL_law_1620) ?_
  refine sl_rS hI dL_law_1621 (fun v169 => ?_)
  refine sj (j_aload_n hJ dL_law_1622 rfl 1 rfl) ?_
  refine sj (j_iload hJ dL_law_1623 5 rfl) ?_
  refine sj (j_iconst hJ (v := 2) dL_law_1625 ic_2) ?_
  refine sj (j_iadd hJ dL_law_1626) ?_
  refine sl_rS hI dL_law_1627 (fun v170 => ?_)
  refine sj (j_aload_n hJ dL_law_1628 rfl 1 rfl) ?_
  refine sj (j_iload hJ dL_law_1629 5 rfl) ?_
  refine sj (j_iconst hJ (v := 3) dL_law_1631 ic_3) ?_
  refine sj (j_iadd hJ dL_law_1632) ?_
  refine sl_rS hI dL_law_1633 (fun v171 => ?_)
  refine sj_callVi hJ [.int v169, .int v170, .int v171] (st := []) (fr' := 3) (lo' := 65) ml_L_178 hc_12 (by decide) (by decide) (Nat.le_of_ble_eq_true rfl) dL_law_1634 rfl (fun _ h9 => ct_X12_body h9) (fun v172 => ?_)
  refine sj (j_istore hJ (L' := [(6, .int v172.1), (5, .int v168.1), (0, .ref roB), (1, .ref p1), (2, .ref p2), (3, .ref p3), (4, .int p4)]) dL_law_1637 (by decide) rfl) ?_
  refine sj (j_aload_n hJ dL_law_1639 rfl 4 rfl) ?_
  refine sj_callVip hJ [] (st := []) (fr' := 0) (lo' := 0) ml_L_119 hc_12 (by decide) (by decide) (Nat.le_of_ble_eq_true rfl) dL_law_1640 rfl (fun _ h9 => ct_X12_thrown h9) (fun v173 => ?_)
  refine sj (j_iload hJ dL_law_1643 1 rfl) ?_
  refine sj_if (j_icmp_eq hJ (tgt := 1650) dL_law_1645 (by decide)) (fun _ => ?_) (fun _ => ?_)
  · refine sj (j_iload hJ dL_law_1650 1 rfl) ?_
    refine sj_if (j_if_ne hJ (tgt := 1667) dL_law_1652 (by decide)) (fun _ => ?_) (fun _ => ?_)
    · refine sj (j_aload_n hJ dL_law_1655 rfl 5 rfl) ?_
      refine sj (j_iconst hJ (v := 0) dL_law_1656 ic_0) ?_
      refine sj_rL hJ dL_law_1657 (fun v174 => ?_)
      refine sj (j_iload hJ dL_law_1658 0 rfl) ?_
      refine sj (j_i2l hJ dL_law_1660) ?_
      refine sj (j_lcmp hJ dL_law_1661) ?_
      refine sj_if (j_if_eq hJ (tgt := 1667) dL_law_1662 (by decide)) (fun _ => ?_) (fun _ => ?_)
      · refine sj (j_sub hJ (L' := [(0, .ref roB), (1, .ref p1), (2, .ref p2), (3, .ref p3), (4, .int p4)]) [2, 3, 4, 5, 6] rfl) ?_
        refine sj (j_beta hJ (β' := (600 - (k + 1), 3600 - 6 * (k + 1))) (by dsimp only; omega) (by dsimp only; omega)) ?_
        exact w_law_b1667 hI σ k hk p1 p2 p3 p4 v172.2
      · refine sj (j_iconst hJ (v := 0) dL_law_1665 ic_0) ?_
        exact sj_none
    · refine sj (j_sub hJ (L' := [(0, .ref roB), (1, .ref p1), (2, .ref p2), (3, .ref p3), (4, .int p4)]) [2, 3, 4, 5, 6] rfl) ?_
      refine sj (j_beta hJ (β' := (600 - (k + 1), 3600 - 6 * (k + 1))) (by dsimp only; omega) (by dsimp only; omega)) ?_
      exact w_law_b1667 hI σ k hk p1 p2 p3 p4 v172.2
  · refine sj (j_iconst hJ (v := 0) dL_law_1648 ic_0) ?_
    exact sj_none
def m_law_b1711 (xs : Nat → Int32) (N : Nat) (σ : St) (k : Nat) (p1 : Nat) (p2 : Nat) (p3 : Nat) (p4 : Int32) (δ : Dy) : Option ((Nat × Int32 × Dy) ⊕ Unit) :=
  m_law_b2400 xs N σ k p1 p2 p3 p4 δ
set_option maxHeartbeats 8000000 in
set_option maxRecDepth 100000 in
theorem w_law_b1711 {xs : Nat → Int32} {N : Nat} {J : JT} (hI : IsL xs N J) (σ : St) (k : Nat) (hk : k < 600) (p1 : Nat) (p2 : Nat) (p3 : Nat) (p4 : Int32) (δ : Dy) : SJ (m_law_b1711 xs N σ k p1 p2 p3 p4 δ) (PL (fun s : Nat × Int32 × Dy => J 23 [(0, .ref roB), (1, .ref p1), (2, .ref p2), (3, .ref p3), (4, .int s.2.1)] [] (600 - s.1, 3600 - 6 * s.1) σ s.2.2) (fun _ : Unit => True)) (J 1711 [(0, .ref roB), (1, .ref p1), (2, .ref p2), (3, .ref p3), (4, .int p4)] [] (600 - (k + 1), 3600 - 6 * (k + 1)) σ δ) := by
  have hJ := hI.cor
  unfold m_law_b1711
  refine sj (j_goto hJ (tgt := 2400) dL_law_1711 (by decide)) ?_
  refine sj (j_beta hJ (β' := (600 - (k + 1), 3600 - 6 * (k + 1))) (by dsimp only; omega) (by dsimp only; omega)) ?_
  exact w_law_b2400 hI σ k hk p1 p2 p3 p4 δ
def m_law_b1670 (xs : Nat → Int32) (N : Nat) (σ : St) (k : Nat) (p1 : Nat) (p2 : Nat) (p3 : Nat) (p4 : Int32) (δ : Dy) : Option ((Nat × Int32 × Dy) ⊕ Unit) :=
  (m_L_rule σ p1 p3 δ).bind fun v175 =>
  (chk σ 12 p2).bind fun _ => (m_X12_rule σ p2 v175.2).bind fun v176 =>
  (chk σ 12 p2).bind fun _ => (m_X12_thrown σ p2 v176.2).bind fun v177 =>
  if v177 = v175.1 then
    if v175.1 = 0 then
      (rL σ v176.2 p3 (0 : Int32)).bind fun v178 =>
      if (lg_cmp v178 (v176.1).toInt64) = 0 then
        m_law_b1711 xs N σ k p1 p2 p3 p4 v176.2
      else
        none
    else
      m_law_b1711 xs N σ k p1 p2 p3 p4 v176.2
  else
    none
set_option maxHeartbeats 8000000 in
set_option maxRecDepth 100000 in
theorem w_law_b1670 {xs : Nat → Int32} {N : Nat} {J : JT} (hI : IsL xs N J) (σ : St) (k : Nat) (hk : k < 600) (p1 : Nat) (p2 : Nat) (p3 : Nat) (p4 : Int32) (δ : Dy) : SJ (m_law_b1670 xs N σ k p1 p2 p3 p4 δ) (PL (fun s : Nat × Int32 × Dy => J 23 [(0, .ref roB), (1, .ref p1), (2, .ref p2), (3, .ref p3), (4, .int s.2.1)] [] (600 - s.1, 3600 - 6 * s.1) σ s.2.2) (fun _ : Unit => True)) (J 1670 [(0, .ref roB), (1, .ref p1), (2, .ref p2), (3, .ref p3), (4, .int p4)] [] (600 - k, 3600 - 6 * k) σ δ) := by
  have hJ := hI.cor
  unfold m_law_b1670
  refine sj (j_aload_n hJ dL_law_1670 rfl 1 rfl) ?_
  refine sj (j_aload_n hJ dL_law_1671 rfl 3 rfl) ?_
  refine sl_callW hJ [.ref p1, .ref p3] (st := []) (fr' := 10) (lo' := 250) mlw_179 (by decide) (by decide) (Nat.le_of_ble_eq_true rfl) (by dsimp only; omega) (by dsimp only; omega) dL_law_1672 rfl (fun _ h9 => ct_L_rule h9) (fun v175 => ?_)
  refine sj (j_istore hJ (L' := [(5, .int v175.1), (0, .ref roB), (1, .ref p1), (2, .ref p2), (3, .ref p3), (4, .int p4)]) dL_law_1675 (by decide) rfl) ?_
  refine sj (j_aload_n hJ dL_law_1677 rfl 3 rfl) ?_
  refine sj_callVi hJ [] (st := []) (fr' := 1) (lo' := 21) ml_L_181 hc_12 (by decide) (by decide) (Nat.le_of_ble_eq_true rfl) dL_law_1678 rfl (fun _ h9 => ct_X12_rule h9) (fun v176 => ?_)
  refine sj (j_istore hJ (L' := [(6, .int v176.1), (5, .int v175.1), (0, .ref roB), (1, .ref p1), (2, .ref p2), (3, .ref p3), (4, .int p4)]) dL_law_1681 (by decide) rfl) ?_
  refine sj (j_aload_n hJ dL_law_1683 rfl 4 rfl) ?_
  refine sj_callVip hJ [] (st := []) (fr' := 0) (lo' := 0) ml_L_119 hc_12 (by decide) (by decide) (Nat.le_of_ble_eq_true rfl) dL_law_1684 rfl (fun _ h9 => ct_X12_thrown h9) (fun v177 => ?_)
  refine sj (j_iload hJ dL_law_1687 1 rfl) ?_
  refine sj_if (j_icmp_eq hJ (tgt := 1694) dL_law_1689 (by decide)) (fun _ => ?_) (fun _ => ?_)
  · refine sj (j_iload hJ dL_law_1694 1 rfl) ?_
    refine sj_if (j_if_ne hJ (tgt := 1711) dL_law_1696 (by decide)) (fun _ => ?_) (fun _ => ?_)
    · refine sj (j_aload_n hJ dL_law_1699 rfl 5 rfl) ?_
      refine sj (j_iconst hJ (v := 0) dL_law_1700 ic_0) ?_
      refine sj_rL hJ dL_law_1701 (fun v178 => ?_)
      refine sj (j_iload hJ dL_law_1702 0 rfl) ?_
      refine sj (j_i2l hJ dL_law_1704) ?_
      refine sj (j_lcmp hJ dL_law_1705) ?_
      refine sj_if (j_if_eq hJ (tgt := 1711) dL_law_1706 (by decide)) (fun _ => ?_) (fun _ => ?_)
      · refine sj (j_sub hJ (L' := [(0, .ref roB), (1, .ref p1), (2, .ref p2), (3, .ref p3), (4, .int p4)]) [2, 3, 4, 5, 6] rfl) ?_
        refine sj (j_beta hJ (β' := (600 - (k + 1), 3600 - 6 * (k + 1))) (by dsimp only; omega) (by dsimp only; omega)) ?_
        exact w_law_b1711 hI σ k hk p1 p2 p3 p4 v176.2
      · refine sj (j_iconst hJ (v := 0) dL_law_1709 ic_0) ?_
        exact sj_none
    · refine sj (j_sub hJ (L' := [(0, .ref roB), (1, .ref p1), (2, .ref p2), (3, .ref p3), (4, .int p4)]) [2, 3, 4, 5, 6] rfl) ?_
      refine sj (j_beta hJ (β' := (600 - (k + 1), 3600 - 6 * (k + 1))) (by dsimp only; omega) (by dsimp only; omega)) ?_
      exact w_law_b1711 hI σ k hk p1 p2 p3 p4 v176.2
  · refine sj (j_iconst hJ (v := 0) dL_law_1692 ic_0) ?_
    exact sj_none
def m_law_b1791 (xs : Nat → Int32) (N : Nat) (σ : St) (k : Nat) (p1 : Nat) (p2 : Nat) (p3 : Nat) (p4 : Int32) (δ : Dy) : Option ((Nat × Int32 × Dy) ⊕ Unit) :=
  m_law_b2400 xs N σ k p1 p2 p3 p4 δ
set_option maxHeartbeats 8000000 in
set_option maxRecDepth 100000 in
theorem w_law_b1791 {xs : Nat → Int32} {N : Nat} {J : JT} (hI : IsL xs N J) (σ : St) (k : Nat) (hk : k < 600) (p1 : Nat) (p2 : Nat) (p3 : Nat) (p4 : Int32) (δ : Dy) : SJ (m_law_b1791 xs N σ k p1 p2 p3 p4 δ) (PL (fun s : Nat × Int32 × Dy => J 23 [(0, .ref roB), (1, .ref p1), (2, .ref p2), (3, .ref p3), (4, .int s.2.1)] [] (600 - s.1, 3600 - 6 * s.1) σ s.2.2) (fun _ : Unit => True)) (J 1791 [(0, .ref roB), (1, .ref p1), (2, .ref p2), (3, .ref p3), (4, .int p4)] [] (600 - (k + 1), 3600 - 6 * (k + 1)) σ δ) := by
  have hJ := hI.cor
  unfold m_law_b1791
  refine sj (j_goto hJ (tgt := 2400) dL_law_1791 (by decide)) ?_
  refine sj (j_beta hJ (β' := (600 - (k + 1), 3600 - 6 * (k + 1))) (by dsimp only; omega) (by dsimp only; omega)) ?_
  exact w_law_b2400 hI σ k hk p1 p2 p3 p4 δ
def m_law_b1714 (xs : Nat → Int32) (N : Nat) (σ : St) (k : Nat) (p1 : Nat) (p2 : Nat) (p3 : Nat) (p4 : Int32) (δ : Dy) : Option ((Nat × Int32 × Dy) ⊕ Unit) :=
  (rS xs N (p4 + (1 : Int32))).bind fun v179 =>
  (rS xs N (p4 + (2 : Int32))).bind fun v180 =>
  (rS xs N (p4 + (3 : Int32))).bind fun v181 =>
  (m_L_begin σ p1 v179 v180 v181 p3 δ).bind fun v182 =>
  (rS xs N (p4 + (1 : Int32))).bind fun v183 =>
  (rS xs N (p4 + (2 : Int32))).bind fun v184 =>
  (rS xs N (p4 + (3 : Int32))).bind fun v185 =>
  (chk σ 12 p2).bind fun _ => (m_X12_begin σ p2 v183 v184 v185 v182.2).bind fun v186 =>
  (chk σ 12 p2).bind fun _ => (m_X12_thrown σ p2 v186.2).bind fun v187 =>
  if v187 = v182.1 then
    if v182.1 = 0 then
      (rL σ v186.2 p3 (0 : Int32)).bind fun v188 =>
      if (lg_cmp v188 (v186.1).toInt64) = 0 then
        m_law_b1791 xs N σ k p1 p2 p3 p4 v186.2
      else
        none
    else
      m_law_b1791 xs N σ k p1 p2 p3 p4 v186.2
  else
    none
set_option maxHeartbeats 8000000 in
set_option maxRecDepth 100000 in
theorem w_law_b1714 {xs : Nat → Int32} {N : Nat} {J : JT} (hI : IsL xs N J) (σ : St) (k : Nat) (hk : k < 600) (p1 : Nat) (p2 : Nat) (p3 : Nat) (p4 : Int32) (δ : Dy) : SJ (m_law_b1714 xs N σ k p1 p2 p3 p4 δ) (PL (fun s : Nat × Int32 × Dy => J 23 [(0, .ref roB), (1, .ref p1), (2, .ref p2), (3, .ref p3), (4, .int s.2.1)] [] (600 - s.1, 3600 - 6 * s.1) σ s.2.2) (fun _ : Unit => True)) (J 1714 [(0, .ref roB), (1, .ref p1), (2, .ref p2), (3, .ref p3), (4, .int p4)] [] (600 - k, 3600 - 6 * k) σ δ) := by
  have hJ := hI.cor
  unfold m_law_b1714
  refine sj (j_aload_n hJ dL_law_1714 rfl 1 rfl) ?_
  refine sj (j_aload_n hJ dL_law_1715 rfl 0 rfl) ?_
  refine sj (j_iload hJ dL_law_1716 4 rfl) ?_
  refine sj (j_iconst hJ (v := 1) dL_law_1718 ic_1) ?_
  refine sj (j_iadd hJ dL_law_1719) ?_
  refine sl_rS hI dL_law_1720 (fun v179 => ?_)
  refine sj (j_aload_n hJ dL_law_1721 rfl 0 rfl) ?_
  refine sj (j_iload hJ dL_law_1722 4 rfl) ?_
  refine sj (j_iconst hJ (v := 2) dL_law_1724 ic_2) ?_
  refine sj (j_iadd hJ dL_law_1725) ?_
  refine sl_rS hI dL_law_1726 (fun v180 => ?_)
  refine sj (j_aload_n hJ dL_law_1727 rfl 0 rfl) ?_
  refine sj (j_iload hJ dL_law_1728 4 rfl) ?_
  refine sj (j_iconst hJ (v := 3) dL_law_1730 ic_3) ?_
  refine sj (j_iadd hJ dL_law_1731) ?_
  refine sl_rS hI dL_law_1732 (fun v181 => ?_)
  refine sj (j_aload_n hJ dL_law_1733 rfl 3 rfl) ?_
  refine sl_callW hJ [.ref p1, .int v179, .int v180, .int v181, .ref p3] (st := []) (fr' := 11) (lo' := 273) mlw_182 (by decide) (by decide) (Nat.le_of_ble_eq_true rfl) (by dsimp only; omega) (by dsimp only; omega) dL_law_1734 rfl (fun _ h9 => ct_L_begin h9) (fun v182 => ?_)
  refine sj (j_istore hJ (L' := [(5, .int v182.1), (0, .ref roB), (1, .ref p1), (2, .ref p2), (3, .ref p3), (4, .int p4)]) dL_law_1737 (by decide) rfl) ?_
  refine sj (j_aload_n hJ dL_law_1739 rfl 3 rfl) ?_
  refine sj (j_aload_n hJ dL_law_1740 rfl 1 rfl) ?_
  refine sj (j_iload hJ dL_law_1741 5 rfl) ?_
  refine sj (j_iconst hJ (v := 1) dL_law_1743 ic_1) ?_
  refine sj (j_iadd hJ dL_law_1744) ?_
  refine sl_rS hI dL_law_1745 (fun v183 => ?_)
  refine sj (j_aload_n hJ dL_law_1746 rfl 1 rfl) ?_
  refine sj (j_iload hJ dL_law_1747 5 rfl) ?_
  refine sj (j_iconst hJ (v := 2) dL_law_1749 ic_2) ?_
  refine sj (j_iadd hJ dL_law_1750) ?_
  refine sl_rS hI dL_law_1751 (fun v184 => ?_)
  refine sj (j_aload_n hJ dL_law_1752 rfl 1 rfl) ?_
  refine sj (j_iload hJ dL_law_1753 5 rfl) ?_
  refine sj (j_iconst hJ (v := 3) dL_law_1755 ic_3) ?_
  refine sj (j_iadd hJ dL_law_1756) ?_
  refine sl_rS hI dL_law_1757 (fun v185 => ?_)
  refine sj_callVi hJ [.int v183, .int v184, .int v185] (st := []) (fr' := 3) (lo' := 63) ml_L_184 hc_12 (by decide) (by decide) (Nat.le_of_ble_eq_true rfl) dL_law_1758 rfl (fun _ h9 => ct_X12_begin h9) (fun v186 => ?_)
  refine sj (j_istore hJ (L' := [(6, .int v186.1), (5, .int v182.1), (0, .ref roB), (1, .ref p1), (2, .ref p2), (3, .ref p3), (4, .int p4)]) dL_law_1761 (by decide) rfl) ?_
  refine sj (j_aload_n hJ dL_law_1763 rfl 4 rfl) ?_
  refine sj_callVip hJ [] (st := []) (fr' := 0) (lo' := 0) ml_L_119 hc_12 (by decide) (by decide) (Nat.le_of_ble_eq_true rfl) dL_law_1764 rfl (fun _ h9 => ct_X12_thrown h9) (fun v187 => ?_)
  refine sj (j_iload hJ dL_law_1767 1 rfl) ?_
  refine sj_if (j_icmp_eq hJ (tgt := 1774) dL_law_1769 (by decide)) (fun _ => ?_) (fun _ => ?_)
  · refine sj (j_iload hJ dL_law_1774 1 rfl) ?_
    refine sj_if (j_if_ne hJ (tgt := 1791) dL_law_1776 (by decide)) (fun _ => ?_) (fun _ => ?_)
    · refine sj (j_aload_n hJ dL_law_1779 rfl 5 rfl) ?_
      refine sj (j_iconst hJ (v := 0) dL_law_1780 ic_0) ?_
      refine sj_rL hJ dL_law_1781 (fun v188 => ?_)
      refine sj (j_iload hJ dL_law_1782 0 rfl) ?_
      refine sj (j_i2l hJ dL_law_1784) ?_
      refine sj (j_lcmp hJ dL_law_1785) ?_
      refine sj_if (j_if_eq hJ (tgt := 1791) dL_law_1786 (by decide)) (fun _ => ?_) (fun _ => ?_)
      · refine sj (j_sub hJ (L' := [(0, .ref roB), (1, .ref p1), (2, .ref p2), (3, .ref p3), (4, .int p4)]) [2, 3, 4, 5, 6] rfl) ?_
        refine sj (j_beta hJ (β' := (600 - (k + 1), 3600 - 6 * (k + 1))) (by dsimp only; omega) (by dsimp only; omega)) ?_
        exact w_law_b1791 hI σ k hk p1 p2 p3 p4 v186.2
      · refine sj (j_iconst hJ (v := 0) dL_law_1789 ic_0) ?_
        exact sj_none
    · refine sj (j_sub hJ (L' := [(0, .ref roB), (1, .ref p1), (2, .ref p2), (3, .ref p3), (4, .int p4)]) [2, 3, 4, 5, 6] rfl) ?_
      refine sj (j_beta hJ (β' := (600 - (k + 1), 3600 - 6 * (k + 1))) (by dsimp only; omega) (by dsimp only; omega)) ?_
      exact w_law_b1791 hI σ k hk p1 p2 p3 p4 v186.2
  · refine sj (j_iconst hJ (v := 0) dL_law_1772 ic_0) ?_
    exact sj_none
def m_law_b1835 (xs : Nat → Int32) (N : Nat) (σ : St) (k : Nat) (p1 : Nat) (p2 : Nat) (p3 : Nat) (p4 : Int32) (δ : Dy) : Option ((Nat × Int32 × Dy) ⊕ Unit) :=
  m_law_b2400 xs N σ k p1 p2 p3 p4 δ
set_option maxHeartbeats 8000000 in
set_option maxRecDepth 100000 in
theorem w_law_b1835 {xs : Nat → Int32} {N : Nat} {J : JT} (hI : IsL xs N J) (σ : St) (k : Nat) (hk : k < 600) (p1 : Nat) (p2 : Nat) (p3 : Nat) (p4 : Int32) (δ : Dy) : SJ (m_law_b1835 xs N σ k p1 p2 p3 p4 δ) (PL (fun s : Nat × Int32 × Dy => J 23 [(0, .ref roB), (1, .ref p1), (2, .ref p2), (3, .ref p3), (4, .int s.2.1)] [] (600 - s.1, 3600 - 6 * s.1) σ s.2.2) (fun _ : Unit => True)) (J 1835 [(0, .ref roB), (1, .ref p1), (2, .ref p2), (3, .ref p3), (4, .int p4)] [] (600 - (k + 1), 3600 - 6 * (k + 1)) σ δ) := by
  have hJ := hI.cor
  unfold m_law_b1835
  refine sj (j_goto hJ (tgt := 2400) dL_law_1835 (by decide)) ?_
  refine sj (j_beta hJ (β' := (600 - (k + 1), 3600 - 6 * (k + 1))) (by dsimp only; omega) (by dsimp only; omega)) ?_
  exact w_law_b2400 hI σ k hk p1 p2 p3 p4 δ
def m_law_b1794 (xs : Nat → Int32) (N : Nat) (σ : St) (k : Nat) (p1 : Nat) (p2 : Nat) (p3 : Nat) (p4 : Int32) (δ : Dy) : Option ((Nat × Int32 × Dy) ⊕ Unit) :=
  (m_L_step σ p1 p3 δ).bind fun v189 =>
  (chk σ 12 p2).bind fun _ => (m_X12_step σ p2 v189.2).bind fun v190 =>
  (chk σ 12 p2).bind fun _ => (m_X12_thrown σ p2 v190.2).bind fun v191 =>
  if v191 = v189.1 then
    if v189.1 = 0 then
      (rL σ v190.2 p3 (0 : Int32)).bind fun v192 =>
      if (lg_cmp v192 (v190.1).toInt64) = 0 then
        m_law_b1835 xs N σ k p1 p2 p3 p4 v190.2
      else
        none
    else
      m_law_b1835 xs N σ k p1 p2 p3 p4 v190.2
  else
    none
set_option maxHeartbeats 8000000 in
set_option maxRecDepth 100000 in
theorem w_law_b1794 {xs : Nat → Int32} {N : Nat} {J : JT} (hI : IsL xs N J) (σ : St) (k : Nat) (hk : k < 600) (p1 : Nat) (p2 : Nat) (p3 : Nat) (p4 : Int32) (δ : Dy) : SJ (m_law_b1794 xs N σ k p1 p2 p3 p4 δ) (PL (fun s : Nat × Int32 × Dy => J 23 [(0, .ref roB), (1, .ref p1), (2, .ref p2), (3, .ref p3), (4, .int s.2.1)] [] (600 - s.1, 3600 - 6 * s.1) σ s.2.2) (fun _ : Unit => True)) (J 1794 [(0, .ref roB), (1, .ref p1), (2, .ref p2), (3, .ref p3), (4, .int p4)] [] (600 - k, 3600 - 6 * k) σ δ) := by
  have hJ := hI.cor
  unfold m_law_b1794
  refine sj (j_aload_n hJ dL_law_1794 rfl 1 rfl) ?_
  refine sj (j_aload_n hJ dL_law_1795 rfl 3 rfl) ?_
  refine sl_callW hJ [.ref p1, .ref p3] (st := []) (fr' := 10) (lo' := 249) mlw_185 (by decide) (by decide) (Nat.le_of_ble_eq_true rfl) (by dsimp only; omega) (by dsimp only; omega) dL_law_1796 rfl (fun _ h9 => ct_L_step h9) (fun v189 => ?_)
  refine sj (j_istore hJ (L' := [(5, .int v189.1), (0, .ref roB), (1, .ref p1), (2, .ref p2), (3, .ref p3), (4, .int p4)]) dL_law_1799 (by decide) rfl) ?_
  refine sj (j_aload_n hJ dL_law_1801 rfl 3 rfl) ?_
  refine sj_callVi hJ [] (st := []) (fr' := 9) (lo' := 215) ml_L_187 hc_12 (by decide) (by decide) (Nat.le_of_ble_eq_true rfl) dL_law_1802 rfl (fun _ h9 => ct_X12_step h9) (fun v190 => ?_)
  refine sj (j_istore hJ (L' := [(6, .int v190.1), (5, .int v189.1), (0, .ref roB), (1, .ref p1), (2, .ref p2), (3, .ref p3), (4, .int p4)]) dL_law_1805 (by decide) rfl) ?_
  refine sj (j_aload_n hJ dL_law_1807 rfl 4 rfl) ?_
  refine sj_callVip hJ [] (st := []) (fr' := 0) (lo' := 0) ml_L_119 hc_12 (by decide) (by decide) (Nat.le_of_ble_eq_true rfl) dL_law_1808 rfl (fun _ h9 => ct_X12_thrown h9) (fun v191 => ?_)
  refine sj (j_iload hJ dL_law_1811 1 rfl) ?_
  refine sj_if (j_icmp_eq hJ (tgt := 1818) dL_law_1813 (by decide)) (fun _ => ?_) (fun _ => ?_)
  · refine sj (j_iload hJ dL_law_1818 1 rfl) ?_
    refine sj_if (j_if_ne hJ (tgt := 1835) dL_law_1820 (by decide)) (fun _ => ?_) (fun _ => ?_)
    · refine sj (j_aload_n hJ dL_law_1823 rfl 5 rfl) ?_
      refine sj (j_iconst hJ (v := 0) dL_law_1824 ic_0) ?_
      refine sj_rL hJ dL_law_1825 (fun v192 => ?_)
      refine sj (j_iload hJ dL_law_1826 0 rfl) ?_
      refine sj (j_i2l hJ dL_law_1828) ?_
      refine sj (j_lcmp hJ dL_law_1829) ?_
      refine sj_if (j_if_eq hJ (tgt := 1835) dL_law_1830 (by decide)) (fun _ => ?_) (fun _ => ?_)
      · refine sj (j_sub hJ (L' := [(0, .ref roB), (1, .ref p1), (2, .ref p2), (3, .ref p3), (4, .int p4)]) [2, 3, 4, 5, 6] rfl) ?_
        refine sj (j_beta hJ (β' := (600 - (k + 1), 3600 - 6 * (k + 1))) (by dsimp only; omega) (by dsimp only; omega)) ?_
        exact w_law_b1835 hI σ k hk p1 p2 p3 p4 v190.2
      · refine sj (j_iconst hJ (v := 0) dL_law_1833 ic_0) ?_
        exact sj_none
    · refine sj (j_sub hJ (L' := [(0, .ref roB), (1, .ref p1), (2, .ref p2), (3, .ref p3), (4, .int p4)]) [2, 3, 4, 5, 6] rfl) ?_
      refine sj (j_beta hJ (β' := (600 - (k + 1), 3600 - 6 * (k + 1))) (by dsimp only; omega) (by dsimp only; omega)) ?_
      exact w_law_b1835 hI σ k hk p1 p2 p3 p4 v190.2
  · refine sj (j_iconst hJ (v := 0) dL_law_1816 ic_0) ?_
    exact sj_none
def m_law_b1891 (xs : Nat → Int32) (N : Nat) (σ : St) (k : Nat) (p1 : Nat) (p2 : Nat) (p3 : Nat) (p4 : Int32) (δ : Dy) : Option ((Nat × Int32 × Dy) ⊕ Unit) :=
  m_law_b2400 xs N σ k p1 p2 p3 p4 δ
set_option maxHeartbeats 8000000 in
set_option maxRecDepth 100000 in
theorem w_law_b1891 {xs : Nat → Int32} {N : Nat} {J : JT} (hI : IsL xs N J) (σ : St) (k : Nat) (hk : k < 600) (p1 : Nat) (p2 : Nat) (p3 : Nat) (p4 : Int32) (δ : Dy) : SJ (m_law_b1891 xs N σ k p1 p2 p3 p4 δ) (PL (fun s : Nat × Int32 × Dy => J 23 [(0, .ref roB), (1, .ref p1), (2, .ref p2), (3, .ref p3), (4, .int s.2.1)] [] (600 - s.1, 3600 - 6 * s.1) σ s.2.2) (fun _ : Unit => True)) (J 1891 [(0, .ref roB), (1, .ref p1), (2, .ref p2), (3, .ref p3), (4, .int p4)] [] (600 - (k + 1), 3600 - 6 * (k + 1)) σ δ) := by
  have hJ := hI.cor
  unfold m_law_b1891
  refine sj (j_goto hJ (tgt := 2400) dL_law_1891 (by decide)) ?_
  refine sj (j_beta hJ (β' := (600 - (k + 1), 3600 - 6 * (k + 1))) (by dsimp only; omega) (by dsimp only; omega)) ?_
  exact w_law_b2400 hI σ k hk p1 p2 p3 p4 δ
def m_law_b1838 (xs : Nat → Int32) (N : Nat) (σ : St) (k : Nat) (p1 : Nat) (p2 : Nat) (p3 : Nat) (p4 : Int32) (δ : Dy) : Option ((Nat × Int32 × Dy) ⊕ Unit) :=
  (rS xs N (p4 + (1 : Int32))).bind fun v193 =>
  (m_L_seed σ p1 v193 p3 δ).bind fun v194 =>
  (rS xs N (p4 + (1 : Int32))).bind fun v195 =>
  (chk σ 12 p2).bind fun _ => (m_X12_seed σ p2 v195 v194.2).bind fun v196 =>
  (chk σ 12 p2).bind fun _ => (m_X12_thrown σ p2 v196.2).bind fun v197 =>
  if v197 = v194.1 then
    if v194.1 = 0 then
      (rL σ v196.2 p3 (0 : Int32)).bind fun v198 =>
      if (lg_cmp v198 (v196.1).toInt64) = 0 then
        m_law_b1891 xs N σ k p1 p2 p3 p4 v196.2
      else
        none
    else
      m_law_b1891 xs N σ k p1 p2 p3 p4 v196.2
  else
    none
set_option maxHeartbeats 8000000 in
set_option maxRecDepth 100000 in
theorem w_law_b1838 {xs : Nat → Int32} {N : Nat} {J : JT} (hI : IsL xs N J) (σ : St) (k : Nat) (hk : k < 600) (p1 : Nat) (p2 : Nat) (p3 : Nat) (p4 : Int32) (δ : Dy) : SJ (m_law_b1838 xs N σ k p1 p2 p3 p4 δ) (PL (fun s : Nat × Int32 × Dy => J 23 [(0, .ref roB), (1, .ref p1), (2, .ref p2), (3, .ref p3), (4, .int s.2.1)] [] (600 - s.1, 3600 - 6 * s.1) σ s.2.2) (fun _ : Unit => True)) (J 1838 [(0, .ref roB), (1, .ref p1), (2, .ref p2), (3, .ref p3), (4, .int p4)] [] (600 - k, 3600 - 6 * k) σ δ) := by
  have hJ := hI.cor
  unfold m_law_b1838
  refine sj (j_aload_n hJ dL_law_1838 rfl 1 rfl) ?_
  refine sj (j_aload_n hJ dL_law_1839 rfl 0 rfl) ?_
  refine sj (j_iload hJ dL_law_1840 4 rfl) ?_
  refine sj (j_iconst hJ (v := 1) dL_law_1842 ic_1) ?_
  refine sj (j_iadd hJ dL_law_1843) ?_
  refine sl_rS hI dL_law_1844 (fun v193 => ?_)
  refine sj (j_aload_n hJ dL_law_1845 rfl 3 rfl) ?_
  refine sl_callW hJ [.ref p1, .int v193, .ref p3] (st := []) (fr' := 11) (lo' := 273) mlw_188 (by decide) (by decide) (Nat.le_of_ble_eq_true rfl) (by dsimp only; omega) (by dsimp only; omega) dL_law_1846 rfl (fun _ h9 => ct_L_seed h9) (fun v194 => ?_)
  refine sj (j_istore hJ (L' := [(5, .int v194.1), (0, .ref roB), (1, .ref p1), (2, .ref p2), (3, .ref p3), (4, .int p4)]) dL_law_1849 (by decide) rfl) ?_
  refine sj (j_aload_n hJ dL_law_1851 rfl 3 rfl) ?_
  refine sj (j_aload_n hJ dL_law_1852 rfl 1 rfl) ?_
  refine sj (j_iload hJ dL_law_1853 5 rfl) ?_
  refine sj (j_iconst hJ (v := 1) dL_law_1855 ic_1) ?_
  refine sj (j_iadd hJ dL_law_1856) ?_
  refine sl_rS hI dL_law_1857 (fun v195 => ?_)
  refine sj_callVi hJ [.int v195] (st := []) (fr' := 1) (lo' := 22) ml_L_190 hc_12 (by decide) (by decide) (Nat.le_of_ble_eq_true rfl) dL_law_1858 rfl (fun _ h9 => ct_X12_seed h9) (fun v196 => ?_)
  refine sj (j_istore hJ (L' := [(6, .int v196.1), (5, .int v194.1), (0, .ref roB), (1, .ref p1), (2, .ref p2), (3, .ref p3), (4, .int p4)]) dL_law_1861 (by decide) rfl) ?_
  refine sj (j_aload_n hJ dL_law_1863 rfl 4 rfl) ?_
  refine sj_callVip hJ [] (st := []) (fr' := 0) (lo' := 0) ml_L_119 hc_12 (by decide) (by decide) (Nat.le_of_ble_eq_true rfl) dL_law_1864 rfl (fun _ h9 => ct_X12_thrown h9) (fun v197 => ?_)
  refine sj (j_iload hJ dL_law_1867 1 rfl) ?_
  refine sj_if (j_icmp_eq hJ (tgt := 1874) dL_law_1869 (by decide)) (fun _ => ?_) (fun _ => ?_)
  · refine sj (j_iload hJ dL_law_1874 1 rfl) ?_
    refine sj_if (j_if_ne hJ (tgt := 1891) dL_law_1876 (by decide)) (fun _ => ?_) (fun _ => ?_)
    · refine sj (j_aload_n hJ dL_law_1879 rfl 5 rfl) ?_
      refine sj (j_iconst hJ (v := 0) dL_law_1880 ic_0) ?_
      refine sj_rL hJ dL_law_1881 (fun v198 => ?_)
      refine sj (j_iload hJ dL_law_1882 0 rfl) ?_
      refine sj (j_i2l hJ dL_law_1884) ?_
      refine sj (j_lcmp hJ dL_law_1885) ?_
      refine sj_if (j_if_eq hJ (tgt := 1891) dL_law_1886 (by decide)) (fun _ => ?_) (fun _ => ?_)
      · refine sj (j_sub hJ (L' := [(0, .ref roB), (1, .ref p1), (2, .ref p2), (3, .ref p3), (4, .int p4)]) [2, 3, 4, 5, 6] rfl) ?_
        refine sj (j_beta hJ (β' := (600 - (k + 1), 3600 - 6 * (k + 1))) (by dsimp only; omega) (by dsimp only; omega)) ?_
        exact w_law_b1891 hI σ k hk p1 p2 p3 p4 v196.2
      · refine sj (j_iconst hJ (v := 0) dL_law_1889 ic_0) ?_
        exact sj_none
    · refine sj (j_sub hJ (L' := [(0, .ref roB), (1, .ref p1), (2, .ref p2), (3, .ref p3), (4, .int p4)]) [2, 3, 4, 5, 6] rfl) ?_
      refine sj (j_beta hJ (β' := (600 - (k + 1), 3600 - 6 * (k + 1))) (by dsimp only; omega) (by dsimp only; omega)) ?_
      exact w_law_b1891 hI σ k hk p1 p2 p3 p4 v196.2
  · refine sj (j_iconst hJ (v := 0) dL_law_1872 ic_0) ?_
    exact sj_none
def m_law_b1935 (xs : Nat → Int32) (N : Nat) (σ : St) (k : Nat) (p1 : Nat) (p2 : Nat) (p3 : Nat) (p4 : Int32) (δ : Dy) : Option ((Nat × Int32 × Dy) ⊕ Unit) :=
  m_law_b2400 xs N σ k p1 p2 p3 p4 δ
set_option maxHeartbeats 8000000 in
set_option maxRecDepth 100000 in
theorem w_law_b1935 {xs : Nat → Int32} {N : Nat} {J : JT} (hI : IsL xs N J) (σ : St) (k : Nat) (hk : k < 600) (p1 : Nat) (p2 : Nat) (p3 : Nat) (p4 : Int32) (δ : Dy) : SJ (m_law_b1935 xs N σ k p1 p2 p3 p4 δ) (PL (fun s : Nat × Int32 × Dy => J 23 [(0, .ref roB), (1, .ref p1), (2, .ref p2), (3, .ref p3), (4, .int s.2.1)] [] (600 - s.1, 3600 - 6 * s.1) σ s.2.2) (fun _ : Unit => True)) (J 1935 [(0, .ref roB), (1, .ref p1), (2, .ref p2), (3, .ref p3), (4, .int p4)] [] (600 - (k + 1), 3600 - 6 * (k + 1)) σ δ) := by
  have hJ := hI.cor
  unfold m_law_b1935
  refine sj (j_goto hJ (tgt := 2400) dL_law_1935 (by decide)) ?_
  refine sj (j_beta hJ (β' := (600 - (k + 1), 3600 - 6 * (k + 1))) (by dsimp only; omega) (by dsimp only; omega)) ?_
  exact w_law_b2400 hI σ k hk p1 p2 p3 p4 δ
def m_law_b1894 (xs : Nat → Int32) (N : Nat) (σ : St) (k : Nat) (p1 : Nat) (p2 : Nat) (p3 : Nat) (p4 : Int32) (δ : Dy) : Option ((Nat × Int32 × Dy) ⊕ Unit) :=
  (m_L_ends σ p1 p3 δ).bind fun v199 =>
  (chk σ 12 p2).bind fun _ => (m_X12_ends σ p2 v199.2).bind fun v200 =>
  (chk σ 12 p2).bind fun _ => (m_X12_thrown σ p2 v200.2).bind fun v201 =>
  if v201 = v199.1 then
    if v199.1 = 0 then
      (rL σ v200.2 p3 (0 : Int32)).bind fun v202 =>
      if (lg_cmp v202 (v200.1).toInt64) = 0 then
        m_law_b1935 xs N σ k p1 p2 p3 p4 v200.2
      else
        none
    else
      m_law_b1935 xs N σ k p1 p2 p3 p4 v200.2
  else
    none
set_option maxHeartbeats 8000000 in
set_option maxRecDepth 100000 in
theorem w_law_b1894 {xs : Nat → Int32} {N : Nat} {J : JT} (hI : IsL xs N J) (σ : St) (k : Nat) (hk : k < 600) (p1 : Nat) (p2 : Nat) (p3 : Nat) (p4 : Int32) (δ : Dy) : SJ (m_law_b1894 xs N σ k p1 p2 p3 p4 δ) (PL (fun s : Nat × Int32 × Dy => J 23 [(0, .ref roB), (1, .ref p1), (2, .ref p2), (3, .ref p3), (4, .int s.2.1)] [] (600 - s.1, 3600 - 6 * s.1) σ s.2.2) (fun _ : Unit => True)) (J 1894 [(0, .ref roB), (1, .ref p1), (2, .ref p2), (3, .ref p3), (4, .int p4)] [] (600 - k, 3600 - 6 * k) σ δ) := by
  have hJ := hI.cor
  unfold m_law_b1894
  refine sj (j_aload_n hJ dL_law_1894 rfl 1 rfl) ?_
  refine sj (j_aload_n hJ dL_law_1895 rfl 3 rfl) ?_
  refine sl_callW hJ [.ref p1, .ref p3] (st := []) (fr' := 10) (lo' := 251) mlw_191 (by decide) (by decide) (Nat.le_of_ble_eq_true rfl) (by dsimp only; omega) (by dsimp only; omega) dL_law_1896 rfl (fun _ h9 => ct_L_ends h9) (fun v199 => ?_)
  refine sj (j_istore hJ (L' := [(5, .int v199.1), (0, .ref roB), (1, .ref p1), (2, .ref p2), (3, .ref p3), (4, .int p4)]) dL_law_1899 (by decide) rfl) ?_
  refine sj (j_aload_n hJ dL_law_1901 rfl 3 rfl) ?_
  refine sj_callVi hJ [] (st := []) (fr' := 9) (lo' := 215) ml_L_193 hc_12 (by decide) (by decide) (Nat.le_of_ble_eq_true rfl) dL_law_1902 rfl (fun _ h9 => ct_X12_ends h9) (fun v200 => ?_)
  refine sj (j_istore hJ (L' := [(6, .int v200.1), (5, .int v199.1), (0, .ref roB), (1, .ref p1), (2, .ref p2), (3, .ref p3), (4, .int p4)]) dL_law_1905 (by decide) rfl) ?_
  refine sj (j_aload_n hJ dL_law_1907 rfl 4 rfl) ?_
  refine sj_callVip hJ [] (st := []) (fr' := 0) (lo' := 0) ml_L_119 hc_12 (by decide) (by decide) (Nat.le_of_ble_eq_true rfl) dL_law_1908 rfl (fun _ h9 => ct_X12_thrown h9) (fun v201 => ?_)
  refine sj (j_iload hJ dL_law_1911 1 rfl) ?_
  refine sj_if (j_icmp_eq hJ (tgt := 1918) dL_law_1913 (by decide)) (fun _ => ?_) (fun _ => ?_)
  · refine sj (j_iload hJ dL_law_1918 1 rfl) ?_
    refine sj_if (j_if_ne hJ (tgt := 1935) dL_law_1920 (by decide)) (fun _ => ?_) (fun _ => ?_)
    · refine sj (j_aload_n hJ dL_law_1923 rfl 5 rfl) ?_
      refine sj (j_iconst hJ (v := 0) dL_law_1924 ic_0) ?_
      refine sj_rL hJ dL_law_1925 (fun v202 => ?_)
      refine sj (j_iload hJ dL_law_1926 0 rfl) ?_
      refine sj (j_i2l hJ dL_law_1928) ?_
      refine sj (j_lcmp hJ dL_law_1929) ?_
      refine sj_if (j_if_eq hJ (tgt := 1935) dL_law_1930 (by decide)) (fun _ => ?_) (fun _ => ?_)
      · refine sj (j_sub hJ (L' := [(0, .ref roB), (1, .ref p1), (2, .ref p2), (3, .ref p3), (4, .int p4)]) [2, 3, 4, 5, 6] rfl) ?_
        refine sj (j_beta hJ (β' := (600 - (k + 1), 3600 - 6 * (k + 1))) (by dsimp only; omega) (by dsimp only; omega)) ?_
        exact w_law_b1935 hI σ k hk p1 p2 p3 p4 v200.2
      · refine sj (j_iconst hJ (v := 0) dL_law_1933 ic_0) ?_
        exact sj_none
    · refine sj (j_sub hJ (L' := [(0, .ref roB), (1, .ref p1), (2, .ref p2), (3, .ref p3), (4, .int p4)]) [2, 3, 4, 5, 6] rfl) ?_
      refine sj (j_beta hJ (β' := (600 - (k + 1), 3600 - 6 * (k + 1))) (by dsimp only; omega) (by dsimp only; omega)) ?_
      exact w_law_b1935 hI σ k hk p1 p2 p3 p4 v200.2
  · refine sj (j_iconst hJ (v := 0) dL_law_1916 ic_0) ?_
    exact sj_none
def m_law_b1938 (xs : Nat → Int32) (N : Nat) (σ : St) (k : Nat) (p1 : Nat) (p2 : Nat) (p3 : Nat) (p4 : Int32) (δ : Dy) : Option ((Nat × Int32 × Dy) ⊕ Unit) :=
  (chk σ 11 p1).bind fun _ => (m_X11_clock σ p1 δ).bind fun v203 =>
  (chk σ 12 p2).bind fun _ => (m_X12_clock σ p2 δ).bind fun v204 =>
  if v203 = v204.1 then
    m_law_b2400 xs N σ k p1 p2 p3 p4 v204.2
  else
    none
set_option maxHeartbeats 8000000 in
set_option maxRecDepth 100000 in
theorem w_law_b1938 {xs : Nat → Int32} {N : Nat} {J : JT} (hI : IsL xs N J) (σ : St) (k : Nat) (hk : k < 600) (p1 : Nat) (p2 : Nat) (p3 : Nat) (p4 : Int32) (δ : Dy) : SJ (m_law_b1938 xs N σ k p1 p2 p3 p4 δ) (PL (fun s : Nat × Int32 × Dy => J 23 [(0, .ref roB), (1, .ref p1), (2, .ref p2), (3, .ref p3), (4, .int s.2.1)] [] (600 - s.1, 3600 - 6 * s.1) σ s.2.2) (fun _ : Unit => True)) (J 1938 [(0, .ref roB), (1, .ref p1), (2, .ref p2), (3, .ref p3), (4, .int p4)] [] (600 - k, 3600 - 6 * k) σ δ) := by
  have hJ := hI.cor
  unfold m_law_b1938
  refine sj (j_aload_n hJ dL_law_1938 rfl 1 rfl) ?_
  refine sj_callVip hJ [] (st := []) (fr' := 0) (lo' := 0) ml_L_194 hc_11 (by decide) (by decide) (Nat.le_of_ble_eq_true rfl) dL_law_1939 rfl (fun _ h9 => ct_X11_clock h9) (fun v203 => ?_)
  refine sj (j_aload_n hJ dL_law_1942 rfl 2 rfl) ?_
  refine sj_callVi hJ [] (st := [.int v203]) (fr' := 0) (lo' := 0) ml_L_197 hc_12 (by decide) (by decide) (Nat.le_of_ble_eq_true rfl) dL_law_1943 rfl (fun _ h9 => ct_X12_clock h9) (fun v204 => ?_)
  refine sj_if (j_icmp_eq hJ (tgt := 2400) dL_law_1946 (by decide)) (fun _ => ?_) (fun _ => ?_)
  · refine sj (j_beta hJ (β' := (600 - (k + 1), 3600 - 6 * (k + 1))) (by dsimp only; omega) (by dsimp only; omega)) ?_
    exact w_law_b2400 hI σ k hk p1 p2 p3 p4 v204.2
  · refine sj (j_iconst hJ (v := 0) dL_law_1949 ic_0) ?_
    exact sj_none
def m_law_b1951 (xs : Nat → Int32) (N : Nat) (σ : St) (k : Nat) (p1 : Nat) (p2 : Nat) (p3 : Nat) (p4 : Int32) (δ : Dy) : Option ((Nat × Int32 × Dy) ⊕ Unit) :=
  (chk σ 11 p1).bind fun _ => (m_X11_hasFailed σ p1 δ).bind fun v205 =>
  (chk σ 12 p2).bind fun _ => (m_X12_hasFailed σ p2 δ).bind fun v206 =>
  if v205 = v206.1 then
    m_law_b2400 xs N σ k p1 p2 p3 p4 v206.2
  else
    none
set_option maxHeartbeats 8000000 in
set_option maxRecDepth 100000 in
theorem w_law_b1951 {xs : Nat → Int32} {N : Nat} {J : JT} (hI : IsL xs N J) (σ : St) (k : Nat) (hk : k < 600) (p1 : Nat) (p2 : Nat) (p3 : Nat) (p4 : Int32) (δ : Dy) : SJ (m_law_b1951 xs N σ k p1 p2 p3 p4 δ) (PL (fun s : Nat × Int32 × Dy => J 23 [(0, .ref roB), (1, .ref p1), (2, .ref p2), (3, .ref p3), (4, .int s.2.1)] [] (600 - s.1, 3600 - 6 * s.1) σ s.2.2) (fun _ : Unit => True)) (J 1951 [(0, .ref roB), (1, .ref p1), (2, .ref p2), (3, .ref p3), (4, .int p4)] [] (600 - k, 3600 - 6 * k) σ δ) := by
  have hJ := hI.cor
  unfold m_law_b1951
  refine sj (j_aload_n hJ dL_law_1951 rfl 1 rfl) ?_
  refine sj_callVip hJ [] (st := []) (fr' := 0) (lo' := 0) ml_L_198 hc_11 (by decide) (by decide) (Nat.le_of_ble_eq_true rfl) dL_law_1952 rfl (fun _ h9 => ct_X11_hasFailed h9) (fun v205 => ?_)
  refine sj (j_aload_n hJ dL_law_1955 rfl 2 rfl) ?_
  refine sj_callVi hJ [] (st := [.int v205]) (fr' := 0) (lo' := 0) ml_L_202 hc_12 (by decide) (by decide) (Nat.le_of_ble_eq_true rfl) dL_law_1956 rfl (fun _ h9 => ct_X12_hasFailed h9) (fun v206 => ?_)
  refine sj_if (j_icmp_eq hJ (tgt := 2400) dL_law_1959 (by decide)) (fun _ => ?_) (fun _ => ?_)
  · refine sj (j_beta hJ (β' := (600 - (k + 1), 3600 - 6 * (k + 1))) (by dsimp only; omega) (by dsimp only; omega)) ?_
    exact w_law_b2400 hI σ k hk p1 p2 p3 p4 v206.2
  · refine sj (j_iconst hJ (v := 0) dL_law_1962 ic_0) ?_
    exact sj_none
def m_law_b1964 (xs : Nat → Int32) (N : Nat) (σ : St) (k : Nat) (p1 : Nat) (p2 : Nat) (p3 : Nat) (p4 : Int32) (δ : Dy) : Option ((Nat × Int32 × Dy) ⊕ Unit) :=
  (chk σ 11 p1).bind fun _ => (m_X11_variables σ p1 δ).bind fun v207 =>
  (chk σ 12 p2).bind fun _ => (m_X12_variables σ p2 δ).bind fun v208 =>
  if v207 = v208.1 then
    m_law_b2400 xs N σ k p1 p2 p3 p4 v208.2
  else
    none
set_option maxHeartbeats 8000000 in
set_option maxRecDepth 100000 in
theorem w_law_b1964 {xs : Nat → Int32} {N : Nat} {J : JT} (hI : IsL xs N J) (σ : St) (k : Nat) (hk : k < 600) (p1 : Nat) (p2 : Nat) (p3 : Nat) (p4 : Int32) (δ : Dy) : SJ (m_law_b1964 xs N σ k p1 p2 p3 p4 δ) (PL (fun s : Nat × Int32 × Dy => J 23 [(0, .ref roB), (1, .ref p1), (2, .ref p2), (3, .ref p3), (4, .int s.2.1)] [] (600 - s.1, 3600 - 6 * s.1) σ s.2.2) (fun _ : Unit => True)) (J 1964 [(0, .ref roB), (1, .ref p1), (2, .ref p2), (3, .ref p3), (4, .int p4)] [] (600 - k, 3600 - 6 * k) σ δ) := by
  have hJ := hI.cor
  unfold m_law_b1964
  refine sj (j_aload_n hJ dL_law_1964 rfl 1 rfl) ?_
  refine sj_callVip hJ [] (st := []) (fr' := 0) (lo' := 0) ml_L_203 hc_11 (by decide) (by decide) (Nat.le_of_ble_eq_true rfl) dL_law_1965 rfl (fun _ h9 => ct_X11_variables h9) (fun v207 => ?_)
  refine sj (j_aload_n hJ dL_law_1968 rfl 2 rfl) ?_
  refine sj_callVi hJ [] (st := [.int v207]) (fr' := 0) (lo' := 0) ml_L_206 hc_12 (by decide) (by decide) (Nat.le_of_ble_eq_true rfl) dL_law_1969 rfl (fun _ h9 => ct_X12_variables h9) (fun v208 => ?_)
  refine sj_if (j_icmp_eq hJ (tgt := 2400) dL_law_1972 (by decide)) (fun _ => ?_) (fun _ => ?_)
  · refine sj (j_beta hJ (β' := (600 - (k + 1), 3600 - 6 * (k + 1))) (by dsimp only; omega) (by dsimp only; omega)) ?_
    exact w_law_b2400 hI σ k hk p1 p2 p3 p4 v208.2
  · refine sj (j_iconst hJ (v := 0) dL_law_1975 ic_0) ?_
    exact sj_none
def m_law_b2030 (xs : Nat → Int32) (N : Nat) (σ : St) (k : Nat) (p1 : Nat) (p2 : Nat) (p3 : Nat) (p4 : Int32) (δ : Dy) : Option ((Nat × Int32 × Dy) ⊕ Unit) :=
  m_law_b2400 xs N σ k p1 p2 p3 p4 δ
set_option maxHeartbeats 8000000 in
set_option maxRecDepth 100000 in
theorem w_law_b2030 {xs : Nat → Int32} {N : Nat} {J : JT} (hI : IsL xs N J) (σ : St) (k : Nat) (hk : k < 600) (p1 : Nat) (p2 : Nat) (p3 : Nat) (p4 : Int32) (δ : Dy) : SJ (m_law_b2030 xs N σ k p1 p2 p3 p4 δ) (PL (fun s : Nat × Int32 × Dy => J 23 [(0, .ref roB), (1, .ref p1), (2, .ref p2), (3, .ref p3), (4, .int s.2.1)] [] (600 - s.1, 3600 - 6 * s.1) σ s.2.2) (fun _ : Unit => True)) (J 2030 [(0, .ref roB), (1, .ref p1), (2, .ref p2), (3, .ref p3), (4, .int p4)] [] (600 - (k + 1), 3600 - 6 * (k + 1)) σ δ) := by
  have hJ := hI.cor
  unfold m_law_b2030
  refine sj (j_goto hJ (tgt := 2400) dL_law_2030 (by decide)) ?_
  refine sj (j_beta hJ (β' := (600 - (k + 1), 3600 - 6 * (k + 1))) (by dsimp only; omega) (by dsimp only; omega)) ?_
  exact w_law_b2400 hI σ k hk p1 p2 p3 p4 δ
def m_law_b1977 (xs : Nat → Int32) (N : Nat) (σ : St) (k : Nat) (p1 : Nat) (p2 : Nat) (p3 : Nat) (p4 : Int32) (δ : Dy) : Option ((Nat × Int32 × Dy) ⊕ Unit) :=
  (rS xs N (p4 + (1 : Int32))).bind fun v209 =>
  (m_L_value σ p1 v209 p3 δ).bind fun v210 =>
  (rS xs N (p4 + (1 : Int32))).bind fun v211 =>
  (chk σ 12 p2).bind fun _ => (m_X12_value σ p2 v211 v210.2).bind fun v212 =>
  (chk σ 12 p2).bind fun _ => (m_X12_thrown σ p2 v212.2).bind fun v213 =>
  if v213 = v210.1 then
    if v210.1 = 0 then
      (rL σ v212.2 p3 (0 : Int32)).bind fun v214 =>
      if (lg_cmp v214 (v212.1).toInt64) = 0 then
        m_law_b2030 xs N σ k p1 p2 p3 p4 v212.2
      else
        none
    else
      m_law_b2030 xs N σ k p1 p2 p3 p4 v212.2
  else
    none
set_option maxHeartbeats 8000000 in
set_option maxRecDepth 100000 in
theorem w_law_b1977 {xs : Nat → Int32} {N : Nat} {J : JT} (hI : IsL xs N J) (σ : St) (k : Nat) (hk : k < 600) (p1 : Nat) (p2 : Nat) (p3 : Nat) (p4 : Int32) (δ : Dy) : SJ (m_law_b1977 xs N σ k p1 p2 p3 p4 δ) (PL (fun s : Nat × Int32 × Dy => J 23 [(0, .ref roB), (1, .ref p1), (2, .ref p2), (3, .ref p3), (4, .int s.2.1)] [] (600 - s.1, 3600 - 6 * s.1) σ s.2.2) (fun _ : Unit => True)) (J 1977 [(0, .ref roB), (1, .ref p1), (2, .ref p2), (3, .ref p3), (4, .int p4)] [] (600 - k, 3600 - 6 * k) σ δ) := by
  have hJ := hI.cor
  unfold m_law_b1977
  refine sj (j_aload_n hJ dL_law_1977 rfl 1 rfl) ?_
  refine sj (j_aload_n hJ dL_law_1978 rfl 0 rfl) ?_
  refine sj (j_iload hJ dL_law_1979 4 rfl) ?_
  refine sj (j_iconst hJ (v := 1) dL_law_1981 ic_1) ?_
  refine sj (j_iadd hJ dL_law_1982) ?_
  refine sl_rS hI dL_law_1983 (fun v209 => ?_)
  refine sj (j_aload_n hJ dL_law_1984 rfl 3 rfl) ?_
  refine sl_callW hJ [.ref p1, .int v209, .ref p3] (st := []) (fr' := 11) (lo' := 272) mlw_207 (by decide) (by decide) (Nat.le_of_ble_eq_true rfl) (by dsimp only; omega) (by dsimp only; omega) dL_law_1985 rfl (fun _ h9 => ct_L_value h9) (fun v210 => ?_)
  refine sj (j_istore hJ (L' := [(5, .int v210.1), (0, .ref roB), (1, .ref p1), (2, .ref p2), (3, .ref p3), (4, .int p4)]) dL_law_1988 (by decide) rfl) ?_
  refine sj (j_aload_n hJ dL_law_1990 rfl 3 rfl) ?_
  refine sj (j_aload_n hJ dL_law_1991 rfl 1 rfl) ?_
  refine sj (j_iload hJ dL_law_1992 5 rfl) ?_
  refine sj (j_iconst hJ (v := 1) dL_law_1994 ic_1) ?_
  refine sj (j_iadd hJ dL_law_1995) ?_
  refine sl_rS hI dL_law_1996 (fun v211 => ?_)
  refine sj_callVi hJ [.int v211] (st := []) (fr' := 2) (lo' := 43) ml_L_209 hc_12 (by decide) (by decide) (Nat.le_of_ble_eq_true rfl) dL_law_1997 rfl (fun _ h9 => ct_X12_value h9) (fun v212 => ?_)
  refine sj (j_istore hJ (L' := [(6, .int v212.1), (5, .int v210.1), (0, .ref roB), (1, .ref p1), (2, .ref p2), (3, .ref p3), (4, .int p4)]) dL_law_2000 (by decide) rfl) ?_
  refine sj (j_aload_n hJ dL_law_2002 rfl 4 rfl) ?_
  refine sj_callVip hJ [] (st := []) (fr' := 0) (lo' := 0) ml_L_119 hc_12 (by decide) (by decide) (Nat.le_of_ble_eq_true rfl) dL_law_2003 rfl (fun _ h9 => ct_X12_thrown h9) (fun v213 => ?_)
  refine sj (j_iload hJ dL_law_2006 1 rfl) ?_
  refine sj_if (j_icmp_eq hJ (tgt := 2013) dL_law_2008 (by decide)) (fun _ => ?_) (fun _ => ?_)
  · refine sj (j_iload hJ dL_law_2013 1 rfl) ?_
    refine sj_if (j_if_ne hJ (tgt := 2030) dL_law_2015 (by decide)) (fun _ => ?_) (fun _ => ?_)
    · refine sj (j_aload_n hJ dL_law_2018 rfl 5 rfl) ?_
      refine sj (j_iconst hJ (v := 0) dL_law_2019 ic_0) ?_
      refine sj_rL hJ dL_law_2020 (fun v214 => ?_)
      refine sj (j_iload hJ dL_law_2021 0 rfl) ?_
      refine sj (j_i2l hJ dL_law_2023) ?_
      refine sj (j_lcmp hJ dL_law_2024) ?_
      refine sj_if (j_if_eq hJ (tgt := 2030) dL_law_2025 (by decide)) (fun _ => ?_) (fun _ => ?_)
      · refine sj (j_sub hJ (L' := [(0, .ref roB), (1, .ref p1), (2, .ref p2), (3, .ref p3), (4, .int p4)]) [2, 3, 4, 5, 6] rfl) ?_
        refine sj (j_beta hJ (β' := (600 - (k + 1), 3600 - 6 * (k + 1))) (by dsimp only; omega) (by dsimp only; omega)) ?_
        exact w_law_b2030 hI σ k hk p1 p2 p3 p4 v212.2
      · refine sj (j_iconst hJ (v := 0) dL_law_2028 ic_0) ?_
        exact sj_none
    · refine sj (j_sub hJ (L' := [(0, .ref roB), (1, .ref p1), (2, .ref p2), (3, .ref p3), (4, .int p4)]) [2, 3, 4, 5, 6] rfl) ?_
      refine sj (j_beta hJ (β' := (600 - (k + 1), 3600 - 6 * (k + 1))) (by dsimp only; omega) (by dsimp only; omega)) ?_
      exact w_law_b2030 hI σ k hk p1 p2 p3 p4 v212.2
  · refine sj (j_iconst hJ (v := 0) dL_law_2011 ic_0) ?_
    exact sj_none
def m_law_b2105 (xs : Nat → Int32) (N : Nat) (σ : St) (k : Nat) (p1 : Nat) (p2 : Nat) (p3 : Nat) (p4 : Int32) (δ : Dy) : Option ((Nat × Int32 × Dy) ⊕ Unit) :=
  m_law_b2400 xs N σ k p1 p2 p3 p4 δ
set_option maxHeartbeats 8000000 in
set_option maxRecDepth 100000 in
theorem w_law_b2105 {xs : Nat → Int32} {N : Nat} {J : JT} (hI : IsL xs N J) (σ : St) (k : Nat) (hk : k < 600) (p1 : Nat) (p2 : Nat) (p3 : Nat) (p4 : Int32) (δ : Dy) : SJ (m_law_b2105 xs N σ k p1 p2 p3 p4 δ) (PL (fun s : Nat × Int32 × Dy => J 23 [(0, .ref roB), (1, .ref p1), (2, .ref p2), (3, .ref p3), (4, .int s.2.1)] [] (600 - s.1, 3600 - 6 * s.1) σ s.2.2) (fun _ : Unit => True)) (J 2105 [(0, .ref roB), (1, .ref p1), (2, .ref p2), (3, .ref p3), (4, .int p4)] [] (600 - (k + 1), 3600 - 6 * (k + 1)) σ δ) := by
  have hJ := hI.cor
  unfold m_law_b2105
  refine sj (j_goto hJ (tgt := 2400) dL_law_2105 (by decide)) ?_
  refine sj (j_beta hJ (β' := (600 - (k + 1), 3600 - 6 * (k + 1))) (by dsimp only; omega) (by dsimp only; omega)) ?_
  exact w_law_b2400 hI σ k hk p1 p2 p3 p4 δ
def m_law_b2099 (xs : Nat → Int32) (N : Nat) (σ : St) (k : Nat) (p1 : Nat) (p2 : Nat) (p3 : Nat) (p4 : Int32) (q0 : Int64) (q1 : Int64) (δ : Dy) : Option ((Nat × Int32 × Dy) ⊕ Unit) :=
  if (lg_cmp q0 q1) = 0 then
    m_law_b2105 xs N σ k p1 p2 p3 p4 δ
  else
    none
set_option maxHeartbeats 8000000 in
set_option maxRecDepth 100000 in
theorem w_law_b2099 {xs : Nat → Int32} {N : Nat} {J : JT} (hI : IsL xs N J) (σ : St) (k : Nat) (hk : k < 600) (p1 : Nat) (p2 : Nat) (p3 : Nat) (p4 : Int32) (q0 : Int64) (q1 : Int64) (δ : Dy) : SJ (m_law_b2099 xs N σ k p1 p2 p3 p4 q0 q1 δ) (PL (fun s : Nat × Int32 × Dy => J 23 [(0, .ref roB), (1, .ref p1), (2, .ref p2), (3, .ref p3), (4, .int s.2.1)] [] (600 - s.1, 3600 - 6 * s.1) σ s.2.2) (fun _ : Unit => True)) (J 2099 [(0, .ref roB), (1, .ref p1), (2, .ref p2), (3, .ref p3), (4, .int p4)] [.long q1, .long q0] (600 - (k + 1), 3600 - 6 * (k + 1)) σ δ) := by
  have hJ := hI.cor
  unfold m_law_b2099
  refine sj (j_lcmp hJ dL_law_2099) ?_
  refine sj_if (j_if_eq hJ (tgt := 2105) dL_law_2100 (by decide)) (fun _ => ?_) (fun _ => ?_)
  · refine sj (j_beta hJ (β' := (600 - (k + 1), 3600 - 6 * (k + 1))) (by dsimp only; omega) (by dsimp only; omega)) ?_
    exact w_law_b2105 hI σ k hk p1 p2 p3 p4 δ
  · refine sj (j_iconst hJ (v := 0) dL_law_2103 ic_0) ?_
    exact sj_none
def m_law_b2033 (xs : Nat → Int32) (N : Nat) (σ : St) (k : Nat) (p1 : Nat) (p2 : Nat) (p3 : Nat) (p4 : Int32) (δ : Dy) : Option ((Nat × Int32 × Dy) ⊕ Unit) :=
  (rS xs N (p4 + (1 : Int32))).bind fun v215 =>
  (rS xs N (p4 + (2 : Int32))).bind fun v216 =>
  (m_L_areOne σ p1 v215 v216 p3 δ).bind fun v217 =>
  (rS xs N (p4 + (1 : Int32))).bind fun v218 =>
  (rS xs N (p4 + (2 : Int32))).bind fun v219 =>
  (chk σ 12 p2).bind fun _ => (m_X12_areOne σ p2 v218 v219 v217.2).bind fun v220 =>
  (chk σ 12 p2).bind fun _ => (m_X12_thrown σ p2 v220.2).bind fun v221 =>
  if v221 = v217.1 then
    if v217.1 = 0 then
      (rL σ v220.2 p3 (0 : Int32)).bind fun v222 =>
      if v220.1 = 0 then
        m_law_b2099 xs N σ k p1 p2 p3 p4 v222 (0 : Int64) v220.2
      else
        m_law_b2099 xs N σ k p1 p2 p3 p4 v222 (1 : Int64) v220.2
    else
      m_law_b2105 xs N σ k p1 p2 p3 p4 v220.2
  else
    none
set_option maxHeartbeats 8000000 in
set_option maxRecDepth 100000 in
theorem w_law_b2033 {xs : Nat → Int32} {N : Nat} {J : JT} (hI : IsL xs N J) (σ : St) (k : Nat) (hk : k < 600) (p1 : Nat) (p2 : Nat) (p3 : Nat) (p4 : Int32) (δ : Dy) : SJ (m_law_b2033 xs N σ k p1 p2 p3 p4 δ) (PL (fun s : Nat × Int32 × Dy => J 23 [(0, .ref roB), (1, .ref p1), (2, .ref p2), (3, .ref p3), (4, .int s.2.1)] [] (600 - s.1, 3600 - 6 * s.1) σ s.2.2) (fun _ : Unit => True)) (J 2033 [(0, .ref roB), (1, .ref p1), (2, .ref p2), (3, .ref p3), (4, .int p4)] [] (600 - k, 3600 - 6 * k) σ δ) := by
  have hJ := hI.cor
  unfold m_law_b2033
  refine sj (j_aload_n hJ dL_law_2033 rfl 1 rfl) ?_
  refine sj (j_aload_n hJ dL_law_2034 rfl 0 rfl) ?_
  refine sj (j_iload hJ dL_law_2035 4 rfl) ?_
  refine sj (j_iconst hJ (v := 1) dL_law_2037 ic_1) ?_
  refine sj (j_iadd hJ dL_law_2038) ?_
  refine sl_rS hI dL_law_2039 (fun v215 => ?_)
  refine sj (j_aload_n hJ dL_law_2040 rfl 0 rfl) ?_
  refine sj (j_iload hJ dL_law_2041 4 rfl) ?_
  refine sj (j_iconst hJ (v := 2) dL_law_2043 ic_2) ?_
  refine sj (j_iadd hJ dL_law_2044) ?_
  refine sl_rS hI dL_law_2045 (fun v216 => ?_)
  refine sj (j_aload_n hJ dL_law_2046 rfl 3 rfl) ?_
  refine sl_callW hJ [.ref p1, .int v215, .int v216, .ref p3] (st := []) (fr' := 11) (lo' := 272) mlw_210 (by decide) (by decide) (Nat.le_of_ble_eq_true rfl) (by dsimp only; omega) (by dsimp only; omega) dL_law_2047 rfl (fun _ h9 => ct_L_areOne h9) (fun v217 => ?_)
  refine sj (j_istore hJ (L' := [(5, .int v217.1), (0, .ref roB), (1, .ref p1), (2, .ref p2), (3, .ref p3), (4, .int p4)]) dL_law_2050 (by decide) rfl) ?_
  refine sj (j_aload_n hJ dL_law_2052 rfl 3 rfl) ?_
  refine sj (j_aload_n hJ dL_law_2053 rfl 1 rfl) ?_
  refine sj (j_iload hJ dL_law_2054 5 rfl) ?_
  refine sj (j_iconst hJ (v := 1) dL_law_2056 ic_1) ?_
  refine sj (j_iadd hJ dL_law_2057) ?_
  refine sl_rS hI dL_law_2058 (fun v218 => ?_)
  refine sj (j_aload_n hJ dL_law_2059 rfl 1 rfl) ?_
  refine sj (j_iload hJ dL_law_2060 5 rfl) ?_
  refine sj (j_iconst hJ (v := 2) dL_law_2062 ic_2) ?_
  refine sj (j_iadd hJ dL_law_2063) ?_
  refine sl_rS hI dL_law_2064 (fun v219 => ?_)
  refine sj_callVi hJ [.int v218, .int v219] (st := []) (fr' := 2) (lo' := 43) ml_L_212 hc_12 (by decide) (by decide) (Nat.le_of_ble_eq_true rfl) dL_law_2065 rfl (fun _ h9 => ct_X12_areOne h9) (fun v220 => ?_)
  refine sj (j_istore hJ (L' := [(6, .int v220.1), (5, .int v217.1), (0, .ref roB), (1, .ref p1), (2, .ref p2), (3, .ref p3), (4, .int p4)]) dL_law_2068 (by decide) rfl) ?_
  refine sj (j_aload_n hJ dL_law_2070 rfl 4 rfl) ?_
  refine sj_callVip hJ [] (st := []) (fr' := 0) (lo' := 0) ml_L_119 hc_12 (by decide) (by decide) (Nat.le_of_ble_eq_true rfl) dL_law_2071 rfl (fun _ h9 => ct_X12_thrown h9) (fun v221 => ?_)
  refine sj (j_iload hJ dL_law_2074 1 rfl) ?_
  refine sj_if (j_icmp_eq hJ (tgt := 2081) dL_law_2076 (by decide)) (fun _ => ?_) (fun _ => ?_)
  · refine sj (j_iload hJ dL_law_2081 1 rfl) ?_
    refine sj_if (j_if_ne hJ (tgt := 2105) dL_law_2083 (by decide)) (fun _ => ?_) (fun _ => ?_)
    · refine sj (j_aload_n hJ dL_law_2086 rfl 5 rfl) ?_
      refine sj (j_iconst hJ (v := 0) dL_law_2087 ic_0) ?_
      refine sj_rL hJ dL_law_2088 (fun v222 => ?_)
      refine sj (j_iload hJ dL_law_2089 0 rfl) ?_
      refine sj_if (j_if_eq hJ (tgt := 2098) dL_law_2091 (by decide)) (fun _ => ?_) (fun _ => ?_)
      · refine sj (j_lconst hJ (v := 0) dL_law_2098 rfl) ?_
        refine sj (j_sub hJ (L' := [(0, .ref roB), (1, .ref p1), (2, .ref p2), (3, .ref p3), (4, .int p4)]) [2, 3, 4, 5, 6] rfl) ?_
        refine sj (j_beta hJ (β' := (600 - (k + 1), 3600 - 6 * (k + 1))) (by dsimp only; omega) (by dsimp only; omega)) ?_
        exact w_law_b2099 hI σ k hk p1 p2 p3 p4 v222 (0 : Int64) v220.2
      · refine sj (j_lconst hJ (v := 1) dL_law_2094 rfl) ?_
        refine sj (j_goto hJ (tgt := 2099) dL_law_2095 (by decide)) ?_
        refine sj (j_sub hJ (L' := [(0, .ref roB), (1, .ref p1), (2, .ref p2), (3, .ref p3), (4, .int p4)]) [2, 3, 4, 5, 6] rfl) ?_
        refine sj (j_beta hJ (β' := (600 - (k + 1), 3600 - 6 * (k + 1))) (by dsimp only; omega) (by dsimp only; omega)) ?_
        exact w_law_b2099 hI σ k hk p1 p2 p3 p4 v222 (1 : Int64) v220.2
    · refine sj (j_sub hJ (L' := [(0, .ref roB), (1, .ref p1), (2, .ref p2), (3, .ref p3), (4, .int p4)]) [2, 3, 4, 5, 6] rfl) ?_
      refine sj (j_beta hJ (β' := (600 - (k + 1), 3600 - 6 * (k + 1))) (by dsimp only; omega) (by dsimp only; omega)) ?_
      exact w_law_b2105 hI σ k hk p1 p2 p3 p4 v220.2
  · refine sj (j_iconst hJ (v := 0) dL_law_2079 ic_0) ?_
    exact sj_none
def m_law_b2108 (xs : Nat → Int32) (N : Nat) (σ : St) (k : Nat) (p1 : Nat) (p2 : Nat) (p3 : Nat) (p4 : Int32) (δ : Dy) : Option ((Nat × Int32 × Dy) ⊕ Unit) :=
  (chk σ 11 p1).bind fun _ => (m_X11_tokens σ p1 δ).bind fun v223 =>
  (chk σ 12 p2).bind fun _ => (m_X12_tokens σ p2 δ).bind fun v224 =>
  if v223 = v224.1 then
    m_law_b2400 xs N σ k p1 p2 p3 p4 v224.2
  else
    none
set_option maxHeartbeats 8000000 in
set_option maxRecDepth 100000 in
theorem w_law_b2108 {xs : Nat → Int32} {N : Nat} {J : JT} (hI : IsL xs N J) (σ : St) (k : Nat) (hk : k < 600) (p1 : Nat) (p2 : Nat) (p3 : Nat) (p4 : Int32) (δ : Dy) : SJ (m_law_b2108 xs N σ k p1 p2 p3 p4 δ) (PL (fun s : Nat × Int32 × Dy => J 23 [(0, .ref roB), (1, .ref p1), (2, .ref p2), (3, .ref p3), (4, .int s.2.1)] [] (600 - s.1, 3600 - 6 * s.1) σ s.2.2) (fun _ : Unit => True)) (J 2108 [(0, .ref roB), (1, .ref p1), (2, .ref p2), (3, .ref p3), (4, .int p4)] [] (600 - k, 3600 - 6 * k) σ δ) := by
  have hJ := hI.cor
  unfold m_law_b2108
  refine sj (j_aload_n hJ dL_law_2108 rfl 1 rfl) ?_
  refine sj_callVip hJ [] (st := []) (fr' := 0) (lo' := 0) ml_L_213 hc_11 (by decide) (by decide) (Nat.le_of_ble_eq_true rfl) dL_law_2109 rfl (fun _ h9 => ct_X11_tokens h9) (fun v223 => ?_)
  refine sj (j_aload_n hJ dL_law_2112 rfl 2 rfl) ?_
  refine sj_callVi hJ [] (st := [.int v223]) (fr' := 0) (lo' := 0) ml_L_216 hc_12 (by decide) (by decide) (Nat.le_of_ble_eq_true rfl) dL_law_2113 rfl (fun _ h9 => ct_X12_tokens h9) (fun v224 => ?_)
  refine sj_if (j_icmp_eq hJ (tgt := 2400) dL_law_2116 (by decide)) (fun _ => ?_) (fun _ => ?_)
  · refine sj (j_beta hJ (β' := (600 - (k + 1), 3600 - 6 * (k + 1))) (by dsimp only; omega) (by dsimp only; omega)) ?_
    exact w_law_b2400 hI σ k hk p1 p2 p3 p4 v224.2
  · refine sj (j_iconst hJ (v := 0) dL_law_2119 ic_0) ?_
    exact sj_none
def m_law_b2186 (xs : Nat → Int32) (N : Nat) (σ : St) (k : Nat) (p1 : Nat) (p2 : Nat) (p3 : Nat) (p4 : Int32) (δ : Dy) : Option ((Nat × Int32 × Dy) ⊕ Unit) :=
  m_law_b2400 xs N σ k p1 p2 p3 p4 δ
set_option maxHeartbeats 8000000 in
set_option maxRecDepth 100000 in
theorem w_law_b2186 {xs : Nat → Int32} {N : Nat} {J : JT} (hI : IsL xs N J) (σ : St) (k : Nat) (hk : k < 600) (p1 : Nat) (p2 : Nat) (p3 : Nat) (p4 : Int32) (δ : Dy) : SJ (m_law_b2186 xs N σ k p1 p2 p3 p4 δ) (PL (fun s : Nat × Int32 × Dy => J 23 [(0, .ref roB), (1, .ref p1), (2, .ref p2), (3, .ref p3), (4, .int s.2.1)] [] (600 - s.1, 3600 - 6 * s.1) σ s.2.2) (fun _ : Unit => True)) (J 2186 [(0, .ref roB), (1, .ref p1), (2, .ref p2), (3, .ref p3), (4, .int p4)] [] (600 - (k + 1), 3600 - 6 * (k + 1)) σ δ) := by
  have hJ := hI.cor
  unfold m_law_b2186
  refine sj (j_goto hJ (tgt := 2400) dL_law_2186 (by decide)) ?_
  refine sj (j_beta hJ (β' := (600 - (k + 1), 3600 - 6 * (k + 1))) (by dsimp only; omega) (by dsimp only; omega)) ?_
  exact w_law_b2400 hI σ k hk p1 p2 p3 p4 δ
def m_law_b2121 (xs : Nat → Int32) (N : Nat) (σ : St) (k : Nat) (p1 : Nat) (p2 : Nat) (p3 : Nat) (p4 : Int32) (δ : Dy) : Option ((Nat × Int32 × Dy) ⊕ Unit) :=
  (rS xs N (p4 + (1 : Int32))).bind fun v225 =>
  (rS xs N (p4 + (2 : Int32))).bind fun v226 =>
  (m_L_part σ p1 v225 v226 p3 δ).bind fun v227 =>
  (rS xs N (p4 + (1 : Int32))).bind fun v228 =>
  (rS xs N (p4 + (2 : Int32))).bind fun v229 =>
  (chk σ 12 p2).bind fun _ => (m_X12_part σ p2 v228 v229 v227.2).bind fun v230 =>
  (chk σ 12 p2).bind fun _ => (m_X12_thrown σ p2 v230.2).bind fun v231 =>
  if v231 = v227.1 then
    if v227.1 = 0 then
      (rL σ v230.2 p3 (0 : Int32)).bind fun v232 =>
      if (lg_cmp v232 (v230.1).toInt64) = 0 then
        m_law_b2186 xs N σ k p1 p2 p3 p4 v230.2
      else
        none
    else
      m_law_b2186 xs N σ k p1 p2 p3 p4 v230.2
  else
    none
set_option maxHeartbeats 8000000 in
set_option maxRecDepth 100000 in
theorem w_law_b2121 {xs : Nat → Int32} {N : Nat} {J : JT} (hI : IsL xs N J) (σ : St) (k : Nat) (hk : k < 600) (p1 : Nat) (p2 : Nat) (p3 : Nat) (p4 : Int32) (δ : Dy) : SJ (m_law_b2121 xs N σ k p1 p2 p3 p4 δ) (PL (fun s : Nat × Int32 × Dy => J 23 [(0, .ref roB), (1, .ref p1), (2, .ref p2), (3, .ref p3), (4, .int s.2.1)] [] (600 - s.1, 3600 - 6 * s.1) σ s.2.2) (fun _ : Unit => True)) (J 2121 [(0, .ref roB), (1, .ref p1), (2, .ref p2), (3, .ref p3), (4, .int p4)] [] (600 - k, 3600 - 6 * k) σ δ) := by
  have hJ := hI.cor
  unfold m_law_b2121
  refine sj (j_aload_n hJ dL_law_2121 rfl 1 rfl) ?_
  refine sj (j_aload_n hJ dL_law_2122 rfl 0 rfl) ?_
  refine sj (j_iload hJ dL_law_2123 4 rfl) ?_
  refine sj (j_iconst hJ (v := 1) dL_law_2125 ic_1) ?_
  refine sj (j_iadd hJ dL_law_2126) ?_
  refine sl_rS hI dL_law_2127 (fun v225 => ?_)
  refine sj (j_aload_n hJ dL_law_2128 rfl 0 rfl) ?_
  refine sj (j_iload hJ dL_law_2129 4 rfl) ?_
  refine sj (j_iconst hJ (v := 2) dL_law_2131 ic_2) ?_
  refine sj (j_iadd hJ dL_law_2132) ?_
  refine sl_rS hI dL_law_2133 (fun v226 => ?_)
  refine sj (j_aload_n hJ dL_law_2134 rfl 3 rfl) ?_
  refine sl_callW hJ [.ref p1, .int v225, .int v226, .ref p3] (st := []) (fr' := 11) (lo' := 273) mlw_217 (by decide) (by decide) (Nat.le_of_ble_eq_true rfl) (by dsimp only; omega) (by dsimp only; omega) dL_law_2135 rfl (fun _ h9 => ct_L_part h9) (fun v227 => ?_)
  refine sj (j_istore hJ (L' := [(5, .int v227.1), (0, .ref roB), (1, .ref p1), (2, .ref p2), (3, .ref p3), (4, .int p4)]) dL_law_2138 (by decide) rfl) ?_
  refine sj (j_aload_n hJ dL_law_2140 rfl 3 rfl) ?_
  refine sj (j_aload_n hJ dL_law_2141 rfl 1 rfl) ?_
  refine sj (j_iload hJ dL_law_2142 5 rfl) ?_
  refine sj (j_iconst hJ (v := 1) dL_law_2144 ic_1) ?_
  refine sj (j_iadd hJ dL_law_2145) ?_
  refine sl_rS hI dL_law_2146 (fun v228 => ?_)
  refine sj (j_aload_n hJ dL_law_2147 rfl 1 rfl) ?_
  refine sj (j_iload hJ dL_law_2148 5 rfl) ?_
  refine sj (j_iconst hJ (v := 2) dL_law_2150 ic_2) ?_
  refine sj (j_iadd hJ dL_law_2151) ?_
  refine sl_rS hI dL_law_2152 (fun v229 => ?_)
  refine sj_callVi hJ [.int v228, .int v229] (st := []) (fr' := 2) (lo' := 43) ml_L_219 hc_12 (by decide) (by decide) (Nat.le_of_ble_eq_true rfl) dL_law_2153 rfl (fun _ h9 => ct_X12_part h9) (fun v230 => ?_)
  refine sj (j_istore hJ (L' := [(6, .int v230.1), (5, .int v227.1), (0, .ref roB), (1, .ref p1), (2, .ref p2), (3, .ref p3), (4, .int p4)]) dL_law_2156 (by decide) rfl) ?_
  refine sj (j_aload_n hJ dL_law_2158 rfl 4 rfl) ?_
  refine sj_callVip hJ [] (st := []) (fr' := 0) (lo' := 0) ml_L_119 hc_12 (by decide) (by decide) (Nat.le_of_ble_eq_true rfl) dL_law_2159 rfl (fun _ h9 => ct_X12_thrown h9) (fun v231 => ?_)
  refine sj (j_iload hJ dL_law_2162 1 rfl) ?_
  refine sj_if (j_icmp_eq hJ (tgt := 2169) dL_law_2164 (by decide)) (fun _ => ?_) (fun _ => ?_)
  · refine sj (j_iload hJ dL_law_2169 1 rfl) ?_
    refine sj_if (j_if_ne hJ (tgt := 2186) dL_law_2171 (by decide)) (fun _ => ?_) (fun _ => ?_)
    · refine sj (j_aload_n hJ dL_law_2174 rfl 5 rfl) ?_
      refine sj (j_iconst hJ (v := 0) dL_law_2175 ic_0) ?_
      refine sj_rL hJ dL_law_2176 (fun v232 => ?_)
      refine sj (j_iload hJ dL_law_2177 0 rfl) ?_
      refine sj (j_i2l hJ dL_law_2179) ?_
      refine sj (j_lcmp hJ dL_law_2180) ?_
      refine sj_if (j_if_eq hJ (tgt := 2186) dL_law_2181 (by decide)) (fun _ => ?_) (fun _ => ?_)
      · refine sj (j_sub hJ (L' := [(0, .ref roB), (1, .ref p1), (2, .ref p2), (3, .ref p3), (4, .int p4)]) [2, 3, 4, 5, 6] rfl) ?_
        refine sj (j_beta hJ (β' := (600 - (k + 1), 3600 - 6 * (k + 1))) (by dsimp only; omega) (by dsimp only; omega)) ?_
        exact w_law_b2186 hI σ k hk p1 p2 p3 p4 v230.2
      · refine sj (j_iconst hJ (v := 0) dL_law_2184 ic_0) ?_
        exact sj_none
    · refine sj (j_sub hJ (L' := [(0, .ref roB), (1, .ref p1), (2, .ref p2), (3, .ref p3), (4, .int p4)]) [2, 3, 4, 5, 6] rfl) ?_
      refine sj (j_beta hJ (β' := (600 - (k + 1), 3600 - 6 * (k + 1))) (by dsimp only; omega) (by dsimp only; omega)) ?_
      exact w_law_b2186 hI σ k hk p1 p2 p3 p4 v230.2
  · refine sj (j_iconst hJ (v := 0) dL_law_2167 ic_0) ?_
    exact sj_none
def m_law_b2261 (xs : Nat → Int32) (N : Nat) (σ : St) (k : Nat) (p1 : Nat) (p2 : Nat) (p3 : Nat) (p4 : Int32) (δ : Dy) : Option ((Nat × Int32 × Dy) ⊕ Unit) :=
  m_law_b2400 xs N σ k p1 p2 p3 p4 δ
set_option maxHeartbeats 8000000 in
set_option maxRecDepth 100000 in
theorem w_law_b2261 {xs : Nat → Int32} {N : Nat} {J : JT} (hI : IsL xs N J) (σ : St) (k : Nat) (hk : k < 600) (p1 : Nat) (p2 : Nat) (p3 : Nat) (p4 : Int32) (δ : Dy) : SJ (m_law_b2261 xs N σ k p1 p2 p3 p4 δ) (PL (fun s : Nat × Int32 × Dy => J 23 [(0, .ref roB), (1, .ref p1), (2, .ref p2), (3, .ref p3), (4, .int s.2.1)] [] (600 - s.1, 3600 - 6 * s.1) σ s.2.2) (fun _ : Unit => True)) (J 2261 [(0, .ref roB), (1, .ref p1), (2, .ref p2), (3, .ref p3), (4, .int p4)] [] (600 - (k + 1), 3600 - 6 * (k + 1)) σ δ) := by
  have hJ := hI.cor
  unfold m_law_b2261
  refine sj (j_goto hJ (tgt := 2400) dL_law_2261 (by decide)) ?_
  refine sj (j_beta hJ (β' := (600 - (k + 1), 3600 - 6 * (k + 1))) (by dsimp only; omega) (by dsimp only; omega)) ?_
  exact w_law_b2400 hI σ k hk p1 p2 p3 p4 δ
def m_law_b2255 (xs : Nat → Int32) (N : Nat) (σ : St) (k : Nat) (p1 : Nat) (p2 : Nat) (p3 : Nat) (p4 : Int32) (q0 : Int64) (q1 : Int64) (δ : Dy) : Option ((Nat × Int32 × Dy) ⊕ Unit) :=
  if (lg_cmp q0 q1) = 0 then
    m_law_b2261 xs N σ k p1 p2 p3 p4 δ
  else
    none
set_option maxHeartbeats 8000000 in
set_option maxRecDepth 100000 in
theorem w_law_b2255 {xs : Nat → Int32} {N : Nat} {J : JT} (hI : IsL xs N J) (σ : St) (k : Nat) (hk : k < 600) (p1 : Nat) (p2 : Nat) (p3 : Nat) (p4 : Int32) (q0 : Int64) (q1 : Int64) (δ : Dy) : SJ (m_law_b2255 xs N σ k p1 p2 p3 p4 q0 q1 δ) (PL (fun s : Nat × Int32 × Dy => J 23 [(0, .ref roB), (1, .ref p1), (2, .ref p2), (3, .ref p3), (4, .int s.2.1)] [] (600 - s.1, 3600 - 6 * s.1) σ s.2.2) (fun _ : Unit => True)) (J 2255 [(0, .ref roB), (1, .ref p1), (2, .ref p2), (3, .ref p3), (4, .int p4)] [.long q1, .long q0] (600 - (k + 1), 3600 - 6 * (k + 1)) σ δ) := by
  have hJ := hI.cor
  unfold m_law_b2255
  refine sj (j_lcmp hJ dL_law_2255) ?_
  refine sj_if (j_if_eq hJ (tgt := 2261) dL_law_2256 (by decide)) (fun _ => ?_) (fun _ => ?_)
  · refine sj (j_beta hJ (β' := (600 - (k + 1), 3600 - 6 * (k + 1))) (by dsimp only; omega) (by dsimp only; omega)) ?_
    exact w_law_b2261 hI σ k hk p1 p2 p3 p4 δ
  · refine sj (j_iconst hJ (v := 0) dL_law_2259 ic_0) ?_
    exact sj_none
def m_law_b2189 (xs : Nat → Int32) (N : Nat) (σ : St) (k : Nat) (p1 : Nat) (p2 : Nat) (p3 : Nat) (p4 : Int32) (δ : Dy) : Option ((Nat × Int32 × Dy) ⊕ Unit) :=
  (rS xs N (p4 + (1 : Int32))).bind fun v233 =>
  (rS xs N (p4 + (2 : Int32))).bind fun v234 =>
  (m_L_isMadeBy σ p1 v233 v234 p3 δ).bind fun v235 =>
  (rS xs N (p4 + (1 : Int32))).bind fun v236 =>
  (rS xs N (p4 + (2 : Int32))).bind fun v237 =>
  (chk σ 12 p2).bind fun _ => (m_X12_isMadeBy σ p2 v236 v237 v235.2).bind fun v238 =>
  (chk σ 12 p2).bind fun _ => (m_X12_thrown σ p2 v238.2).bind fun v239 =>
  if v239 = v235.1 then
    if v235.1 = 0 then
      (rL σ v238.2 p3 (0 : Int32)).bind fun v240 =>
      if v238.1 = 0 then
        m_law_b2255 xs N σ k p1 p2 p3 p4 v240 (0 : Int64) v238.2
      else
        m_law_b2255 xs N σ k p1 p2 p3 p4 v240 (1 : Int64) v238.2
    else
      m_law_b2261 xs N σ k p1 p2 p3 p4 v238.2
  else
    none
set_option maxHeartbeats 8000000 in
set_option maxRecDepth 100000 in
theorem w_law_b2189 {xs : Nat → Int32} {N : Nat} {J : JT} (hI : IsL xs N J) (σ : St) (k : Nat) (hk : k < 600) (p1 : Nat) (p2 : Nat) (p3 : Nat) (p4 : Int32) (δ : Dy) : SJ (m_law_b2189 xs N σ k p1 p2 p3 p4 δ) (PL (fun s : Nat × Int32 × Dy => J 23 [(0, .ref roB), (1, .ref p1), (2, .ref p2), (3, .ref p3), (4, .int s.2.1)] [] (600 - s.1, 3600 - 6 * s.1) σ s.2.2) (fun _ : Unit => True)) (J 2189 [(0, .ref roB), (1, .ref p1), (2, .ref p2), (3, .ref p3), (4, .int p4)] [] (600 - k, 3600 - 6 * k) σ δ) := by
  have hJ := hI.cor
  unfold m_law_b2189
  refine sj (j_aload_n hJ dL_law_2189 rfl 1 rfl) ?_
  refine sj (j_aload_n hJ dL_law_2190 rfl 0 rfl) ?_
  refine sj (j_iload hJ dL_law_2191 4 rfl) ?_
  refine sj (j_iconst hJ (v := 1) dL_law_2193 ic_1) ?_
  refine sj (j_iadd hJ dL_law_2194) ?_
  refine sl_rS hI dL_law_2195 (fun v233 => ?_)
  refine sj (j_aload_n hJ dL_law_2196 rfl 0 rfl) ?_
  refine sj (j_iload hJ dL_law_2197 4 rfl) ?_
  refine sj (j_iconst hJ (v := 2) dL_law_2199 ic_2) ?_
  refine sj (j_iadd hJ dL_law_2200) ?_
  refine sl_rS hI dL_law_2201 (fun v234 => ?_)
  refine sj (j_aload_n hJ dL_law_2202 rfl 3 rfl) ?_
  refine sl_callW hJ [.ref p1, .int v233, .int v234, .ref p3] (st := []) (fr' := 11) (lo' := 272) mlw_220 (by decide) (by decide) (Nat.le_of_ble_eq_true rfl) (by dsimp only; omega) (by dsimp only; omega) dL_law_2203 rfl (fun _ h9 => ct_L_isMadeBy h9) (fun v235 => ?_)
  refine sj (j_istore hJ (L' := [(5, .int v235.1), (0, .ref roB), (1, .ref p1), (2, .ref p2), (3, .ref p3), (4, .int p4)]) dL_law_2206 (by decide) rfl) ?_
  refine sj (j_aload_n hJ dL_law_2208 rfl 3 rfl) ?_
  refine sj (j_aload_n hJ dL_law_2209 rfl 1 rfl) ?_
  refine sj (j_iload hJ dL_law_2210 5 rfl) ?_
  refine sj (j_iconst hJ (v := 1) dL_law_2212 ic_1) ?_
  refine sj (j_iadd hJ dL_law_2213) ?_
  refine sl_rS hI dL_law_2214 (fun v236 => ?_)
  refine sj (j_aload_n hJ dL_law_2215 rfl 1 rfl) ?_
  refine sj (j_iload hJ dL_law_2216 5 rfl) ?_
  refine sj (j_iconst hJ (v := 2) dL_law_2218 ic_2) ?_
  refine sj (j_iadd hJ dL_law_2219) ?_
  refine sl_rS hI dL_law_2220 (fun v237 => ?_)
  refine sj_callVi hJ [.int v236, .int v237] (st := []) (fr' := 2) (lo' := 43) ml_L_222 hc_12 (by decide) (by decide) (Nat.le_of_ble_eq_true rfl) dL_law_2221 rfl (fun _ h9 => ct_X12_isMadeBy h9) (fun v238 => ?_)
  refine sj (j_istore hJ (L' := [(6, .int v238.1), (5, .int v235.1), (0, .ref roB), (1, .ref p1), (2, .ref p2), (3, .ref p3), (4, .int p4)]) dL_law_2224 (by decide) rfl) ?_
  refine sj (j_aload_n hJ dL_law_2226 rfl 4 rfl) ?_
  refine sj_callVip hJ [] (st := []) (fr' := 0) (lo' := 0) ml_L_119 hc_12 (by decide) (by decide) (Nat.le_of_ble_eq_true rfl) dL_law_2227 rfl (fun _ h9 => ct_X12_thrown h9) (fun v239 => ?_)
  refine sj (j_iload hJ dL_law_2230 1 rfl) ?_
  refine sj_if (j_icmp_eq hJ (tgt := 2237) dL_law_2232 (by decide)) (fun _ => ?_) (fun _ => ?_)
  · refine sj (j_iload hJ dL_law_2237 1 rfl) ?_
    refine sj_if (j_if_ne hJ (tgt := 2261) dL_law_2239 (by decide)) (fun _ => ?_) (fun _ => ?_)
    · refine sj (j_aload_n hJ dL_law_2242 rfl 5 rfl) ?_
      refine sj (j_iconst hJ (v := 0) dL_law_2243 ic_0) ?_
      refine sj_rL hJ dL_law_2244 (fun v240 => ?_)
      refine sj (j_iload hJ dL_law_2245 0 rfl) ?_
      refine sj_if (j_if_eq hJ (tgt := 2254) dL_law_2247 (by decide)) (fun _ => ?_) (fun _ => ?_)
      · refine sj (j_lconst hJ (v := 0) dL_law_2254 rfl) ?_
        refine sj (j_sub hJ (L' := [(0, .ref roB), (1, .ref p1), (2, .ref p2), (3, .ref p3), (4, .int p4)]) [2, 3, 4, 5, 6] rfl) ?_
        refine sj (j_beta hJ (β' := (600 - (k + 1), 3600 - 6 * (k + 1))) (by dsimp only; omega) (by dsimp only; omega)) ?_
        exact w_law_b2255 hI σ k hk p1 p2 p3 p4 v240 (0 : Int64) v238.2
      · refine sj (j_lconst hJ (v := 1) dL_law_2250 rfl) ?_
        refine sj (j_goto hJ (tgt := 2255) dL_law_2251 (by decide)) ?_
        refine sj (j_sub hJ (L' := [(0, .ref roB), (1, .ref p1), (2, .ref p2), (3, .ref p3), (4, .int p4)]) [2, 3, 4, 5, 6] rfl) ?_
        refine sj (j_beta hJ (β' := (600 - (k + 1), 3600 - 6 * (k + 1))) (by dsimp only; omega) (by dsimp only; omega)) ?_
        exact w_law_b2255 hI σ k hk p1 p2 p3 p4 v240 (1 : Int64) v238.2
    · refine sj (j_sub hJ (L' := [(0, .ref roB), (1, .ref p1), (2, .ref p2), (3, .ref p3), (4, .int p4)]) [2, 3, 4, 5, 6] rfl) ?_
      refine sj (j_beta hJ (β' := (600 - (k + 1), 3600 - 6 * (k + 1))) (by dsimp only; omega) (by dsimp only; omega)) ?_
      exact w_law_b2261 hI σ k hk p1 p2 p3 p4 v238.2
  · refine sj (j_iconst hJ (v := 0) dL_law_2235 ic_0) ?_
    exact sj_none
def m_law_b2264 (xs : Nat → Int32) (N : Nat) (σ : St) (k : Nat) (p1 : Nat) (p2 : Nat) (p3 : Nat) (p4 : Int32) (δ : Dy) : Option ((Nat × Int32 × Dy) ⊕ Unit) :=
  (chk σ 11 p1).bind fun _ => (m_X11_standing σ p1 δ).bind fun v241 =>
  (chk σ 12 p2).bind fun _ => (m_X12_standing σ p2 δ).bind fun v242 =>
  if v241 = v242.1 then
    m_law_b2400 xs N σ k p1 p2 p3 p4 v242.2
  else
    none
set_option maxHeartbeats 8000000 in
set_option maxRecDepth 100000 in
theorem w_law_b2264 {xs : Nat → Int32} {N : Nat} {J : JT} (hI : IsL xs N J) (σ : St) (k : Nat) (hk : k < 600) (p1 : Nat) (p2 : Nat) (p3 : Nat) (p4 : Int32) (δ : Dy) : SJ (m_law_b2264 xs N σ k p1 p2 p3 p4 δ) (PL (fun s : Nat × Int32 × Dy => J 23 [(0, .ref roB), (1, .ref p1), (2, .ref p2), (3, .ref p3), (4, .int s.2.1)] [] (600 - s.1, 3600 - 6 * s.1) σ s.2.2) (fun _ : Unit => True)) (J 2264 [(0, .ref roB), (1, .ref p1), (2, .ref p2), (3, .ref p3), (4, .int p4)] [] (600 - k, 3600 - 6 * k) σ δ) := by
  have hJ := hI.cor
  unfold m_law_b2264
  refine sj (j_aload_n hJ dL_law_2264 rfl 1 rfl) ?_
  refine sj_callVip hJ [] (st := []) (fr' := 1) (lo' := 22) ml_L_223 hc_11 (by decide) (by decide) (Nat.le_of_ble_eq_true rfl) dL_law_2265 rfl (fun _ h9 => ct_X11_standing h9) (fun v241 => ?_)
  refine sj (j_aload_n hJ dL_law_2268 rfl 2 rfl) ?_
  refine sj_callVi hJ [] (st := [.int v241]) (fr' := 0) (lo' := 0) ml_L_226 hc_12 (by decide) (by decide) (Nat.le_of_ble_eq_true rfl) dL_law_2269 rfl (fun _ h9 => ct_X12_standing h9) (fun v242 => ?_)
  refine sj_if (j_icmp_eq hJ (tgt := 2400) dL_law_2272 (by decide)) (fun _ => ?_) (fun _ => ?_)
  · refine sj (j_beta hJ (β' := (600 - (k + 1), 3600 - 6 * (k + 1))) (by dsimp only; omega) (by dsimp only; omega)) ?_
    exact w_law_b2400 hI σ k hk p1 p2 p3 p4 v242.2
  · refine sj (j_iconst hJ (v := 0) dL_law_2275 ic_0) ?_
    exact sj_none
def m_law_b2277 (xs : Nat → Int32) (N : Nat) (σ : St) (k : Nat) (p1 : Nat) (p2 : Nat) (p3 : Nat) (p4 : Int32) (δ : Dy) : Option ((Nat × Int32 × Dy) ⊕ Unit) :=
  (chk σ 11 p1).bind fun _ => (m_X11_standingAnew σ p1 δ).bind fun v243 =>
  (chk σ 12 p2).bind fun _ => (m_X12_standingAnew σ p2 v243.2).bind fun v244 =>
  if v243.1 = v244.1 then
    m_law_b2400 xs N σ k p1 p2 p3 p4 v244.2
  else
    none
set_option maxHeartbeats 8000000 in
set_option maxRecDepth 100000 in
theorem w_law_b2277 {xs : Nat → Int32} {N : Nat} {J : JT} (hI : IsL xs N J) (σ : St) (k : Nat) (hk : k < 600) (p1 : Nat) (p2 : Nat) (p3 : Nat) (p4 : Int32) (δ : Dy) : SJ (m_law_b2277 xs N σ k p1 p2 p3 p4 δ) (PL (fun s : Nat × Int32 × Dy => J 23 [(0, .ref roB), (1, .ref p1), (2, .ref p2), (3, .ref p3), (4, .int s.2.1)] [] (600 - s.1, 3600 - 6 * s.1) σ s.2.2) (fun _ : Unit => True)) (J 2277 [(0, .ref roB), (1, .ref p1), (2, .ref p2), (3, .ref p3), (4, .int p4)] [] (600 - k, 3600 - 6 * k) σ δ) := by
  have hJ := hI.cor
  unfold m_law_b2277
  refine sj (j_aload_n hJ dL_law_2277 rfl 1 rfl) ?_
  refine sj_callVi hJ [] (st := []) (fr' := 7) (lo' := 181) ml_L_227 hc_11 (by decide) (by decide) (Nat.le_of_ble_eq_true rfl) dL_law_2278 rfl (fun _ h9 => ct_X11_standingAnew h9) (fun v243 => ?_)
  refine sj (j_aload_n hJ dL_law_2281 rfl 2 rfl) ?_
  refine sj_callVi hJ [] (st := [.int v243.1]) (fr' := 1) (lo' := 22) ml_L_230 hc_12 (by decide) (by decide) (Nat.le_of_ble_eq_true rfl) dL_law_2282 rfl (fun _ h9 => ct_X12_standingAnew h9) (fun v244 => ?_)
  refine sj_if (j_icmp_eq hJ (tgt := 2400) dL_law_2285 (by decide)) (fun _ => ?_) (fun _ => ?_)
  · refine sj (j_beta hJ (β' := (600 - (k + 1), 3600 - 6 * (k + 1))) (by dsimp only; omega) (by dsimp only; omega)) ?_
    exact w_law_b2400 hI σ k hk p1 p2 p3 p4 v244.2
  · refine sj (j_iconst hJ (v := 0) dL_law_2288 ic_0) ?_
    exact sj_none
def m_law_b2290 (xs : Nat → Int32) (N : Nat) (σ : St) (k : Nat) (p1 : Nat) (p2 : Nat) (p3 : Nat) (p4 : Int32) (δ : Dy) : Option ((Nat × Int32 × Dy) ⊕ Unit) :=
  (chk σ 11 p1).bind fun _ => (m_X11_waiting σ p1 δ).bind fun v245 =>
  (chk σ 12 p2).bind fun _ => (m_X12_waiting σ p2 δ).bind fun v246 =>
  if v245 = v246.1 then
    m_law_b2400 xs N σ k p1 p2 p3 p4 v246.2
  else
    none
set_option maxHeartbeats 8000000 in
set_option maxRecDepth 100000 in
theorem w_law_b2290 {xs : Nat → Int32} {N : Nat} {J : JT} (hI : IsL xs N J) (σ : St) (k : Nat) (hk : k < 600) (p1 : Nat) (p2 : Nat) (p3 : Nat) (p4 : Int32) (δ : Dy) : SJ (m_law_b2290 xs N σ k p1 p2 p3 p4 δ) (PL (fun s : Nat × Int32 × Dy => J 23 [(0, .ref roB), (1, .ref p1), (2, .ref p2), (3, .ref p3), (4, .int s.2.1)] [] (600 - s.1, 3600 - 6 * s.1) σ s.2.2) (fun _ : Unit => True)) (J 2290 [(0, .ref roB), (1, .ref p1), (2, .ref p2), (3, .ref p3), (4, .int p4)] [] (600 - k, 3600 - 6 * k) σ δ) := by
  have hJ := hI.cor
  unfold m_law_b2290
  refine sj (j_aload_n hJ dL_law_2290 rfl 1 rfl) ?_
  refine sj_callVip hJ [] (st := []) (fr' := 1) (lo' := 20) ml_L_231 hc_11 (by decide) (by decide) (Nat.le_of_ble_eq_true rfl) dL_law_2291 rfl (fun _ h9 => ct_X11_waiting h9) (fun v245 => ?_)
  refine sj (j_aload_n hJ dL_law_2294 rfl 2 rfl) ?_
  refine sj_callVi hJ [] (st := [.int v245]) (fr' := 0) (lo' := 0) ml_L_234 hc_12 (by decide) (by decide) (Nat.le_of_ble_eq_true rfl) dL_law_2295 rfl (fun _ h9 => ct_X12_waiting h9) (fun v246 => ?_)
  refine sj_if (j_icmp_eq hJ (tgt := 2400) dL_law_2298 (by decide)) (fun _ => ?_) (fun _ => ?_)
  · refine sj (j_beta hJ (β' := (600 - (k + 1), 3600 - 6 * (k + 1))) (by dsimp only; omega) (by dsimp only; omega)) ?_
    exact w_law_b2400 hI σ k hk p1 p2 p3 p4 v246.2
  · refine sj (j_iconst hJ (v := 0) dL_law_2301 ic_0) ?_
    exact sj_none
def m_law_b2356 (xs : Nat → Int32) (N : Nat) (σ : St) (k : Nat) (p1 : Nat) (p2 : Nat) (p3 : Nat) (p4 : Int32) (δ : Dy) : Option ((Nat × Int32 × Dy) ⊕ Unit) :=
  m_law_b2400 xs N σ k p1 p2 p3 p4 δ
set_option maxHeartbeats 8000000 in
set_option maxRecDepth 100000 in
theorem w_law_b2356 {xs : Nat → Int32} {N : Nat} {J : JT} (hI : IsL xs N J) (σ : St) (k : Nat) (hk : k < 600) (p1 : Nat) (p2 : Nat) (p3 : Nat) (p4 : Int32) (δ : Dy) : SJ (m_law_b2356 xs N σ k p1 p2 p3 p4 δ) (PL (fun s : Nat × Int32 × Dy => J 23 [(0, .ref roB), (1, .ref p1), (2, .ref p2), (3, .ref p3), (4, .int s.2.1)] [] (600 - s.1, 3600 - 6 * s.1) σ s.2.2) (fun _ : Unit => True)) (J 2356 [(0, .ref roB), (1, .ref p1), (2, .ref p2), (3, .ref p3), (4, .int p4)] [] (600 - (k + 1), 3600 - 6 * (k + 1)) σ δ) := by
  have hJ := hI.cor
  unfold m_law_b2356
  refine sj (j_goto hJ (tgt := 2400) dL_law_2356 (by decide)) ?_
  refine sj (j_beta hJ (β' := (600 - (k + 1), 3600 - 6 * (k + 1))) (by dsimp only; omega) (by dsimp only; omega)) ?_
  exact w_law_b2400 hI σ k hk p1 p2 p3 p4 δ
def m_law_b2303 (xs : Nat → Int32) (N : Nat) (σ : St) (k : Nat) (p1 : Nat) (p2 : Nat) (p3 : Nat) (p4 : Int32) (δ : Dy) : Option ((Nat × Int32 × Dy) ⊕ Unit) :=
  (rS xs N (p4 + (1 : Int32))).bind fun v247 =>
  (m_L_fired σ p1 v247 p3 δ).bind fun v248 =>
  (rS xs N (p4 + (1 : Int32))).bind fun v249 =>
  (chk σ 12 p2).bind fun _ => (m_X12_fired σ p2 v249 v248.2).bind fun v250 =>
  (chk σ 12 p2).bind fun _ => (m_X12_thrown σ p2 v250.2).bind fun v251 =>
  if v251 = v248.1 then
    if v248.1 = 0 then
      (rL σ v250.2 p3 (0 : Int32)).bind fun v252 =>
      if (lg_cmp v252 (v250.1).toInt64) = 0 then
        m_law_b2356 xs N σ k p1 p2 p3 p4 v250.2
      else
        none
    else
      m_law_b2356 xs N σ k p1 p2 p3 p4 v250.2
  else
    none
set_option maxHeartbeats 8000000 in
set_option maxRecDepth 100000 in
theorem w_law_b2303 {xs : Nat → Int32} {N : Nat} {J : JT} (hI : IsL xs N J) (σ : St) (k : Nat) (hk : k < 600) (p1 : Nat) (p2 : Nat) (p3 : Nat) (p4 : Int32) (δ : Dy) : SJ (m_law_b2303 xs N σ k p1 p2 p3 p4 δ) (PL (fun s : Nat × Int32 × Dy => J 23 [(0, .ref roB), (1, .ref p1), (2, .ref p2), (3, .ref p3), (4, .int s.2.1)] [] (600 - s.1, 3600 - 6 * s.1) σ s.2.2) (fun _ : Unit => True)) (J 2303 [(0, .ref roB), (1, .ref p1), (2, .ref p2), (3, .ref p3), (4, .int p4)] [] (600 - k, 3600 - 6 * k) σ δ) := by
  have hJ := hI.cor
  unfold m_law_b2303
  refine sj (j_aload_n hJ dL_law_2303 rfl 1 rfl) ?_
  refine sj (j_aload_n hJ dL_law_2304 rfl 0 rfl) ?_
  refine sj (j_iload hJ dL_law_2305 4 rfl) ?_
  refine sj (j_iconst hJ (v := 1) dL_law_2307 ic_1) ?_
  refine sj (j_iadd hJ dL_law_2308) ?_
  refine sl_rS hI dL_law_2309 (fun v247 => ?_)
  refine sj (j_aload_n hJ dL_law_2310 rfl 3 rfl) ?_
  refine sl_callW hJ [.ref p1, .int v247, .ref p3] (st := []) (fr' := 10) (lo' := 250) mlw_235 (by decide) (by decide) (Nat.le_of_ble_eq_true rfl) (by dsimp only; omega) (by dsimp only; omega) dL_law_2311 rfl (fun _ h9 => ct_L_fired h9) (fun v248 => ?_)
  refine sj (j_istore hJ (L' := [(5, .int v248.1), (0, .ref roB), (1, .ref p1), (2, .ref p2), (3, .ref p3), (4, .int p4)]) dL_law_2314 (by decide) rfl) ?_
  refine sj (j_aload_n hJ dL_law_2316 rfl 3 rfl) ?_
  refine sj (j_aload_n hJ dL_law_2317 rfl 1 rfl) ?_
  refine sj (j_iload hJ dL_law_2318 5 rfl) ?_
  refine sj (j_iconst hJ (v := 1) dL_law_2320 ic_1) ?_
  refine sj (j_iadd hJ dL_law_2321) ?_
  refine sl_rS hI dL_law_2322 (fun v249 => ?_)
  refine sj_callVi hJ [.int v249] (st := []) (fr' := 1) (lo' := 22) ml_L_237 hc_12 (by decide) (by decide) (Nat.le_of_ble_eq_true rfl) dL_law_2323 rfl (fun _ h9 => ct_X12_fired h9) (fun v250 => ?_)
  refine sj (j_istore hJ (L' := [(6, .int v250.1), (5, .int v248.1), (0, .ref roB), (1, .ref p1), (2, .ref p2), (3, .ref p3), (4, .int p4)]) dL_law_2326 (by decide) rfl) ?_
  refine sj (j_aload_n hJ dL_law_2328 rfl 4 rfl) ?_
  refine sj_callVip hJ [] (st := []) (fr' := 0) (lo' := 0) ml_L_119 hc_12 (by decide) (by decide) (Nat.le_of_ble_eq_true rfl) dL_law_2329 rfl (fun _ h9 => ct_X12_thrown h9) (fun v251 => ?_)
  refine sj (j_iload hJ dL_law_2332 1 rfl) ?_
  refine sj_if (j_icmp_eq hJ (tgt := 2339) dL_law_2334 (by decide)) (fun _ => ?_) (fun _ => ?_)
  · refine sj (j_iload hJ dL_law_2339 1 rfl) ?_
    refine sj_if (j_if_ne hJ (tgt := 2356) dL_law_2341 (by decide)) (fun _ => ?_) (fun _ => ?_)
    · refine sj (j_aload_n hJ dL_law_2344 rfl 5 rfl) ?_
      refine sj (j_iconst hJ (v := 0) dL_law_2345 ic_0) ?_
      refine sj_rL hJ dL_law_2346 (fun v252 => ?_)
      refine sj (j_iload hJ dL_law_2347 0 rfl) ?_
      refine sj (j_i2l hJ dL_law_2349) ?_
      refine sj (j_lcmp hJ dL_law_2350) ?_
      refine sj_if (j_if_eq hJ (tgt := 2356) dL_law_2351 (by decide)) (fun _ => ?_) (fun _ => ?_)
      · refine sj (j_sub hJ (L' := [(0, .ref roB), (1, .ref p1), (2, .ref p2), (3, .ref p3), (4, .int p4)]) [2, 3, 4, 5, 6] rfl) ?_
        refine sj (j_beta hJ (β' := (600 - (k + 1), 3600 - 6 * (k + 1))) (by dsimp only; omega) (by dsimp only; omega)) ?_
        exact w_law_b2356 hI σ k hk p1 p2 p3 p4 v250.2
      · refine sj (j_iconst hJ (v := 0) dL_law_2354 ic_0) ?_
        exact sj_none
    · refine sj (j_sub hJ (L' := [(0, .ref roB), (1, .ref p1), (2, .ref p2), (3, .ref p3), (4, .int p4)]) [2, 3, 4, 5, 6] rfl) ?_
      refine sj (j_beta hJ (β' := (600 - (k + 1), 3600 - 6 * (k + 1))) (by dsimp only; omega) (by dsimp only; omega)) ?_
      exact w_law_b2356 hI σ k hk p1 p2 p3 p4 v250.2
  · refine sj (j_iconst hJ (v := 0) dL_law_2337 ic_0) ?_
    exact sj_none
def m_law_b2392 (xs : Nat → Int32) (N : Nat) (σ : St) (k : Nat) (p1 : Nat) (p2 : Nat) (p3 : Nat) (p4 : Int32) (q0 : Int32) (q1 : Nat) (q2 : Int32) (δ : Dy) : Option ((Nat × Int32 × Dy) ⊕ Unit) :=
  (chk σ 12 q1).bind fun _ => (m_X12_chance σ q1 q2 δ).bind fun v256 =>
  if q0 = v256.1 then
    m_law_b2400 xs N σ k p1 p2 p3 p4 v256.2
  else
    none
set_option maxHeartbeats 8000000 in
set_option maxRecDepth 100000 in
theorem w_law_b2392 {xs : Nat → Int32} {N : Nat} {J : JT} (hI : IsL xs N J) (σ : St) (k : Nat) (hk : k < 600) (p1 : Nat) (p2 : Nat) (p3 : Nat) (p4 : Int32) (q0 : Int32) (q1 : Nat) (q2 : Int32) (δ : Dy) : SJ (m_law_b2392 xs N σ k p1 p2 p3 p4 q0 q1 q2 δ) (PL (fun s : Nat × Int32 × Dy => J 23 [(0, .ref roB), (1, .ref p1), (2, .ref p2), (3, .ref p3), (4, .int s.2.1)] [] (600 - s.1, 3600 - 6 * s.1) σ s.2.2) (fun _ : Unit => True)) (J 2392 [(0, .ref roB), (1, .ref p1), (2, .ref p2), (3, .ref p3), (4, .int p4)] [.int q2, .ref q1, .int q0] (600 - (k + 1), 3600 - 6 * (k + 1)) σ δ) := by
  have hJ := hI.cor
  unfold m_law_b2392
  refine sj_callVi hJ [.int q2] (st := [.int q0]) (fr' := 1) (lo' := 20) ml_L_242 hc_12 (by decide) (by decide) (Nat.le_of_ble_eq_true rfl) dL_law_2392 rfl (fun _ h9 => ct_X12_chance h9) (fun v256 => ?_)
  refine sj_if (j_icmp_eq hJ (tgt := 2400) dL_law_2395 (by decide)) (fun _ => ?_) (fun _ => ?_)
  · refine sj (j_beta hJ (β' := (600 - (k + 1), 3600 - 6 * (k + 1))) (by dsimp only; omega) (by dsimp only; omega)) ?_
    exact w_law_b2400 hI σ k hk p1 p2 p3 p4 v256.2
  · refine sj (j_iconst hJ (v := 0) dL_law_2398 ic_0) ?_
    exact sj_none
def m_law_b2374 (xs : Nat → Int32) (N : Nat) (σ : St) (k : Nat) (p1 : Nat) (p2 : Nat) (p3 : Nat) (p4 : Int32) (q0 : Nat) (q1 : Int32) (δ : Dy) : Option ((Nat × Int32 × Dy) ⊕ Unit) :=
  (chk σ 11 q0).bind fun _ => (m_X11_chance σ q0 q1 δ).bind fun v254 =>
  (rS xs N (p4 + (1 : Int32))).bind fun v255 =>
  if v255 = 0 then
    m_law_b2392 xs N σ k p1 p2 p3 p4 v254 p2 (0 : Int32) δ
  else
    m_law_b2392 xs N σ k p1 p2 p3 p4 v254 p2 (1 : Int32) δ
set_option maxHeartbeats 8000000 in
set_option maxRecDepth 100000 in
theorem w_law_b2374 {xs : Nat → Int32} {N : Nat} {J : JT} (hI : IsL xs N J) (σ : St) (k : Nat) (hk : k < 600) (p1 : Nat) (p2 : Nat) (p3 : Nat) (p4 : Int32) (q0 : Nat) (q1 : Int32) (δ : Dy) : SJ (m_law_b2374 xs N σ k p1 p2 p3 p4 q0 q1 δ) (PL (fun s : Nat × Int32 × Dy => J 23 [(0, .ref roB), (1, .ref p1), (2, .ref p2), (3, .ref p3), (4, .int s.2.1)] [] (600 - s.1, 3600 - 6 * s.1) σ s.2.2) (fun _ : Unit => True)) (J 2374 [(0, .ref roB), (1, .ref p1), (2, .ref p2), (3, .ref p3), (4, .int p4)] [.int q1, .ref q0] (600 - (k + 1), 3600 - 6 * (k + 1)) σ δ) := by
  have hJ := hI.cor
  unfold m_law_b2374
  refine sj_callVip hJ [.int q1] (st := []) (fr' := 1) (lo' := 26) ml_L_238 hc_11 (by decide) (by decide) (Nat.le_of_ble_eq_true rfl) dL_law_2374 rfl (fun _ h9 => ct_X11_chance h9) (fun v254 => ?_)
  refine sj (j_aload_n hJ dL_law_2377 rfl 2 rfl) ?_
  refine sj (j_aload_n hJ dL_law_2378 rfl 0 rfl) ?_
  refine sj (j_iload hJ dL_law_2379 4 rfl) ?_
  refine sj (j_iconst hJ (v := 1) dL_law_2381 ic_1) ?_
  refine sj (j_iadd hJ dL_law_2382) ?_
  refine sl_rS hI dL_law_2383 (fun v255 => ?_)
  refine sj_if (j_if_eq hJ (tgt := 2391) dL_law_2384 (by decide)) (fun _ => ?_) (fun _ => ?_)
  · refine sj (j_iconst hJ (v := 0) dL_law_2391 ic_0) ?_
    refine sj (j_beta hJ (β' := (600 - (k + 1), 3600 - 6 * (k + 1))) (by dsimp only; omega) (by dsimp only; omega)) ?_
    exact w_law_b2392 hI σ k hk p1 p2 p3 p4 v254 p2 (0 : Int32) δ
  · refine sj (j_iconst hJ (v := 1) dL_law_2387 ic_1) ?_
    refine sj (j_goto hJ (tgt := 2392) dL_law_2388 (by decide)) ?_
    refine sj (j_beta hJ (β' := (600 - (k + 1), 3600 - 6 * (k + 1))) (by dsimp only; omega) (by dsimp only; omega)) ?_
    exact w_law_b2392 hI σ k hk p1 p2 p3 p4 v254 p2 (1 : Int32) δ
def m_law_b2359 (xs : Nat → Int32) (N : Nat) (σ : St) (k : Nat) (p1 : Nat) (p2 : Nat) (p3 : Nat) (p4 : Int32) (δ : Dy) : Option ((Nat × Int32 × Dy) ⊕ Unit) :=
  (rS xs N (p4 + (1 : Int32))).bind fun v253 =>
  if v253 = 0 then
    m_law_b2374 xs N σ k p1 p2 p3 p4 p1 (0 : Int32) δ
  else
    m_law_b2374 xs N σ k p1 p2 p3 p4 p1 (1 : Int32) δ
set_option maxHeartbeats 8000000 in
set_option maxRecDepth 100000 in
theorem w_law_b2359 {xs : Nat → Int32} {N : Nat} {J : JT} (hI : IsL xs N J) (σ : St) (k : Nat) (hk : k < 600) (p1 : Nat) (p2 : Nat) (p3 : Nat) (p4 : Int32) (δ : Dy) : SJ (m_law_b2359 xs N σ k p1 p2 p3 p4 δ) (PL (fun s : Nat × Int32 × Dy => J 23 [(0, .ref roB), (1, .ref p1), (2, .ref p2), (3, .ref p3), (4, .int s.2.1)] [] (600 - s.1, 3600 - 6 * s.1) σ s.2.2) (fun _ : Unit => True)) (J 2359 [(0, .ref roB), (1, .ref p1), (2, .ref p2), (3, .ref p3), (4, .int p4)] [] (600 - k, 3600 - 6 * k) σ δ) := by
  have hJ := hI.cor
  unfold m_law_b2359
  refine sj (j_aload_n hJ dL_law_2359 rfl 1 rfl) ?_
  refine sj (j_aload_n hJ dL_law_2360 rfl 0 rfl) ?_
  refine sj (j_iload hJ dL_law_2361 4 rfl) ?_
  refine sj (j_iconst hJ (v := 1) dL_law_2363 ic_1) ?_
  refine sj (j_iadd hJ dL_law_2364) ?_
  refine sl_rS hI dL_law_2365 (fun v253 => ?_)
  refine sj_if (j_if_eq hJ (tgt := 2373) dL_law_2366 (by decide)) (fun _ => ?_) (fun _ => ?_)
  · refine sj (j_iconst hJ (v := 0) dL_law_2373 ic_0) ?_
    refine sj (j_beta hJ (β' := (600 - (k + 1), 3600 - 6 * (k + 1))) (by dsimp only; omega) (by dsimp only; omega)) ?_
    exact w_law_b2374 hI σ k hk p1 p2 p3 p4 p1 (0 : Int32) δ
  · refine sj (j_iconst hJ (v := 1) dL_law_2369 ic_1) ?_
    refine sj (j_goto hJ (tgt := 2374) dL_law_2370 (by decide)) ?_
    refine sj (j_beta hJ (β' := (600 - (k + 1), 3600 - 6 * (k + 1))) (by dsimp only; omega) (by dsimp only; omega)) ?_
    exact w_law_b2374 hI σ k hk p1 p2 p3 p4 p1 (1 : Int32) δ
def m_law_b23 (xs : Nat → Int32) (N : Nat) (σ : St) (p1 : Nat) (p2 : Nat) (p3 : Nat) (p4 : Int32) (δ : Dy) : Option Unit := lp (fun (s : Nat × Int32 × Dy) =>
  if s.1 < 600 then
    if ((Int32.ofNat N) - (6 : Int32)) < s.2.1 then
      some (Sum.inr ())
    else
      (rS xs N s.2.1).bind fun v1 =>
      if (v1 &&& (63 : Int32)) = (0 : Int32) then
        m_law_b200 xs N σ s.1 p1 p2 p3 s.2.1 s.2.2
      else
      if (v1 &&& (63 : Int32)) = (1 : Int32) then
        m_law_b244 xs N σ s.1 p1 p2 p3 s.2.1 s.2.2
      else
      if (v1 &&& (63 : Int32)) = (2 : Int32) then
        m_law_b312 xs N σ s.1 p1 p2 p3 s.2.1 s.2.2
      else
      if (v1 &&& (63 : Int32)) = (3 : Int32) then
        m_law_b420 xs N σ s.1 p1 p2 p3 s.2.1 s.2.2
      else
      if (v1 &&& (63 : Int32)) = (4 : Int32) then
        m_law_b488 xs N σ s.1 p1 p2 p3 s.2.1 s.2.2
      else
      if (v1 &&& (63 : Int32)) = (5 : Int32) then
        m_law_b580 xs N σ s.1 p1 p2 p3 s.2.1 s.2.2
      else
      if (v1 &&& (63 : Int32)) = (6 : Int32) then
        m_law_b672 xs N σ s.1 p1 p2 p3 s.2.1 s.2.2
      else
      if (v1 &&& (63 : Int32)) = (7 : Int32) then
        m_law_b740 xs N σ s.1 p1 p2 p3 s.2.1 s.2.2
      else
      if (v1 &&& (63 : Int32)) = (8 : Int32) then
        m_law_b820 xs N σ s.1 p1 p2 p3 s.2.1 s.2.2
      else
      if (v1 &&& (63 : Int32)) = (9 : Int32) then
        m_law_b876 xs N σ s.1 p1 p2 p3 s.2.1 s.2.2
      else
      if (v1 &&& (63 : Int32)) = (10 : Int32) then
        m_law_b932 xs N σ s.1 p1 p2 p3 s.2.1 s.2.2
      else
      if (v1 &&& (63 : Int32)) = (11 : Int32) then
        m_law_b1052 xs N σ s.1 p1 p2 p3 s.2.1 s.2.2
      else
      if (v1 &&& (63 : Int32)) = (12 : Int32) then
        m_law_b1144 xs N σ s.1 p1 p2 p3 s.2.1 s.2.2
      else
      if (v1 &&& (63 : Int32)) = (13 : Int32) then
        m_law_b1212 xs N σ s.1 p1 p2 p3 s.2.1 s.2.2
      else
      if (v1 &&& (63 : Int32)) = (14 : Int32) then
        m_law_b1280 xs N σ s.1 p1 p2 p3 s.2.1 s.2.2
      else
      if (v1 &&& (63 : Int32)) = (15 : Int32) then
        m_law_b1395 xs N σ s.1 p1 p2 p3 s.2.1 s.2.2
      else
      if (v1 &&& (63 : Int32)) = (16 : Int32) then
        m_law_b1503 xs N σ s.1 p1 p2 p3 s.2.1 s.2.2
      else
      if (v1 &&& (63 : Int32)) = (17 : Int32) then
        m_law_b1590 xs N σ s.1 p1 p2 p3 s.2.1 s.2.2
      else
      if (v1 &&& (63 : Int32)) = (18 : Int32) then
        m_law_b1670 xs N σ s.1 p1 p2 p3 s.2.1 s.2.2
      else
      if (v1 &&& (63 : Int32)) = (19 : Int32) then
        m_law_b1714 xs N σ s.1 p1 p2 p3 s.2.1 s.2.2
      else
      if (v1 &&& (63 : Int32)) = (20 : Int32) then
        m_law_b1794 xs N σ s.1 p1 p2 p3 s.2.1 s.2.2
      else
      if (v1 &&& (63 : Int32)) = (21 : Int32) then
        m_law_b1838 xs N σ s.1 p1 p2 p3 s.2.1 s.2.2
      else
      if (v1 &&& (63 : Int32)) = (22 : Int32) then
        m_law_b1894 xs N σ s.1 p1 p2 p3 s.2.1 s.2.2
      else
      if (v1 &&& (63 : Int32)) = (23 : Int32) then
        m_law_b1938 xs N σ s.1 p1 p2 p3 s.2.1 s.2.2
      else
      if (v1 &&& (63 : Int32)) = (24 : Int32) then
        m_law_b1951 xs N σ s.1 p1 p2 p3 s.2.1 s.2.2
      else
      if (v1 &&& (63 : Int32)) = (25 : Int32) then
        m_law_b1964 xs N σ s.1 p1 p2 p3 s.2.1 s.2.2
      else
      if (v1 &&& (63 : Int32)) = (26 : Int32) then
        m_law_b1977 xs N σ s.1 p1 p2 p3 s.2.1 s.2.2
      else
      if (v1 &&& (63 : Int32)) = (27 : Int32) then
        m_law_b2033 xs N σ s.1 p1 p2 p3 s.2.1 s.2.2
      else
      if (v1 &&& (63 : Int32)) = (28 : Int32) then
        m_law_b2108 xs N σ s.1 p1 p2 p3 s.2.1 s.2.2
      else
      if (v1 &&& (63 : Int32)) = (29 : Int32) then
        m_law_b2121 xs N σ s.1 p1 p2 p3 s.2.1 s.2.2
      else
      if (v1 &&& (63 : Int32)) = (30 : Int32) then
        m_law_b2189 xs N σ s.1 p1 p2 p3 s.2.1 s.2.2
      else
      if (v1 &&& (63 : Int32)) = (31 : Int32) then
        m_law_b2264 xs N σ s.1 p1 p2 p3 s.2.1 s.2.2
      else
      if (v1 &&& (63 : Int32)) = (32 : Int32) then
        m_law_b2277 xs N σ s.1 p1 p2 p3 s.2.1 s.2.2
      else
      if (v1 &&& (63 : Int32)) = (33 : Int32) then
        m_law_b2290 xs N σ s.1 p1 p2 p3 s.2.1 s.2.2
      else
      if (v1 &&& (63 : Int32)) = (34 : Int32) then
        m_law_b2303 xs N σ s.1 p1 p2 p3 s.2.1 s.2.2
      else
      if (v1 &&& (63 : Int32)) = (35 : Int32) then
        m_law_b2359 xs N σ s.1 p1 p2 p3 s.2.1 s.2.2
      else
      m_law_b2400 xs N σ s.1 p1 p2 p3 s.2.1 s.2.2
  else none) (0, p4, δ)
set_option maxHeartbeats 8000000 in
set_option maxRecDepth 100000 in
theorem w_law_b23 {xs : Nat → Int32} {N : Nat} {J : JT} (hI : IsL xs N J) (σ : St) (p1 : Nat) (p2 : Nat) (p3 : Nat) (p4 : Int32) (δ : Dy) : SJ (m_law_b23 xs N σ p1 p2 p3 p4 δ) (fun _ : Unit => True) (J 23 [(0, .ref roB), (1, .ref p1), (2, .ref p2), (3, .ref p3), (4, .int p4)] [] (600, 3600) σ δ) := by
  have hJ := hI.cor
  unfold m_law_b23
  refine sj_lp (G := fun s : Nat × Int32 × Dy => J 23 [(0, .ref roB), (1, .ref p1), (2, .ref p2), (3, .ref p3), (4, .int s.2.1)] [] (600 - s.1, 3600 - 6 * s.1) σ s.2.2) (fun s => ?_) (0, p4, δ)
  refine sj_ifc (fun hk => ?_) (fun _ => sj_none)
  refine sj (j_iload hJ dL_law_23 4 rfl) ?_
  refine sj (j_aload_n hJ dL_law_25 rfl 0 rfl) ?_
  refine sj (jl_len hI dL_law_26) ?_
  refine sj (j_bipush hJ (v := 6) dL_law_27 ib_6) ?_
  refine sj (j_isub hJ dL_law_29) ?_
  refine sj_if (j_icmp_gt hJ (tgt := 2406) dL_law_30 (by decide)) (fun _ => ?_) (fun _ => ?_)
  · refine sj (j_iconst hJ (v := 1) dL_law_2406 ic_1) ?_
    exact sj_end (fun _ => jl_ret hI dL_law_2407)
  · refine sj (j_aload_n hJ dL_law_33 rfl 0 rfl) ?_
    refine sj (j_iload hJ dL_law_34 4 rfl) ?_
    refine sl_rS hI dL_law_36 (fun v1 => ?_)
    refine sj (j_bipush hJ (v := 63) dL_law_37 ib_63) ?_
    refine sj (j_iand hJ dL_law_39) ?_
    refine sj_ifc (fun h2 => ?_) (fun h2_0 => ?_)
    · refine sj (fun k9 => j_tableIn hJ dL_law_40 (off := 160) (by rw [h2]; decide) (by rw [h2]; decide) (by rw [h2]; decide) (tgt := 200) (by decide) k9) ?_
      refine sj (j_beta hJ (β' := (600 - s.1, 3600 - 6 * s.1)) (by dsimp only; omega) (by dsimp only; omega)) ?_
      exact w_law_b200 hI σ s.1 hk p1 p2 p3 s.2.1 s.2.2
    refine sj_ifc (fun h2 => ?_) (fun h2_1 => ?_)
    · refine sj (fun k9 => j_tableIn hJ dL_law_40 (off := 204) (by rw [h2]; decide) (by rw [h2]; decide) (by rw [h2]; decide) (tgt := 244) (by decide) k9) ?_
      refine sj (j_beta hJ (β' := (600 - s.1, 3600 - 6 * s.1)) (by dsimp only; omega) (by dsimp only; omega)) ?_
      exact w_law_b244 hI σ s.1 hk p1 p2 p3 s.2.1 s.2.2
    refine sj_ifc (fun h2 => ?_) (fun h2_2 => ?_)
    · refine sj (fun k9 => j_tableIn hJ dL_law_40 (off := 272) (by rw [h2]; decide) (by rw [h2]; decide) (by rw [h2]; decide) (tgt := 312) (by decide) k9) ?_
      refine sj (j_beta hJ (β' := (600 - s.1, 3600 - 6 * s.1)) (by dsimp only; omega) (by dsimp only; omega)) ?_
      exact w_law_b312 hI σ s.1 hk p1 p2 p3 s.2.1 s.2.2
    refine sj_ifc (fun h2 => ?_) (fun h2_3 => ?_)
    · refine sj (fun k9 => j_tableIn hJ dL_law_40 (off := 380) (by rw [h2]; decide) (by rw [h2]; decide) (by rw [h2]; decide) (tgt := 420) (by decide) k9) ?_
      refine sj (j_beta hJ (β' := (600 - s.1, 3600 - 6 * s.1)) (by dsimp only; omega) (by dsimp only; omega)) ?_
      exact w_law_b420 hI σ s.1 hk p1 p2 p3 s.2.1 s.2.2
    refine sj_ifc (fun h2 => ?_) (fun h2_4 => ?_)
    · refine sj (fun k9 => j_tableIn hJ dL_law_40 (off := 448) (by rw [h2]; decide) (by rw [h2]; decide) (by rw [h2]; decide) (tgt := 488) (by decide) k9) ?_
      refine sj (j_beta hJ (β' := (600 - s.1, 3600 - 6 * s.1)) (by dsimp only; omega) (by dsimp only; omega)) ?_
      exact w_law_b488 hI σ s.1 hk p1 p2 p3 s.2.1 s.2.2
    refine sj_ifc (fun h2 => ?_) (fun h2_5 => ?_)
    · refine sj (fun k9 => j_tableIn hJ dL_law_40 (off := 540) (by rw [h2]; decide) (by rw [h2]; decide) (by rw [h2]; decide) (tgt := 580) (by decide) k9) ?_
      refine sj (j_beta hJ (β' := (600 - s.1, 3600 - 6 * s.1)) (by dsimp only; omega) (by dsimp only; omega)) ?_
      exact w_law_b580 hI σ s.1 hk p1 p2 p3 s.2.1 s.2.2
    refine sj_ifc (fun h2 => ?_) (fun h2_6 => ?_)
    · refine sj (fun k9 => j_tableIn hJ dL_law_40 (off := 632) (by rw [h2]; decide) (by rw [h2]; decide) (by rw [h2]; decide) (tgt := 672) (by decide) k9) ?_
      refine sj (j_beta hJ (β' := (600 - s.1, 3600 - 6 * s.1)) (by dsimp only; omega) (by dsimp only; omega)) ?_
      exact w_law_b672 hI σ s.1 hk p1 p2 p3 s.2.1 s.2.2
    refine sj_ifc (fun h2 => ?_) (fun h2_7 => ?_)
    · refine sj (fun k9 => j_tableIn hJ dL_law_40 (off := 700) (by rw [h2]; decide) (by rw [h2]; decide) (by rw [h2]; decide) (tgt := 740) (by decide) k9) ?_
      refine sj (j_beta hJ (β' := (600 - s.1, 3600 - 6 * s.1)) (by dsimp only; omega) (by dsimp only; omega)) ?_
      exact w_law_b740 hI σ s.1 hk p1 p2 p3 s.2.1 s.2.2
    refine sj_ifc (fun h2 => ?_) (fun h2_8 => ?_)
    · refine sj (fun k9 => j_tableIn hJ dL_law_40 (off := 780) (by rw [h2]; decide) (by rw [h2]; decide) (by rw [h2]; decide) (tgt := 820) (by decide) k9) ?_
      refine sj (j_beta hJ (β' := (600 - s.1, 3600 - 6 * s.1)) (by dsimp only; omega) (by dsimp only; omega)) ?_
      exact w_law_b820 hI σ s.1 hk p1 p2 p3 s.2.1 s.2.2
    refine sj_ifc (fun h2 => ?_) (fun h2_9 => ?_)
    · refine sj (fun k9 => j_tableIn hJ dL_law_40 (off := 836) (by rw [h2]; decide) (by rw [h2]; decide) (by rw [h2]; decide) (tgt := 876) (by decide) k9) ?_
      refine sj (j_beta hJ (β' := (600 - s.1, 3600 - 6 * s.1)) (by dsimp only; omega) (by dsimp only; omega)) ?_
      exact w_law_b876 hI σ s.1 hk p1 p2 p3 s.2.1 s.2.2
    refine sj_ifc (fun h2 => ?_) (fun h2_10 => ?_)
    · refine sj (fun k9 => j_tableIn hJ dL_law_40 (off := 892) (by rw [h2]; decide) (by rw [h2]; decide) (by rw [h2]; decide) (tgt := 932) (by decide) k9) ?_
      refine sj (j_beta hJ (β' := (600 - s.1, 3600 - 6 * s.1)) (by dsimp only; omega) (by dsimp only; omega)) ?_
      exact w_law_b932 hI σ s.1 hk p1 p2 p3 s.2.1 s.2.2
    refine sj_ifc (fun h2 => ?_) (fun h2_11 => ?_)
    · refine sj (fun k9 => j_tableIn hJ dL_law_40 (off := 1012) (by rw [h2]; decide) (by rw [h2]; decide) (by rw [h2]; decide) (tgt := 1052) (by decide) k9) ?_
      refine sj (j_beta hJ (β' := (600 - s.1, 3600 - 6 * s.1)) (by dsimp only; omega) (by dsimp only; omega)) ?_
      exact w_law_b1052 hI σ s.1 hk p1 p2 p3 s.2.1 s.2.2
    refine sj_ifc (fun h2 => ?_) (fun h2_12 => ?_)
    · refine sj (fun k9 => j_tableIn hJ dL_law_40 (off := 1104) (by rw [h2]; decide) (by rw [h2]; decide) (by rw [h2]; decide) (tgt := 1144) (by decide) k9) ?_
      refine sj (j_beta hJ (β' := (600 - s.1, 3600 - 6 * s.1)) (by dsimp only; omega) (by dsimp only; omega)) ?_
      exact w_law_b1144 hI σ s.1 hk p1 p2 p3 s.2.1 s.2.2
    refine sj_ifc (fun h2 => ?_) (fun h2_13 => ?_)
    · refine sj (fun k9 => j_tableIn hJ dL_law_40 (off := 1172) (by rw [h2]; decide) (by rw [h2]; decide) (by rw [h2]; decide) (tgt := 1212) (by decide) k9) ?_
      refine sj (j_beta hJ (β' := (600 - s.1, 3600 - 6 * s.1)) (by dsimp only; omega) (by dsimp only; omega)) ?_
      exact w_law_b1212 hI σ s.1 hk p1 p2 p3 s.2.1 s.2.2
    refine sj_ifc (fun h2 => ?_) (fun h2_14 => ?_)
    · refine sj (fun k9 => j_tableIn hJ dL_law_40 (off := 1240) (by rw [h2]; decide) (by rw [h2]; decide) (by rw [h2]; decide) (tgt := 1280) (by decide) k9) ?_
      refine sj (j_beta hJ (β' := (600 - s.1, 3600 - 6 * s.1)) (by dsimp only; omega) (by dsimp only; omega)) ?_
      exact w_law_b1280 hI σ s.1 hk p1 p2 p3 s.2.1 s.2.2
    refine sj_ifc (fun h2 => ?_) (fun h2_15 => ?_)
    · refine sj (fun k9 => j_tableIn hJ dL_law_40 (off := 1355) (by rw [h2]; decide) (by rw [h2]; decide) (by rw [h2]; decide) (tgt := 1395) (by decide) k9) ?_
      refine sj (j_beta hJ (β' := (600 - s.1, 3600 - 6 * s.1)) (by dsimp only; omega) (by dsimp only; omega)) ?_
      exact w_law_b1395 hI σ s.1 hk p1 p2 p3 s.2.1 s.2.2
    refine sj_ifc (fun h2 => ?_) (fun h2_16 => ?_)
    · refine sj (fun k9 => j_tableIn hJ dL_law_40 (off := 1463) (by rw [h2]; decide) (by rw [h2]; decide) (by rw [h2]; decide) (tgt := 1503) (by decide) k9) ?_
      refine sj (j_beta hJ (β' := (600 - s.1, 3600 - 6 * s.1)) (by dsimp only; omega) (by dsimp only; omega)) ?_
      exact w_law_b1503 hI σ s.1 hk p1 p2 p3 s.2.1 s.2.2
    refine sj_ifc (fun h2 => ?_) (fun h2_17 => ?_)
    · refine sj (fun k9 => j_tableIn hJ dL_law_40 (off := 1550) (by rw [h2]; decide) (by rw [h2]; decide) (by rw [h2]; decide) (tgt := 1590) (by decide) k9) ?_
      refine sj (j_beta hJ (β' := (600 - s.1, 3600 - 6 * s.1)) (by dsimp only; omega) (by dsimp only; omega)) ?_
      exact w_law_b1590 hI σ s.1 hk p1 p2 p3 s.2.1 s.2.2
    refine sj_ifc (fun h2 => ?_) (fun h2_18 => ?_)
    · refine sj (fun k9 => j_tableIn hJ dL_law_40 (off := 1630) (by rw [h2]; decide) (by rw [h2]; decide) (by rw [h2]; decide) (tgt := 1670) (by decide) k9) ?_
      refine sj (j_beta hJ (β' := (600 - s.1, 3600 - 6 * s.1)) (by dsimp only; omega) (by dsimp only; omega)) ?_
      exact w_law_b1670 hI σ s.1 hk p1 p2 p3 s.2.1 s.2.2
    refine sj_ifc (fun h2 => ?_) (fun h2_19 => ?_)
    · refine sj (fun k9 => j_tableIn hJ dL_law_40 (off := 1674) (by rw [h2]; decide) (by rw [h2]; decide) (by rw [h2]; decide) (tgt := 1714) (by decide) k9) ?_
      refine sj (j_beta hJ (β' := (600 - s.1, 3600 - 6 * s.1)) (by dsimp only; omega) (by dsimp only; omega)) ?_
      exact w_law_b1714 hI σ s.1 hk p1 p2 p3 s.2.1 s.2.2
    refine sj_ifc (fun h2 => ?_) (fun h2_20 => ?_)
    · refine sj (fun k9 => j_tableIn hJ dL_law_40 (off := 1754) (by rw [h2]; decide) (by rw [h2]; decide) (by rw [h2]; decide) (tgt := 1794) (by decide) k9) ?_
      refine sj (j_beta hJ (β' := (600 - s.1, 3600 - 6 * s.1)) (by dsimp only; omega) (by dsimp only; omega)) ?_
      exact w_law_b1794 hI σ s.1 hk p1 p2 p3 s.2.1 s.2.2
    refine sj_ifc (fun h2 => ?_) (fun h2_21 => ?_)
    · refine sj (fun k9 => j_tableIn hJ dL_law_40 (off := 1798) (by rw [h2]; decide) (by rw [h2]; decide) (by rw [h2]; decide) (tgt := 1838) (by decide) k9) ?_
      refine sj (j_beta hJ (β' := (600 - s.1, 3600 - 6 * s.1)) (by dsimp only; omega) (by dsimp only; omega)) ?_
      exact w_law_b1838 hI σ s.1 hk p1 p2 p3 s.2.1 s.2.2
    refine sj_ifc (fun h2 => ?_) (fun h2_22 => ?_)
    · refine sj (fun k9 => j_tableIn hJ dL_law_40 (off := 1854) (by rw [h2]; decide) (by rw [h2]; decide) (by rw [h2]; decide) (tgt := 1894) (by decide) k9) ?_
      refine sj (j_beta hJ (β' := (600 - s.1, 3600 - 6 * s.1)) (by dsimp only; omega) (by dsimp only; omega)) ?_
      exact w_law_b1894 hI σ s.1 hk p1 p2 p3 s.2.1 s.2.2
    refine sj_ifc (fun h2 => ?_) (fun h2_23 => ?_)
    · refine sj (fun k9 => j_tableIn hJ dL_law_40 (off := 1898) (by rw [h2]; decide) (by rw [h2]; decide) (by rw [h2]; decide) (tgt := 1938) (by decide) k9) ?_
      refine sj (j_beta hJ (β' := (600 - s.1, 3600 - 6 * s.1)) (by dsimp only; omega) (by dsimp only; omega)) ?_
      exact w_law_b1938 hI σ s.1 hk p1 p2 p3 s.2.1 s.2.2
    refine sj_ifc (fun h2 => ?_) (fun h2_24 => ?_)
    · refine sj (fun k9 => j_tableIn hJ dL_law_40 (off := 1911) (by rw [h2]; decide) (by rw [h2]; decide) (by rw [h2]; decide) (tgt := 1951) (by decide) k9) ?_
      refine sj (j_beta hJ (β' := (600 - s.1, 3600 - 6 * s.1)) (by dsimp only; omega) (by dsimp only; omega)) ?_
      exact w_law_b1951 hI σ s.1 hk p1 p2 p3 s.2.1 s.2.2
    refine sj_ifc (fun h2 => ?_) (fun h2_25 => ?_)
    · refine sj (fun k9 => j_tableIn hJ dL_law_40 (off := 1924) (by rw [h2]; decide) (by rw [h2]; decide) (by rw [h2]; decide) (tgt := 1964) (by decide) k9) ?_
      refine sj (j_beta hJ (β' := (600 - s.1, 3600 - 6 * s.1)) (by dsimp only; omega) (by dsimp only; omega)) ?_
      exact w_law_b1964 hI σ s.1 hk p1 p2 p3 s.2.1 s.2.2
    refine sj_ifc (fun h2 => ?_) (fun h2_26 => ?_)
    · refine sj (fun k9 => j_tableIn hJ dL_law_40 (off := 1937) (by rw [h2]; decide) (by rw [h2]; decide) (by rw [h2]; decide) (tgt := 1977) (by decide) k9) ?_
      refine sj (j_beta hJ (β' := (600 - s.1, 3600 - 6 * s.1)) (by dsimp only; omega) (by dsimp only; omega)) ?_
      exact w_law_b1977 hI σ s.1 hk p1 p2 p3 s.2.1 s.2.2
    refine sj_ifc (fun h2 => ?_) (fun h2_27 => ?_)
    · refine sj (fun k9 => j_tableIn hJ dL_law_40 (off := 1993) (by rw [h2]; decide) (by rw [h2]; decide) (by rw [h2]; decide) (tgt := 2033) (by decide) k9) ?_
      refine sj (j_beta hJ (β' := (600 - s.1, 3600 - 6 * s.1)) (by dsimp only; omega) (by dsimp only; omega)) ?_
      exact w_law_b2033 hI σ s.1 hk p1 p2 p3 s.2.1 s.2.2
    refine sj_ifc (fun h2 => ?_) (fun h2_28 => ?_)
    · refine sj (fun k9 => j_tableIn hJ dL_law_40 (off := 2068) (by rw [h2]; decide) (by rw [h2]; decide) (by rw [h2]; decide) (tgt := 2108) (by decide) k9) ?_
      refine sj (j_beta hJ (β' := (600 - s.1, 3600 - 6 * s.1)) (by dsimp only; omega) (by dsimp only; omega)) ?_
      exact w_law_b2108 hI σ s.1 hk p1 p2 p3 s.2.1 s.2.2
    refine sj_ifc (fun h2 => ?_) (fun h2_29 => ?_)
    · refine sj (fun k9 => j_tableIn hJ dL_law_40 (off := 2081) (by rw [h2]; decide) (by rw [h2]; decide) (by rw [h2]; decide) (tgt := 2121) (by decide) k9) ?_
      refine sj (j_beta hJ (β' := (600 - s.1, 3600 - 6 * s.1)) (by dsimp only; omega) (by dsimp only; omega)) ?_
      exact w_law_b2121 hI σ s.1 hk p1 p2 p3 s.2.1 s.2.2
    refine sj_ifc (fun h2 => ?_) (fun h2_30 => ?_)
    · refine sj (fun k9 => j_tableIn hJ dL_law_40 (off := 2149) (by rw [h2]; decide) (by rw [h2]; decide) (by rw [h2]; decide) (tgt := 2189) (by decide) k9) ?_
      refine sj (j_beta hJ (β' := (600 - s.1, 3600 - 6 * s.1)) (by dsimp only; omega) (by dsimp only; omega)) ?_
      exact w_law_b2189 hI σ s.1 hk p1 p2 p3 s.2.1 s.2.2
    refine sj_ifc (fun h2 => ?_) (fun h2_31 => ?_)
    · refine sj (fun k9 => j_tableIn hJ dL_law_40 (off := 2224) (by rw [h2]; decide) (by rw [h2]; decide) (by rw [h2]; decide) (tgt := 2264) (by decide) k9) ?_
      refine sj (j_beta hJ (β' := (600 - s.1, 3600 - 6 * s.1)) (by dsimp only; omega) (by dsimp only; omega)) ?_
      exact w_law_b2264 hI σ s.1 hk p1 p2 p3 s.2.1 s.2.2
    refine sj_ifc (fun h2 => ?_) (fun h2_32 => ?_)
    · refine sj (fun k9 => j_tableIn hJ dL_law_40 (off := 2237) (by rw [h2]; decide) (by rw [h2]; decide) (by rw [h2]; decide) (tgt := 2277) (by decide) k9) ?_
      refine sj (j_beta hJ (β' := (600 - s.1, 3600 - 6 * s.1)) (by dsimp only; omega) (by dsimp only; omega)) ?_
      exact w_law_b2277 hI σ s.1 hk p1 p2 p3 s.2.1 s.2.2
    refine sj_ifc (fun h2 => ?_) (fun h2_33 => ?_)
    · refine sj (fun k9 => j_tableIn hJ dL_law_40 (off := 2250) (by rw [h2]; decide) (by rw [h2]; decide) (by rw [h2]; decide) (tgt := 2290) (by decide) k9) ?_
      refine sj (j_beta hJ (β' := (600 - s.1, 3600 - 6 * s.1)) (by dsimp only; omega) (by dsimp only; omega)) ?_
      exact w_law_b2290 hI σ s.1 hk p1 p2 p3 s.2.1 s.2.2
    refine sj_ifc (fun h2 => ?_) (fun h2_34 => ?_)
    · refine sj (fun k9 => j_tableIn hJ dL_law_40 (off := 2263) (by rw [h2]; decide) (by rw [h2]; decide) (by rw [h2]; decide) (tgt := 2303) (by decide) k9) ?_
      refine sj (j_beta hJ (β' := (600 - s.1, 3600 - 6 * s.1)) (by dsimp only; omega) (by dsimp only; omega)) ?_
      exact w_law_b2303 hI σ s.1 hk p1 p2 p3 s.2.1 s.2.2
    refine sj_ifc (fun h2 => ?_) (fun h2_35 => ?_)
    · refine sj (fun k9 => j_tableIn hJ dL_law_40 (off := 2319) (by rw [h2]; decide) (by rw [h2]; decide) (by rw [h2]; decide) (tgt := 2359) (by decide) k9) ?_
      refine sj (j_beta hJ (β' := (600 - s.1, 3600 - 6 * s.1)) (by dsimp only; omega) (by dsimp only; omega)) ?_
      exact w_law_b2359 hI σ s.1 hk p1 p2 p3 s.2.1 s.2.2
    have g0 : ((v1 &&& (63 : Int32))).toInt ≠ 0 := fun q => h2_0 (Int32.toInt_inj.mp (q.trans (by decide)))
    have g1 : ((v1 &&& (63 : Int32))).toInt ≠ 1 := fun q => h2_1 (Int32.toInt_inj.mp (q.trans (by decide)))
    have g2 : ((v1 &&& (63 : Int32))).toInt ≠ 2 := fun q => h2_2 (Int32.toInt_inj.mp (q.trans (by decide)))
    have g3 : ((v1 &&& (63 : Int32))).toInt ≠ 3 := fun q => h2_3 (Int32.toInt_inj.mp (q.trans (by decide)))
    have g4 : ((v1 &&& (63 : Int32))).toInt ≠ 4 := fun q => h2_4 (Int32.toInt_inj.mp (q.trans (by decide)))
    have g5 : ((v1 &&& (63 : Int32))).toInt ≠ 5 := fun q => h2_5 (Int32.toInt_inj.mp (q.trans (by decide)))
    have g6 : ((v1 &&& (63 : Int32))).toInt ≠ 6 := fun q => h2_6 (Int32.toInt_inj.mp (q.trans (by decide)))
    have g7 : ((v1 &&& (63 : Int32))).toInt ≠ 7 := fun q => h2_7 (Int32.toInt_inj.mp (q.trans (by decide)))
    have g8 : ((v1 &&& (63 : Int32))).toInt ≠ 8 := fun q => h2_8 (Int32.toInt_inj.mp (q.trans (by decide)))
    have g9 : ((v1 &&& (63 : Int32))).toInt ≠ 9 := fun q => h2_9 (Int32.toInt_inj.mp (q.trans (by decide)))
    have g10 : ((v1 &&& (63 : Int32))).toInt ≠ 10 := fun q => h2_10 (Int32.toInt_inj.mp (q.trans (by decide)))
    have g11 : ((v1 &&& (63 : Int32))).toInt ≠ 11 := fun q => h2_11 (Int32.toInt_inj.mp (q.trans (by decide)))
    have g12 : ((v1 &&& (63 : Int32))).toInt ≠ 12 := fun q => h2_12 (Int32.toInt_inj.mp (q.trans (by decide)))
    have g13 : ((v1 &&& (63 : Int32))).toInt ≠ 13 := fun q => h2_13 (Int32.toInt_inj.mp (q.trans (by decide)))
    have g14 : ((v1 &&& (63 : Int32))).toInt ≠ 14 := fun q => h2_14 (Int32.toInt_inj.mp (q.trans (by decide)))
    have g15 : ((v1 &&& (63 : Int32))).toInt ≠ 15 := fun q => h2_15 (Int32.toInt_inj.mp (q.trans (by decide)))
    have g16 : ((v1 &&& (63 : Int32))).toInt ≠ 16 := fun q => h2_16 (Int32.toInt_inj.mp (q.trans (by decide)))
    have g17 : ((v1 &&& (63 : Int32))).toInt ≠ 17 := fun q => h2_17 (Int32.toInt_inj.mp (q.trans (by decide)))
    have g18 : ((v1 &&& (63 : Int32))).toInt ≠ 18 := fun q => h2_18 (Int32.toInt_inj.mp (q.trans (by decide)))
    have g19 : ((v1 &&& (63 : Int32))).toInt ≠ 19 := fun q => h2_19 (Int32.toInt_inj.mp (q.trans (by decide)))
    have g20 : ((v1 &&& (63 : Int32))).toInt ≠ 20 := fun q => h2_20 (Int32.toInt_inj.mp (q.trans (by decide)))
    have g21 : ((v1 &&& (63 : Int32))).toInt ≠ 21 := fun q => h2_21 (Int32.toInt_inj.mp (q.trans (by decide)))
    have g22 : ((v1 &&& (63 : Int32))).toInt ≠ 22 := fun q => h2_22 (Int32.toInt_inj.mp (q.trans (by decide)))
    have g23 : ((v1 &&& (63 : Int32))).toInt ≠ 23 := fun q => h2_23 (Int32.toInt_inj.mp (q.trans (by decide)))
    have g24 : ((v1 &&& (63 : Int32))).toInt ≠ 24 := fun q => h2_24 (Int32.toInt_inj.mp (q.trans (by decide)))
    have g25 : ((v1 &&& (63 : Int32))).toInt ≠ 25 := fun q => h2_25 (Int32.toInt_inj.mp (q.trans (by decide)))
    have g26 : ((v1 &&& (63 : Int32))).toInt ≠ 26 := fun q => h2_26 (Int32.toInt_inj.mp (q.trans (by decide)))
    have g27 : ((v1 &&& (63 : Int32))).toInt ≠ 27 := fun q => h2_27 (Int32.toInt_inj.mp (q.trans (by decide)))
    have g28 : ((v1 &&& (63 : Int32))).toInt ≠ 28 := fun q => h2_28 (Int32.toInt_inj.mp (q.trans (by decide)))
    have g29 : ((v1 &&& (63 : Int32))).toInt ≠ 29 := fun q => h2_29 (Int32.toInt_inj.mp (q.trans (by decide)))
    have g30 : ((v1 &&& (63 : Int32))).toInt ≠ 30 := fun q => h2_30 (Int32.toInt_inj.mp (q.trans (by decide)))
    have g31 : ((v1 &&& (63 : Int32))).toInt ≠ 31 := fun q => h2_31 (Int32.toInt_inj.mp (q.trans (by decide)))
    have g32 : ((v1 &&& (63 : Int32))).toInt ≠ 32 := fun q => h2_32 (Int32.toInt_inj.mp (q.trans (by decide)))
    have g33 : ((v1 &&& (63 : Int32))).toInt ≠ 33 := fun q => h2_33 (Int32.toInt_inj.mp (q.trans (by decide)))
    have g34 : ((v1 &&& (63 : Int32))).toInt ≠ 34 := fun q => h2_34 (Int32.toInt_inj.mp (q.trans (by decide)))
    have g35 : ((v1 &&& (63 : Int32))).toInt ≠ 35 := fun q => h2_35 (Int32.toInt_inj.mp (q.trans (by decide)))
    refine sj (fun k9 => j_tableOut hJ dL_law_40 (by omega) (tgt := 2400) (by decide) k9) ?_
    refine sj (j_beta hJ (β' := (600 - (s.1 + 1), 3600 - 6 * (s.1 + 1))) (by dsimp only; omega) (by dsimp only; omega)) ?_
    exact w_law_b2400 hI σ s.1 hk p1 p2 p3 s.2.1 s.2.2
