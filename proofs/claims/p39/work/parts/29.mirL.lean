def m_L_at (σ : St) (p0 : Int32) (p1 : Int32) (δ : Dy) : Option Int32 :=
  (rmI (ush p0 (1 : Int32)) p1).bind fun v1 =>
  some v1
set_option maxHeartbeats 4000000 in
set_option maxRecDepth 100000 in
theorem w_L_at {J : JT} {an : Option Value × St × Dy} (hI : Isj cBat 2 RL "at" 0 0 (some .int) an J) {β : Bu} (σ : St) (p0 : Int32) (p1 : Int32) (δ : Dy) : SJ (m_L_at σ p0 p1 δ) (PIp σ δ an) (J 0 [(0, .int p0), (1, .int p1)] [] β σ δ) := by
  have hJ := hI.cor
  unfold m_L_at
  refine sj (j_iload_n hJ dL_at_0 rfl 0 rfl) ?_
  refine sj (j_iconst hJ (v := 1) dL_at_1 ic_1) ?_
  refine sj (j_iushr hJ dL_at_2) ?_
  refine sj (j_iload_n hJ dL_at_3 rfl 1 rfl) ?_
  refine sj_rmI hJ dL_at_4 (fun v1 => ?_)
  exact sj_iret hI dL_at_5 (fun h => h)
theorem ct_L_at {σ : St} {p0 : Int32} {p1 : Int32} {δ : Dy} {r : Int32} (h : m_L_at σ p0 p1 δ = some r) : CT yL_at cBat 2 (some .int) 0 0 0 0 [.int p0, .int p1] σ δ ((some (.int r)), σ, δ) := CT_of (by decide +kernel) (Nat.le_of_ble_eq_true rfl) (fun J hI => w_L_at hI σ p0 p1 δ r h rfl)
def m_L_gcd_b6 (σ : St) (p4 : Int64) (p6 : Int64) (δ : Dy) : Option Int64 := lp (fun (s : (Int64 × Int64)) =>
  if (lg_cmp s.2 (0 : Int64)) = 0 then
    some (Sum.inr s.1)
  else
    (rmL s.1 s.2).bind fun v1 =>
    some (Sum.inl (s.2, v1))) (p4, p6)
def m_L_gcd (σ : St) (p0 : Int64) (p2 : Int64) (δ : Dy) : Option Int64 :=
  m_L_gcd_b6 σ p0 p2 δ
set_option maxHeartbeats 4000000 in
set_option maxRecDepth 100000 in
theorem w_L_gcd_b6 {J : JT} {an : Option Value × St × Dy} (hI : Isj cL_gcd 10 RL "gcd" 0 0 (some .long) an J) {β : Bu} (σ : St) (p4 : Int64) (p6 : Int64) (δ : Dy) : SJ (m_L_gcd_b6 σ p4 p6 δ) (PJp σ δ an) (J 6 [(4, .long p4), (6, .long p6)] [] β σ δ) := by
  have hJ := hI.cor
  unfold m_L_gcd_b6
  refine sj_lp (G := fun s : (Int64 × Int64) => J 6 [(4, .long s.1), (6, .long s.2)] [] β σ δ) (fun s => ?_) (p4, p6)
  refine sj (j_lload hJ dL_gcd_6 1 rfl) ?_
  refine sj (j_lconst hJ (v := 0) dL_gcd_8 rfl) ?_
  refine sj (j_lcmp hJ dL_gcd_9) ?_
  refine sj_if (j_if_eq hJ (tgt := 31) dL_gcd_10 (by decide)) (fun _ => ?_) (fun _ => ?_)
  · refine sj (j_lload hJ dL_gcd_31 0 rfl) ?_
    exact sj_lret hI dL_gcd_33 (fun h => h)
  · refine sj (j_lload hJ dL_gcd_13 0 rfl) ?_
    refine sj (j_lload hJ dL_gcd_15 1 rfl) ?_
    refine sj_rmL hJ dL_gcd_17 (fun v1 => ?_)
    refine sj (j_lstore hJ (L' := [(8, .long v1), (4, .long s.1), (6, .long s.2)]) dL_gcd_18 (by decide) rfl) ?_
    refine sj (j_lload hJ dL_gcd_20 2 rfl) ?_
    refine sj (j_lstore hJ (L' := [(4, .long s.2), (8, .long v1), (6, .long s.2)]) dL_gcd_22 (by decide) rfl) ?_
    refine sj (j_lload hJ dL_gcd_24 1 rfl) ?_
    refine sj (j_lstore hJ (L' := [(6, .long v1), (4, .long s.2), (8, .long v1)]) dL_gcd_26 (by decide) rfl) ?_
    refine sj (j_goto hJ (tgt := 6) dL_gcd_28 (by decide)) ?_
    refine sj (j_sub hJ (L' := [(4, .long s.2), (6, .long v1)]) [1, 0] rfl) ?_
    exact sj_end (fun h => h)
set_option maxHeartbeats 4000000 in
set_option maxRecDepth 100000 in
theorem w_L_gcd {J : JT} {an : Option Value × St × Dy} (hI : Isj cL_gcd 10 RL "gcd" 0 0 (some .long) an J) {β : Bu} (σ : St) (p0 : Int64) (p2 : Int64) (δ : Dy) : SJ (m_L_gcd σ p0 p2 δ) (PJp σ δ an) (J 0 [(0, .long p0), (2, .long p2)] [] β σ δ) := by
  have hJ := hI.cor
  unfold m_L_gcd
  refine sj (j_lload_n hJ dL_gcd_0 rfl 0 rfl) ?_
  refine sj (j_lstore hJ (L' := [(4, .long p0), (0, .long p0), (2, .long p2)]) dL_gcd_1 (by decide) rfl) ?_
  refine sj (j_lload_n hJ dL_gcd_3 rfl 2 rfl) ?_
  refine sj (j_lstore hJ (L' := [(6, .long p2), (4, .long p0), (0, .long p0), (2, .long p2)]) dL_gcd_4 (by decide) rfl) ?_
  refine sj (j_sub hJ (L' := [(4, .long p0), (6, .long p2)]) [1, 0] rfl) ?_
  exact w_L_gcd_b6 hI σ p0 p2 δ
theorem ct_L_gcd {σ : St} {p0 : Int64} {p2 : Int64} {δ : Dy} {r : Int64} (h : m_L_gcd σ p0 p2 δ = some r) : CT yL_gcd cL_gcd 10 (some .long) 0 0 0 0 [.long p0, .long p2] σ δ ((some (.long r)), σ, δ) := CT_of (by decide +kernel) (Nat.le_of_ble_eq_true rfl) (fun J hI => w_L_gcd hI σ p0 p2 δ r h rfl)
def m_L_cell (xs : Nat → Int32) (N : Nat) (p1 : Int32) : Option Int32 :=
  if Int32.ofNat N ≤ p1 then some ((700923669 : Int32) * (p1 + (1 : Int32))) else (rS xs N p1).bind fun v => some v
set_option maxHeartbeats 4000000 in
set_option maxRecDepth 100000 in
theorem w_L_cell {xs : Nat → Int32} {N : Nat} {J : JT} {an : Option Value × St × Dy} (hI : IsC xs N cL_cell 2 RL "cell" 0 0 (some .int) an J) {β : Bu} (σ : St) (p1 : Int32) (δ : Dy) : SJ (m_L_cell xs N p1) (PIp σ δ an) (J 0 [(0, .ref roB), (1, .int p1)] [] β σ δ) := by
  have hJ := hI.isj.cor
  have hS := hI.sc
  unfold m_L_cell
  refine sj (j_iload_n hJ dL_cell_0 rfl 1 rfl) ?_
  refine sj (j_aload_n hJ dL_cell_1 rfl 0 rfl) ?_
  refine sj (jl_len hS dL_cell_2) ?_
  refine sj_if (j_icmp_ge hJ (tgt := 12) dL_cell_3 (by decide)) (fun _ => ?_) (fun _ => ?_)
  · refine sj (j_ldc hJ (v := 700923669) dL_cell_12 wd_1114) ?_
    refine sj (j_iload_n hJ dL_cell_14 rfl 1 rfl) ?_
    refine sj (j_iconst hJ (v := 1) dL_cell_15 ic_1) ?_
    refine sj (j_iadd hJ dL_cell_16) ?_
    refine sj (j_imul hJ dL_cell_17) ?_
    exact sj_iret hI.isj dL_cell_18 (fun h => h)
  · refine sj (j_aload_n hJ dL_cell_6 rfl 0 rfl) ?_
    refine sj (j_iload_n hJ dL_cell_7 rfl 1 rfl) ?_
    refine sl_rS hS dL_cell_8 (fun v => ?_)
    refine sj (j_goto hJ (tgt := 18) dL_cell_9 (by decide)) ?_
    exact sj_iret hI.isj dL_cell_18 (fun h => h)
theorem ct_L_cell {xs : Nat → Int32} {N : Nat} {σ : St} {p1 : Int32} {δ : Dy} {r : Int32} (h : m_L_cell xs N p1 = some r) : CTc xs N yL_cell cL_cell 2 (some .int) 0 0 [.ref roB, .int p1] σ δ (some (.int r), σ, δ) := CTc_of (by decide +kernel) (Nat.le_of_ble_eq_true rfl) (fun J hI => w_L_cell hI σ p1 δ r h rfl)
def m_law_b664 (xs : Nat → Int32) (N : Nat) (σ : St) (p1 : Nat) (p2 : Int32) (p3 : Int32) (p4 : Int32) (p6 : Int32) (p7 : Int32) (p8 : Int32) (p9 : Int32) (p10 : Int64) (p12 : Int64) (p14 : Int32) (p15 : Int32) (p16 : Int32) (p30 : Int32) (δ : Dy) : Option ((Int32 × Int64 × Int64 × Int32 × Int32 × Int32 × Dy) ⊕ Unit) :=
  (chk σ 11 p1).bind fun _ => (m_X11_standing σ p1 δ).bind fun v37 =>
  if v37 = p15 then
    (chk σ 11 p1).bind fun _ => (m_X11_standingAnew σ p1 δ).bind fun v38 =>
    if v38.1 = p15 then
      (chk σ 11 p1).bind fun _ => (m_X11_clock σ p1 v38.2).bind fun v39 =>
      if v39 = (p16 + (1 : Int32)) then
        (chk σ 11 p1).bind fun _ => (m_X11_waiting σ p1 v38.2).bind fun v40 =>
        if v40 = 0 then
          (chk σ 11 p1).bind fun _ => (m_X11_value σ p1 p2 v38.2).bind fun v41 => xok v41 fun x42 =>
          if x42 = (100 : Int32) then
            some (Sum.inl (p9, p10, p12, (p14 + p30), p15, (p16 + (1 : Int32)), v38.2))
          else
            none
        else
          none
      else
        none
    else
      none
  else
    none
def m_law_b499 (xs : Nat → Int32) (N : Nat) (σ : St) (p1 : Nat) (p2 : Int32) (p3 : Int32) (p4 : Int32) (p6 : Int32) (p7 : Int32) (p8 : Int32) (p9 : Int32) (p10 : Int64) (p12 : Int64) (p14 : Int32) (p15 : Int32) (p16 : Int32) (p26 : Int32) (p30 : Int32) (q0 : Int32) (q1 : Int32) (δ : Dy) : Option ((Int32 × Int64 × Int64 × Int32 × Int32 × Int32 × Dy) ⊕ Unit) :=
  if q0 = q1 then
    (chk σ 11 p1).bind fun _ => (m_X11_part σ p1 p14 (3 : Int32) δ).bind fun v31 => xok v31 fun x32 =>
    if x32 = 0 then
      (chk σ 11 p1).bind fun _ => (m_X11_part σ p1 (p14 + (1 : Int32)) (0 : Int32) δ).bind fun v33 => xok v33 fun x34 =>
      if x34 = (2 : Int32) then
        (chk σ 11 p1).bind fun _ => (m_X11_isMadeBy σ p1 (p14 + (1 : Int32)) p14 δ).bind fun v35 => xok v35 fun x36 =>
        if x36 = 0 then
          if p26 = (7 : Int32) then
            m_law_b664 xs N σ p1 p2 p3 p4 p6 p7 p8 p9 p10 p12 p14 (p15 + (1 : Int32)) p16 p30 δ
          else
            none
        else
          none
      else
        none
    else
      none
  else
    none
def m_law_b657 (xs : Nat → Int32) (N : Nat) (σ : St) (p1 : Nat) (p2 : Int32) (p3 : Int32) (p4 : Int32) (p6 : Int32) (p7 : Int32) (p8 : Int32) (p9 : Int32) (p10 : Int64) (p12 : Int64) (p14 : Int32) (p15 : Int32) (p16 : Int32) (p30 : Int32) (δ : Dy) : Option ((Int32 × Int64 × Int64 × Int32 × Int32 × Int32 × Dy) ⊕ Unit) :=
  m_law_b664 xs N σ p1 p2 p3 p4 p6 p7 p8 p9 p10 p12 p14 (p15 + p30) p16 p30 δ
def m_law_b644 (xs : Nat → Int32) (N : Nat) (σ : St) (p1 : Nat) (p2 : Int32) (p3 : Int32) (p4 : Int32) (p6 : Int32) (p7 : Int32) (p8 : Int32) (p9 : Int32) (p10 : Int64) (p12 : Int64) (p14 : Int32) (p15 : Int32) (p16 : Int32) (p21 : Int32) (p26 : Int32) (p30 : Int32) (δ : Dy) : Option ((Int32 × Int64 × Int64 × Int32 × Int32 × Int32 × Dy) ⊕ Unit) :=
  if p21 = 0 then
    if p26 = (2 : Int32) then
      m_law_b657 xs N σ p1 p2 p3 p4 p6 p7 p8 p9 p10 p12 p14 p15 p16 p30 δ
    else
      none
  else
    m_law_b657 xs N σ p1 p2 p3 p4 p6 p7 p8 p9 p10 p12 p14 p15 p16 p30 δ
def m_law_b570 (xs : Nat → Int32) (N : Nat) (σ : St) (p1 : Nat) (p2 : Int32) (p3 : Int32) (p4 : Int32) (p6 : Int32) (p7 : Int32) (p8 : Int32) (p9 : Int32) (p10 : Int64) (p12 : Int64) (p14 : Int32) (p15 : Int32) (p16 : Int32) (p21 : Int32) (p26 : Int32) (p30 : Int32) (q0 : Int32) (q1 : Int32) (δ : Dy) : Option ((Int32 × Int64 × Int64 × Int32 × Int32 × Int32 × Dy) ⊕ Unit) :=
  if q0 = q1 then
    (chk σ 11 p1).bind fun _ => (m_X11_part σ p1 p14 (1 : Int32) δ).bind fun v45 => xok v45 fun x46 =>
    if x46 = p16 then
      (chk σ 11 p1).bind fun _ => (m_X11_part σ p1 p14 (2 : Int32) δ).bind fun v47 => xok v47 fun x48 =>
      if x48 = (9 : Int32) then
        (chk σ 11 p1).bind fun _ => (m_X11_part σ p1 p14 (3 : Int32) δ).bind fun v49 => xok v49 fun x50 =>
        if x50 = (1 : Int32) then
          if p30 = (2 : Int32) then
            (chk σ 11 p1).bind fun _ => (m_X11_part σ p1 (p14 + (1 : Int32)) (0 : Int32) δ).bind fun v51 => xok v51 fun x52 =>
            if x52 = (2 : Int32) then
              (chk σ 11 p1).bind fun _ => (m_X11_isMadeBy σ p1 (p14 + (1 : Int32)) p14 δ).bind fun v53 => xok v53 fun x54 =>
              if x54 = 0 then
                none
              else
                m_law_b644 xs N σ p1 p2 p3 p4 p6 p7 p8 p9 p10 p12 p14 p15 p16 p21 p26 p30 δ
            else
              none
          else
            m_law_b644 xs N σ p1 p2 p3 p4 p6 p7 p8 p9 p10 p12 p14 p15 p16 p21 p26 p30 δ
        else
          none
      else
        none
    else
      none
  else
    none
def m_law_b460 (xs : Nat → Int32) (N : Nat) (σ : St) (p1 : Nat) (p2 : Int32) (p3 : Int32) (p4 : Int32) (p6 : Int32) (p7 : Int32) (p8 : Int32) (p9 : Int32) (p10 : Int64) (p12 : Int64) (p14 : Int32) (p15 : Int32) (p16 : Int32) (p21 : Int32) (p26 : Int32) (p27 : Int32) (q0 : Int32) (δ : Dy) : Option ((Int32 × Int64 × Int64 × Int32 × Int32 × Int32 × Dy) ⊕ Unit) :=
  (chk σ 11 p1).bind fun _ => (m_X11_tokens σ p1 δ).bind fun v28 =>
  if v28 = (p14 + q0) then
    if p21 = (2 : Int32) then
      (chk σ 11 p1).bind fun _ => (m_X11_part σ p1 p14 (0 : Int32) δ).bind fun v29 => xok v29 fun x30 =>
      if p27 = 0 then
        m_law_b499 xs N σ p1 p2 p3 p4 p6 p7 p8 p9 p10 p12 p14 p15 p16 p26 q0 x30 (1 : Int32) δ
      else
        m_law_b499 xs N σ p1 p2 p3 p4 p6 p7 p8 p9 p10 p12 p14 p15 p16 p26 q0 x30 (0 : Int32) δ
    else
      (chk σ 11 p1).bind fun _ => (m_X11_part σ p1 p14 (0 : Int32) δ).bind fun v43 => xok v43 fun x44 =>
      if p27 = 0 then
        m_law_b570 xs N σ p1 p2 p3 p4 p6 p7 p8 p9 p10 p12 p14 p15 p16 p21 p26 q0 x44 (1 : Int32) δ
      else
        m_law_b570 xs N σ p1 p2 p3 p4 p6 p7 p8 p9 p10 p12 p14 p15 p16 p21 p26 q0 x44 (0 : Int32) δ
  else
    none
def m_law_b331 (xs : Nat → Int32) (N : Nat) (σ : St) (p1 : Nat) (p2 : Int32) (p3 : Int32) (p4 : Int32) (p6 : Int32) (p7 : Int32) (p8 : Int32) (p9 : Int32) (p12 : Int64) (p14 : Int32) (p15 : Int32) (p16 : Int32) (p18 : Int32) (p19 : Int32) (p21 : Int32) (p24 : Int32) (p25 : Int32) (p26 : Int32) (p27 : Int32) (q0 : Int64) (q1 : Int64) (δ : Dy) : Option ((Int32 × Int64 × Int64 × Int32 × Int32 × Int32 × Dy) ⊕ Unit) :=
  (m_L_gcd σ (q0 * q1) (p12 * ((p18 + p19)).toInt64) δ).bind fun v18 =>
  (dvL (q0 * q1) v18).bind fun v19 =>
  (dvL (p12 * ((p18 + p19)).toInt64) v18).bind fun v20 =>
  if p24 = 0 then
    if p25 = (1 : Int32) then
      (chk σ 11 p1).bind fun _ => (m_X11_hasFailed σ p1 δ).bind fun v21 =>
      if v21 = 0 then
        (chk σ 11 p1).bind fun _ => (m_X11_chance σ p1 (1 : Int32) δ).bind fun v22 =>
        (rmL v19 (1000003 : Int64)).bind fun v23 =>
        if (lg_cmp (v22).toInt64 v23) = 0 then
          (chk σ 11 p1).bind fun _ => (m_X11_chance σ p1 (0 : Int32) δ).bind fun v24 =>
          (rmL v20 (1000003 : Int64)).bind fun v25 =>
          if (lg_cmp (v24).toInt64 v25) = 0 then
            (chk σ 11 p1).bind fun _ => (m_X11_seed σ p1 p9 δ).bind fun v26 => xok v26.1 fun x27 =>
            if x27 = p9 then
              if p21 = 0 then
                m_law_b460 xs N σ p1 p2 p3 p4 p6 p7 p8 p9 v19 v20 p14 p15 p16 p21 p26 p27 (1 : Int32) v26.2
              else
                if p21 = (1 : Int32) then
                  if p27 = 0 then
                    m_law_b460 xs N σ p1 p2 p3 p4 p6 p7 p8 p9 v19 v20 p14 p15 p16 p21 p26 p27 (1 : Int32) v26.2
                  else
                    m_law_b460 xs N σ p1 p2 p3 p4 p6 p7 p8 p9 v19 v20 p14 p15 p16 p21 p26 p27 (2 : Int32) v26.2
                else
                  m_law_b460 xs N σ p1 p2 p3 p4 p6 p7 p8 p9 v19 v20 p14 p15 p16 p21 p26 p27 (2 : Int32) v26.2
            else
              none
          else
            none
        else
          none
      else
        none
    else
      none
  else
    none
def m_law_b313 (xs : Nat → Int32) (N : Nat) (σ : St) (p1 : Nat) (p2 : Int32) (p3 : Int32) (p4 : Int32) (p6 : Int32) (p7 : Int32) (p8 : Int32) (p9 : Int32) (p10 : Int64) (p12 : Int64) (p14 : Int32) (p15 : Int32) (p16 : Int32) (p18 : Int32) (p19 : Int32) (p21 : Int32) (p24 : Int32) (p25 : Int32) (p26 : Int32) (q0 : Int32) (δ : Dy) : Option ((Int32 × Int64 × Int64 × Int32 × Int32 × Int32 × Dy) ⊕ Unit) :=
  if q0 = 0 then
    m_law_b331 xs N σ p1 p2 p3 p4 p6 p7 p8 p9 p12 p14 p15 p16 p18 p19 p21 p24 p25 p26 q0 p10 (p19).toInt64 δ
  else
    m_law_b331 xs N σ p1 p2 p3 p4 p6 p7 p8 p9 p12 p14 p15 p16 p18 p19 p21 p24 p25 p26 q0 p10 (p18).toInt64 δ
def m_law_b269 (xs : Nat → Int32) (N : Nat) (σ : St) (p1 : Nat) (p2 : Int32) (p3 : Int32) (p4 : Int32) (p6 : Int32) (p7 : Int32) (p8 : Int32) (p9 : Int32) (p10 : Int64) (p12 : Int64) (p14 : Int32) (p15 : Int32) (p16 : Int32) (p18 : Int32) (p19 : Int32) (p21 : Int32) (p24 : Int32) (q0 : Int32) (δ : Dy) : Option ((Int32 × Int64 × Int64 × Int32 × Int32 × Int32 × Dy) ⊕ Unit) :=
  (chk σ 11 p1).bind fun _ => (m_X11_step σ p1 δ).bind fun v14 => xok v14.1 fun x15 =>
  (rmL (((75 : Int64) * (p9).toInt64) + (74 : Int64)) (65537 : Int64)).bind fun v16 =>
  (rmI (v16).toInt32 (p18 + p19)).bind fun v17 =>
  if p18 ≤ v17 then
    m_law_b313 xs N σ p1 p2 p3 p4 p6 p7 p8 (v16).toInt32 p10 p12 p14 p15 p16 p18 p19 p21 p24 q0 x15 (0 : Int32) v14.2
  else
    m_law_b313 xs N σ p1 p2 p3 p4 p6 p7 p8 (v16).toInt32 p10 p12 p14 p15 p16 p18 p19 p21 p24 q0 x15 (1 : Int32) v14.2
def m_law_b213 (xs : Nat → Int32) (N : Nat) (σ : St) (p1 : Nat) (p2 : Int32) (p3 : Int32) (p4 : Int32) (p6 : Int32) (p7 : Int32) (p8 : Int32) (p9 : Int32) (p10 : Int64) (p12 : Int64) (p14 : Int32) (p15 : Int32) (p16 : Int32) (p18 : Int32) (p19 : Int32) (p21 : Int32) (q0 : Int32) (δ : Dy) : Option ((Int32 × Int64 × Int64 × Int32 × Int32 × Int32 × Dy) ⊕ Unit) :=
  (chk σ 11 p1).bind fun _ => (m_X11_ends σ p1 δ).bind fun v7 => xok v7.1 fun x8 =>
  if x8 = 0 then
    none
  else
    if (-1 : Int32) ≤ x8 then
      (chk σ 11 p1).bind fun _ => (m_X11_begin σ p1 q0 p16 (9 : Int32) v7.2).bind fun v9 => xok v9.1 fun x10 =>
      if x10 = (1 : Int32) then
        (chk σ 11 p1).bind fun _ => (m_X11_hasFailed σ p1 v9.2).bind fun v11 =>
        if p21 = 0 then
          (chk σ 11 p1).bind fun _ => (m_X11_ends σ p1 v9.2).bind fun v12 => xok v12.1 fun x13 =>
          m_law_b269 xs N σ p1 p2 p3 p4 p6 p7 p8 p9 p10 p12 p14 p15 p16 p18 p19 p21 v11 x13 v12.2
        else
          m_law_b269 xs N σ p1 p2 p3 p4 p6 p7 p8 p9 p10 p12 p14 p15 p16 p18 p19 p21 v11 (1 : Int32) v9.2
      else
        none
    else
      none
def m_law_b106 (xs : Nat → Int32) (N : Nat) (σ : St) (p1 : Nat) (p2 : Int32) (p3 : Int32) (p4 : Int32) (p6 : Int32) (p7 : Int32) (p8 : Int32) (p9 : Int32) (p10 : Int64) (p12 : Int64) (p14 : Int32) (p15 : Int32) (p16 : Int32) (δ : Dy) : Option Unit := lp (fun (s : (Int32 × Int64 × Int64 × Int32 × Int32 × Int32 × Dy)) =>
    if (12 : Int32) ≤ s.2.2.2.2.2.1 then
      some (Sum.inr ())
    else
      (m_L_cell xs N s.2.2.2.2.2.1).bind fun v1 =>
      (m_L_at σ (v1 &&& (2147483647 : Int32)) (9 : Int32) s.2.2.2.2.2.2).bind fun v2 =>
      (m_L_at σ ((v1 &&& (2147483647 : Int32)) >>> ((5 : Int32) &&& 31)) (9 : Int32) s.2.2.2.2.2.2).bind fun v3 =>
      (chk σ 11 p1).bind fun _ => (m_X11_lot σ p1 ((1 : Int32) + v2) p3 ((1 : Int32) + v3) p4 s.2.2.2.2.2.2).bind fun v4 => xok v4.1 fun x5 =>
      (m_L_at σ ((v1 &&& (2147483647 : Int32)) >>> ((10 : Int32) &&& 31)) (3 : Int32) v4.2).bind fun v6 =>
      if v6 = 0 then
        m_law_b213 xs N σ p1 p2 p3 p4 p6 p7 p8 s.1 s.2.1 s.2.2.1 s.2.2.2.1 s.2.2.2.2.1 s.2.2.2.2.2.1 ((1 : Int32) + v2) ((1 : Int32) + v3) v6 x5 v4.2
      else
        if v6 = (1 : Int32) then
          (chk σ 11 p1).bind fun _ => (m_X11_both σ p1 p8 x5 v4.2).bind fun v55 => xok v55.1 fun x56 =>
          m_law_b213 xs N σ p1 p2 p3 p4 p6 p7 p8 s.1 s.2.1 s.2.2.1 s.2.2.2.1 s.2.2.2.2.1 s.2.2.2.2.2.1 ((1 : Int32) + v2) ((1 : Int32) + v3) v6 x56 v55.2
        else
          (chk σ 11 p1).bind fun _ => (m_X11_both σ p1 x5 p6 v4.2).bind fun v57 => xok v57.1 fun x58 =>
          (chk σ 11 p1).bind fun _ => (m_X11_attempt σ p1 x58 p7 v57.2).bind fun v59 => xok v59.1 fun x60 =>
          m_law_b213 xs N σ p1 p2 p3 p4 p6 p7 p8 s.1 s.2.1 s.2.2.1 s.2.2.2.1 s.2.2.2.2.1 s.2.2.2.2.2.1 ((1 : Int32) + v2) ((1 : Int32) + v3) v6 x60 v59.2) (p9, p10, p12, p14, p15, p16, δ)
def m_law_b8 (xs : Nat → Int32) (N : Nat) (σ : St) (p1 : Nat) (δ : Dy) : Option Unit :=
  (chk σ 11 p1).bind fun _ => (m_X11_variable σ p1 δ).bind fun v61 => xok v61.1 fun x62 =>
  (chk σ 11 p1).bind fun _ => (m_X11_token σ p1 (0 : Int32) (200 : Int32) (201 : Int32) (1 : Int32) v61.2).bind fun v63 => xok v63.1 fun x64 =>
  (chk σ 11 p1).bind fun _ => (m_X11_token σ p1 (1 : Int32) (200 : Int32) (201 : Int32) (1 : Int32) v63.2).bind fun v65 => xok v65.1 fun x66 =>
  (chk σ 11 p1).bind fun _ => (m_X11_equate σ p1 (1 : Int32) (2 : Int32) v65.2).bind fun v67 => xok v67.1 fun x68 =>
  (chk σ 11 p1).bind fun _ => (m_X11_both σ p1 x68 x68 v67.2).bind fun v69 => xok v69.1 fun x70 =>
  (chk σ 11 p1).bind fun _ => (m_X11_token σ p1 (2 : Int32) (200 : Int32) (201 : Int32) (1 : Int32) v69.2).bind fun v71 => xok v71.1 fun x72 =>
  (chk σ 11 p1).bind fun _ => (m_X11_when σ p1 (10 : Int32) (200 : Int32) (201 : Int32) x72 v71.2).bind fun v73 => xok v73.1 fun x74 =>
  m_law_b106 xs N σ p1 x62 x64 x66 x70 x72 x74 (1 : Int32) (1 : Int64) (1 : Int64) (0 : Int32) (0 : Int32) (0 : Int32) v73.2
set_option maxHeartbeats 8000000 in
set_option maxRecDepth 100000 in
theorem w_law_b664 {xs : Nat → Int32} {N : Nat} {J : JT} (hI : IsL xs N J) (σ : St) (p1 : Nat) (p2 : Int32) (p3 : Int32) (p4 : Int32) (p6 : Int32) (p7 : Int32) (p8 : Int32) (p9 : Int32) (p10 : Int64) (p12 : Int64) (p14 : Int32) (p15 : Int32) (p16 : Int32) (p30 : Int32) (δ : Dy) : SJ (m_law_b664 xs N σ p1 p2 p3 p4 p6 p7 p8 p9 p10 p12 p14 p15 p16 p30 δ) (PL (fun s : (Int32 × Int64 × Int64 × Int32 × Int32 × Int32 × Dy) => J 106 [(0, .ref roB), (1, .ref p1), (2, .int p2), (3, .int p3), (4, .int p4), (6, .int p6), (7, .int p7), (8, .int p8), (9, .int s.1), (10, .long s.2.1), (12, .long s.2.2.1), (14, .int s.2.2.2.1), (15, .int s.2.2.2.2.1), (16, .int s.2.2.2.2.2.1)] [] (598988, 7242268) σ s.2.2.2.2.2.2) (fun _ : Unit => True)) (J 664 [(0, .ref roB), (1, .ref p1), (2, .int p2), (3, .int p3), (4, .int p4), (6, .int p6), (7, .int p7), (8, .int p8), (9, .int p9), (10, .long p10), (12, .long p12), (14, .int p14), (15, .int p15), (16, .int p16), (30, .int p30)] [] (598988, 7242268) σ δ) := by
  have hJ := hI.cor
  unfold m_law_b664
  refine sj (j_iload hJ dL_law_664 11 rfl) ?_
  refine sj (j_iload hJ dL_law_666 14 rfl) ?_
  refine sj (j_iadd hJ dL_law_668) ?_
  refine sj (j_istore hJ (L' := [(14, .int (p14 + p30)), (0, .ref roB), (1, .ref p1), (2, .int p2), (3, .int p3), (4, .int p4), (6, .int p6), (7, .int p7), (8, .int p8), (9, .int p9), (10, .long p10), (12, .long p12), (15, .int p15), (16, .int p16), (30, .int p30)]) dL_law_669 (by decide) rfl) ?_
  refine sj (j_aload_n hJ dL_law_671 rfl 2 rfl) ?_
  refine sj_callVip hJ [] (st := []) (fr' := 1) (lo' := 22) ml_L_90 hc_11 (by decide) (by decide) (Nat.le_of_ble_eq_true rfl) dL_law_672 rfl (fun _ h9 => ct_X11_standing h9) (fun v37 => ?_)
  refine sj (j_iload hJ dL_law_675 12 rfl) ?_
  refine sj_if (j_icmp_ne hJ (tgt := 717) dL_law_677 (by decide)) (fun _ => ?_) (fun _ => ?_)
  · refine sj (j_aload_n hJ dL_law_680 rfl 2 rfl) ?_
    refine sj_callVi hJ [] (st := []) (fr' := 7) (lo' := 181) ml_L_93 hc_11 (by decide) (by decide) (Nat.le_of_ble_eq_true rfl) dL_law_681 rfl (fun _ h9 => ct_X11_standingAnew h9) (fun v38 => ?_)
    refine sj (j_iload hJ dL_law_684 12 rfl) ?_
    refine sj_if (j_icmp_ne hJ (tgt := 717) dL_law_686 (by decide)) (fun _ => ?_) (fun _ => ?_)
    · refine sj (j_aload_n hJ dL_law_689 rfl 2 rfl) ?_
      refine sj_callVip hJ [] (st := []) (fr' := 0) (lo' := 0) ml_L_96 hc_11 (by decide) (by decide) (Nat.le_of_ble_eq_true rfl) dL_law_690 rfl (fun _ h9 => ct_X11_clock h9) (fun v39 => ?_)
      refine sj (j_iload hJ dL_law_693 13 rfl) ?_
      refine sj (j_iconst hJ (v := 1) dL_law_695 ic_1) ?_
      refine sj (j_iadd hJ dL_law_696) ?_
      refine sj_if (j_icmp_ne hJ (tgt := 717) dL_law_697 (by decide)) (fun _ => ?_) (fun _ => ?_)
      · refine sj (j_aload_n hJ dL_law_700 rfl 2 rfl) ?_
        refine sj_callVip hJ [] (st := []) (fr' := 1) (lo' := 20) ml_L_99 hc_11 (by decide) (by decide) (Nat.le_of_ble_eq_true rfl) dL_law_701 rfl (fun _ h9 => ct_X11_waiting h9) (fun v40 => ?_)
        refine sj_if (j_if_ne hJ (tgt := 717) dL_law_704 (by decide)) (fun _ => ?_) (fun _ => ?_)
        · refine sj (j_aload_n hJ dL_law_707 rfl 2 rfl) ?_
          refine sj (j_iload_n hJ dL_law_708 rfl 3 rfl) ?_
          refine sl_callXp hJ [.int p2] (st := []) (fr' := 7) (lo' := 111) ml_L_102 hc_11 (by decide) (by decide) (Nat.le_of_ble_eq_true rfl) dL_law_709 rfl (fun _ h9 => ct_X11_value h9) (fun v41 x42 => ?_)
          refine sj (j_bipush hJ (v := 100) dL_law_712 ib_100) ?_
          refine sj_if (j_icmp_eq hJ (tgt := 719) dL_law_714 (by decide)) (fun _ => ?_) (fun _ => ?_)
          · refine sj (j_iinc hJ (L' := [(16, .int (p16 + (1 : Int32))), (14, .int (p14 + p30)), (0, .ref roB), (1, .ref p1), (2, .int p2), (3, .int p3), (4, .int p4), (6, .int p6), (7, .int p7), (8, .int p8), (9, .int p9), (10, .long p10), (12, .long p12), (15, .int p15), (30, .int p30)]) dL_law_719 13 rfl (congrArg (fun z => p16 + z) ic_1) (by decide) rfl) ?_
            refine sj (j_goto hJ (tgt := 106) dL_law_722 (by decide)) ?_
            refine sj (j_sub hJ (L' := [(0, .ref roB), (1, .ref p1), (2, .int p2), (3, .int p3), (4, .int p4), (6, .int p6), (7, .int p7), (8, .int p8), (9, .int p9), (10, .long p10), (12, .long p12), (14, .int (p14 + p30)), (15, .int p15), (16, .int (p16 + (1 : Int32)))]) [2, 3, 4, 5, 6, 7, 8, 9, 10, 11, 12, 1, 13, 0] rfl) ?_
            exact sj_end (fun h => h)
          · refine sj (j_iconst hJ (v := 0) dL_law_717 ic_0) ?_
            exact sj_none
        · refine sj (j_iconst hJ (v := 0) dL_law_717 ic_0) ?_
          exact sj_none
      · refine sj (j_iconst hJ (v := 0) dL_law_717 ic_0) ?_
        exact sj_none
    · refine sj (j_iconst hJ (v := 0) dL_law_717 ic_0) ?_
      exact sj_none
  · refine sj (j_iconst hJ (v := 0) dL_law_717 ic_0) ?_
    exact sj_none
set_option maxHeartbeats 8000000 in
set_option maxRecDepth 100000 in
theorem w_law_b499 {xs : Nat → Int32} {N : Nat} {J : JT} (hI : IsL xs N J) (σ : St) (p1 : Nat) (p2 : Int32) (p3 : Int32) (p4 : Int32) (p6 : Int32) (p7 : Int32) (p8 : Int32) (p9 : Int32) (p10 : Int64) (p12 : Int64) (p14 : Int32) (p15 : Int32) (p16 : Int32) (p26 : Int32) (p30 : Int32) (q0 : Int32) (q1 : Int32) (δ : Dy) : SJ (m_law_b499 xs N σ p1 p2 p3 p4 p6 p7 p8 p9 p10 p12 p14 p15 p16 p26 p30 q0 q1 δ) (PL (fun s : (Int32 × Int64 × Int64 × Int32 × Int32 × Int32 × Dy) => J 106 [(0, .ref roB), (1, .ref p1), (2, .int p2), (3, .int p3), (4, .int p4), (6, .int p6), (7, .int p7), (8, .int p8), (9, .int s.1), (10, .long s.2.1), (12, .long s.2.2.1), (14, .int s.2.2.2.1), (15, .int s.2.2.2.2.1), (16, .int s.2.2.2.2.2.1)] [] (598988, 7242268) σ s.2.2.2.2.2.2) (fun _ : Unit => True)) (J 499 [(0, .ref roB), (1, .ref p1), (2, .int p2), (3, .int p3), (4, .int p4), (6, .int p6), (7, .int p7), (8, .int p8), (9, .int p9), (10, .long p10), (12, .long p12), (14, .int p14), (15, .int p15), (16, .int p16), (26, .int p26), (30, .int p30)] [.int q1, .int q0] (598988, 7242268) σ δ) := by
  have hJ := hI.cor
  unfold m_law_b499
  refine sj_if (j_icmp_ne hJ (tgt := 545) dL_law_499 (by decide)) (fun _ => ?_) (fun _ => ?_)
  · refine sj (j_aload_n hJ dL_law_502 rfl 1 rfl) ?_
    refine sj (j_iload hJ dL_law_503 11 rfl) ?_
    refine sj (j_iconst hJ (v := 3) dL_law_505 ic_3) ?_
    refine sl_callXp hJ [.int p14, .int (3 : Int32)] (st := []) (fr' := 7) (lo' := 111) ml_L_83 hc_11 (by decide) (by decide) (Nat.le_of_ble_eq_true rfl) dL_law_506 rfl (fun _ h9 => ct_X11_part h9) (fun v31 x32 => ?_)
    refine sj_if (j_if_ne hJ (tgt := 545) dL_law_509 (by decide)) (fun _ => ?_) (fun _ => ?_)
    · refine sj (j_aload_n hJ dL_law_512 rfl 1 rfl) ?_
      refine sj (j_iload hJ dL_law_513 11 rfl) ?_
      refine sj (j_iconst hJ (v := 1) dL_law_515 ic_1) ?_
      refine sj (j_iadd hJ dL_law_516) ?_
      refine sj (j_iconst hJ (v := 0) dL_law_517 ic_0) ?_
      refine sl_callXp hJ [.int (p14 + (1 : Int32)), .int (0 : Int32)] (st := []) (fr' := 7) (lo' := 111) ml_L_83 hc_11 (by decide) (by decide) (Nat.le_of_ble_eq_true rfl) dL_law_518 rfl (fun _ h9 => ct_X11_part h9) (fun v33 x34 => ?_)
      refine sj (j_iconst hJ (v := 2) dL_law_521 ic_2) ?_
      refine sj_if (j_icmp_ne hJ (tgt := 545) dL_law_522 (by decide)) (fun _ => ?_) (fun _ => ?_)
      · refine sj (j_aload_n hJ dL_law_525 rfl 1 rfl) ?_
        refine sj (j_iload hJ dL_law_526 11 rfl) ?_
        refine sj (j_iconst hJ (v := 1) dL_law_528 ic_1) ?_
        refine sj (j_iadd hJ dL_law_529) ?_
        refine sj (j_iload hJ dL_law_530 11 rfl) ?_
        refine sl_callXp hJ [.int (p14 + (1 : Int32)), .int p14] (st := []) (fr' := 7) (lo' := 111) ml_L_86 hc_11 (by decide) (by decide) (Nat.le_of_ble_eq_true rfl) dL_law_532 rfl (fun _ h9 => ct_X11_isMadeBy h9) (fun v35 x36 => ?_)
        refine sj_if (j_if_ne hJ (tgt := 545) dL_law_535 (by decide)) (fun _ => ?_) (fun _ => ?_)
        · refine sj (j_iload hJ dL_law_538 14 rfl) ?_
          refine sj (j_bipush hJ (v := 7) dL_law_540 ib_7) ?_
          refine sj_if (j_icmp_eq hJ (tgt := 547) dL_law_542 (by decide)) (fun _ => ?_) (fun _ => ?_)
          · refine sj (j_iinc hJ (L' := [(15, .int (p15 + (1 : Int32))), (0, .ref roB), (1, .ref p1), (2, .int p2), (3, .int p3), (4, .int p4), (6, .int p6), (7, .int p7), (8, .int p8), (9, .int p9), (10, .long p10), (12, .long p12), (14, .int p14), (16, .int p16), (26, .int p26), (30, .int p30)]) dL_law_547 12 rfl (congrArg (fun z => p15 + z) ic_1) (by decide) rfl) ?_
            refine sj (j_goto hJ (tgt := 664) dL_law_550 (by decide)) ?_
            refine sj (j_sub hJ (L' := [(0, .ref roB), (1, .ref p1), (2, .int p2), (3, .int p3), (4, .int p4), (6, .int p6), (7, .int p7), (8, .int p8), (9, .int p9), (10, .long p10), (12, .long p12), (14, .int p14), (15, .int (p15 + (1 : Int32))), (16, .int p16), (30, .int p30)]) [1, 2, 3, 4, 5, 6, 7, 8, 9, 10, 11, 12, 0, 13, 15] rfl) ?_
            exact w_law_b664 hI σ p1 p2 p3 p4 p6 p7 p8 p9 p10 p12 p14 (p15 + (1 : Int32)) p16 p30 δ
          · refine sj (j_iconst hJ (v := 0) dL_law_545 ic_0) ?_
            exact sj_none
        · refine sj (j_iconst hJ (v := 0) dL_law_545 ic_0) ?_
          exact sj_none
      · refine sj (j_iconst hJ (v := 0) dL_law_545 ic_0) ?_
        exact sj_none
    · refine sj (j_iconst hJ (v := 0) dL_law_545 ic_0) ?_
      exact sj_none
  · refine sj (j_iconst hJ (v := 0) dL_law_545 ic_0) ?_
    exact sj_none
set_option maxHeartbeats 8000000 in
set_option maxRecDepth 100000 in
theorem w_law_b657 {xs : Nat → Int32} {N : Nat} {J : JT} (hI : IsL xs N J) (σ : St) (p1 : Nat) (p2 : Int32) (p3 : Int32) (p4 : Int32) (p6 : Int32) (p7 : Int32) (p8 : Int32) (p9 : Int32) (p10 : Int64) (p12 : Int64) (p14 : Int32) (p15 : Int32) (p16 : Int32) (p30 : Int32) (δ : Dy) : SJ (m_law_b657 xs N σ p1 p2 p3 p4 p6 p7 p8 p9 p10 p12 p14 p15 p16 p30 δ) (PL (fun s : (Int32 × Int64 × Int64 × Int32 × Int32 × Int32 × Dy) => J 106 [(0, .ref roB), (1, .ref p1), (2, .int p2), (3, .int p3), (4, .int p4), (6, .int p6), (7, .int p7), (8, .int p8), (9, .int s.1), (10, .long s.2.1), (12, .long s.2.2.1), (14, .int s.2.2.2.1), (15, .int s.2.2.2.2.1), (16, .int s.2.2.2.2.2.1)] [] (598988, 7242268) σ s.2.2.2.2.2.2) (fun _ : Unit => True)) (J 657 [(0, .ref roB), (1, .ref p1), (2, .int p2), (3, .int p3), (4, .int p4), (6, .int p6), (7, .int p7), (8, .int p8), (9, .int p9), (10, .long p10), (12, .long p12), (14, .int p14), (15, .int p15), (16, .int p16), (30, .int p30)] [] (598988, 7242268) σ δ) := by
  have hJ := hI.cor
  unfold m_law_b657
  refine sj (j_iload hJ dL_law_657 12 rfl) ?_
  refine sj (j_iload hJ dL_law_659 14 rfl) ?_
  refine sj (j_iadd hJ dL_law_661) ?_
  refine sj (j_istore hJ (L' := [(15, .int (p15 + p30)), (0, .ref roB), (1, .ref p1), (2, .int p2), (3, .int p3), (4, .int p4), (6, .int p6), (7, .int p7), (8, .int p8), (9, .int p9), (10, .long p10), (12, .long p12), (14, .int p14), (16, .int p16), (30, .int p30)]) dL_law_662 (by decide) rfl) ?_
  refine sj (j_sub hJ (L' := [(0, .ref roB), (1, .ref p1), (2, .int p2), (3, .int p3), (4, .int p4), (6, .int p6), (7, .int p7), (8, .int p8), (9, .int p9), (10, .long p10), (12, .long p12), (14, .int p14), (15, .int (p15 + p30)), (16, .int p16), (30, .int p30)]) [1, 2, 3, 4, 5, 6, 7, 8, 9, 10, 11, 12, 0, 13, 14] rfl) ?_
  exact w_law_b664 hI σ p1 p2 p3 p4 p6 p7 p8 p9 p10 p12 p14 (p15 + p30) p16 p30 δ
set_option maxHeartbeats 8000000 in
set_option maxRecDepth 100000 in
theorem w_law_b644 {xs : Nat → Int32} {N : Nat} {J : JT} (hI : IsL xs N J) (σ : St) (p1 : Nat) (p2 : Int32) (p3 : Int32) (p4 : Int32) (p6 : Int32) (p7 : Int32) (p8 : Int32) (p9 : Int32) (p10 : Int64) (p12 : Int64) (p14 : Int32) (p15 : Int32) (p16 : Int32) (p21 : Int32) (p26 : Int32) (p30 : Int32) (δ : Dy) : SJ (m_law_b644 xs N σ p1 p2 p3 p4 p6 p7 p8 p9 p10 p12 p14 p15 p16 p21 p26 p30 δ) (PL (fun s : (Int32 × Int64 × Int64 × Int32 × Int32 × Int32 × Dy) => J 106 [(0, .ref roB), (1, .ref p1), (2, .int p2), (3, .int p3), (4, .int p4), (6, .int p6), (7, .int p7), (8, .int p8), (9, .int s.1), (10, .long s.2.1), (12, .long s.2.2.1), (14, .int s.2.2.2.1), (15, .int s.2.2.2.2.1), (16, .int s.2.2.2.2.2.1)] [] (598988, 7242268) σ s.2.2.2.2.2.2) (fun _ : Unit => True)) (J 644 [(0, .ref roB), (1, .ref p1), (2, .int p2), (3, .int p3), (4, .int p4), (6, .int p6), (7, .int p7), (8, .int p8), (9, .int p9), (10, .long p10), (12, .long p12), (14, .int p14), (15, .int p15), (16, .int p16), (21, .int p21), (26, .int p26), (30, .int p30)] [] (598988, 7242268) σ δ) := by
  have hJ := hI.cor
  unfold m_law_b644
  refine sj (j_iload hJ dL_law_644 14 rfl) ?_
  refine sj_if (j_if_ne hJ (tgt := 657) dL_law_646 (by decide)) (fun _ => ?_) (fun _ => ?_)
  · refine sj (j_iload hJ dL_law_649 15 rfl) ?_
    refine sj (j_iconst hJ (v := 2) dL_law_651 ic_2) ?_
    refine sj_if (j_icmp_eq hJ (tgt := 657) dL_law_652 (by decide)) (fun _ => ?_) (fun _ => ?_)
    · refine sj (j_sub hJ (L' := [(0, .ref roB), (1, .ref p1), (2, .int p2), (3, .int p3), (4, .int p4), (6, .int p6), (7, .int p7), (8, .int p8), (9, .int p9), (10, .long p10), (12, .long p12), (14, .int p14), (15, .int p15), (16, .int p16), (30, .int p30)]) [0, 1, 2, 3, 4, 5, 6, 7, 8, 9, 10, 11, 12, 13, 16] rfl) ?_
      exact w_law_b657 hI σ p1 p2 p3 p4 p6 p7 p8 p9 p10 p12 p14 p15 p16 p30 δ
    · refine sj (j_iconst hJ (v := 0) dL_law_655 ic_0) ?_
      exact sj_none
  · refine sj (j_sub hJ (L' := [(0, .ref roB), (1, .ref p1), (2, .int p2), (3, .int p3), (4, .int p4), (6, .int p6), (7, .int p7), (8, .int p8), (9, .int p9), (10, .long p10), (12, .long p12), (14, .int p14), (15, .int p15), (16, .int p16), (30, .int p30)]) [0, 1, 2, 3, 4, 5, 6, 7, 8, 9, 10, 11, 12, 13, 16] rfl) ?_
    exact w_law_b657 hI σ p1 p2 p3 p4 p6 p7 p8 p9 p10 p12 p14 p15 p16 p30 δ
set_option maxHeartbeats 8000000 in
set_option maxRecDepth 100000 in
theorem w_law_b570 {xs : Nat → Int32} {N : Nat} {J : JT} (hI : IsL xs N J) (σ : St) (p1 : Nat) (p2 : Int32) (p3 : Int32) (p4 : Int32) (p6 : Int32) (p7 : Int32) (p8 : Int32) (p9 : Int32) (p10 : Int64) (p12 : Int64) (p14 : Int32) (p15 : Int32) (p16 : Int32) (p21 : Int32) (p26 : Int32) (p30 : Int32) (q0 : Int32) (q1 : Int32) (δ : Dy) : SJ (m_law_b570 xs N σ p1 p2 p3 p4 p6 p7 p8 p9 p10 p12 p14 p15 p16 p21 p26 p30 q0 q1 δ) (PL (fun s : (Int32 × Int64 × Int64 × Int32 × Int32 × Int32 × Dy) => J 106 [(0, .ref roB), (1, .ref p1), (2, .int p2), (3, .int p3), (4, .int p4), (6, .int p6), (7, .int p7), (8, .int p8), (9, .int s.1), (10, .long s.2.1), (12, .long s.2.2.1), (14, .int s.2.2.2.1), (15, .int s.2.2.2.2.1), (16, .int s.2.2.2.2.2.1)] [] (598988, 7242268) σ s.2.2.2.2.2.2) (fun _ : Unit => True)) (J 570 [(0, .ref roB), (1, .ref p1), (2, .int p2), (3, .int p3), (4, .int p4), (6, .int p6), (7, .int p7), (8, .int p8), (9, .int p9), (10, .long p10), (12, .long p12), (14, .int p14), (15, .int p15), (16, .int p16), (21, .int p21), (26, .int p26), (30, .int p30)] [.int q1, .int q0] (598988, 7242268) σ δ) := by
  have hJ := hI.cor
  unfold m_law_b570
  refine sj_if (j_icmp_ne hJ (tgt := 608) dL_law_570 (by decide)) (fun _ => ?_) (fun _ => ?_)
  · refine sj (j_aload_n hJ dL_law_573 rfl 1 rfl) ?_
    refine sj (j_iload hJ dL_law_574 11 rfl) ?_
    refine sj (j_iconst hJ (v := 1) dL_law_576 ic_1) ?_
    refine sl_callXp hJ [.int p14, .int (1 : Int32)] (st := []) (fr' := 7) (lo' := 111) ml_L_83 hc_11 (by decide) (by decide) (Nat.le_of_ble_eq_true rfl) dL_law_577 rfl (fun _ h9 => ct_X11_part h9) (fun v45 x46 => ?_)
    refine sj (j_iload hJ dL_law_580 13 rfl) ?_
    refine sj_if (j_icmp_ne hJ (tgt := 608) dL_law_582 (by decide)) (fun _ => ?_) (fun _ => ?_)
    · refine sj (j_aload_n hJ dL_law_585 rfl 1 rfl) ?_
      refine sj (j_iload hJ dL_law_586 11 rfl) ?_
      refine sj (j_iconst hJ (v := 2) dL_law_588 ic_2) ?_
      refine sl_callXp hJ [.int p14, .int (2 : Int32)] (st := []) (fr' := 7) (lo' := 111) ml_L_83 hc_11 (by decide) (by decide) (Nat.le_of_ble_eq_true rfl) dL_law_589 rfl (fun _ h9 => ct_X11_part h9) (fun v47 x48 => ?_)
      refine sj (j_bipush hJ (v := 9) dL_law_592 ib_9) ?_
      refine sj_if (j_icmp_ne hJ (tgt := 608) dL_law_594 (by decide)) (fun _ => ?_) (fun _ => ?_)
      · refine sj (j_aload_n hJ dL_law_597 rfl 1 rfl) ?_
        refine sj (j_iload hJ dL_law_598 11 rfl) ?_
        refine sj (j_iconst hJ (v := 3) dL_law_600 ic_3) ?_
        refine sl_callXp hJ [.int p14, .int (3 : Int32)] (st := []) (fr' := 7) (lo' := 111) ml_L_83 hc_11 (by decide) (by decide) (Nat.le_of_ble_eq_true rfl) dL_law_601 rfl (fun _ h9 => ct_X11_part h9) (fun v49 x50 => ?_)
        refine sj (j_iconst hJ (v := 1) dL_law_604 ic_1) ?_
        refine sj_if (j_icmp_eq hJ (tgt := 610) dL_law_605 (by decide)) (fun _ => ?_) (fun _ => ?_)
        · refine sj (j_iload hJ dL_law_610 16 rfl) ?_
          refine sj (j_iconst hJ (v := 2) dL_law_612 ic_2) ?_
          refine sj_if (j_icmp_ne hJ (tgt := 644) dL_law_613 (by decide)) (fun _ => ?_) (fun _ => ?_)
          · refine sj (j_aload_n hJ dL_law_616 rfl 1 rfl) ?_
            refine sj (j_iload hJ dL_law_617 11 rfl) ?_
            refine sj (j_iconst hJ (v := 1) dL_law_619 ic_1) ?_
            refine sj (j_iadd hJ dL_law_620) ?_
            refine sj (j_iconst hJ (v := 0) dL_law_621 ic_0) ?_
            refine sl_callXp hJ [.int (p14 + (1 : Int32)), .int (0 : Int32)] (st := []) (fr' := 7) (lo' := 111) ml_L_83 hc_11 (by decide) (by decide) (Nat.le_of_ble_eq_true rfl) dL_law_622 rfl (fun _ h9 => ct_X11_part h9) (fun v51 x52 => ?_)
            refine sj (j_iconst hJ (v := 2) dL_law_625 ic_2) ?_
            refine sj_if (j_icmp_ne hJ (tgt := 642) dL_law_626 (by decide)) (fun _ => ?_) (fun _ => ?_)
            · refine sj (j_aload_n hJ dL_law_629 rfl 1 rfl) ?_
              refine sj (j_iload hJ dL_law_630 11 rfl) ?_
              refine sj (j_iconst hJ (v := 1) dL_law_632 ic_1) ?_
              refine sj (j_iadd hJ dL_law_633) ?_
              refine sj (j_iload hJ dL_law_634 11 rfl) ?_
              refine sl_callXp hJ [.int (p14 + (1 : Int32)), .int p14] (st := []) (fr' := 7) (lo' := 111) ml_L_86 hc_11 (by decide) (by decide) (Nat.le_of_ble_eq_true rfl) dL_law_636 rfl (fun _ h9 => ct_X11_isMadeBy h9) (fun v53 x54 => ?_)
              refine sj_if (j_if_ne hJ (tgt := 644) dL_law_639 (by decide)) (fun _ => ?_) (fun _ => ?_)
              · refine sj (j_iconst hJ (v := 0) dL_law_642 ic_0) ?_
                exact sj_none
              · exact w_law_b644 hI σ p1 p2 p3 p4 p6 p7 p8 p9 p10 p12 p14 p15 p16 p21 p26 p30 δ
            · refine sj (j_iconst hJ (v := 0) dL_law_642 ic_0) ?_
              exact sj_none
          · exact w_law_b644 hI σ p1 p2 p3 p4 p6 p7 p8 p9 p10 p12 p14 p15 p16 p21 p26 p30 δ
        · refine sj (j_iconst hJ (v := 0) dL_law_608 ic_0) ?_
          exact sj_none
      · refine sj (j_iconst hJ (v := 0) dL_law_608 ic_0) ?_
        exact sj_none
    · refine sj (j_iconst hJ (v := 0) dL_law_608 ic_0) ?_
      exact sj_none
  · refine sj (j_iconst hJ (v := 0) dL_law_608 ic_0) ?_
    exact sj_none
set_option maxHeartbeats 8000000 in
set_option maxRecDepth 100000 in
theorem w_law_b460 {xs : Nat → Int32} {N : Nat} {J : JT} (hI : IsL xs N J) (σ : St) (p1 : Nat) (p2 : Int32) (p3 : Int32) (p4 : Int32) (p6 : Int32) (p7 : Int32) (p8 : Int32) (p9 : Int32) (p10 : Int64) (p12 : Int64) (p14 : Int32) (p15 : Int32) (p16 : Int32) (p21 : Int32) (p26 : Int32) (p27 : Int32) (q0 : Int32) (δ : Dy) : SJ (m_law_b460 xs N σ p1 p2 p3 p4 p6 p7 p8 p9 p10 p12 p14 p15 p16 p21 p26 p27 q0 δ) (PL (fun s : (Int32 × Int64 × Int64 × Int32 × Int32 × Int32 × Dy) => J 106 [(0, .ref roB), (1, .ref p1), (2, .int p2), (3, .int p3), (4, .int p4), (6, .int p6), (7, .int p7), (8, .int p8), (9, .int s.1), (10, .long s.2.1), (12, .long s.2.2.1), (14, .int s.2.2.2.1), (15, .int s.2.2.2.2.1), (16, .int s.2.2.2.2.2.1)] [] (598988, 7242268) σ s.2.2.2.2.2.2) (fun _ : Unit => True)) (J 460 [(0, .ref roB), (1, .ref p1), (2, .int p2), (3, .int p3), (4, .int p4), (6, .int p6), (7, .int p7), (8, .int p8), (9, .int p9), (10, .long p10), (12, .long p12), (14, .int p14), (15, .int p15), (16, .int p16), (21, .int p21), (26, .int p26), (27, .int p27)] [.int q0] (598988, 7242268) σ δ) := by
  have hJ := hI.cor
  unfold m_law_b460
  refine sj (j_istore hJ (L' := [(30, .int q0), (0, .ref roB), (1, .ref p1), (2, .int p2), (3, .int p3), (4, .int p4), (6, .int p6), (7, .int p7), (8, .int p8), (9, .int p9), (10, .long p10), (12, .long p12), (14, .int p14), (15, .int p15), (16, .int p16), (21, .int p21), (26, .int p26), (27, .int p27)]) dL_law_460 (by decide) rfl) ?_
  refine sj (j_aload_n hJ dL_law_462 rfl 2 rfl) ?_
  refine sj_callVip hJ [] (st := []) (fr' := 0) (lo' := 0) ml_L_80 hc_11 (by decide) (by decide) (Nat.le_of_ble_eq_true rfl) dL_law_463 rfl (fun _ h9 => ct_X11_tokens h9) (fun v28 => ?_)
  refine sj (j_iload hJ dL_law_466 12 rfl) ?_
  refine sj (j_iload hJ dL_law_468 0 rfl) ?_
  refine sj (j_iadd hJ dL_law_470) ?_
  refine sj_if (j_icmp_eq hJ (tgt := 476) dL_law_471 (by decide)) (fun _ => ?_) (fun _ => ?_)
  · refine sj (j_iload hJ dL_law_476 15 rfl) ?_
    refine sj (j_iconst hJ (v := 2) dL_law_478 ic_2) ?_
    refine sj_if (j_icmp_ne hJ (tgt := 553) dL_law_479 (by decide)) (fun _ => ?_) (fun _ => ?_)
    · refine sj (j_aload_n hJ dL_law_482 rfl 2 rfl) ?_
      refine sj (j_iload hJ dL_law_483 12 rfl) ?_
      refine sj (j_iconst hJ (v := 0) dL_law_485 ic_0) ?_
      refine sl_callXp hJ [.int p14, .int (0 : Int32)] (st := []) (fr' := 7) (lo' := 111) ml_L_83 hc_11 (by decide) (by decide) (Nat.le_of_ble_eq_true rfl) dL_law_486 rfl (fun _ h9 => ct_X11_part h9) (fun v29 x30 => ?_)
      refine sj (j_iload hJ dL_law_489 17 rfl) ?_
      refine sj_if (j_if_eq hJ (tgt := 498) dL_law_491 (by decide)) (fun _ => ?_) (fun _ => ?_)
      · refine sj (j_iconst hJ (v := 1) dL_law_498 ic_1) ?_
        refine sj (j_sub hJ (L' := [(0, .ref roB), (1, .ref p1), (2, .int p2), (3, .int p3), (4, .int p4), (6, .int p6), (7, .int p7), (8, .int p8), (9, .int p9), (10, .long p10), (12, .long p12), (14, .int p14), (15, .int p15), (16, .int p16), (26, .int p26), (30, .int q0)]) [1, 2, 3, 4, 5, 6, 7, 8, 9, 10, 11, 12, 13, 14, 16, 0] rfl) ?_
        exact w_law_b499 hI σ p1 p2 p3 p4 p6 p7 p8 p9 p10 p12 p14 p15 p16 p26 q0 x30 (1 : Int32) δ
      · refine sj (j_iconst hJ (v := 0) dL_law_494 ic_0) ?_
        refine sj (j_goto hJ (tgt := 499) dL_law_495 (by decide)) ?_
        refine sj (j_sub hJ (L' := [(0, .ref roB), (1, .ref p1), (2, .int p2), (3, .int p3), (4, .int p4), (6, .int p6), (7, .int p7), (8, .int p8), (9, .int p9), (10, .long p10), (12, .long p12), (14, .int p14), (15, .int p15), (16, .int p16), (26, .int p26), (30, .int q0)]) [1, 2, 3, 4, 5, 6, 7, 8, 9, 10, 11, 12, 13, 14, 16, 0] rfl) ?_
        exact w_law_b499 hI σ p1 p2 p3 p4 p6 p7 p8 p9 p10 p12 p14 p15 p16 p26 q0 x30 (0 : Int32) δ
    · refine sj (j_aload_n hJ dL_law_553 rfl 2 rfl) ?_
      refine sj (j_iload hJ dL_law_554 12 rfl) ?_
      refine sj (j_iconst hJ (v := 0) dL_law_556 ic_0) ?_
      refine sl_callXp hJ [.int p14, .int (0 : Int32)] (st := []) (fr' := 7) (lo' := 111) ml_L_83 hc_11 (by decide) (by decide) (Nat.le_of_ble_eq_true rfl) dL_law_557 rfl (fun _ h9 => ct_X11_part h9) (fun v43 x44 => ?_)
      refine sj (j_iload hJ dL_law_560 17 rfl) ?_
      refine sj_if (j_if_eq hJ (tgt := 569) dL_law_562 (by decide)) (fun _ => ?_) (fun _ => ?_)
      · refine sj (j_iconst hJ (v := 1) dL_law_569 ic_1) ?_
        refine sj (j_sub hJ (L' := [(0, .ref roB), (1, .ref p1), (2, .int p2), (3, .int p3), (4, .int p4), (6, .int p6), (7, .int p7), (8, .int p8), (9, .int p9), (10, .long p10), (12, .long p12), (14, .int p14), (15, .int p15), (16, .int p16), (21, .int p21), (26, .int p26), (30, .int q0)]) [1, 2, 3, 4, 5, 6, 7, 8, 9, 10, 11, 12, 13, 14, 15, 16, 0] rfl) ?_
        exact w_law_b570 hI σ p1 p2 p3 p4 p6 p7 p8 p9 p10 p12 p14 p15 p16 p21 p26 q0 x44 (1 : Int32) δ
      · refine sj (j_iconst hJ (v := 0) dL_law_565 ic_0) ?_
        refine sj (j_goto hJ (tgt := 570) dL_law_566 (by decide)) ?_
        refine sj (j_sub hJ (L' := [(0, .ref roB), (1, .ref p1), (2, .int p2), (3, .int p3), (4, .int p4), (6, .int p6), (7, .int p7), (8, .int p8), (9, .int p9), (10, .long p10), (12, .long p12), (14, .int p14), (15, .int p15), (16, .int p16), (21, .int p21), (26, .int p26), (30, .int q0)]) [1, 2, 3, 4, 5, 6, 7, 8, 9, 10, 11, 12, 13, 14, 15, 16, 0] rfl) ?_
        exact w_law_b570 hI σ p1 p2 p3 p4 p6 p7 p8 p9 p10 p12 p14 p15 p16 p21 p26 q0 x44 (0 : Int32) δ
  · refine sj (j_iconst hJ (v := 0) dL_law_474 ic_0) ?_
    exact sj_none
set_option maxHeartbeats 8000000 in
set_option maxRecDepth 100000 in
theorem w_law_b331 {xs : Nat → Int32} {N : Nat} {J : JT} (hI : IsL xs N J) (σ : St) (p1 : Nat) (p2 : Int32) (p3 : Int32) (p4 : Int32) (p6 : Int32) (p7 : Int32) (p8 : Int32) (p9 : Int32) (p12 : Int64) (p14 : Int32) (p15 : Int32) (p16 : Int32) (p18 : Int32) (p19 : Int32) (p21 : Int32) (p24 : Int32) (p25 : Int32) (p26 : Int32) (p27 : Int32) (q0 : Int64) (q1 : Int64) (δ : Dy) : SJ (m_law_b331 xs N σ p1 p2 p3 p4 p6 p7 p8 p9 p12 p14 p15 p16 p18 p19 p21 p24 p25 p26 p27 q0 q1 δ) (PL (fun s : (Int32 × Int64 × Int64 × Int32 × Int32 × Int32 × Dy) => J 106 [(0, .ref roB), (1, .ref p1), (2, .int p2), (3, .int p3), (4, .int p4), (6, .int p6), (7, .int p7), (8, .int p8), (9, .int s.1), (10, .long s.2.1), (12, .long s.2.2.1), (14, .int s.2.2.2.1), (15, .int s.2.2.2.2.1), (16, .int s.2.2.2.2.2.1)] [] (598988, 7242268) σ s.2.2.2.2.2.2) (fun _ : Unit => True)) (J 331 [(0, .ref roB), (1, .ref p1), (2, .int p2), (3, .int p3), (4, .int p4), (6, .int p6), (7, .int p7), (8, .int p8), (9, .int p9), (12, .long p12), (14, .int p14), (15, .int p15), (16, .int p16), (18, .int p18), (19, .int p19), (21, .int p21), (24, .int p24), (25, .int p25), (26, .int p26), (27, .int p27)] [.long q1, .long q0] (598988, 7242268) σ δ) := by
  have hJ := hI.cor
  unfold m_law_b331
  refine sj (j_lmul hJ dL_law_331) ?_
  refine sj (j_lstore hJ (L' := [(10, .long (q0 * q1)), (0, .ref roB), (1, .ref p1), (2, .int p2), (3, .int p3), (4, .int p4), (6, .int p6), (7, .int p7), (8, .int p8), (9, .int p9), (12, .long p12), (14, .int p14), (15, .int p15), (16, .int p16), (18, .int p18), (19, .int p19), (21, .int p21), (24, .int p24), (25, .int p25), (26, .int p26), (27, .int p27)]) dL_law_332 (by decide) rfl) ?_
  refine sj (j_lload hJ dL_law_334 10 rfl) ?_
  refine sj (j_iload hJ dL_law_336 14 rfl) ?_
  refine sj (j_iload hJ dL_law_338 15 rfl) ?_
  refine sj (j_iadd hJ dL_law_340) ?_
  refine sj (j_i2l hJ dL_law_341) ?_
  refine sj (j_lmul hJ dL_law_342) ?_
  refine sj (j_lstore hJ (L' := [(12, .long (p12 * ((p18 + p19)).toInt64)), (10, .long (q0 * q1)), (0, .ref roB), (1, .ref p1), (2, .int p2), (3, .int p3), (4, .int p4), (6, .int p6), (7, .int p7), (8, .int p8), (9, .int p9), (14, .int p14), (15, .int p15), (16, .int p16), (18, .int p18), (19, .int p19), (21, .int p21), (24, .int p24), (25, .int p25), (26, .int p26), (27, .int p27)]) dL_law_343 (by decide) rfl) ?_
  refine sj (j_lload hJ dL_law_345 1 rfl) ?_
  refine sj (j_lload hJ dL_law_347 0 rfl) ?_
  refine sj_callSlp hJ [.long (q0 * q1), .long (p12 * ((p18 + p19)).toInt64)] (st := []) (fr' := 0) (lo' := 0) ml_L_66 (by decide) (by decide) (Nat.le_of_ble_eq_true rfl) dL_law_349 rfl (fun _ h9 => ct_L_gcd h9) (fun v18 => ?_)
  refine sj (j_lstore hJ (L' := [(28, .long v18), (12, .long (p12 * ((p18 + p19)).toInt64)), (10, .long (q0 * q1)), (0, .ref roB), (1, .ref p1), (2, .int p2), (3, .int p3), (4, .int p4), (6, .int p6), (7, .int p7), (8, .int p8), (9, .int p9), (14, .int p14), (15, .int p15), (16, .int p16), (18, .int p18), (19, .int p19), (21, .int p21), (24, .int p24), (25, .int p25), (26, .int p26), (27, .int p27)]) dL_law_352 (by decide) rfl) ?_
  refine sj (j_lload hJ dL_law_354 2 rfl) ?_
  refine sj (j_lload hJ dL_law_356 0 rfl) ?_
  refine sj_dvL hJ dL_law_358 (fun v19 => ?_)
  refine sj (j_lstore hJ (L' := [(10, .long v19), (28, .long v18), (12, .long (p12 * ((p18 + p19)).toInt64)), (0, .ref roB), (1, .ref p1), (2, .int p2), (3, .int p3), (4, .int p4), (6, .int p6), (7, .int p7), (8, .int p8), (9, .int p9), (14, .int p14), (15, .int p15), (16, .int p16), (18, .int p18), (19, .int p19), (21, .int p21), (24, .int p24), (25, .int p25), (26, .int p26), (27, .int p27)]) dL_law_359 (by decide) rfl) ?_
  refine sj (j_lload hJ dL_law_361 2 rfl) ?_
  refine sj (j_lload hJ dL_law_363 1 rfl) ?_
  refine sj_dvL hJ dL_law_365 (fun v20 => ?_)
  refine sj (j_lstore hJ (L' := [(12, .long v20), (10, .long v19), (28, .long v18), (0, .ref roB), (1, .ref p1), (2, .int p2), (3, .int p3), (4, .int p4), (6, .int p6), (7, .int p7), (8, .int p8), (9, .int p9), (14, .int p14), (15, .int p15), (16, .int p16), (18, .int p18), (19, .int p19), (21, .int p21), (24, .int p24), (25, .int p25), (26, .int p26), (27, .int p27)]) dL_law_366 (by decide) rfl) ?_
  refine sj (j_iload hJ dL_law_368 18 rfl) ?_
  refine sj_if (j_if_ne hJ (tgt := 429) dL_law_370 (by decide)) (fun _ => ?_) (fun _ => ?_)
  · refine sj (j_iload hJ dL_law_373 19 rfl) ?_
    refine sj (j_iconst hJ (v := 1) dL_law_375 ic_1) ?_
    refine sj_if (j_icmp_ne hJ (tgt := 429) dL_law_376 (by decide)) (fun _ => ?_) (fun _ => ?_)
    · refine sj (j_aload_n hJ dL_law_379 rfl 4 rfl) ?_
      refine sj_callVip hJ [] (st := []) (fr' := 0) (lo' := 0) ml_L_53 hc_11 (by decide) (by decide) (Nat.le_of_ble_eq_true rfl) dL_law_380 rfl (fun _ h9 => ct_X11_hasFailed h9) (fun v21 => ?_)
      refine sj_if (j_if_ne hJ (tgt := 429) dL_law_383 (by decide)) (fun _ => ?_) (fun _ => ?_)
      · refine sj (j_aload_n hJ dL_law_386 rfl 4 rfl) ?_
        refine sj (j_iconst hJ (v := 1) dL_law_387 ic_1) ?_
        refine sj_callVip hJ [.int (1 : Int32)] (st := []) (fr' := 1) (lo' := 26) ml_L_70 hc_11 (by decide) (by decide) (Nat.le_of_ble_eq_true rfl) dL_law_388 rfl (fun _ h9 => ct_X11_chance h9) (fun v22 => ?_)
        refine sj (j_i2l hJ dL_law_391) ?_
        refine sj (j_lload hJ dL_law_392 1 rfl) ?_
        refine sj (j_ldc2 hJ (v := 1000003) dL_law_394 wd_1125) ?_
        refine sj_rmL hJ dL_law_397 (fun v23 => ?_)
        refine sj (j_lcmp hJ dL_law_398) ?_
        refine sj_if (j_if_ne hJ (tgt := 429) dL_law_399 (by decide)) (fun _ => ?_) (fun _ => ?_)
        · refine sj (j_aload_n hJ dL_law_402 rfl 4 rfl) ?_
          refine sj (j_iconst hJ (v := 0) dL_law_403 ic_0) ?_
          refine sj_callVip hJ [.int (0 : Int32)] (st := []) (fr' := 1) (lo' := 26) ml_L_70 hc_11 (by decide) (by decide) (Nat.le_of_ble_eq_true rfl) dL_law_404 rfl (fun _ h9 => ct_X11_chance h9) (fun v24 => ?_)
          refine sj (j_i2l hJ dL_law_407) ?_
          refine sj (j_lload hJ dL_law_408 0 rfl) ?_
          refine sj (j_ldc2 hJ (v := 1000003) dL_law_410 wd_1125) ?_
          refine sj_rmL hJ dL_law_413 (fun v25 => ?_)
          refine sj (j_lcmp hJ dL_law_414) ?_
          refine sj_if (j_if_ne hJ (tgt := 429) dL_law_415 (by decide)) (fun _ => ?_) (fun _ => ?_)
          · refine sj (j_aload_n hJ dL_law_418 rfl 4 rfl) ?_
            refine sj (j_iload hJ dL_law_419 11 rfl) ?_
            refine sl_callX hJ [.int p9] (st := []) (fr' := 7) (lo' := 112) ml_L_76 hc_11 (by decide) (by decide) (Nat.le_of_ble_eq_true rfl) dL_law_421 rfl (fun _ h9 => ct_X11_seed h9) (fun v26 x27 => ?_)
            refine sj (j_iload hJ dL_law_424 11 rfl) ?_
            refine sj_if (j_icmp_eq hJ (tgt := 431) dL_law_426 (by decide)) (fun _ => ?_) (fun _ => ?_)
            · refine sj (j_iload hJ dL_law_431 17 rfl) ?_
              refine sj_if (j_if_ne hJ (tgt := 440) dL_law_433 (by decide)) (fun _ => ?_) (fun _ => ?_)
              · refine sj (j_iconst hJ (v := 1) dL_law_436 ic_1) ?_
                refine sj (j_goto hJ (tgt := 460) dL_law_437 (by decide)) ?_
                refine sj (j_sub hJ (L' := [(0, .ref roB), (1, .ref p1), (2, .int p2), (3, .int p3), (4, .int p4), (6, .int p6), (7, .int p7), (8, .int p8), (9, .int p9), (10, .long v19), (12, .long v20), (14, .int p14), (15, .int p15), (16, .int p16), (21, .int p21), (26, .int p26), (27, .int p27)]) [3, 4, 5, 6, 7, 8, 9, 10, 11, 1, 0, 12, 13, 14, 17, 20, 21] rfl) ?_
                exact w_law_b460 hI σ p1 p2 p3 p4 p6 p7 p8 p9 v19 v20 p14 p15 p16 p21 p26 p27 (1 : Int32) v26.2
              · refine sj (j_iload hJ dL_law_440 17 rfl) ?_
                refine sj (j_iconst hJ (v := 1) dL_law_442 ic_1) ?_
                refine sj_if (j_icmp_ne hJ (tgt := 459) dL_law_443 (by decide)) (fun _ => ?_) (fun _ => ?_)
                · refine sj (j_iload hJ dL_law_446 21 rfl) ?_
                  refine sj_if (j_if_eq hJ (tgt := 455) dL_law_448 (by decide)) (fun _ => ?_) (fun _ => ?_)
                  · refine sj (j_iconst hJ (v := 1) dL_law_455 ic_1) ?_
                    refine sj (j_goto hJ (tgt := 460) dL_law_456 (by decide)) ?_
                    refine sj (j_sub hJ (L' := [(0, .ref roB), (1, .ref p1), (2, .int p2), (3, .int p3), (4, .int p4), (6, .int p6), (7, .int p7), (8, .int p8), (9, .int p9), (10, .long v19), (12, .long v20), (14, .int p14), (15, .int p15), (16, .int p16), (21, .int p21), (26, .int p26), (27, .int p27)]) [3, 4, 5, 6, 7, 8, 9, 10, 11, 1, 0, 12, 13, 14, 17, 20, 21] rfl) ?_
                    exact w_law_b460 hI σ p1 p2 p3 p4 p6 p7 p8 p9 v19 v20 p14 p15 p16 p21 p26 p27 (1 : Int32) v26.2
                  · refine sj (j_iconst hJ (v := 2) dL_law_451 ic_2) ?_
                    refine sj (j_goto hJ (tgt := 460) dL_law_452 (by decide)) ?_
                    refine sj (j_sub hJ (L' := [(0, .ref roB), (1, .ref p1), (2, .int p2), (3, .int p3), (4, .int p4), (6, .int p6), (7, .int p7), (8, .int p8), (9, .int p9), (10, .long v19), (12, .long v20), (14, .int p14), (15, .int p15), (16, .int p16), (21, .int p21), (26, .int p26), (27, .int p27)]) [3, 4, 5, 6, 7, 8, 9, 10, 11, 1, 0, 12, 13, 14, 17, 20, 21] rfl) ?_
                    exact w_law_b460 hI σ p1 p2 p3 p4 p6 p7 p8 p9 v19 v20 p14 p15 p16 p21 p26 p27 (2 : Int32) v26.2
                · refine sj (j_iconst hJ (v := 2) dL_law_459 ic_2) ?_
                  refine sj (j_sub hJ (L' := [(0, .ref roB), (1, .ref p1), (2, .int p2), (3, .int p3), (4, .int p4), (6, .int p6), (7, .int p7), (8, .int p8), (9, .int p9), (10, .long v19), (12, .long v20), (14, .int p14), (15, .int p15), (16, .int p16), (21, .int p21), (26, .int p26), (27, .int p27)]) [3, 4, 5, 6, 7, 8, 9, 10, 11, 1, 0, 12, 13, 14, 17, 20, 21] rfl) ?_
                  exact w_law_b460 hI σ p1 p2 p3 p4 p6 p7 p8 p9 v19 v20 p14 p15 p16 p21 p26 p27 (2 : Int32) v26.2
            · refine sj (j_iconst hJ (v := 0) dL_law_429 ic_0) ?_
              exact sj_none
          · refine sj (j_iconst hJ (v := 0) dL_law_429 ic_0) ?_
            exact sj_none
        · refine sj (j_iconst hJ (v := 0) dL_law_429 ic_0) ?_
          exact sj_none
      · refine sj (j_iconst hJ (v := 0) dL_law_429 ic_0) ?_
        exact sj_none
    · refine sj (j_iconst hJ (v := 0) dL_law_429 ic_0) ?_
      exact sj_none
  · refine sj (j_iconst hJ (v := 0) dL_law_429 ic_0) ?_
    exact sj_none
set_option maxHeartbeats 8000000 in
set_option maxRecDepth 100000 in
theorem w_law_b313 {xs : Nat → Int32} {N : Nat} {J : JT} (hI : IsL xs N J) (σ : St) (p1 : Nat) (p2 : Int32) (p3 : Int32) (p4 : Int32) (p6 : Int32) (p7 : Int32) (p8 : Int32) (p9 : Int32) (p10 : Int64) (p12 : Int64) (p14 : Int32) (p15 : Int32) (p16 : Int32) (p18 : Int32) (p19 : Int32) (p21 : Int32) (p24 : Int32) (p25 : Int32) (p26 : Int32) (q0 : Int32) (δ : Dy) : SJ (m_law_b313 xs N σ p1 p2 p3 p4 p6 p7 p8 p9 p10 p12 p14 p15 p16 p18 p19 p21 p24 p25 p26 q0 δ) (PL (fun s : (Int32 × Int64 × Int64 × Int32 × Int32 × Int32 × Dy) => J 106 [(0, .ref roB), (1, .ref p1), (2, .int p2), (3, .int p3), (4, .int p4), (6, .int p6), (7, .int p7), (8, .int p8), (9, .int s.1), (10, .long s.2.1), (12, .long s.2.2.1), (14, .int s.2.2.2.1), (15, .int s.2.2.2.2.1), (16, .int s.2.2.2.2.2.1)] [] (598988, 7242268) σ s.2.2.2.2.2.2) (fun _ : Unit => True)) (J 313 [(0, .ref roB), (1, .ref p1), (2, .int p2), (3, .int p3), (4, .int p4), (6, .int p6), (7, .int p7), (8, .int p8), (9, .int p9), (10, .long p10), (12, .long p12), (14, .int p14), (15, .int p15), (16, .int p16), (18, .int p18), (19, .int p19), (21, .int p21), (24, .int p24), (25, .int p25), (26, .int p26)] [.int q0] (598988, 7242268) σ δ) := by
  have hJ := hI.cor
  unfold m_law_b313
  refine sj (j_istore hJ (L' := [(27, .int q0), (0, .ref roB), (1, .ref p1), (2, .int p2), (3, .int p3), (4, .int p4), (6, .int p6), (7, .int p7), (8, .int p8), (9, .int p9), (10, .long p10), (12, .long p12), (14, .int p14), (15, .int p15), (16, .int p16), (18, .int p18), (19, .int p19), (21, .int p21), (24, .int p24), (25, .int p25), (26, .int p26)]) dL_law_313 (by decide) rfl) ?_
  refine sj (j_lload hJ dL_law_315 10 rfl) ?_
  refine sj (j_iload hJ dL_law_317 0 rfl) ?_
  refine sj_if (j_if_eq hJ (tgt := 328) dL_law_319 (by decide)) (fun _ => ?_) (fun _ => ?_)
  · refine sj (j_iload hJ dL_law_328 16 rfl) ?_
    refine sj (j_i2l hJ dL_law_330) ?_
    refine sj (j_sub hJ (L' := [(0, .ref roB), (1, .ref p1), (2, .int p2), (3, .int p3), (4, .int p4), (6, .int p6), (7, .int p7), (8, .int p8), (9, .int p9), (12, .long p12), (14, .int p14), (15, .int p15), (16, .int p16), (18, .int p18), (19, .int p19), (21, .int p21), (24, .int p24), (25, .int p25), (26, .int p26), (27, .int q0)]) [1, 2, 3, 4, 5, 6, 7, 8, 9, 11, 12, 13, 14, 15, 16, 17, 18, 19, 20, 0] rfl) ?_
    exact w_law_b331 hI σ p1 p2 p3 p4 p6 p7 p8 p9 p12 p14 p15 p16 p18 p19 p21 p24 p25 p26 q0 p10 (p19).toInt64 δ
  · refine sj (j_iload hJ dL_law_322 15 rfl) ?_
    refine sj (j_i2l hJ dL_law_324) ?_
    refine sj (j_goto hJ (tgt := 331) dL_law_325 (by decide)) ?_
    refine sj (j_sub hJ (L' := [(0, .ref roB), (1, .ref p1), (2, .int p2), (3, .int p3), (4, .int p4), (6, .int p6), (7, .int p7), (8, .int p8), (9, .int p9), (12, .long p12), (14, .int p14), (15, .int p15), (16, .int p16), (18, .int p18), (19, .int p19), (21, .int p21), (24, .int p24), (25, .int p25), (26, .int p26), (27, .int q0)]) [1, 2, 3, 4, 5, 6, 7, 8, 9, 11, 12, 13, 14, 15, 16, 17, 18, 19, 20, 0] rfl) ?_
    exact w_law_b331 hI σ p1 p2 p3 p4 p6 p7 p8 p9 p12 p14 p15 p16 p18 p19 p21 p24 p25 p26 q0 p10 (p18).toInt64 δ
set_option maxHeartbeats 8000000 in
set_option maxRecDepth 100000 in
theorem w_law_b269 {xs : Nat → Int32} {N : Nat} {J : JT} (hI : IsL xs N J) (σ : St) (p1 : Nat) (p2 : Int32) (p3 : Int32) (p4 : Int32) (p6 : Int32) (p7 : Int32) (p8 : Int32) (p9 : Int32) (p10 : Int64) (p12 : Int64) (p14 : Int32) (p15 : Int32) (p16 : Int32) (p18 : Int32) (p19 : Int32) (p21 : Int32) (p24 : Int32) (q0 : Int32) (δ : Dy) : SJ (m_law_b269 xs N σ p1 p2 p3 p4 p6 p7 p8 p9 p10 p12 p14 p15 p16 p18 p19 p21 p24 q0 δ) (PL (fun s : (Int32 × Int64 × Int64 × Int32 × Int32 × Int32 × Dy) => J 106 [(0, .ref roB), (1, .ref p1), (2, .int p2), (3, .int p3), (4, .int p4), (6, .int p6), (7, .int p7), (8, .int p8), (9, .int s.1), (10, .long s.2.1), (12, .long s.2.2.1), (14, .int s.2.2.2.1), (15, .int s.2.2.2.2.1), (16, .int s.2.2.2.2.2.1)] [] (598988, 7242268) σ s.2.2.2.2.2.2) (fun _ : Unit => True)) (J 269 [(0, .ref roB), (1, .ref p1), (2, .int p2), (3, .int p3), (4, .int p4), (6, .int p6), (7, .int p7), (8, .int p8), (9, .int p9), (10, .long p10), (12, .long p12), (14, .int p14), (15, .int p15), (16, .int p16), (18, .int p18), (19, .int p19), (21, .int p21), (24, .int p24)] [.int q0] (598988, 7242268) σ δ) := by
  have hJ := hI.cor
  unfold m_law_b269
  refine sj (j_istore hJ (L' := [(25, .int q0), (0, .ref roB), (1, .ref p1), (2, .int p2), (3, .int p3), (4, .int p4), (6, .int p6), (7, .int p7), (8, .int p8), (9, .int p9), (10, .long p10), (12, .long p12), (14, .int p14), (15, .int p15), (16, .int p16), (18, .int p18), (19, .int p19), (21, .int p21), (24, .int p24)]) dL_law_269 (by decide) rfl) ?_
  refine sj (j_aload_n hJ dL_law_271 rfl 2 rfl) ?_
  refine sl_callX hJ [] (st := []) (fr' := 7) (lo' := 181) ml_L_57 hc_11 (by decide) (by decide) (Nat.le_of_ble_eq_true rfl) dL_law_272 rfl (fun _ h9 => ct_X11_step h9) (fun v14 x15 => ?_)
  refine sj (j_istore hJ (L' := [(26, .int x15), (25, .int q0), (0, .ref roB), (1, .ref p1), (2, .int p2), (3, .int p3), (4, .int p4), (6, .int p6), (7, .int p7), (8, .int p8), (9, .int p9), (10, .long p10), (12, .long p12), (14, .int p14), (15, .int p15), (16, .int p16), (18, .int p18), (19, .int p19), (21, .int p21), (24, .int p24)]) dL_law_275 (by decide) rfl) ?_
  refine sj (j_ldc2 hJ (v := 75) dL_law_277 wd_1122) ?_
  refine sj (j_iload hJ dL_law_280 10 rfl) ?_
  refine sj (j_i2l hJ dL_law_282) ?_
  refine sj (j_lmul hJ dL_law_283) ?_
  refine sj (j_ldc2 hJ (v := 74) dL_law_284 wd_1123) ?_
  refine sj (j_ladd hJ dL_law_287) ?_
  refine sj (j_ldc2 hJ (v := 65537) dL_law_288 wd_1124) ?_
  refine sj_rmL hJ dL_law_291 (fun v16 => ?_)
  refine sj (j_l2i hJ dL_law_292) ?_
  refine sj (j_istore hJ (L' := [(9, .int (v16).toInt32), (26, .int x15), (25, .int q0), (0, .ref roB), (1, .ref p1), (2, .int p2), (3, .int p3), (4, .int p4), (6, .int p6), (7, .int p7), (8, .int p8), (10, .long p10), (12, .long p12), (14, .int p14), (15, .int p15), (16, .int p16), (18, .int p18), (19, .int p19), (21, .int p21), (24, .int p24)]) dL_law_293 (by decide) rfl) ?_
  refine sj (j_iload hJ dL_law_295 0 rfl) ?_
  refine sj (j_iload hJ dL_law_297 16 rfl) ?_
  refine sj (j_iload hJ dL_law_299 17 rfl) ?_
  refine sj (j_iadd hJ dL_law_301) ?_
  refine sj_rmI hJ dL_law_302 (fun v17 => ?_)
  refine sj (j_iload hJ dL_law_303 16 rfl) ?_
  refine sj_if (j_icmp_ge hJ (tgt := 312) dL_law_305 (by decide)) (fun _ => ?_) (fun _ => ?_)
  · refine sj (j_iconst hJ (v := 0) dL_law_312 ic_0) ?_
    refine sj (j_sub hJ (L' := [(0, .ref roB), (1, .ref p1), (2, .int p2), (3, .int p3), (4, .int p4), (6, .int p6), (7, .int p7), (8, .int p8), (9, .int (v16).toInt32), (10, .long p10), (12, .long p12), (14, .int p14), (15, .int p15), (16, .int p16), (18, .int p18), (19, .int p19), (21, .int p21), (24, .int p24), (25, .int q0), (26, .int x15)]) [3, 4, 5, 6, 7, 8, 9, 10, 0, 11, 12, 13, 14, 15, 16, 17, 18, 19, 2, 1] rfl) ?_
    exact w_law_b313 hI σ p1 p2 p3 p4 p6 p7 p8 (v16).toInt32 p10 p12 p14 p15 p16 p18 p19 p21 p24 q0 x15 (0 : Int32) v14.2
  · refine sj (j_iconst hJ (v := 1) dL_law_308 ic_1) ?_
    refine sj (j_goto hJ (tgt := 313) dL_law_309 (by decide)) ?_
    refine sj (j_sub hJ (L' := [(0, .ref roB), (1, .ref p1), (2, .int p2), (3, .int p3), (4, .int p4), (6, .int p6), (7, .int p7), (8, .int p8), (9, .int (v16).toInt32), (10, .long p10), (12, .long p12), (14, .int p14), (15, .int p15), (16, .int p16), (18, .int p18), (19, .int p19), (21, .int p21), (24, .int p24), (25, .int q0), (26, .int x15)]) [3, 4, 5, 6, 7, 8, 9, 10, 0, 11, 12, 13, 14, 15, 16, 17, 18, 19, 2, 1] rfl) ?_
    exact w_law_b313 hI σ p1 p2 p3 p4 p6 p7 p8 (v16).toInt32 p10 p12 p14 p15 p16 p18 p19 p21 p24 q0 x15 (1 : Int32) v14.2
set_option maxHeartbeats 8000000 in
set_option maxRecDepth 100000 in
theorem w_law_b213 {xs : Nat → Int32} {N : Nat} {J : JT} (hI : IsL xs N J) (σ : St) (p1 : Nat) (p2 : Int32) (p3 : Int32) (p4 : Int32) (p6 : Int32) (p7 : Int32) (p8 : Int32) (p9 : Int32) (p10 : Int64) (p12 : Int64) (p14 : Int32) (p15 : Int32) (p16 : Int32) (p18 : Int32) (p19 : Int32) (p21 : Int32) (q0 : Int32) (δ : Dy) : SJ (m_law_b213 xs N σ p1 p2 p3 p4 p6 p7 p8 p9 p10 p12 p14 p15 p16 p18 p19 p21 q0 δ) (PL (fun s : (Int32 × Int64 × Int64 × Int32 × Int32 × Int32 × Dy) => J 106 [(0, .ref roB), (1, .ref p1), (2, .int p2), (3, .int p3), (4, .int p4), (6, .int p6), (7, .int p7), (8, .int p8), (9, .int s.1), (10, .long s.2.1), (12, .long s.2.2.1), (14, .int s.2.2.2.1), (15, .int s.2.2.2.2.1), (16, .int s.2.2.2.2.2.1)] [] (598988, 7242268) σ s.2.2.2.2.2.2) (fun _ : Unit => True)) (J 213 [(0, .ref roB), (1, .ref p1), (2, .int p2), (3, .int p3), (4, .int p4), (6, .int p6), (7, .int p7), (8, .int p8), (9, .int p9), (10, .long p10), (12, .long p12), (14, .int p14), (15, .int p15), (16, .int p16), (18, .int p18), (19, .int p19), (21, .int p21)] [.int q0] (598988, 7242268) σ δ) := by
  have hJ := hI.cor
  unfold m_law_b213
  refine sj (j_istore hJ (L' := [(22, .int q0), (0, .ref roB), (1, .ref p1), (2, .int p2), (3, .int p3), (4, .int p4), (6, .int p6), (7, .int p7), (8, .int p8), (9, .int p9), (10, .long p10), (12, .long p12), (14, .int p14), (15, .int p15), (16, .int p16), (18, .int p18), (19, .int p19), (21, .int p21)]) dL_law_213 (by decide) rfl) ?_
  refine sj (j_aload_n hJ dL_law_215 rfl 2 rfl) ?_
  refine sl_callX hJ [] (st := []) (fr' := 7) (lo' := 181) ml_L_46 hc_11 (by decide) (by decide) (Nat.le_of_ble_eq_true rfl) dL_law_216 rfl (fun _ h9 => ct_X11_ends h9) (fun v7 x8 => ?_)
  refine sj (j_istore hJ (L' := [(23, .int x8), (22, .int q0), (0, .ref roB), (1, .ref p1), (2, .int p2), (3, .int p3), (4, .int p4), (6, .int p6), (7, .int p7), (8, .int p8), (9, .int p9), (10, .long p10), (12, .long p12), (14, .int p14), (15, .int p15), (16, .int p16), (18, .int p18), (19, .int p19), (21, .int p21)]) dL_law_219 (by decide) rfl) ?_
  refine sj (j_iload hJ dL_law_221 0 rfl) ?_
  refine sj_if (j_if_eq hJ (tgt := 232) dL_law_223 (by decide)) (fun _ => ?_) (fun _ => ?_)
  · refine sj (j_iconst hJ (v := 0) dL_law_232 ic_0) ?_
    exact sj_none
  · refine sj (j_iload hJ dL_law_226 0 rfl) ?_
    refine sj (j_iconst hJ (v := -1) dL_law_228 ic_m1) ?_
    refine sj_if (j_icmp_ge hJ (tgt := 234) dL_law_229 (by decide)) (fun _ => ?_) (fun _ => ?_)
    · refine sj (j_aload_n hJ dL_law_234 rfl 3 rfl) ?_
      refine sj (j_iload hJ dL_law_235 1 rfl) ?_
      refine sj (j_iload hJ dL_law_237 15 rfl) ?_
      refine sj (j_bipush hJ (v := 9) dL_law_239 ib_9) ?_
      refine sl_callX hJ [.int q0, .int p16, .int (9 : Int32)] (st := []) (fr' := 7) (lo' := 111) ml_L_49 hc_11 (by decide) (by decide) (Nat.le_of_ble_eq_true rfl) dL_law_241 rfl (fun _ h9 => ct_X11_begin h9) (fun v9 x10 => ?_)
      refine sj (j_iconst hJ (v := 1) dL_law_244 ic_1) ?_
      refine sj_if (j_icmp_eq hJ (tgt := 250) dL_law_245 (by decide)) (fun _ => ?_) (fun _ => ?_)
      · refine sj (j_aload_n hJ dL_law_250 rfl 3 rfl) ?_
        refine sj_callVip hJ [] (st := []) (fr' := 0) (lo' := 0) ml_L_53 hc_11 (by decide) (by decide) (Nat.le_of_ble_eq_true rfl) dL_law_251 rfl (fun _ h9 => ct_X11_hasFailed h9) (fun v11 => ?_)
        refine sj (j_istore hJ (L' := [(24, .int v11), (23, .int x8), (22, .int q0), (0, .ref roB), (1, .ref p1), (2, .int p2), (3, .int p3), (4, .int p4), (6, .int p6), (7, .int p7), (8, .int p8), (9, .int p9), (10, .long p10), (12, .long p12), (14, .int p14), (15, .int p15), (16, .int p16), (18, .int p18), (19, .int p19), (21, .int p21)]) dL_law_254 (by decide) rfl) ?_
        refine sj (j_iload hJ dL_law_256 19 rfl) ?_
        refine sj_if (j_if_ne hJ (tgt := 268) dL_law_258 (by decide)) (fun _ => ?_) (fun _ => ?_)
        · refine sj (j_aload_n hJ dL_law_261 rfl 4 rfl) ?_
          refine sl_callX hJ [] (st := []) (fr' := 7) (lo' := 181) ml_L_46 hc_11 (by decide) (by decide) (Nat.le_of_ble_eq_true rfl) dL_law_262 rfl (fun _ h9 => ct_X11_ends h9) (fun v12 x13 => ?_)
          refine sj (j_goto hJ (tgt := 269) dL_law_265 (by decide)) ?_
          refine sj (j_sub hJ (L' := [(0, .ref roB), (1, .ref p1), (2, .int p2), (3, .int p3), (4, .int p4), (6, .int p6), (7, .int p7), (8, .int p8), (9, .int p9), (10, .long p10), (12, .long p12), (14, .int p14), (15, .int p15), (16, .int p16), (18, .int p18), (19, .int p19), (21, .int p21), (24, .int v11)]) [3, 4, 5, 6, 7, 8, 9, 10, 11, 12, 13, 14, 15, 16, 17, 18, 19, 0] rfl) ?_
          exact w_law_b269 hI σ p1 p2 p3 p4 p6 p7 p8 p9 p10 p12 p14 p15 p16 p18 p19 p21 v11 x13 v12.2
        · refine sj (j_iconst hJ (v := 1) dL_law_268 ic_1) ?_
          refine sj (j_sub hJ (L' := [(0, .ref roB), (1, .ref p1), (2, .int p2), (3, .int p3), (4, .int p4), (6, .int p6), (7, .int p7), (8, .int p8), (9, .int p9), (10, .long p10), (12, .long p12), (14, .int p14), (15, .int p15), (16, .int p16), (18, .int p18), (19, .int p19), (21, .int p21), (24, .int v11)]) [3, 4, 5, 6, 7, 8, 9, 10, 11, 12, 13, 14, 15, 16, 17, 18, 19, 0] rfl) ?_
          exact w_law_b269 hI σ p1 p2 p3 p4 p6 p7 p8 p9 p10 p12 p14 p15 p16 p18 p19 p21 v11 (1 : Int32) v9.2
      · refine sj (j_iconst hJ (v := 0) dL_law_248 ic_0) ?_
        exact sj_none
    · refine sj (j_iconst hJ (v := 0) dL_law_232 ic_0) ?_
      exact sj_none
set_option maxHeartbeats 8000000 in
set_option maxRecDepth 100000 in
theorem w_law_b106 {xs : Nat → Int32} {N : Nat} {J : JT} (hI : IsL xs N J) (σ : St) (p1 : Nat) (p2 : Int32) (p3 : Int32) (p4 : Int32) (p6 : Int32) (p7 : Int32) (p8 : Int32) (p9 : Int32) (p10 : Int64) (p12 : Int64) (p14 : Int32) (p15 : Int32) (p16 : Int32) (δ : Dy) : SJ (m_law_b106 xs N σ p1 p2 p3 p4 p6 p7 p8 p9 p10 p12 p14 p15 p16 δ) (fun _ : Unit => True) (J 106 [(0, .ref roB), (1, .ref p1), (2, .int p2), (3, .int p3), (4, .int p4), (6, .int p6), (7, .int p7), (8, .int p8), (9, .int p9), (10, .long p10), (12, .long p12), (14, .int p14), (15, .int p15), (16, .int p16)] [] (598988, 7242268) σ δ) := by
  have hJ := hI.cor
  unfold m_law_b106
  refine sj_lp (G := fun s : (Int32 × Int64 × Int64 × Int32 × Int32 × Int32 × Dy) => J 106 [(0, .ref roB), (1, .ref p1), (2, .int p2), (3, .int p3), (4, .int p4), (6, .int p6), (7, .int p7), (8, .int p8), (9, .int s.1), (10, .long s.2.1), (12, .long s.2.2.1), (14, .int s.2.2.2.1), (15, .int s.2.2.2.2.1), (16, .int s.2.2.2.2.2.1)] [] (598988, 7242268) σ s.2.2.2.2.2.2) (fun s => ?_) (p9, p10, p12, p14, p15, p16, δ)
  refine sj (j_iload hJ dL_law_106 13 rfl) ?_
  refine sj (j_bipush hJ (v := 12) dL_law_108 ib_12) ?_
  refine sj_if (j_icmp_ge hJ (tgt := 725) dL_law_110 (by decide)) (fun _ => ?_) (fun _ => ?_)
  · refine sj (j_iconst hJ (v := 1) dL_law_725 ic_1) ?_
    exact sj_end (fun _ => jl_ret hI dL_law_726)
  · refine sj (j_aload_n hJ dL_law_113 rfl 0 rfl) ?_
    refine sj (j_iload hJ dL_law_114 13 rfl) ?_
    refine sl_callC hI (st := []) (p1 := s.2.2.2.2.2.1) ml_L_30 (by decide) (by decide) (Nat.le_of_ble_eq_true rfl) dL_law_116 (fun _ h9 => ct_L_cell h9) (fun v1 => ?_)
    refine sj (j_ldc hJ (v := 2147483647) dL_law_119 wd_1121) ?_
    refine sj (j_iand hJ dL_law_121) ?_
    refine sj (j_istore hJ (L' := [(17, .int (v1 &&& (2147483647 : Int32))), (0, .ref roB), (1, .ref p1), (2, .int p2), (3, .int p3), (4, .int p4), (6, .int p6), (7, .int p7), (8, .int p8), (9, .int s.1), (10, .long s.2.1), (12, .long s.2.2.1), (14, .int s.2.2.2.1), (15, .int s.2.2.2.2.1), (16, .int s.2.2.2.2.2.1)]) dL_law_122 (by decide) rfl) ?_
    refine sj (j_iconst hJ (v := 1) dL_law_124 ic_1) ?_
    refine sj (j_iload hJ dL_law_125 0 rfl) ?_
    refine sj (j_bipush hJ (v := 9) dL_law_127 ib_9) ?_
    refine sj_callSip hJ [.int (v1 &&& (2147483647 : Int32)), .int (9 : Int32)] (st := [.int (1 : Int32)]) (fr' := 0) (lo' := 0) ml_L_37 (by decide) (by decide) (Nat.le_of_ble_eq_true rfl) dL_law_129 rfl (fun _ h9 => ct_L_at h9) (fun v2 => ?_)
    refine sj (j_iadd hJ dL_law_132) ?_
    refine sj (j_istore hJ (L' := [(18, .int ((1 : Int32) + v2)), (17, .int (v1 &&& (2147483647 : Int32))), (0, .ref roB), (1, .ref p1), (2, .int p2), (3, .int p3), (4, .int p4), (6, .int p6), (7, .int p7), (8, .int p8), (9, .int s.1), (10, .long s.2.1), (12, .long s.2.2.1), (14, .int s.2.2.2.1), (15, .int s.2.2.2.2.1), (16, .int s.2.2.2.2.2.1)]) dL_law_133 (by decide) rfl) ?_
    refine sj (j_iconst hJ (v := 1) dL_law_135 ic_1) ?_
    refine sj (j_iload hJ dL_law_136 1 rfl) ?_
    refine sj (j_iconst hJ (v := 5) dL_law_138 ic_5) ?_
    refine sj (j_ishr hJ dL_law_139) ?_
    refine sj (j_bipush hJ (v := 9) dL_law_140 ib_9) ?_
    refine sj_callSip hJ [.int ((v1 &&& (2147483647 : Int32)) >>> ((5 : Int32) &&& 31)), .int (9 : Int32)] (st := [.int (1 : Int32)]) (fr' := 0) (lo' := 0) ml_L_37 (by decide) (by decide) (Nat.le_of_ble_eq_true rfl) dL_law_142 rfl (fun _ h9 => ct_L_at h9) (fun v3 => ?_)
    refine sj (j_iadd hJ dL_law_145) ?_
    refine sj (j_istore hJ (L' := [(19, .int ((1 : Int32) + v3)), (18, .int ((1 : Int32) + v2)), (17, .int (v1 &&& (2147483647 : Int32))), (0, .ref roB), (1, .ref p1), (2, .int p2), (3, .int p3), (4, .int p4), (6, .int p6), (7, .int p7), (8, .int p8), (9, .int s.1), (10, .long s.2.1), (12, .long s.2.2.1), (14, .int s.2.2.2.1), (15, .int s.2.2.2.2.1), (16, .int s.2.2.2.2.2.1)]) dL_law_146 (by decide) rfl) ?_
    refine sj (j_aload_n hJ dL_law_148 rfl 4 rfl) ?_
    refine sj (j_iload hJ dL_law_149 1 rfl) ?_
    refine sj (j_iload_n hJ dL_law_151 rfl 6 rfl) ?_
    refine sj (j_iload hJ dL_law_152 0 rfl) ?_
    refine sj (j_iload hJ dL_law_154 7 rfl) ?_
    refine sl_callX hJ [.int ((1 : Int32) + v2), .int p3, .int ((1 : Int32) + v3), .int p4] (st := []) (fr' := 7) (lo' := 112) ml_L_40 hc_11 (by decide) (by decide) (Nat.le_of_ble_eq_true rfl) dL_law_156 rfl (fun _ h9 => ct_X11_lot h9) (fun v4 x5 => ?_)
    refine sj (j_istore hJ (L' := [(20, .int x5), (19, .int ((1 : Int32) + v3)), (18, .int ((1 : Int32) + v2)), (17, .int (v1 &&& (2147483647 : Int32))), (0, .ref roB), (1, .ref p1), (2, .int p2), (3, .int p3), (4, .int p4), (6, .int p6), (7, .int p7), (8, .int p8), (9, .int s.1), (10, .long s.2.1), (12, .long s.2.2.1), (14, .int s.2.2.2.1), (15, .int s.2.2.2.2.1), (16, .int s.2.2.2.2.2.1)]) dL_law_159 (by decide) rfl) ?_
    refine sj (j_iload hJ dL_law_161 3 rfl) ?_
    refine sj (j_bipush hJ (v := 10) dL_law_163 ib_10) ?_
    refine sj (j_ishr hJ dL_law_165) ?_
    refine sj (j_iconst hJ (v := 3) dL_law_166 ic_3) ?_
    refine sj_callSip hJ [.int ((v1 &&& (2147483647 : Int32)) >>> ((10 : Int32) &&& 31)), .int (3 : Int32)] (st := []) (fr' := 0) (lo' := 0) ml_L_37 (by decide) (by decide) (Nat.le_of_ble_eq_true rfl) dL_law_167 rfl (fun _ h9 => ct_L_at h9) (fun v6 => ?_)
    refine sj (j_istore hJ (L' := [(21, .int v6), (20, .int x5), (19, .int ((1 : Int32) + v3)), (18, .int ((1 : Int32) + v2)), (17, .int (v1 &&& (2147483647 : Int32))), (0, .ref roB), (1, .ref p1), (2, .int p2), (3, .int p3), (4, .int p4), (6, .int p6), (7, .int p7), (8, .int p8), (9, .int s.1), (10, .long s.2.1), (12, .long s.2.2.1), (14, .int s.2.2.2.1), (15, .int s.2.2.2.2.1), (16, .int s.2.2.2.2.2.1)]) dL_law_170 (by decide) rfl) ?_
    refine sj (j_iload hJ dL_law_172 0 rfl) ?_
    refine sj_if (j_if_ne hJ (tgt := 182) dL_law_174 (by decide)) (fun _ => ?_) (fun _ => ?_)
    · refine sj (j_iload hJ dL_law_177 1 rfl) ?_
      refine sj (j_goto hJ (tgt := 213) dL_law_179 (by decide)) ?_
      refine sj (j_sub hJ (L' := [(0, .ref roB), (1, .ref p1), (2, .int p2), (3, .int p3), (4, .int p4), (6, .int p6), (7, .int p7), (8, .int p8), (9, .int s.1), (10, .long s.2.1), (12, .long s.2.2.1), (14, .int s.2.2.2.1), (15, .int s.2.2.2.2.1), (16, .int s.2.2.2.2.2.1), (18, .int ((1 : Int32) + v2)), (19, .int ((1 : Int32) + v3)), (21, .int v6)]) [5, 6, 7, 8, 9, 10, 11, 12, 13, 14, 15, 16, 17, 18, 3, 2, 0] rfl) ?_
      exact w_law_b213 hI σ p1 p2 p3 p4 p6 p7 p8 s.1 s.2.1 s.2.2.1 s.2.2.2.1 s.2.2.2.2.1 s.2.2.2.2.2.1 ((1 : Int32) + v2) ((1 : Int32) + v3) v6 x5 v4.2
    · refine sj (j_iload hJ dL_law_182 0 rfl) ?_
      refine sj (j_iconst hJ (v := 1) dL_law_184 ic_1) ?_
      refine sj_if (j_icmp_ne hJ (tgt := 199) dL_law_185 (by decide)) (fun _ => ?_) (fun _ => ?_)
      · refine sj (j_aload_n hJ dL_law_188 rfl 6 rfl) ?_
        refine sj (j_iload hJ dL_law_189 12 rfl) ?_
        refine sj (j_iload hJ dL_law_191 1 rfl) ?_
        refine sl_callX hJ [.int p8, .int x5] (st := []) (fr' := 7) (lo' := 111) ml_L_23 hc_11 (by decide) (by decide) (Nat.le_of_ble_eq_true rfl) dL_law_193 rfl (fun _ h9 => ct_X11_both h9) (fun v55 x56 => ?_)
        refine sj (j_goto hJ (tgt := 213) dL_law_196 (by decide)) ?_
        refine sj (j_sub hJ (L' := [(0, .ref roB), (1, .ref p1), (2, .int p2), (3, .int p3), (4, .int p4), (6, .int p6), (7, .int p7), (8, .int p8), (9, .int s.1), (10, .long s.2.1), (12, .long s.2.2.1), (14, .int s.2.2.2.1), (15, .int s.2.2.2.2.1), (16, .int s.2.2.2.2.2.1), (18, .int ((1 : Int32) + v2)), (19, .int ((1 : Int32) + v3)), (21, .int v6)]) [5, 6, 7, 8, 9, 10, 11, 12, 13, 14, 15, 16, 17, 18, 3, 2, 0] rfl) ?_
        exact w_law_b213 hI σ p1 p2 p3 p4 p6 p7 p8 s.1 s.2.1 s.2.2.1 s.2.2.2.1 s.2.2.2.2.1 s.2.2.2.2.2.1 ((1 : Int32) + v2) ((1 : Int32) + v3) v6 x56 v55.2
      · refine sj (j_aload_n hJ dL_law_199 rfl 6 rfl) ?_
        refine sj (j_aload_n hJ dL_law_200 rfl 6 rfl) ?_
        refine sj (j_iload hJ dL_law_201 1 rfl) ?_
        refine sj (j_iload hJ dL_law_203 10 rfl) ?_
        refine sl_callX hJ [.int x5, .int p6] (st := [.ref p1]) (fr' := 7) (lo' := 111) ml_L_23 hc_11 (by decide) (by decide) (Nat.le_of_ble_eq_true rfl) dL_law_205 rfl (fun _ h9 => ct_X11_both h9) (fun v57 x58 => ?_)
        refine sj (j_iload hJ dL_law_208 11 rfl) ?_
        refine sl_callX hJ [.int x58, .int p7] (st := []) (fr' := 7) (lo' := 111) ml_L_43 hc_11 (by decide) (by decide) (Nat.le_of_ble_eq_true rfl) dL_law_210 rfl (fun _ h9 => ct_X11_attempt h9) (fun v59 x60 => ?_)
        refine sj (j_sub hJ (L' := [(0, .ref roB), (1, .ref p1), (2, .int p2), (3, .int p3), (4, .int p4), (6, .int p6), (7, .int p7), (8, .int p8), (9, .int s.1), (10, .long s.2.1), (12, .long s.2.2.1), (14, .int s.2.2.2.1), (15, .int s.2.2.2.2.1), (16, .int s.2.2.2.2.2.1), (18, .int ((1 : Int32) + v2)), (19, .int ((1 : Int32) + v3)), (21, .int v6)]) [5, 6, 7, 8, 9, 10, 11, 12, 13, 14, 15, 16, 17, 18, 3, 2, 0] rfl) ?_
        exact w_law_b213 hI σ p1 p2 p3 p4 p6 p7 p8 s.1 s.2.1 s.2.2.1 s.2.2.2.1 s.2.2.2.2.1 s.2.2.2.2.2.1 ((1 : Int32) + v2) ((1 : Int32) + v3) v6 x60 v59.2
set_option maxHeartbeats 8000000 in
set_option maxRecDepth 100000 in
theorem w_law_b8 {xs : Nat → Int32} {N : Nat} {J : JT} (hI : IsL xs N J) (σ : St) (p1 : Nat) (δ : Dy) : SJ (m_law_b8 xs N σ p1 δ) (fun _ : Unit => True) (J 8 [(0, .ref roB), (1, .ref p1)] [] (598988, 7242268) σ δ) := by
  have hJ := hI.cor
  unfold m_law_b8
  refine sj (j_aload_n hJ dL_law_8 rfl 1 rfl) ?_
  refine sl_callX hJ [] (st := []) (fr' := 6) (lo' := 90) ml_L_11 hc_11 (by decide) (by decide) (Nat.le_of_ble_eq_true rfl) dL_law_9 rfl (fun _ h9 => ct_X11_variable h9) (fun v61 x62 => ?_)
  refine sj (j_istore_n hJ (L' := [(2, .int x62), (0, .ref roB), (1, .ref p1)]) dL_law_12 rfl (by decide) rfl) ?_
  refine sj (j_aload_n hJ dL_law_13 rfl 2 rfl) ?_
  refine sj (j_iconst hJ (v := 0) dL_law_14 ic_0) ?_
  refine sj (j_sipush hJ (v := 200) dL_law_15 is_200) ?_
  refine sj (j_sipush hJ (v := 201) dL_law_18 is_201) ?_
  refine sj (j_iconst hJ (v := 1) dL_law_21 ic_1) ?_
  refine sl_callX hJ [.int (0 : Int32), .int (200 : Int32), .int (201 : Int32), .int (1 : Int32)] (st := []) (fr' := 8) (lo' := 132) ml_L_15 hc_11 (by decide) (by decide) (Nat.le_of_ble_eq_true rfl) dL_law_22 rfl (fun _ h9 => ct_X11_token h9) (fun v63 x64 => ?_)
  refine sj (j_istore_n hJ (L' := [(3, .int x64), (2, .int x62), (0, .ref roB), (1, .ref p1)]) dL_law_25 rfl (by decide) rfl) ?_
  refine sj (j_aload_n hJ dL_law_26 rfl 3 rfl) ?_
  refine sj (j_iconst hJ (v := 1) dL_law_27 ic_1) ?_
  refine sj (j_sipush hJ (v := 200) dL_law_28 is_200) ?_
  refine sj (j_sipush hJ (v := 201) dL_law_31 is_201) ?_
  refine sj (j_iconst hJ (v := 1) dL_law_34 ic_1) ?_
  refine sl_callX hJ [.int (1 : Int32), .int (200 : Int32), .int (201 : Int32), .int (1 : Int32)] (st := []) (fr' := 8) (lo' := 132) ml_L_15 hc_11 (by decide) (by decide) (Nat.le_of_ble_eq_true rfl) dL_law_35 rfl (fun _ h9 => ct_X11_token h9) (fun v65 x66 => ?_)
  refine sj (j_istore hJ (L' := [(4, .int x66), (3, .int x64), (2, .int x62), (0, .ref roB), (1, .ref p1)]) dL_law_38 (by decide) rfl) ?_
  refine sj (j_aload_n hJ dL_law_40 rfl 4 rfl) ?_
  refine sj (j_iconst hJ (v := 1) dL_law_41 ic_1) ?_
  refine sj (j_iconst hJ (v := 2) dL_law_42 ic_2) ?_
  refine sl_callX hJ [.int (1 : Int32), .int (2 : Int32)] (st := []) (fr' := 7) (lo' := 111) ml_L_19 hc_11 (by decide) (by decide) (Nat.le_of_ble_eq_true rfl) dL_law_43 rfl (fun _ h9 => ct_X11_equate h9) (fun v67 x68 => ?_)
  refine sj (j_istore hJ (L' := [(5, .int x68), (4, .int x66), (3, .int x64), (2, .int x62), (0, .ref roB), (1, .ref p1)]) dL_law_46 (by decide) rfl) ?_
  refine sj (j_aload_n hJ dL_law_48 rfl 5 rfl) ?_
  refine sj (j_iload hJ dL_law_49 0 rfl) ?_
  refine sj (j_iload hJ dL_law_51 0 rfl) ?_
  refine sl_callX hJ [.int x68, .int x68] (st := []) (fr' := 7) (lo' := 111) ml_L_23 hc_11 (by decide) (by decide) (Nat.le_of_ble_eq_true rfl) dL_law_53 rfl (fun _ h9 => ct_X11_both h9) (fun v69 x70 => ?_)
  refine sj (j_istore hJ (L' := [(6, .int x70), (5, .int x68), (4, .int x66), (3, .int x64), (2, .int x62), (0, .ref roB), (1, .ref p1)]) dL_law_56 (by decide) rfl) ?_
  refine sj (j_aload_n hJ dL_law_58 rfl 6 rfl) ?_
  refine sj (j_iconst hJ (v := 2) dL_law_59 ic_2) ?_
  refine sj (j_sipush hJ (v := 200) dL_law_60 is_200) ?_
  refine sj (j_sipush hJ (v := 201) dL_law_63 is_201) ?_
  refine sj (j_iconst hJ (v := 1) dL_law_66 ic_1) ?_
  refine sl_callX hJ [.int (2 : Int32), .int (200 : Int32), .int (201 : Int32), .int (1 : Int32)] (st := []) (fr' := 8) (lo' := 132) ml_L_15 hc_11 (by decide) (by decide) (Nat.le_of_ble_eq_true rfl) dL_law_67 rfl (fun _ h9 => ct_X11_token h9) (fun v71 x72 => ?_)
  refine sj (j_istore hJ (L' := [(7, .int x72), (6, .int x70), (5, .int x68), (4, .int x66), (3, .int x64), (2, .int x62), (0, .ref roB), (1, .ref p1)]) dL_law_70 (by decide) rfl) ?_
  refine sj (j_aload_n hJ dL_law_72 rfl 7 rfl) ?_
  refine sj (j_bipush hJ (v := 10) dL_law_73 ib_10) ?_
  refine sj (j_sipush hJ (v := 200) dL_law_75 is_200) ?_
  refine sj (j_sipush hJ (v := 201) dL_law_78 is_201) ?_
  refine sj (j_iload hJ dL_law_81 0 rfl) ?_
  refine sl_callX hJ [.int (10 : Int32), .int (200 : Int32), .int (201 : Int32), .int x72] (st := []) (fr' := 8) (lo' := 132) ml_L_26 hc_11 (by decide) (by decide) (Nat.le_of_ble_eq_true rfl) dL_law_83 rfl (fun _ h9 => ct_X11_when h9) (fun v73 x74 => ?_)
  refine sj (j_istore hJ (L' := [(8, .int x74), (7, .int x72), (6, .int x70), (5, .int x68), (4, .int x66), (3, .int x64), (2, .int x62), (0, .ref roB), (1, .ref p1)]) dL_law_86 (by decide) rfl) ?_
  refine sj (j_iconst hJ (v := 1) dL_law_88 ic_1) ?_
  refine sj (j_istore hJ (L' := [(9, .int (1 : Int32)), (8, .int x74), (7, .int x72), (6, .int x70), (5, .int x68), (4, .int x66), (3, .int x64), (2, .int x62), (0, .ref roB), (1, .ref p1)]) dL_law_89 (by decide) rfl) ?_
  refine sj (j_lconst hJ (v := 1) dL_law_91 rfl) ?_
  refine sj (j_lstore hJ (L' := [(10, .long (1 : Int64)), (9, .int (1 : Int32)), (8, .int x74), (7, .int x72), (6, .int x70), (5, .int x68), (4, .int x66), (3, .int x64), (2, .int x62), (0, .ref roB), (1, .ref p1)]) dL_law_92 (by decide) rfl) ?_
  refine sj (j_lconst hJ (v := 1) dL_law_94 rfl) ?_
  refine sj (j_lstore hJ (L' := [(12, .long (1 : Int64)), (10, .long (1 : Int64)), (9, .int (1 : Int32)), (8, .int x74), (7, .int x72), (6, .int x70), (5, .int x68), (4, .int x66), (3, .int x64), (2, .int x62), (0, .ref roB), (1, .ref p1)]) dL_law_95 (by decide) rfl) ?_
  refine sj (j_iconst hJ (v := 0) dL_law_97 ic_0) ?_
  refine sj (j_istore hJ (L' := [(14, .int (0 : Int32)), (12, .long (1 : Int64)), (10, .long (1 : Int64)), (9, .int (1 : Int32)), (8, .int x74), (7, .int x72), (6, .int x70), (5, .int x68), (4, .int x66), (3, .int x64), (2, .int x62), (0, .ref roB), (1, .ref p1)]) dL_law_98 (by decide) rfl) ?_
  refine sj (j_iconst hJ (v := 0) dL_law_100 ic_0) ?_
  refine sj (j_istore hJ (L' := [(15, .int (0 : Int32)), (14, .int (0 : Int32)), (12, .long (1 : Int64)), (10, .long (1 : Int64)), (9, .int (1 : Int32)), (8, .int x74), (7, .int x72), (6, .int x70), (5, .int x68), (4, .int x66), (3, .int x64), (2, .int x62), (0, .ref roB), (1, .ref p1)]) dL_law_101 (by decide) rfl) ?_
  refine sj (j_iconst hJ (v := 0) dL_law_103 ic_0) ?_
  refine sj (j_istore hJ (L' := [(16, .int (0 : Int32)), (15, .int (0 : Int32)), (14, .int (0 : Int32)), (12, .long (1 : Int64)), (10, .long (1 : Int64)), (9, .int (1 : Int32)), (8, .int x74), (7, .int x72), (6, .int x70), (5, .int x68), (4, .int x66), (3, .int x64), (2, .int x62), (0, .ref roB), (1, .ref p1)]) dL_law_104 (by decide) rfl) ?_
  refine sj (j_sub hJ (L' := [(0, .ref roB), (1, .ref p1), (2, .int x62), (3, .int x64), (4, .int x66), (6, .int x70), (7, .int x72), (8, .int x74), (9, .int (1 : Int32)), (10, .long (1 : Int64)), (12, .long (1 : Int64)), (14, .int (0 : Int32)), (15, .int (0 : Int32)), (16, .int (0 : Int32))]) [13, 14, 12, 11, 10, 8, 7, 6, 5, 4, 3, 2, 1, 0] rfl) ?_
  exact w_law_b106 hI σ p1 x62 x64 x66 x70 x72 x74 (1 : Int32) (1 : Int64) (1 : Int64) (0 : Int32) (0 : Int32) (0 : Int32) v73.2
