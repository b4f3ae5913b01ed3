/-! THE WORLD, as it is meant -/
/-- nodes: how many, kinds, what, a, b, one, other -/
abbrev Nd : Type := Int × (Int → Int) × (Int → Int) × (Int → Int) × (Int → Int) × (Int → Int) × (Int → Int)
/-- nodes, definitions, rules, how many were made -/
abbrev Ev : Type := Nd × (Int → Int) × (Int → Rl) × Int
abbrev e_ct (E : Ev) : Int := E.1.1
abbrev e_kd (E : Ev) : Int → Int := E.1.2.1
abbrev e_wh (E : Ev) : Int → Int := E.1.2.2.1
abbrev e_a (E : Ev) : Int → Int := E.1.2.2.2.1
abbrev e_b (E : Ev) : Int → Int := E.1.2.2.2.2.1
abbrev e_on (E : Ev) : Int → Int := E.1.2.2.2.2.2.1
abbrev e_ot (E : Ev) : Int → Int := E.1.2.2.2.2.2.2
abbrev e_df (E : Ev) : Int → Int := E.2.1
abbrev e_Rs (E : Ev) : Int → Rl := E.2.2.1
abbrev e_md (E : Ev) : Int := E.2.2.2
/-- queue, waits, assumed, next, (saved, remembered), otherwise -/
abbrev Lv : Type := List Ag × List Ag × List Ag × List Ag × (Sav × Nat) × Ag
abbrev l_q (l : Lv) : List Ag := l.1
abbrev l_w (l : Lv) : List Ag := l.2.1
abbrev l_as (l : Lv) : List Ag := l.2.2.1
abbrev l_nx (l : Lv) : List Ag := l.2.2.2.1
abbrev l_sv (l : Lv) : Sav := l.2.2.2.2.1.1
abbrev l_hn (l : Lv) : Nat := l.2.2.2.2.1.2
abbrev l_ow (l : Lv) : Ag := l.2.2.2.2.2
def qAdd (l : Lv) (a : Ag) : Lv := (l_q l ++ [a], l.2)
def wAdd (l : Lv) (a : Ag) : Lv := (l_q l, l_w l ++ [a], l.2.2)
def nAdd (l : Lv) (a : Ag) : Lv := (l_q l, l_w l, l_as l, l_nx l ++ [a], l.2.2.2.2)
/-- view, seed, powers, taken, levels (the deepest first), over, clock and steps, log -/
abbrev Wo : Type := Vw × Int × (Int → Int) × (Int → Int) × List Lv × Bool × (Int × Int) × List Int
abbrev w_V (W : Wo) : Vw := W.1
abbrev w_x (W : Wo) : Int := W.2.1
abbrev w_pw (W : Wo) : Int → Int := W.2.2.1
abbrev w_tk (W : Wo) : Int → Int := W.2.2.2.1
abbrev w_lv (W : Wo) : List Lv := W.2.2.2.2.1
abbrev w_ov (W : Wo) : Bool := W.2.2.2.2.2.1
abbrev w_cs (W : Wo) : Int × Int := W.2.2.2.2.2.2.1
abbrev w_ck (W : Wo) : Int := W.2.2.2.2.2.2.1.1
abbrev w_sp (W : Wo) : Int := W.2.2.2.2.2.2.1.2
abbrev w_lg (W : Wo) : List Int := W.2.2.2.2.2.2.2
def v_setS (V : Vw) (S : Sto) : Vw := (S, v_fr V, v_hi V, v_fi V, v_ac V, v_fl V)
def v_setfl (V : Vw) (b : Bool) : Vw := (v_S V, v_fr V, v_hi V, v_fi V, v_ac V, b)
def v_setac (V : Vw) (n : Int) : Vw := (v_S V, v_fr V, v_hi V, v_fi V, n, v_fl V)
def w_setV (W : Wo) (V : Vw) : Wo := (V, W.2)
def w_setlv (W : Wo) (ls : List Lv) : Wo := (w_V W, w_x W, w_pw W, w_tk W, ls, w_ov W, w_cs W, w_lg W)
def entA (E : Ev) (S : Sto) (a : Ag) (n : Int) : Bool := entl S (e_wh E n) (lookA a (e_a E n)) (lookA a (e_b E n))
def sideA (E : Ev) (S : Sto) (tk : Int → Int) (a : Ag) (n : Int) : Int :=
  if e_kd E n = 4 then (if entA E S a n = true then 0 else -1)
  else if e_kd E n = 5 then
    (if entA E S a (e_on E n) = true then
      (if entA E S a (e_ot E n) = true then
        (if e_a E n = e_b E n then (if tk (2 * n + 1) < tk (2 * n) then 1 else 0) else if e_b E n < e_a E n then 0 else 1)
      else 0)
    else if entA E S a (e_ot E n) = true then 1 else -1)
  else -1
/-- the WHEN at which a node goes on -/
def whenA (E : Ev) (n side : Int) : Int := if e_kd E n = 5 then (if side = 0 then e_on E n else e_ot E n) else n
def goA (E : Ev) (S : Sto) (a : Ag) (m : Int) : Ag := (e_on E m, (if e_wh E m < 10 then a else inclA S a (lowest S (e_wh E m - 10) (lookA a (e_a E m)) (lookA a (e_b E m)))).2)
def askW (E : Ev) (W : Wo) (l : Lv) (ls : List Lv) (a : Ag) : Wo :=
  if sideA E (v_S (w_V W)) (w_tk W) a a.1 = -1 then w_setlv W (wAdd l a :: ls)
  else (w_V W, w_x W, w_pw W, (if e_kd E a.1 = 5 then upf (w_tk W) (2 * a.1 + sideA E (v_S (w_V W)) (w_tk W) a a.1) (w_tk W (2 * a.1 + sideA E (v_S (w_V W)) (w_tk W) a a.1) + 1) else w_tk W), qAdd l (goA E (v_S (w_V W)) a (whenA E a.1 (sideA E (v_S (w_V W)) (w_tk W) a a.1))) :: ls, w_ov W, w_cs W, w_lg W)
def daredL (V : Vw) (one other : Int) (a : Ag) : Lv := ([(one, a.2)], [], [], [], (savS (v_S V), (v_hi V).length), (other, a.2))
/-- what an agent does; its act is counted, it is out of the queue -/
def actK (E : Ev) (W : Wo) (l : Lv) (ls : List Lv) (a : Ag) : Wo :=
  if e_kd E a.1 = 0 then w_setlv (w_setV W (tellEq (w_V W) (lookA a (e_a E a.1)) (lookA a (e_b E a.1)))) (l :: ls)
  else if e_kd E a.1 = 1 ∨ e_kd E a.1 = 2 then w_setlv (w_setV W (tellTok (w_V W) (e_wh E a.1) (lookA a (e_a E a.1)) (lookA a (e_b E a.1)) (decide (e_kd E a.1 = 2)) a.2.2)) (l :: ls)
  else if e_kd E a.1 = 3 then w_setlv W (qAdd (qAdd l (e_on E a.1, a.2)) (e_ot E a.1, a.2) :: ls)
  else if e_kd E a.1 = 4 ∨ e_kd E a.1 = 5 then askW E W l ls a
  else if e_kd E a.1 = 6 then
    (if s_nv (v_S (w_V W)) = 60 then w_setlv (w_setV W (v_setfl (w_V W) true)) (l :: ls)
     else w_setlv (w_setV W (v_setS (w_V W) (mkvar (v_S (w_V W))))) (qAdd l (e_on E a.1, upf a.2.1 (e_wh E a.1) (400 + s_nv (v_S (w_V W))), a.2.2) :: ls))
  else if e_kd E a.1 = 7 then
    (if e_df E (e_wh E a.1) = -1 then w_setlv W (l :: ls)
     else w_setlv W (qAdd l (e_df E (e_wh E a.1), (fun z => if z = 0 then lookA a (e_a E a.1) else if z = 1 then lookA a (e_b E a.1) else 0), a.2.2) :: ls))
  else if e_kd E a.1 = 8 then w_setlv W (nAdd l (e_on E a.1, a.2) :: ls)
  else if e_kd E a.1 = 9 then w_setlv W (nAdd (qAdd l (e_on E a.1, a.2)) a :: ls)
  else if e_kd E a.1 = 12 then (w_V W, nextX (w_x W), lotP (w_x W) (e_a E a.1) (e_b E a.1) (w_pw W), w_tk W, qAdd l ((if isFi (w_x W) (e_a E a.1) (e_b E a.1) = true then e_on E a.1 else e_ot E a.1), a.2) :: ls, w_ov W, w_cs W, w_lg W)
  else if e_kd E a.1 = 13 then
    (if 3 ≤ ls.length then w_setlv W (qAdd l (e_ot E a.1, a.2) :: ls)
     else w_setlv W (daredL (w_V W) (e_on E a.1) (e_ot E a.1) a :: l :: ls))
  else w_setlv W (wAdd l a :: ls)
def dropQ (l : Lv) (i : Nat) : Lv := ((l_q l).eraseIdx i, l.2)
def actAt (E : Ev) (W : Wo) (l : Lv) (ls : List Lv) (i : Nat) : Wo := match (l_q l)[i]? with
  | none => W
  | some a => if v_ac (w_V W) < 60 then actK E (w_setV W (v_setac (w_V W) (v_ac (w_V W) + 1))) (dropQ l i) ls a else w_setlv (w_setV W (v_setfl (w_V W) true)) (dropQ l i :: ls)
def w_log (W : Wo) (n : Int) : Wo := (w_V W, w_x W, w_pw W, w_tk W, w_lv W, w_ov W, w_cs W, w_lg W ++ [n])
def actW (E : Ev) (ch : Nat → Nat) (W : Wo) (l : Lv) (ls : List Lv) : Wo :=
  if ls.length = 0 then actAt E (w_log W (l_q l).length) l ls (ch (w_lg W).length) else actAt E W l ls 0
def giveUp (W : Wo) : Wo := match w_lv W with
  | l :: l' :: ls => w_setlv (w_setV W (restS (v_S (w_V W)) (l_sv l), [], (v_hi (w_V W)).take (l_hn l), v_fi (w_V W), v_ac (w_V W), false)) (qAdd l' (l_ow l) :: ls)
  | _ => (v_setfr (w_V W) [], w_x W, w_pw W, w_tk W, w_lv W, true, w_cs W, w_lg W)
def canGo (E : Ev) (S : Sto) (tk : Int → Int) (a : Ag) : Bool := !decide (sideA E S tk a a.1 = -1)
def goOnL (E : Ev) (S : Sto) (tk : Int → Int) (l : Lv) : Lv := (l_q l ++ (l_w l).filter (canGo E S tk), (l_w l).filter (fun a => !canGo E S tk a), l.2.2)
/-- the place of the first at which P, or the length -/
def fstI {α : Type} (P : α → Bool) : List α → Nat
  | [] => 0
  | a :: as => if P a = true then 0 else fstI P as + 1
def canAs (E : Ev) (S : Sto) (a : Ag) : Bool := decide (e_kd E a.1 = 11) && !entA E S a a.1
def assumeL (E : Ev) (l : Lv) (i : Nat) (a : Ag) : Lv := (l_q l ++ [(e_on E a.1, a.2)], (l_w l).eraseIdx i, l_as l ++ [a], l.2.2.2)
def unlL (E : Ev) (S : Sto) (w : List Ag) : List Ag := (w.filter (fun a => decide (e_kd E a.1 = 10) && !entA E S a a.1)).map (fun a => (e_on E a.1, a.2))
def finishW (E : Ev) (W : Wo) (l : Lv) (ls : List Lv) : Wo :=
  if (l_as l).any (fun a => entA E (v_S (w_V W)) a a.1) = true then w_setV W (v_setfl (w_V W) true)
  else match ls with
    | l' :: ls' => w_setlv W ((l_q l', l_w l', l_as l', l_nx l' ++ (l_nx l ++ unlL E (v_S (w_V W)) (l_w l)), l'.2.2.2.2) :: ls')
    | [] => (v_setS (w_V W) (dropS (v_S (w_V W))), w_x W, w_pw W, w_tk W, [(l_q l, l_w l, l_as l, l_nx l ++ unlL E (v_S (w_V W)) (l_w l), l.2.2.2.2)], true, (w_ck W + 1, w_sp W), w_lg W)
def quietW (E : Ev) (W : Wo) (l : Lv) (ls : List Lv) : Wo :=
  if (goOnL E (v_S (w_V W)) (w_tk W) l).1.length = 0 then
    (match (l_w l)[fstI (canAs E (v_S (w_V W))) (l_w l)]? with
     | some a => w_setlv W (assumeL E l (fstI (canAs E (v_S (w_V W))) (l_w l)) a :: ls)
     | none => finishW E W l ls)
  else w_setlv W (goOnL E (v_S (w_V W)) (w_tk W) l :: ls)
def turnL (E : Ev) (ch : Nat → Nat) (W : Wo) : List Lv → Wo
  | [] => W
  | l :: ls => if (l_q l).length = 0 then quietW E W l ls else actW E ch W l ls
/-- one turn of a step -/
def turnW (E : Ev) (ch : Nat → Nat) (W : Wo) : Wo :=
  if w_ov W = true then W
  else if v_fl (w_V W) = true then giveUp W
  else if (v_fr (w_V W)).length = 0 then turnL E ch W (w_lv W)
  else w_setV W (adv (w_V W) (e_Rs E) (e_md E))
def turns (E : Ev) (ch : Nat → Nat) (W : Wo) : Nat → Wo
  | 0 => W
  | n + 1 => turnW E ch (turns E ch W n)
/-! what stays good -/
def gTm (x : Int) : Prop := valu x ∨ slot x
def gNode (E : Ev) (x : Int) : Prop := 0 ≤ x ∧ x < e_ct E
def gCond (c : Int) : Prop := (0 ≤ c ∧ c ≤ 3) ∨ (10 ≤ c ∧ c ≤ 15)
def GE (E : Ev) : Prop := (0 ≤ e_ct E ∧ e_ct E ≤ 60) ∧ (0 ≤ e_md E ∧ e_md E ≤ 8) ∧ (∀ w, 0 ≤ w → w < e_md E → GR (e_Rs E w)) ∧ (∀ d, 0 ≤ d → d < 6 → e_df E d = -1 ∨ gNode E (e_df E d)) ∧
  ∀ n, gNode E n → (0 ≤ e_kd E n ∧ e_kd E n ≤ 13) ∧ (gTm (e_a E n) ∧ gTm (e_b E n)) ∧ (0 ≤ e_wh E n ∧ e_wh E n ≤ 15) ∧
    (e_kd E n = 1 ∨ e_kd E n = 2 → e_wh E n ≤ 5) ∧
    (e_kd E n = 4 ∨ e_kd E n = 10 ∨ e_kd E n = 11 → gCond (e_wh E n)) ∧
    (e_kd E n = 5 → (e_kd E (e_on E n) = 4 ∧ e_kd E (e_ot E n) = 4) ∧ valu (e_a E n) ∧ valu (e_b E n)) ∧
    (e_kd E n = 6 → e_wh E n ≤ 3) ∧ (e_kd E n = 7 → e_wh E n ≤ 5) ∧
    (e_kd E n = 12 → (1 ≤ e_a E n ∧ e_a E n ≤ 9) ∧ 1 ≤ e_b E n ∧ e_b E n ≤ 9) ∧
    (e_kd E n = 3 ∨ e_kd E n = 4 ∨ e_kd E n = 5 ∨ e_kd E n = 6 ∨ (8 ≤ e_kd E n ∧ e_kd E n ≤ 13) → gNode E (e_on E n)) ∧
    (e_kd E n = 3 ∨ e_kd E n = 5 ∨ e_kd E n = 12 ∨ e_kd E n = 13 → gNode E (e_ot E n))
def gAg (E : Ev) (S : Sto) (a : Ag) : Prop := gNode E a.1 ∧ ∀ z, 0 ≤ z → z < 4 → tm (s_nv S) (a.2.1 z)
def gAs (E : Ev) (S : Sto) (l : List Ag) : Prop := ∀ a ∈ l, gAg E S a
def gLv (E : Ev) (S : Sto) (l : Lv) : Prop := gAs E S (l_q l) ∧ gAs E S (l_w l) ∧ gAs E S (l_as l) ∧ gAs E S (l_nx l) ∧ ∀ a ∈ l_as l, e_kd E a.1 = 11
def gSv (v : Sav) (S : Sto) : Prop := (0 ≤ v.1 ∧ v.1 ≤ s_nv S) ∧ (0 ≤ v.2.1 ∧ v.2.1 ≤ s_nt S) ∧ (∀ x, 0 ≤ x → x < v.1 → (0 ≤ v.2.2.1 x ∧ v.2.2.1 x < v.1)) ∧ (∀ x, 0 ≤ x → x < v.1 → -99 ≤ v.2.2.2.1 x ∧ v.2.2.2.1 x ≤ 100)
/-- the levels within: what they saved, and how long the history was -/
def gLs (E : Ev) (S : Sto) (base : Nat) : Nat → List Lv → Prop
  | _, [] => False
  | _, [_] => True
  | n, l :: l' :: ls => (gSv (l_sv l) S ∧ (base ≤ l_hn l ∧ l_hn l ≤ n) ∧ gAg E S (l_ow l)) ∧ gLs E S base (l_hn l) (l' :: ls)
def m1L : List Lv → Int
  | [] => 0
  | l :: ls => m1L ls + (l_q l).length + (l_w l).length
def m2L : List Lv → Int
  | [] => 0
  | l :: ls => m2L ls + (l_w l).length + (l_as l).length + (l_nx l).length
def GW (E : Ev) (base : Nat) (st : Int) (W : Wo) : Prop := GV (e_Rs E) (e_md E) (w_V W) ∧ (base ≤ (v_hi (w_V W)).length) ∧ (0 ≤ w_x W ∧ w_x W < 65537) ∧
  (∀ z, 0 ≤ w_tk W z ∧ w_tk W z ≤ st + v_ac (w_V W)) ∧ (∀ l ∈ w_lv W, gLv E (v_S (w_V W)) l) ∧ gLs E (v_S (w_V W)) base (v_hi (w_V W)).length (w_lv W) ∧ (w_lv W).length ≤ 4 ∧
  m1L (w_lv W) + (w_lv W).length ≤ 61 + v_ac (w_V W) ∧ (if w_ov W = true then (w_lv W).length = 1 ∧ ∀ l ∈ w_lv W, ((l_nx l).length : Int) ≤ v_ac (w_V W) else m2L (w_lv W) ≤ v_ac (w_V W)) ∧
  ((w_lg W).length : Int) ≤ v_ac (w_V W) + (if v_fl (w_V W) = true ∧ (w_lv W).length = 1 then 1 else 0) ∧
  (∀ i, -(4 * (st + v_ac (w_V W))) ≤ w_pw W i ∧ w_pw W i ≤ 4 * (st + v_ac (w_V W)))
def muL : List Lv → Int
  | [] => 0
  | l :: ls => muL ls + 2 * (l_w l).length + (l_q l).length + 3
def muW (W : Wo) : Int := if w_ov W = true then 0 else muV (w_V W) + muL (w_lv W)
