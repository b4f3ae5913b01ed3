/-! THE TURNS OF THE THREE AGENTS: no rules are made -/
section
variable {E : Ev} {ch : Nat → Nat} {S : Sto} {fr : List Frm} {hi : Hst} {fi : Int → Int} {ac x : Int} {pw tk : Int → Int} {cs : Int × Int} {lg : List Int} {n : Int} {f : Int → Int} {sl : Nat → Bool} {q : List Ag} {r : List Ag × List Ag × List Ag × (Sav × Nat) × Ag} {l' : Lv} {ls : List Lv} {W W' Wf : Wo} {sv : Sav × Nat} {a ow : Ag} {fl : Bool}
theorem turns_first (E : Ev) (ch : Nat → Nat) (W : Wo) : ∀ n, turns E ch W (n + 1) = turns E ch (turnW E ch W) n
  | 0 => rfl
  | n + 1 => by
    show turnW E ch (turns E ch W (n + 1)) = turnW E ch (turns E ch (turnW E ch W) n)
    rw [turns_first E ch W n]
theorem RunEnd_step (h : turnW E ch W = W') (k : RunEnd E ch W' Wf) : RunEnd E ch W Wf := by
  obtain ⟨n, e, o⟩ := k
  exact ⟨n + 1, by rw [turns_first, h]; exact e, o⟩
theorem RunEnd_end (h : w_ov W = true) : RunEnd E ch W W := ⟨0, rfl, h⟩
theorem bft : (false = true) = False := eq_false (by decide)
theorem u_adv (hm : e_md E = 0) {t : Int} : turnW E ch ((S, .inl (t, 0) :: fr, hi, fi, ac, false), x, pw, tk, ls, false, cs, lg) = ((S, fr, hi, fi, ac, false), x, pw, tk, ls, false, cs, lg) := by
  have hn : aNext (S, .inl (t, 0) :: fr, hi, fi, ac, false) (e_Rs E) (e_md E) t 0 = -1 := by
    unfold aNext
    have : aEnd (v_S (S, (.inl (t, 0) :: fr : List Frm), hi, fi, ac, false)) (e_md E) t = 0 := by
      unfold aEnd
      rw [hm]
      split <;> rfl
    rw [this]
    rfl
  show (if false = true then _ else if false = true then _ else if (fr.length + 1 = 0) then _ else w_setV ((S, .inl (t, 0) :: fr, hi, fi, ac, false), x, pw, tk, ls, false, cs, lg) (advA (S, .inl (t, 0) :: fr, hi, fi, ac, false) (e_Rs E) (e_md E) t 0 fr)) = _
  rw [if_neg (by decide), if_neg (by decide), if_neg (by omega)]
  unfold advA
  rw [if_pos hn]
  rfl
theorem turn_L : turnW E ch ((S, [], hi, fi, ac, false), x, pw, tk, ls, false, cs, lg) = turnL E ch ((S, [], hi, fi, ac, false), x, pw, tk, ls, false, cs, lg) ls := by
  unfold turnW
  rw [if_neg (show ¬ (false = true) from Bool.false_ne_true), if_neg (show ¬ (false = true) from Bool.false_ne_true), if_pos (show ([] : List Frm).length = 0 from rfl)]
theorem turn_Lc {l : Lv} : turnL E ch W (l :: ls) = if (l_q l).length = 0 then quietW E W l ls else actW E ch W l ls := rfl
theorem actAt_0 : actAt E W (a :: q, r) ls 0 = if v_ac (w_V W) < 60 then actK E (w_setV W (v_setac (w_V W) (v_ac (w_V W) + 1))) (q, r) ls a else w_setlv (w_setV W (v_setfl (w_V W) true)) ((q, r) :: ls) := rfl
theorem u_act0 (h : ac < 60) (hc : ch lg.length = 0) : turnW E ch ((S, [], hi, fi, ac, false), x, pw, tk, [(a :: q, r)], false, cs, lg) = actK E ((S, [], hi, fi, ac + 1, false), x, pw, tk, [(a :: q, r)], false, cs, lg ++ [((q.length + 1 : Nat) : Int)]) (q, r) [] a := by
  rw [turn_L, turn_Lc, if_neg (show ¬ (a :: q).length = 0 by rw [List.length_cons]; omega)]
  unfold actW
  rw [if_pos (show ([] : List Lv).length = 0 from rfl), show ch (w_lg ((S, ([] : List Frm), hi, fi, ac, false), x, pw, tk, [(a :: q, r)], false, cs, lg)).length = 0 from hc, actAt_0, if_pos (show v_ac (w_V (w_log ((S, ([] : List Frm), hi, fi, ac, false), x, pw, tk, [(a :: q, r)], false, cs, lg) ((l_q (a :: q, r)).length : Nat))) < 60 from h)]
  rfl
theorem u_act1 (h : ac < 60) : turnW E ch ((S, [], hi, fi, ac, false), x, pw, tk, (a :: q, r) :: l' :: ls, false, cs, lg) = actK E ((S, [], hi, fi, ac + 1, false), x, pw, tk, (a :: q, r) :: l' :: ls, false, cs, lg) (q, r) (l' :: ls) a := by
  rw [turn_L, turn_Lc, if_neg (show ¬ (a :: q).length = 0 by rw [List.length_cons]; omega)]
  unfold actW
  rw [if_neg (show ¬ (l' :: ls).length = 0 by rw [List.length_cons]; omega), actAt_0, if_pos (show v_ac (w_V ((S, ([] : List Frm), hi, fi, ac, false), x, pw, tk, (a :: q, r) :: l' :: ls, false, cs, lg)) < 60 from h)]
  rfl
theorem k_eq (h : e_kd E n = 0) {l : Lv} : actK E W l ls (n, f, sl) = w_setlv (w_setV W (tellEq (w_V W) (lookA (n, f, sl) (e_a E n)) (lookA (n, f, sl) (e_b E n)))) (l :: ls) := by
  unfold actK
  dsimp only
  rw [if_pos h]
theorem k_tok (h : e_kd E n = 2) {l : Lv} : actK E W l ls (n, f, sl) = w_setlv (w_setV W (tellTok (w_V W) (e_wh E n) (lookA (n, f, sl) (e_a E n)) (lookA (n, f, sl) (e_b E n)) true sl)) (l :: ls) := by
  unfold actK
  dsimp only
  rw [if_neg (by omega), if_pos (by omega), decide_eq_true h]
theorem k_both (h : e_kd E n = 3) {l : Lv} : actK E W l ls (n, f, sl) = w_setlv W (qAdd (qAdd l (e_on E n, f, sl)) (e_ot E n, f, sl) :: ls) := by
  unfold actK
  dsimp only
  rw [if_neg (by omega), if_neg (by omega), if_pos h]
theorem k_when (h : e_kd E n = 4) {l : Lv} : actK E W l ls (n, f, sl) = askW E W l ls (n, f, sl) := by
  unfold actK
  dsimp only
  rw [if_neg (by omega), if_neg (by omega), if_neg (by omega), if_pos (by omega)]
theorem k_lot (h : e_kd E n = 12) {l : Lv} : actK E W l ls (n, f, sl) = (w_V W, nextX (w_x W), lotP (w_x W) (e_a E n) (e_b E n) (w_pw W), w_tk W, qAdd l ((if isFi (w_x W) (e_a E n) (e_b E n) = true then e_on E n else e_ot E n), f, sl) :: ls, w_ov W, w_cs W, w_lg W) := by
  unfold actK
  dsimp only
  rw [if_neg (by omega), if_neg (by omega), if_neg (by omega), if_neg (by omega), if_neg (by omega), if_neg (by omega), if_neg (by omega), if_neg (by omega), if_pos h]
theorem k_try (h : e_kd E n = 13) {l : Lv} (hl : ls.length < 3) : actK E W l ls (n, f, sl) = w_setlv W (daredL (w_V W) (e_on E n) (e_ot E n) (n, f, sl) :: l :: ls) := by
  unfold actK
  dsimp only
  rw [if_neg (by omega), if_neg (by omega), if_neg (by omega), if_neg (by omega), if_neg (by omega), if_neg (by omega), if_neg (by omega), if_neg (by omega), if_neg (by omega), if_pos h, if_neg (by omega)]
theorem tok_V {so a b : Int} {la : Bool} (h : s_nt S < 100) : tellTok (S, fr, hi, fi, ac, fl) so a b la sl = (addtok S so a b la sl, .inl (s_nt S, 0) :: fr, hi, fi, ac, fl) := by
  unfold tellTok
  rw [if_neg (show ¬ s_nt (v_S (S, fr, hi, fi, ac, fl)) = 100 by show ¬ s_nt S = 100; omega)]
theorem look0 {t : Int} (h : t = 200) : lookA (n, f, sl) t = f 0 := by
  subst h
  unfold lookA
  rw [if_pos (by omega)]
  rfl
theorem look1 {t : Int} (h : t = 201) : lookA (n, f, sl) t = f 1 := by
  subst h
  unfold lookA
  rw [if_pos (by omega)]
  rfl
theorem lookv {t : Int} (h : t < 200) : lookA (n, f, sl) t = t := by
  unfold lookA
  rw [if_neg (by omega)]
/-- a token's node: sort, its two parts the agent's -/
def TkN (E : Ev) (n w : Int) : Prop := e_kd E n = 2 ∧ e_wh E n = w ∧ e_a E n = 200 ∧ e_b E n = 201
theorem s_tok0 {w : Int} (hN : TkN E n w) (h : ac < 60) (hc : ch lg.length = 0) (hn : s_nt S < 100) : turnW E ch ((S, [], hi, fi, ac, false), x, pw, tk, [((n, f, sl) :: q, r)], false, cs, lg) = ((addtok S w (f 0) (f 1) true sl, [.inl (s_nt S, 0)], hi, fi, ac + 1, false), x, pw, tk, [(q, r)], false, cs, lg ++ [((q.length + 1 : Nat) : Int)]) := by
  obtain ⟨h1, h2, h3, h4⟩ := hN
  rw [u_act0 h hc, k_tok h1, look0 h3, look1 h4, h2]
  show w_setlv (w_setV _ (tellTok (S, [], hi, fi, ac + 1, false) w (f 0) (f 1) true sl)) _ = _
  rw [tok_V hn]
  rfl
theorem s_tok1 {w : Int} (hN : TkN E n w) (h : ac < 60) (hn : s_nt S < 100) : turnW E ch ((S, [], hi, fi, ac, false), x, pw, tk, ((n, f, sl) :: q, r) :: l' :: ls, false, cs, lg) = ((addtok S w (f 0) (f 1) true sl, [.inl (s_nt S, 0)], hi, fi, ac + 1, false), x, pw, tk, (q, r) :: l' :: ls, false, cs, lg) := by
  obtain ⟨h1, h2, h3, h4⟩ := hN
  rw [u_act1 h, k_tok h1, look0 h3, look1 h4, h2]
  show w_setlv (w_setV _ (tellTok (S, [], hi, fi, ac + 1, false) w (f 0) (f 1) true sl)) _ = _
  rw [tok_V hn]
  rfl
theorem s_both0 (h3 : e_kd E n = 3) (h : ac < 60) (hc : ch lg.length = 0) : turnW E ch ((S, [], hi, fi, ac, false), x, pw, tk, [((n, f, sl) :: q, r)], false, cs, lg) = ((S, [], hi, fi, ac + 1, false), x, pw, tk, [((q ++ [(e_on E n, f, sl)]) ++ [(e_ot E n, f, sl)], r)], false, cs, lg ++ [((q.length + 1 : Nat) : Int)]) := by
  rw [u_act0 h hc, k_both h3]
  rfl
theorem s_both1 (h3 : e_kd E n = 3) (h : ac < 60) : turnW E ch ((S, [], hi, fi, ac, false), x, pw, tk, ((n, f, sl) :: q, r) :: l' :: ls, false, cs, lg) = ((S, [], hi, fi, ac + 1, false), x, pw, tk, ((q ++ [(e_on E n, f, sl)]) ++ [(e_ot E n, f, sl)], r) :: l' :: ls, false, cs, lg) := by
  rw [u_act1 h, k_both h3]
  rfl
theorem s_lot0 (h3 : e_kd E n = 12) (h : ac < 60) (hc : ch lg.length = 0) : turnW E ch ((S, [], hi, fi, ac, false), x, pw, tk, [((n, f, sl) :: q, r)], false, cs, lg) = ((S, [], hi, fi, ac + 1, false), nextX x, lotP x (e_a E n) (e_b E n) pw, tk, [(q ++ [((if isFi x (e_a E n) (e_b E n) = true then e_on E n else e_ot E n), f, sl)], r)], false, cs, lg ++ [((q.length + 1 : Nat) : Int)]) := by
  rw [u_act0 h hc, k_lot h3]
  rfl
theorem s_lot1 (h3 : e_kd E n = 12) (h : ac < 60) : turnW E ch ((S, [], hi, fi, ac, false), x, pw, tk, ((n, f, sl) :: q, r) :: l' :: ls, false, cs, lg) = ((S, [], hi, fi, ac + 1, false), nextX x, lotP x (e_a E n) (e_b E n) pw, tk, (q ++ [((if isFi x (e_a E n) (e_b E n) = true then e_on E n else e_ot E n), f, sl)], r) :: l' :: ls, false, cs, lg) := by
  rw [u_act1 h, k_lot h3]
  rfl
theorem s_try0 (h3 : e_kd E n = 13) (h : ac < 60) (hc : ch lg.length = 0) : turnW E ch ((S, [], hi, fi, ac, false), x, pw, tk, [((n, f, sl) :: q, r)], false, cs, lg) = ((S, [], hi, fi, ac + 1, false), x, pw, tk, [([(e_on E n, f, sl)], [], [], [], (savS S, hi.length), (e_ot E n, f, sl)), (q, r)], false, cs, lg ++ [((q.length + 1 : Nat) : Int)]) := by
  rw [u_act0 h hc, k_try h3 (by decide)]
  rfl
/-- a clash -/
theorem s_clash1 (h3 : e_kd E n = 0) (ha : e_a E n = 1) (hb : e_b E n = 2) (h : ac < 60) : turnW E ch ((S, [], hi, fi, ac, false), x, pw, tk, ((n, f, sl) :: q, r) :: l' :: ls, false, cs, lg) = ((S, [], hi, fi, ac + 1, true), x, pw, tk, (q, r) :: l' :: ls, false, cs, lg) := by
  rw [u_act1 h, k_eq h3, lookv (by omega), lookv (by omega), ha, hb]
  have f1 : form S 1 = 1 := if_pos (by decide)
  have f2 : form S 2 = 2 := if_pos (by decide)
  have hu : uni S 1 2 = (-1, true, S) := by
    unfold uni
    rw [f1, f2, if_pos (by omega)]
  show w_setlv (w_setV _ (tellEq (S, [], hi, fi, ac + 1, false) 1 2)) _ = _
  unfold tellEq
  show w_setlv (w_setV _ (if (uni S 1 2).1 = -1 then ((uni S 1 2).2.2, [], hi, fi, ac + 1, false || (uni S 1 2).2.1) else _)) _ = _
  rw [hu, if_pos rfl]
  rfl
/-- a try is given up -/
theorem s_give {q0 w0 a0 n0 : List Ag} {s0 : Sav × Nat} {ow0 : Ag} {k : Nat} {v : Sav} {rw ras rnx : List Ag} (hk : hi.take k = hi) : turnW E ch ((S, fr, hi, fi, ac, true), x, pw, tk, (q, rw, ras, rnx, (v, k), ow) :: (q0, w0, a0, n0, s0, ow0) :: ls, false, cs, lg) = ((restS S v, [], hi, fi, ac, false), x, pw, tk, (q0 ++ [ow], w0, a0, n0, s0, ow0) :: ls, false, cs, lg) := by
  show (if false = true then _ else if true = true then giveUp ((S, fr, hi, fi, ac, true), x, pw, tk, (q, rw, ras, rnx, (v, k), ow) :: (q0, w0, a0, n0, s0, ow0) :: ls, false, cs, lg) else _) = _
  rw [if_neg (by decide), if_pos rfl]
  show ((restS S v, [], hi.take k, fi, ac, false), x, pw, tk, _, false, cs, lg) = _
  rw [hk]
  rfl
/-- quiet, and nothing waits that goes on -/
theorem s_end {ws : List Ag} {nx : List Ag} (hw : ws = [] ∨ ∃ b, ws = [b] ∧ e_kd E b.1 = 4 ∧ canGo E S tk b = false) : turnW E ch ((S, [], hi, fi, ac, false), x, pw, tk, [([], ws, [], nx, sv, ow)], false, cs, lg) = ((dropS S, [], hi, fi, ac, false), x, pw, tk, [([], ws, [], nx, sv, ow)], true, (cs.1 + 1, cs.2), lg) := by
  rw [turn_L, turn_Lc, if_pos (show ([] : List Ag).length = 0 from rfl)]
  unfold quietW
  have hg : (goOnL E S tk ([], ws, [], nx, sv, ow)).1.length = 0 := by
    unfold goOnL
    rcases hw with rfl | ⟨b, rfl, h4, h5⟩
    · rfl
    · show (([] : List Ag) ++ [b].filter (canGo E S tk)).length = 0
      rw [List.filter_cons, h5]
      rfl
  have hn : ws[fstI (canAs E S) ws]? = none := by
    rcases hw with rfl | ⟨b, rfl, h4, h5⟩
    · rfl
    · have : canAs E S b = false := by
        unfold canAs
        rw [decide_eq_false (by omega)]
        rfl
      unfold fstI
      rw [this]
      rfl
  have hu : unlL E S ws = [] := by
    unfold unlL
    rcases hw with rfl | ⟨b, rfl, h4, h5⟩
    · rfl
    · rw [List.filter_cons, decide_eq_false (show ¬ e_kd E b.1 = 10 by omega)]
      rfl
  rw [if_pos (show (goOnL E (v_S (w_V ((S, ([] : List Frm), hi, fi, ac, false), x, pw, tk, [(([] : List Ag), ws, ([] : List Ag), nx, sv, ow)], false, cs, lg))) (w_tk ((S, ([] : List Frm), hi, fi, ac, false), x, pw, tk, [(([] : List Ag), ws, ([] : List Ag), nx, sv, ow)], false, cs, lg)) ([], ws, [], nx, sv, ow)).1.length = 0 from hg)]
  split
  · rename_i b hb
    exact absurd (hn.symm.trans hb) (fun q => by cases q)
  · unfold finishW
    rw [if_neg (show ¬ (([] : List Ag).any _ = true) from Bool.false_ne_true)]
    show ((dropS S, [], hi, fi, ac, false), x, pw, tk, [([], ws, [], nx ++ unlL E S ws, sv, ow)], true, (cs.1 + 1, cs.2), lg) = _
    rw [hu, List.append_nil]
/-- what waited goes on -/
theorem s_go {b : Ag} {nx : List Ag} (h5 : canGo E S tk b = true) : turnW E ch ((S, [], hi, fi, ac, false), x, pw, tk, [([], [b], [], nx, sv, ow)], false, cs, lg) = ((S, [], hi, fi, ac, false), x, pw, tk, [([b], [], [], nx, sv, ow)], false, cs, lg) := by
  rw [turn_L, turn_Lc, if_pos (show ([] : List Ag).length = 0 from rfl)]
  unfold quietW
  have hg : goOnL E S tk ([], [b], [], nx, sv, ow) = ([b], [], [], nx, sv, ow) := by
    unfold goOnL
    show (([] : List Ag) ++ [b].filter (canGo E S tk), [b].filter (fun a => !canGo E S tk a), ([] : List Ag), nx, sv, ow) = _
    rw [List.filter_cons, List.filter_cons, h5]
    rfl
  have hg' : goOnL E (v_S (w_V ((S, ([] : List Frm), hi, fi, ac, false), x, pw, tk, [(([] : List Ag), [b], ([] : List Ag), nx, sv, ow)], false, cs, lg))) (w_tk ((S, ([] : List Frm), hi, fi, ac, false), x, pw, tk, [(([] : List Ag), [b], ([] : List Ag), nx, sv, ow)], false, cs, lg)) ([], [b], [], nx, sv, ow) = ([b], [], [], nx, sv, ow) := hg
  rw [hg', if_neg (show ¬ ([b] : List Ag).length = 0 by rw [List.length_singleton]; omega)]
  rfl
theorem go_when (h : e_kd E n = 4) : sideA E S tk (n, f, sl) n = if entA E S (n, f, sl) n = true then 0 else -1 := by
  unfold sideA
  rw [if_pos h]
theorem can_when (h : e_kd E n = 4) : canGo E S tk (n, f, sl) = entA E S (n, f, sl) n := by
  unfold canGo
  rw [show (n, f, sl).1 = n from rfl, go_when h]
  cases entA E S (n, f, sl) n <;> rfl
/-- an ask that waits -/
theorem s_ask_w (h3 : e_kd E n = 4) (h : ac < 60) (hc : ch lg.length = 0) (he : entA E S (n, f, sl) n = false) {ws ras rnx : List Ag} : turnW E ch ((S, [], hi, fi, ac, false), x, pw, tk, [((n, f, sl) :: q, ws, ras, rnx, sv, ow)], false, cs, lg) = ((S, [], hi, fi, ac + 1, false), x, pw, tk, [(q, ws ++ [(n, f, sl)], ras, rnx, sv, ow)], false, cs, lg ++ [((q.length + 1 : Nat) : Int)]) := by
  rw [u_act0 h hc, k_when h3]
  unfold askW
  have hs : sideA E S tk (n, f, sl) n = -1 := by
    rw [go_when h3, he]
    rfl
  rw [if_pos (show sideA E (v_S (w_V ((S, [], hi, fi, ac + 1, false), x, pw, tk, [((n, f, sl) :: q, ws, ras, rnx, sv, ow)], false, cs, lg ++ [((q.length + 1 : Nat) : Int)]))) (w_tk ((S, [], hi, fi, ac + 1, false), x, pw, tk, [((n, f, sl) :: q, ws, ras, rnx, sv, ow)], false, cs, lg ++ [((q.length + 1 : Nat) : Int)])) (n, f, sl) (n, f, sl).1 = -1 from hs)]
  rfl
/-- an ask that goes on -/
theorem s_ask_g (h3 : e_kd E n = 4) (h : ac < 60) (hc : ch lg.length = 0) (he : entA E S (n, f, sl) n = true) : turnW E ch ((S, [], hi, fi, ac, false), x, pw, tk, [((n, f, sl) :: q, r)], false, cs, lg) = ((S, [], hi, fi, ac + 1, false), x, pw, tk, [(q ++ [goA E S (n, f, sl) n], r)], false, cs, lg ++ [((q.length + 1 : Nat) : Int)]) := by
  rw [u_act0 h hc, k_when h3]
  unfold askW
  have hs : sideA E S tk (n, f, sl) n = 0 := by
    rw [go_when h3, he]
    rfl
  rw [if_neg (show ¬ sideA E (v_S (w_V ((S, [], hi, fi, ac + 1, false), x, pw, tk, [((n, f, sl) :: q, r)], false, cs, lg ++ [((q.length + 1 : Nat) : Int)]))) (w_tk ((S, [], hi, fi, ac + 1, false), x, pw, tk, [((n, f, sl) :: q, r)], false, cs, lg ++ [((q.length + 1 : Nat) : Int)])) (n, f, sl) (n, f, sl).1 = -1 from (by
    show ¬ sideA E S tk (n, f, sl) n = -1
    rw [hs]
    decide))]
  have hw : whenA E n 0 = n := by
    unfold whenA
    rw [if_neg (by omega)]
  show ((S, [], hi, fi, ac + 1, false), x, pw, (if e_kd E n = 5 then _ else tk), [qAdd (q, r) (goA E S (n, f, sl) (whenA E n (sideA E S tk (n, f, sl) n)))], false, cs, lg ++ [((q.length + 1 : Nat) : Int)]) = _
  rw [if_neg (by omega), hs, hw]
  rfl
end
