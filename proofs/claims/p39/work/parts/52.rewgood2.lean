/-! THE REWRITER: an advance keeps what is good, and comes nearer to its end -/
def wFrm : Frm → Int
  | .inl _ => 1
  | .inr (.inl (a, _)) => 1 + 2 * (100 - a)
  | .inr (.inr (_, k, _, _, _)) => 1 + 202 * (2 - k)
def wFrs : List Frm → Int
  | [] => 0
  | f :: fs => wFrs fs + wFrm f
def muV (V : Vw) : Int := 1000 * (60 - v_ac V) + wFrs (v_fr V) + (if v_fl V = true then 0 else 1)
theorem canF_spec {S : Sto} {Rs : Int → Rl} {hi : Hst} {t p : Int} {bd : Int → Int} (h : canF S Rs hi t p = some bd) : p / 100 % 2 < l_hd (Rs (p / 200)) ∧ l_so (Rs (p / 200)) (p / 100 % 2) = s_so S t ∧ p % 100 < (if 2 ≤ l_hd (Rs (p / 200)) then s_nt S else 1) ∧ partn S (Rs (p / 200)) (p / 100 % 2) t (p % 100) = true ∧ ¬ (p / 200, cOne (Rs (p / 200)) (p / 100 % 2) t (p % 100), mx0 (cTwo (Rs (p / 200)) (p / 100 % 2) t (p % 100))) ∈ hi ∧ matchR S (Rs (p / 200)) (cOne (Rs (p / 200)) (p / 100 % 2) t (p % 100)) (cTwo (Rs (p / 200)) (p / 100 % 2) t (p % 100)) = some bd := by
  unfold canF at h
  by_cases c1 : l_hd (Rs (p / 200)) ≤ p / 100 % 2
  · rw [if_pos c1] at h; cases h
  rw [if_neg c1] at h
  by_cases c2 : ¬ l_so (Rs (p / 200)) (p / 100 % 2) = s_so S t
  · rw [if_pos c2] at h; cases h
  rw [if_neg c2] at h
  by_cases c3 : (if 2 ≤ l_hd (Rs (p / 200)) then s_nt S else 1) ≤ p % 100
  · rw [if_pos c3] at h; cases h
  rw [if_neg c3] at h
  by_cases c4 : partn S (Rs (p / 200)) (p / 100 % 2) t (p % 100) = false
  · rw [if_pos c4] at h; cases h
  rw [if_neg c4] at h
  by_cases c5 : (p / 200, cOne (Rs (p / 200)) (p / 100 % 2) t (p % 100), mx0 (cTwo (Rs (p / 200)) (p / 100 % 2) t (p % 100))) ∈ hi
  · rw [if_pos c5] at h; cases h
  rw [if_neg c5] at h
  exact ⟨by omega, by simpa using c2, by omega, by simpa using c4, c5, h⟩
theorem cOne_rng {S : Sto} {R : Rl} {h t o : Int} (hhd : 1 ≤ l_hd R ∧ l_hd R ≤ 2) (h0 : 0 ≤ h) (h1 : h < l_hd R) (t0 : 0 ≤ t ∧ t < s_nt S) (o0 : 0 ≤ o) (o1 : o < (if 2 ≤ l_hd R then s_nt S else 1)) : (0 ≤ cOne R h t o ∧ cOne R h t o < s_nt S) ∧ (1 < l_hd R → 0 ≤ cTwo R h t o ∧ cTwo R h t o < s_nt S) := by
  unfold cOne cTwo
  by_cases c : 2 ≤ l_hd R
  · rw [if_pos c] at o1
    rw [if_pos c]
    refine ⟨?_, fun _ => ?_⟩
    · split
      · exact t0
      · exact ⟨o0, o1⟩
    · split
      · exact ⟨o0, o1⟩
      · exact t0
  · have hh : h = 0 := by omega
    rw [if_pos hh]
    exact ⟨t0, fun q => by omega⟩
section
variable {Rs : Int → Rl} {made : Int} {V : Vw}
theorem GV_setfr (hG : GV Rs made V) {fr : List Frm} (h1 : ∀ f ∈ fr, gFrm (v_S V) Rs made f) (h2 : okF fr) (h3 : nBo fr ≤ v_ac V) : GV Rs made (v_setfr V fr) := by
  obtain ⟨g1, g2, g3, g4, g5, g6, g7, g8⟩ := hG
  exact ⟨g1, g2, g3, g4, h1, h2, h3, g8⟩
theorem GV_fire (hG : GV Rs made V) {w one two : Int} {bd : Int → Int} (w0 : 0 ≤ w ∧ w < made) (o0 : 0 ≤ one ∧ one < s_nt (v_S V)) (t0 : 1 < l_hd (Rs w) → 0 ≤ two ∧ two < s_nt (v_S V)) (t1 : two < 100) (hn : ¬ (w, one, mx0 two) ∈ v_hi V) (hm : matchR (v_S V) (Rs w) one two = some bd) : GV Rs made (fireV V Rs w one two bd) := by
  obtain ⟨g1, g2, g3, g4, g5, g6, g7, g8⟩ := hG
  have gr := g4 w w0.1 w0.2
  obtain ⟨i1, i2⟩ := matchR_inv g1 gr hm o0 t0
  have hnb := gr.2.2.2.1
  have hnt := g1.1.2.2.2
  unfold fireV
  split
  · rename_i ha
    refine ⟨GS_setsd g1 _, ⟨by show 0 ≤ v_ac V + 1; omega, by show v_ac V + 1 ≤ 60; omega⟩, g3, g4, fun f hf => ?_, okF_pushB g6, by show nBo (v_fr V) + 1 ≤ v_ac V + 1; omega, ?_⟩
    · rcases List.mem_cons.mp hf with rfl | hf
      · exact ⟨w0, ⟨Int.le_refl _, hnb.1⟩, i1, i2⟩
      · exact g5 f hf
    · by_cases hr : rmNone (Rs w) = true
      · show gHi Rs made (if rmNone (Rs w) = true then v_hi V ++ [(w, one, mx0 two)] else v_hi V)
        rw [if_pos hr]
        refine ⟨?_, fun e he => ?_⟩
        · rw [List.nodup_append]
          refine ⟨g8.1, by simp, fun a ha b hb => ?_⟩
          rw [List.mem_singleton] at hb
          subst hb
          intro e
          subst e
          exact hn ha
        · rcases List.mem_append.mp he with he | he
          · exact g8.2 e he
          · rw [List.mem_singleton] at he
            subst he
            refine ⟨w0, ⟨o0.1, by have := o0.2; show one < 100; omega⟩, ?_, hr⟩
            show 0 ≤ mx0 two ∧ mx0 two < 100
            unfold mx0
            split <;> omega
      · show gHi Rs made (if rmNone (Rs w) = true then v_hi V ++ [(w, one, mx0 two)] else v_hi V)
        rw [if_neg hr]
        exact g8
  · exact ⟨g1, g2, g3, g4, g5, g6, g7, g8⟩
theorem muV_fire {w one two : Int} {bd : Int → Int} (hf : v_fl V = false) (h60 : v_ac V ≤ 60) : muV (fireV V Rs w one two bd) < muV V := by
  unfold fireV
  split
  · show 1000 * (60 - (v_ac V + 1)) + (wFrs (v_fr V) + (1 + 202 * (2 - 0))) + (if v_fl V = true then 0 else 1) < 1000 * (60 - v_ac V) + wFrs (v_fr V) + (if v_fl V = true then 0 else 1)
    omega
  · show 1000 * (60 - v_ac V) + wFrs (v_fr V) + (if true = true then 0 else 1) < 1000 * (60 - v_ac V) + wFrs (v_fr V) + (if v_fl V = true then 0 else 1)
    rw [hf, if_pos rfl, if_neg (by decide)]
    omega
theorem adv_good (hG : GV Rs made V) (hf : v_fl V = false) (hn : ¬ v_fr V = []) : GV Rs made (adv V Rs made) ∧ muV (adv V Rs made) < muV V := by
  have hG' := hG
  obtain ⟨g1, g2, g3, g4, g5, g6, g7, g8⟩ := hG
  obtain ⟨S, fr, hi, fi, ac, fl⟩ := V
  dsimp only [v_S, v_fr, v_hi, v_fi, v_ac, v_fl] at g1 g2 g5 g6 g7 g8 hf hn
  have g12 := g1.1
  cases fr with
  | nil => exact absurd rfl hn
  | cons f rest =>
    have gf := g5 f List.mem_cons_self
    have gr : ∀ f ∈ rest, gFrm S Rs made f := fun x hx => g5 x (List.mem_cons_of_mem _ hx)
    have go := g6.1
    have pop : nBo rest ≤ ac → GV Rs made (v_setfr (S, f :: rest, hi, fi, ac, fl) rest) := fun h => GV_setfr hG' gr go h
    rcases f with ⟨t, p⟩ | ⟨a, m⟩ | ⟨w, k, bd, sl, la⟩
    · show GV Rs made (advA (S, Sum.inl (t, p) :: rest, hi, fi, ac, fl) Rs made t p rest) ∧ _
      obtain ⟨⟨t0, t1⟩, p0, p1⟩ := gf
      have hnb : nBo rest ≤ ac := g7
      show GV Rs made (advA (S, Sum.inl (t, p) :: rest, hi, fi, ac, fl) Rs made t p rest) ∧ muV (advA (S, Sum.inl (t, p) :: rest, hi, fi, ac, fl) Rs made t p rest) < _
      unfold advA
      have hpopmu : muV (v_setfr (S, Sum.inl (t, p) :: rest, hi, fi, ac, fl) rest) < muV (S, Sum.inl (t, p) :: rest, hi, fi, ac, fl) := by
        show 1000 * (60 - ac) + wFrs rest + (if fl = true then 0 else 1) < 1000 * (60 - ac) + (wFrs rest + 1) + (if fl = true then 0 else 1)
        omega
      split
      · exact ⟨pop hnb, hpopmu⟩
      · rename_i hne
        have hs := fnd_spec (P := fun z => (canF S Rs hi t z).isSome) (aEnd S made t - p).toNat p
        have hs2 : p ≤ aNext (S, Sum.inl (t, p) :: rest, hi, fi, ac, fl) Rs made t p ∧ aNext (S, Sum.inl (t, p) :: rest, hi, fi, ac, fl) Rs made t p < p + ((aEnd S made t - p).toNat : Int) := by
          rcases hs with ⟨h, -⟩ | ⟨h1, h2, -⟩
          · exact absurd h hne
          · exact ⟨h1, h2⟩
        generalize aNext (S, Sum.inl (t, p) :: rest, hi, fi, ac, fl) Rs made t p = z at hne hs2 ⊢
        have hend : aEnd S made t ≤ made * 200 := by unfold aEnd; split <;> omega
        have z1 : z < made * 200 := by omega
        have z0 : 0 ≤ z := by omega
        have w0 : 0 ≤ z / 200 ∧ z / 200 < made := by omega
        have hgr := g4 _ w0.1 w0.2
        cases hc : canF S Rs hi t z with
        | none =>
          refine ⟨?_, ?_⟩
          · exact pop hnb
          · exact hpopmu
        | some bd =>
          obtain ⟨c1, c2, c3, c4, c5, c6⟩ := canF_spec hc
          obtain ⟨q1, q2⟩ := cOne_rng (S := S) (h := z / 100 % 2) (t := t) (o := z % 100) hgr.1 (by omega) c1 ⟨t0, t1⟩ (by omega) c3
          have hG2 : GV Rs made (v_setfr (S, Sum.inl (t, p) :: rest, hi, fi, ac, fl) (.inl (t, z + 1) :: rest)) := by
            refine GV_setfr hG' (fun f hf => ?_) ⟨go, g6.2⟩ g7
            rcases List.mem_cons.mp hf with rfl | hf
            · exact ⟨⟨t0, t1⟩, by omega, by omega⟩
            · exact gr f hf
          have hmu : muV (v_setfr (S, Sum.inl (t, p) :: rest, hi, fi, ac, fl) (.inl (t, z + 1) :: rest)) = muV (S, Sum.inl (t, p) :: rest, hi, fi, ac, fl) := rfl
          refine ⟨GV_fire hG2 w0 q1 q2 ?_ c5 c6, ?_⟩
          · unfold cTwo
            split
            · split <;> omega
            · omega
          · rw [← hmu]
            exact muV_fire hf g2.2
    · show GV Rs made (advW (S, Sum.inr (Sum.inl (a, m)) :: rest, hi, fi, ac, fl) a m rest) ∧ muV (advW (S, Sum.inr (Sum.inl (a, m)) :: rest, hi, fi, ac, fl) a m rest) < _
      have hnb : nBo rest ≤ ac := g7
      have ga : 0 ≤ a ∧ a ≤ 100 := gf
      unfold advW
      split
      · refine ⟨pop hnb, ?_⟩
        show 1000 * (60 - ac) + wFrs rest + (if fl = true then 0 else 1) < 1000 * (60 - ac) + (wFrs rest + (1 + 2 * (100 - a))) + (if fl = true then 0 else 1)
        omega
      · rename_i hne
        have hs := fnd_spec (P := fun z => m z.toNat && s_sd S z) (s_nt S - a).toNat a
        have hs2 : a ≤ wNext S a m ∧ wNext S a m < a + ((s_nt S - a).toNat : Int) := by
          rcases hs with ⟨h, -⟩ | ⟨h1, h2, -⟩
          · exact absurd h hne
          · exact ⟨h1, h2⟩
        have hne' : ¬ wNext S a m = -1 := hne
        show GV Rs made (v_setfr (S, Sum.inr (Sum.inl (a, m)) :: rest, hi, fi, ac, fl) (.inl (wNext S a m, 0) :: .inr (.inl (wNext S a m + 1, m)) :: rest)) ∧ muV (v_setfr (S, Sum.inr (Sum.inl (a, m)) :: rest, hi, fi, ac, fl) (.inl (wNext S a m, 0) :: .inr (.inl (wNext S a m + 1, m)) :: rest)) < _
        generalize wNext S a m = z at hs2 ⊢
        have hokw : okF (.inr (.inl (z + 1, m)) :: rest) := ⟨go, g6.2⟩
        refine ⟨GV_setfr hG' (fun f hf => ?_) (okF_pushA hokw trivial) hnb, ?_⟩
        · rcases List.mem_cons.mp hf with rfl | hf
          · exact ⟨⟨by omega, by show z < s_nt S; omega⟩, by omega, by omega⟩
          · rcases List.mem_cons.mp hf with rfl | hf
            · show 0 ≤ z + 1 ∧ z + 1 ≤ 100
              omega
            · exact gr f hf
        · show 1000 * (60 - ac) + (wFrs rest + (1 + 2 * (100 - (z + 1))) + 1) + (if fl = true then 0 else 1) < 1000 * (60 - ac) + (wFrs rest + (1 + 2 * (100 - a))) + (if fl = true then 0 else 1)
          omega
    · show GV Rs made (advB (S, Sum.inr (Sum.inr (w, k, bd, sl, la)) :: rest, hi, fi, ac, fl) Rs w k bd sl la rest) ∧ muV (advB (S, Sum.inr (Sum.inr (w, k, bd, sl, la)) :: rest, hi, fi, ac, fl) Rs w k bd sl la rest) < _
      have hnb : nBo rest + 1 ≤ ac := g7
      obtain ⟨w0, k0, b0, b1⟩ := gf
      have hgr := g4 w w0.1 w0.2
      obtain ⟨r1, r2, r3, r4, r5, r6, r7⟩ := hgr
      unfold advB
      split
      · refine ⟨pop (by omega), ?_⟩
        show 1000 * (60 - ac) + wFrs rest + (if fl = true then 0 else 1) < 1000 * (60 - ac) + (wFrs rest + (1 + 202 * (2 - k))) + (if fl = true then 0 else 1)
        omega
      · rename_i hk
        have hG2 : GV Rs made (v_setfr (S, Sum.inr (Sum.inr (w, k, bd, sl, la)) :: rest, hi, fi, ac, fl) (.inr (.inr (w, k + 1, bd, sl, la)) :: rest)) := by
          refine GV_setfr hG' (fun f hf => ?_) ⟨go, g6.2⟩ g7
          rcases List.mem_cons.mp hf with rfl | hf
          · exact ⟨w0, ⟨by omega, by omega⟩, b0, b1⟩
          · exact gr f hf
        have tb : ∀ z, 0 ≤ z → z < 2 * l_nb (Rs w) → tm (s_nv S) (resB bd (l_bt (Rs w) z)) := by
          intro z z0 z1
          unfold resB
          rcases r6 z z0 z1 with h | h
          · unfold valu at h
            rw [if_neg (by omega)]
            exact Or.inl h
          · have hs := h.1
            unfold slot at hs
            rw [if_pos hs]
            exact b1 _ h
        have t1 := tb (2 * k) (by omega) (by omega)
        have t2 := tb (2 * k + 1) (by omega) (by omega)
        have hs5 := r5 k k0.1 (by omega)
        split
        · rename_i hb
          refine ⟨GV_tellEq hG2 trivial t1 t2, ?_⟩
          unfold tellEq
          have hfl : ∀ b : Bool, (if (fl || b) = true then (0 : Int) else 1) ≤ (if fl = true then 0 else 1) := fun b => by cases fl <;> cases b <;> decide
          split
          · show 1000 * (60 - ac) + (wFrs rest + (1 + 202 * (2 - (k + 1)))) + (if (fl || (uni S (resB bd (l_bt (Rs w) (2 * k))) (resB bd (l_bt (Rs w) (2 * k + 1)))).2.1) = true then 0 else 1) < 1000 * (60 - ac) + (wFrs rest + (1 + 202 * (2 - k))) + (if fl = true then 0 else 1)
            have := hfl (uni S (resB bd (l_bt (Rs w) (2 * k))) (resB bd (l_bt (Rs w) (2 * k + 1)))).2.1
            omega
          · show 1000 * (60 - ac) + (wFrs rest + (1 + 202 * (2 - (k + 1))) + (1 + 2 * (100 - 0))) + (if (fl || (uni S (resB bd (l_bt (Rs w) (2 * k))) (resB bd (l_bt (Rs w) (2 * k + 1)))).2.1) = true then 0 else 1) < 1000 * (60 - ac) + (wFrs rest + (1 + 202 * (2 - k))) + (if fl = true then 0 else 1)
            have := hfl (uni S (resB bd (l_bt (Rs w) (2 * k))) (resB bd (l_bt (Rs w) (2 * k + 1)))).2.1
            omega
        · rename_i hb
          have hb' : ¬ l_bs (Rs w) k = -1 := hb
          refine ⟨GV_tellTok hG2 trivial ⟨by omega, hs5.2⟩ t1 t2, ?_⟩
          unfold tellTok
          split
          · show 1000 * (60 - ac) + (wFrs rest + (1 + 202 * (2 - (k + 1)))) + (if true = true then 0 else 1) < 1000 * (60 - ac) + (wFrs rest + (1 + 202 * (2 - k))) + (if fl = true then 0 else 1)
            rw [if_pos rfl]
            split <;> omega
          · show 1000 * (60 - ac) + (wFrs rest + (1 + 202 * (2 - (k + 1))) + 1) + (if fl = true then 0 else 1) < 1000 * (60 - ac) + (wFrs rest + (1 + 202 * (2 - k))) + (if fl = true then 0 else 1)
            omega
end
