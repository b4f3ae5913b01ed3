/-! THE WORLD in the class: daring, giving up -/
section
variable {σ : St} {δ : Dy} {wp nd ro base : Nat} {E : Ev} {made : Int} {W : Wo} {S : Sto} {ac : Int} {fl : Bool} {a : Ag} {l : Lv} {ls : List Lv}
theorem rA_lv (hK : KWo σ wp nd ro) {j : Nat} (hj : j < 4) : rA σ 103 (wp + 15) (ii j) = some (wp + 390 + 24 * j) := by
  obtain ⟨-, -, -, -, -, -, -, -, -, -, ⟨y1, y2, y3⟩, -, kL⟩ := hK
  unfold rA
  rw [y2, if_pos ⟨y1, ii_inb (by omega) (by omega) (by decide)⟩, ii_nat (by omega) (by omega)]
  exact (kL j hj).1
theorem RLany_of {d : Dy} {lv : Nat} (h1 : RLv1 d lv l) (h : ∃ o, RQ d (lv + 17) 1 o) : RLany d lv := ⟨⟨_, h1.1⟩, ⟨_, h1.2.1⟩, ⟨_, h1.2.2.1⟩, ⟨_, h1.2.2.2⟩, h⟩
theorem t_dare (hK : KWo σ wp nd ro) (hG : GS (v_S (w_V W))) (hR : RWo δ wp base made W) (hl : w_lv W = l :: ls) (h4 : ls.length < 4) (hv : (v_fr (w_V W)).length ≤ 183) (hH : RA δ (wp + 16) a) (hq : (l_q l).length < 120) (hb : base ≤ (v_hi (w_V W)).length) {one other : Int} : Ok (m_X10_dare σ wp (wp + 390 + 24 * ls.length) (ii one) (ii other) δ) (fun d => RWo d wp base made (if 3 ≤ ls.length then w_setlv W (qAdd l (other, a.2) :: ls) else w_setlv W (daredL (w_V W) one other a :: l :: ls)) ∧ Fr (PWo wp) δ d) := by
  have hK' := hK
  have hrl := fun {j : Nat} (hj : j < 4) => rA_lv hK hj
  obtain ⟨⟨l1, l2⟩, k0, ⟨k1, k2, k3, k4, k5, k6, k7, k8⟩, -, -, kS, kW, -, -, -, -, kA, kL⟩ := hK
  have h8 := hR.2.2.2.2.2.1
  rw [hl] at h8
  have h8' : δ.1 wp 8 = ii (ls.length : Int) := by rw [h8]; exact congrArg ii (by show ((ls.length : Int) + 1) - 1 = _; omega)
  unfold m_X10_dare
  by_cases c : 3 ≤ ls.length
  · rw [if_pos c]
    obtain ⟨⟨q0, ⟨q1, q2, q3, q4, q5, -⟩, -⟩, kq1, kq2, -⟩ := (kL ls.length h4).2
    obtain ⟨D, eD, b1, b2, b3⟩ := t_addQ hK' hR hl h4 hv hH hq (n := other)
    refine ⟨D, ?_, b1, PWo_blk (by omega) (by omega) (by omega) b3⟩
    simp (disch := omega) only [gI_ko k0, h8', ob_some, ii_lit, ii_lt, if_neg, gR_ko q0 q1, gR_ko k0 k8, chk_ko kq1.1, eD]
  · rw [if_neg c]
    have hj : ls.length + 1 < 4 := by omega
    have kv := (kL (ls.length + 1) hj).2
    have erA := hrl hj
    generalize hlv : wp + 390 + 24 * (ls.length + 1) = lv at kv erA
    have kv' := kv
    obtain ⟨⟨q0, ⟨q1, q2, q3, q4, q5, q6, q7, q8⟩, qa, qb, qc⟩, kq1, kq2, kq3, kq4, kq5⟩ := kv
    -- the depth
    have F1 : Fr (fun r => r = wp) δ (u2 δ.1 wp 8 (ii ((ls.length : Int) + 1)), δ.2) := Fr_u2 rfl
    have g8 : (u2 δ.1 wp 8 (ii ((ls.length : Int) + 1)), δ.2).1 wp 8 = ii ((ls.length : Int) + 1) := by simp only [u2, and_self, ↓reduceIte]
    have g9 : (u2 δ.1 wp 8 (ii ((ls.length : Int) + 1)), δ.2).1 wp 9 = δ.1 wp 9 := by simp (disch := omega) only [u2, if_neg]
    have g11 : (u2 δ.1 wp 8 (ii ((ls.length : Int) + 1)), δ.2).1 wp 11 = δ.1 wp 11 ∧ (u2 δ.1 wp 8 (ii ((ls.length : Int) + 1)), δ.2).1 wp 10 = δ.1 wp 10 := ⟨by simp (disch := omega) only [u2, if_neg], by simp (disch := omega) only [u2, if_neg]⟩
    have e1 : pI σ δ 10 wp 8 (ii ((ls.length : Int) + 1)) = some (u2 δ.1 wp 8 (ii ((ls.length : Int) + 1)), δ.2) := pI_ko k0
    generalize (u2 δ.1 wp 8 (ii ((ls.length : Int) + 1)), δ.2) = d1 at F1 e1 g8 g9 g11
    -- it opens
    have hany := hR.2.2.2.2.1 (ls.length + 1) hj
    rw [hlv] at hany
    obtain ⟨d2, e2, ⟨s1, s2, s3, s4⟩, ⟨o5, s5⟩, F2⟩ := t_open kv' (RLany_of_Fr hany F1 (fun r _ _ => by omega))
    have F12 : Fr (fun r => r = wp ∨ lv + 1 ≤ r ∧ r < lv + 14) δ d2 := (F1.wk (fun r p => by omega)).tr (F2.wk (fun r p => by omega))
    -- it saves
    have hS2 : RS d2 (wp + 1) (v_S (w_V W)) (v_ac (w_V W)) (v_fl (w_V W)) := RS_of_Fr hR.1.1 F12 (fun r _ _ => by omega)
    obtain ⟨d3, e3, s6, F3⟩ := t_save kS ⟨q0, ⟨q1, q2, q3, q4, q5, q6, q7, q8⟩, qa, qb, qc⟩ hS2 hG (by omega)
    have F13 : Fr (fun r => r = wp ∨ (lv ≤ r ∧ r < lv + 14) ∨ (lv + 21 ≤ r ∧ r < lv + 24)) δ d3 := (F12.wk (fun r p => by omega)).tr (F3.wk (fun r p => by omega))
    have h7 : d3.1 (wp + 18) 7 = ii (((v_hi (w_V W)).length : Int) - base) := by rw [(F13 (wp + 18) (by omega)).1]; exact hR.1.2.2.2.2.1.2.2
    -- how long the history was
    have F4 : Fr (fun r => r = lv) d3 (u2 d3.1 lv 10 (ii (((v_hi (w_V W)).length : Int) - base)), d3.2) := Fr_u2 rfl
    have e4 : pI σ d3 4 lv 10 (ii (((v_hi (w_V W)).length : Int) - base)) = some (u2 d3.1 lv 10 (ii (((v_hi (w_V W)).length : Int) - base)), d3.2) := pI_ko q0
    have s10 : (u2 d3.1 lv 10 (ii (((v_hi (w_V W)).length : Int) - base)), d3.2).1 lv 10 = ii (((v_hi (w_V W)).length : Int) - base) := by simp only [u2, and_self, ↓reduceIte]
    have s6' : RV (u2 d3.1 lv 10 (ii (((v_hi (w_V W)).length : Int) - base)), d3.2) lv (savS (v_S (w_V W))) := by
      obtain ⟨p1, p2, p3, p4, p5⟩ := s6
      refine ⟨?_, ?_, ?_, ?_, ?_⟩
      · simp (disch := omega) only [u2, if_neg]
        exact p1
      · simp (disch := omega) only [u2, if_neg]
        exact p2
      · rw [(F4 _ (by omega)).1]; exact p3
      · rw [(F4 _ (by omega)).1]; exact p4
      · rw [(F4 _ (by omega)).1]; exact p5
    generalize (u2 d3.1 lv 10 (ii (((v_hi (w_V W)).length : Int) - base)), d3.2) = d4 at F4 e4 s10 s6'
    -- the other one
    have s5' : RQ d4 (lv + 17) 1 o5 := RQ_of_Fr (RQ_of_Fr s5 F3 (fun r _ _ => by omega)) F4 (fun r _ _ => by omega)
    have F5 : Fr (fun r => r = lv + 17) d4 (u2 d4.1 (lv + 17) 4 (ii 0), d4.2) := Fr_u2 rfl
    obtain ⟨e5, s7, -⟩ := t_qclr kq5 s5'
    generalize (u2 d4.1 (lv + 17) 4 (ii 0), d4.2) = d5 at F5 e5 s7
    have F15 : Fr (fun r => r = wp ∨ (lv ≤ r ∧ r < lv + 24)) δ d5 := (F13.wk (fun r p => by omega)).tr ((F4.wk (fun r p => by omega)).tr (F5.wk (fun r p => by omega)))
    have hH5 : RA d5 (wp + 16) a := RA_of_Fr hH F15 (by omega) (by omega)
    obtain ⟨d6, e6, s8, F6⟩ := t_qadd kq5 kA (by omega) s7 hH5 (by decide) (n := other)
    have hb6 : ∀ r, blk (lv + 17) 4 r → lv + 17 ≤ r ∧ r < lv + 21 := fun r p => by unfold blk at p; omega
    have hH6 : RA d6 (wp + 16) a := RA_of_Fr hH5 F6 (fun p => by have := hb6 _ p; omega) (fun p => by have := hb6 _ p; omega)
    have F36 : Fr (fun r => r = lv ∨ (lv + 17 ≤ r ∧ r < lv + 24)) d2 d6 := (F3.wk (fun r p => by omega)).tr ((F4.wk (fun r p => by omega)).tr ((F5.wk (fun r p => by omega)).tr (F6.wk (fun r p => by have := hb6 r p; omega))))
    obtain ⟨d7, e7, s9, F7⟩ := t_qadd kq1 kA (by omega) (RQ_of_Fr s1 F36 (fun r _ _ => by omega)) hH6 (by decide) (n := one)
    have hb7 : ∀ r, blk (lv + 1) 4 r → lv + 1 ≤ r ∧ r < lv + 5 := fun r p => by unfold blk at p; omega
    have F17 : Fr (fun r => r = wp ∨ (lv ≤ r ∧ r < lv + 24)) δ d7 := F15.tr ((F6.wk (fun r p => by have := hb6 r p; omega)).tr (F7.wk (fun r p => by have := hb7 r p; omega)))
    have F47 : Fr (fun r => lv + 1 ≤ r ∧ r < lv + 21) d4 d7 := (F5.wk (fun r p => by omega)).tr ((F6.wk (fun r p => by have := hb6 r p; omega)).tr (F7.wk (fun r p => by have := hb7 r p; omega)))
    have F37 : Fr (fun r => r = lv ∨ (lv + 1 ≤ r ∧ r < lv + 5) ∨ (lv + 17 ≤ r ∧ r < lv + 24)) d2 d7 := (F36.wk (fun r p => by omega)).tr (F7.wk (fun r p => by have := hb7 r p; omega))
    have F27 : Fr (fun r => lv ≤ r ∧ r < lv + 24) d1 d7 := (F2.wk (fun r p => by omega)).tr (F37.wk (fun r p => by omega))
    have hlv1 : RLv1 d7 lv (daredL (w_V W) one other a) := ⟨s9, RQ_of_Fr s2 F37 (fun r _ _ => by omega), RQ_of_Fr s3 F37 (fun r _ _ => by omega), RQ_of_Fr s4 F37 (fun r _ _ => by omega)⟩
    have s8' : RQ d7 (lv + 17) 1 [(other, a.2)] := RQ_of_Fr s8 F7 (fun r _ _ p => by have := hb7 r p; omega)
    have hin : RLin d7 lv base (daredL (w_V W) one other a) := ⟨RV_of_Fr s6' F47 (by omega) (by omega) (by omega) (by omega), by rw [(F47 lv (by omega)).1]; exact s10, s8'⟩
    have hRL := hR.2.2.2.1
    rw [hl] at hRL
    refine ⟨d7, ?_, RWo_lvs hR hv F17 (fun r p => by omega) (by rw [(F27 wp (by omega)).1]; exact g9) (by rw [(F27 wp (by omega)).1]; exact g11) ?_ ⟨by rw [show (l :: ls).length = ls.length + 1 from rfl, hlv]; exact hlv1, Or.inr (by rw [show (l :: ls).length = ls.length + 1 from rfl, hlv]; exact hin), RLs_of_Fr F17 hRL (fun r p1 p2 => by rw [show (l :: ls).length = ls.length + 1 from rfl] at p2; omega)⟩ (fun j hj2 => ?_), ?_⟩
    · have g8' : d2.1 wp 8 = ii ((ls.length : Int) + 1) := by rw [(F2 wp (by omega)).1]; exact g8
      have g8a : d1.1 wp 8 = ii ((ls.length : Int) + 1) := g8
      have erA' : rA σ 103 (wp + 15) (ii ((ls.length : Int) + 1)) = some lv := erA
      simp (disch := omega) only [gI_ko k0, h8', ob_some, ii_lit, ii_lt, if_pos, ii_add, e1, g8a, gR_ko k0 k7, erA', chk_ko q0, e2, gR_ko k0 k2, chk_ko kS.1, e3, gR_ko k0 k3, gI_ko kW.1, h7, e4, gR_ko q0 q5, e5, gR_ko k0 k8, chk_ko kq5.1, e6, gR_ko q0 q1, chk_ko kq1.1, e7]
    · rw [(F27 wp (by omega)).1, g8]
      exact congrArg ii (by show (ls.length : Int) + 1 = ((ls.length : Int) + 1 + 1) - 1; omega)
    · by_cases hj3 : j = ls.length + 1
      · rw [hj3, hlv]
        exact RLany_of hlv1 ⟨_, s8'⟩
      · exact RLany_of_Fr (hR.2.2.2.2.1 j hj2) F17 (fun r _ _ => by omega)
    · exact F17.wk (fun r p => by unfold PWo; omega)
end
