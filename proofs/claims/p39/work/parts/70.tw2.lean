/-! THE WORLD in the class: lists of the level at hand -/
section
variable {σ : St} {δ : Dy} {wp nd ro base : Nat} {E : Ev} {made : Int} {W : Wo} {S : Sto} {ac : Int} {fl : Bool} {a : Ag} {l : Lv} {ls : List Lv}
/-- the level at hand changes -/
theorem RWo_top {d : Dy} {l' : Lv} {P : Nat → Prop} (hR : RWo δ wp base made W) (hl : w_lv W = l :: ls) (h4 : ls.length < 4) (hv : (v_fr (w_V W)).length ≤ 183) (hF : Fr P δ d) (hP : ∀ r, P r → (wp + 390 + 24 * ls.length ≤ r ∧ r < wp + 390 + 24 * ls.length + 24) ∨ r = wp + 16 ∨ r = wp + 17) (h1 : RLv1 d (wp + 390 + 24 * ls.length) l') (h2 : ls.length = 0 ∨ RLin d (wp + 390 + 24 * ls.length) base l') (h3 : RLany d (wp + 390 + 24 * ls.length)) : RWo d wp base made (w_setlv W (l' :: ls)) := by
  obtain ⟨r1, ⟨r2, r3⟩, r4, r5, r6, r7, r8, r9⟩ := hR
  rw [hl] at r5 r7
  have h := fun r (hr : ¬ ((wp + 390 + 24 * ls.length ≤ r ∧ r < wp + 390 + 24 * ls.length + 24) ∨ r = wp + 16 ∨ r = wp + 17)) => hF r (fun p => hr (hP r p))
  refine ⟨RVv_cg r1 hv (fun r hr hr2 => h r (by omega)) (by omega), ⟨?_, ?_⟩, ?_, ⟨h1, h2, RLs_of_Fr hF r5.2.2 (fun r a b p => by have := hP r p; omega)⟩, fun j hj => ?_, ?_, ?_, ?_⟩
  · rw [(h _ (by omega)).1]; exact r2
  · unfold RPw; rw [(h (wp + 12) (by omega)).1]; exact r3
  · unfold RTk; rw [(h (wp + 14) (by omega)).1]; exact r4
  · by_cases hj2 : j = ls.length
    · rw [hj2]; exact h3
    · exact RLany_of_Fr (r6 j hj) hF (fun r a b p => by have := hP r p; omega)
  · rw [(h wp (by omega)).1]; exact r7
  · rw [(h wp (by omega)).1]; exact r8
  · rw [(h wp (by omega)).1]; exact r9
theorem RLany_q {d : Dy} {lv : Nat} {P : Nat → Prop} (h : RLany δ lv) (h1 : RLv1 d lv l) (hF : Fr P δ d) (hP : ∀ r, lv + 17 ≤ r → r < lv + 21 → ¬ P r) : RLany d lv := by
  obtain ⟨-, -, -, -, e, he⟩ := h
  exact ⟨⟨_, h1.1⟩, ⟨_, h1.2.1⟩, ⟨_, h1.2.2.1⟩, ⟨_, h1.2.2.2⟩, ⟨e, RQ_of_Fr he hF (fun r a b => hP r (by omega) (by omega))⟩⟩
theorem t_addQ (hK : KWo σ wp nd ro) (hR : RWo δ wp base made W) (hl : w_lv W = l :: ls) (h4 : ls.length < 4) (hv : (v_fr (w_V W)).length ≤ 183) (hH : RA δ (wp + 16) a) (hr : (l_q l).length < 120) {n : Int} : Ok (m_X1_add σ (wp + 390 + 24 * ls.length + 1) (ii n) (wp + 16) δ) (fun d => RWo d wp base made (w_setlv W (qAdd l (n, a.2) :: ls)) ∧ RA d (wp + 16) a ∧ Fr (blk (wp + 390 + 24 * ls.length + 1) 4) δ d) := by
  obtain ⟨-, -, -, -, -, -, -, -, -, -, -, kA, kL⟩ := hK
  obtain ⟨-, kq1, kq2, kq3, kq4, kq5⟩ := (kL ls.length h4).2
  have hRl := hR.2.2.2.1
  rw [hl] at hRl
  obtain ⟨⟨c1, c2, c3, c4⟩, hin, -⟩ := hRl
  obtain ⟨d, e, b1, b2⟩ := t_qadd kq1 kA (by omega) c1 hH hr (n := n)
  have hb : ∀ r, blk (wp + 390 + 24 * ls.length + 1) 4 r → wp + 390 + 24 * ls.length + 1 ≤ r ∧ r < wp + 390 + 24 * ls.length + 5 := fun r h => h
  have h1 : RLv1 d (wp + 390 + 24 * ls.length) (qAdd l (n, a.2)) := ⟨b1, RQ_of_Fr c2 b2 (fun r a b p => by have := hb r p; omega), RQ_of_Fr c3 b2 (fun r a b p => by have := hb r p; omega), RQ_of_Fr c4 b2 (fun r a b p => by have := hb r p; omega)⟩
  refine ⟨d, e, RWo_top hR hl h4 hv b2 (fun r p => by have := hb r p; omega) h1 ?_ ?_, ?_, b2⟩
  · exact hin.imp id (fun k => RLin_of_Fr (l := l) k b2 (fun p => by have := hb _ p; omega) (fun r a b p => by have := hb r p; omega))
  · exact RLany_q (hR.2.2.2.2.1 _ h4) h1 b2 (fun r a b p => by have := hb r p; omega)
  · exact RA_of_Fr hH b2 (fun p => by have := hb _ p; omega) (fun p => by have := hb _ p; omega)
theorem t_addW (hK : KWo σ wp nd ro) (hR : RWo δ wp base made W) (hl : w_lv W = l :: ls) (h4 : ls.length < 4) (hv : (v_fr (w_V W)).length ≤ 183) (hH : RA δ (wp + 16) a) (hr : (l_w l).length < 60) {n : Int} : Ok (m_X1_add σ (wp + 390 + 24 * ls.length + 5) (ii n) (wp + 16) δ) (fun d => RWo d wp base made (w_setlv W (wAdd l (n, a.2) :: ls)) ∧ RA d (wp + 16) a ∧ Fr (blk (wp + 390 + 24 * ls.length + 5) 4) δ d) := by
  obtain ⟨-, -, -, -, -, -, -, -, -, -, -, kA, kL⟩ := hK
  obtain ⟨-, kq1, kq2, kq3, kq4, kq5⟩ := (kL ls.length h4).2
  have hRl := hR.2.2.2.1
  rw [hl] at hRl
  obtain ⟨⟨c1, c2, c3, c4⟩, hin, -⟩ := hRl
  obtain ⟨d, e, b1, b2⟩ := t_qadd kq2 kA (by omega) c2 hH hr (n := n)
  have hb : ∀ r, blk (wp + 390 + 24 * ls.length + 5) 4 r → wp + 390 + 24 * ls.length + 5 ≤ r ∧ r < wp + 390 + 24 * ls.length + 9 := fun r h => by unfold blk at h; omega
  have h1 : RLv1 d (wp + 390 + 24 * ls.length) (wAdd l (n, a.2)) := ⟨RQ_of_Fr c1 b2 (fun r a b p => by have := hb r p; omega), b1, RQ_of_Fr c3 b2 (fun r a b p => by have := hb r p; omega), RQ_of_Fr c4 b2 (fun r a b p => by have := hb r p; omega)⟩
  refine ⟨d, e, RWo_top hR hl h4 hv b2 (fun r p => by have := hb r p; omega) h1 ?_ ?_, ?_, b2⟩
  · exact hin.imp id (fun k => RLin_of_Fr (l := l) k b2 (fun p => by have := hb _ p; omega) (fun r a b p => by have := hb r p; omega))
  · exact RLany_q (hR.2.2.2.2.1 _ h4) h1 b2 (fun r a b p => by have := hb r p; omega)
  · exact RA_of_Fr hH b2 (fun p => by have := hb _ p; omega) (fun p => by have := hb _ p; omega)
theorem t_addN (hK : KWo σ wp nd ro) (hR : RWo δ wp base made W) (hl : w_lv W = l :: ls) (h4 : ls.length < 4) (hv : (v_fr (w_V W)).length ≤ 183) (hH : RA δ (wp + 16) a) (hr : (l_nx l).length < 60) {n : Int} : Ok (m_X1_add σ (wp + 390 + 24 * ls.length + 13) (ii n) (wp + 16) δ) (fun d => RWo d wp base made (w_setlv W (nAdd l (n, a.2) :: ls)) ∧ RA d (wp + 16) a ∧ Fr (blk (wp + 390 + 24 * ls.length + 13) 4) δ d) := by
  obtain ⟨-, -, -, -, -, -, -, -, -, -, -, kA, kL⟩ := hK
  obtain ⟨-, kq1, kq2, kq3, kq4, kq5⟩ := (kL ls.length h4).2
  have hRl := hR.2.2.2.1
  rw [hl] at hRl
  obtain ⟨⟨c1, c2, c3, c4⟩, hin, -⟩ := hRl
  obtain ⟨d, e, b1, b2⟩ := t_qadd kq4 kA (by omega) c4 hH hr (n := n)
  have hb : ∀ r, blk (wp + 390 + 24 * ls.length + 13) 4 r → wp + 390 + 24 * ls.length + 13 ≤ r ∧ r < wp + 390 + 24 * ls.length + 17 := fun r h => by unfold blk at h; omega
  have h1 : RLv1 d (wp + 390 + 24 * ls.length) (nAdd l (n, a.2)) := ⟨RQ_of_Fr c1 b2 (fun r a b p => by have := hb r p; omega), RQ_of_Fr c2 b2 (fun r a b p => by have := hb r p; omega), RQ_of_Fr c3 b2 (fun r a b p => by have := hb r p; omega), b1⟩
  refine ⟨d, e, RWo_top hR hl h4 hv b2 (fun r p => by have := hb r p; omega) h1 ?_ ?_, ?_, b2⟩
  · exact hin.imp id (fun k => RLin_of_Fr (l := l) k b2 (fun p => by have := hb _ p; omega) (fun r a b p => by have := hb r p; omega))
  · exact RLany_q (hR.2.2.2.2.1 _ h4) h1 b2 (fun r a b p => by have := hb r p; omega)
  · exact RA_of_Fr hH b2 (fun p => by have := hb _ p; omega) (fun p => by have := hb _ p; omega)
/-- the view alone changes -/
theorem RWo_V {d : Dy} {V' : Vw} {P : Nat → Prop} (hR : RWo δ wp base made W) (h4 : (w_lv W).length ≤ 4) (hF : Fr P δ d) (hP : ∀ r, P r → (wp + 1 ≤ r ∧ r < wp + 11) ∨ (wp + 16 ≤ r ∧ r < wp + 390)) (h1 : RVv d (wp + 18) (wp + 1) base made V') : RWo d wp base made (w_setV W V') := by
  obtain ⟨r1, ⟨r2, r3⟩, r4, r5, r6, r7, r8, r9⟩ := hR
  have h := fun r (hr : ¬ ((wp + 1 ≤ r ∧ r < wp + 11) ∨ (wp + 16 ≤ r ∧ r < wp + 390))) => hF r (fun p => hr (hP r p))
  refine ⟨h1, ⟨?_, ?_⟩, ?_, RLs_of_Fr hF r5 (fun r a b p => by have := hP r p; omega), fun j hj => RLany_of_Fr (r6 j hj) hF (fun r a b p => by have := hP r p; omega), ?_, ?_, ?_⟩
  · rw [(h _ (by omega)).1]; exact r2
  · unfold RPw; rw [(h (wp + 12) (by omega)).1]; exact r3
  · unfold RTk; rw [(h (wp + 14) (by omega)).1]; exact r4
  · rw [(h wp (by omega)).1]; exact r7
  · rw [(h wp (by omega)).1]; exact r8
  · rw [(h wp (by omega)).1]; exact r9
/-- the store alone changes -/
theorem RVv_st {d : Dy} {rw s0 : Nat} {V : Vw} {S' : Sto} {fl' : Bool} {ac' : Int} (hR : RVv δ rw s0 base made V) (hd : s0 + 10 ≤ rw) (hF : Fr (blk s0 10) δ d) (h1 : RS d s0 S' ac' fl') (hac : v_ac V ≤ ac') : RVv d rw s0 base made (S', v_fr V, v_hi V, v_fi V, ac', fl') := by
  have hq : ∀ r, rw ≤ r → d.1 r = δ.1 r ∧ d.2 r = δ.2 r := fun r hr => hF r (by unfold blk; omega)
  exact ⟨h1, RWr_wk hR.2 hac (by rw [(hq rw (by omega)).1]; exact hR.2.1) (RFr_eq hR.2.2.1 (fun r a b => hq r (by omega))) (by rw [(hq rw (by omega)).1]) (by rw [(hq rw (by omega)).1]) (hq _ (by omega)).2 (hq _ (by omega)).1 (hq _ (by omega)).1⟩
end
