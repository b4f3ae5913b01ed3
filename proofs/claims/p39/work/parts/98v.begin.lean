section
variable {σ : St} {δ d : Dy} {mo p3 k wp h : Nat} {E : Ev} {bd : Bool} {R : Rl} {I : Iw} {jr : List Jn} {z a b n md st : Int} {nd ro : Nat}
theorem RA_any : ∃ a : Ag, RA δ h a := ⟨((δ.1 h 1).toInt, fun z => (δ.1 (h + 1) z.toNat).toInt, fun k => if k < 64 then (δ.2 h 2).toBitVec.getLsbD k else (δ.2 h 3).toBitVec.getLsbD (k - 64)), (Int32.ofInt_toInt _).symm, fun z _ _ => (Int32.ofInt_toInt _).symm, fun t ht => by
  dsimp only
  rw [if_pos ht, if_neg (by omega), show 64 + t - 64 = t by omega]
  exact ⟨rfl, rfl⟩⟩
theorem t_forNext (hK : KWo σ wp nd ro) (h : RId δ wp md I) : m_X10_forNext σ wp δ = some (ii (i_nx I).length) := by
  have hrl := rA_lv hK (j := 0) (by omega)
  obtain ⟨-, k0, ⟨k1, k2, k3, k4, k5, k6, k7, k8⟩, -, -, -, -, -, -, -, -, -, kL⟩ := hK
  obtain ⟨⟨p0, ⟨p1, p2, p3, p4, -⟩, -⟩, -, -, -, pq4, -⟩ := (kL 0 (by omega)).2
  rw [show wp + 390 + 24 * 0 = wp + 390 by omega] at *
  have hrl' : rA σ 103 (wp + 15) (0 : Int32) = some (wp + 390) := hrl
  have r7 := h.2.2.2.2.2.2.1.2.1
  unfold m_X10_forNext
  rw [gR_ko k0 k7, ob_some, hrl', ob_some, gR_ko p0 p4, ob_some, gI_ko pq4.1, ob_some, show wp + 390 + 13 = wp + 403 by omega, r7]
theorem t_admit (hK : KWo σ wp nd ro) (h : RId δ wp md I) (hl : (i_nx I).length < 60) : Ok (m_X10_admit σ wp (ii n) (ii a) (ii b) δ) (fun d => RId d wp md (admI I n a b) ∧ Fr (fun r => (wp + 16 ≤ r ∧ r < wp + 18) ∨ (wp + 403 ≤ r ∧ r < wp + 407)) δ d) := by
  have hrl := rA_lv hK (j := 0) (by omega)
  obtain ⟨-, k0, ⟨k1, k2, k3, k4, k5, k6, k7, k8⟩, -, -, -, -, -, -, -, -, kA, kL⟩ := hK
  obtain ⟨⟨p0, ⟨p1, p2, p3, p4, -⟩, -⟩, -, -, -, pq4, -⟩ := (kL 0 (by omega)).2
  rw [show wp + 390 + 24 * 0 = wp + 390 by omega] at *
  rw [show wp + 390 + 13 = wp + 403 by omega] at *
  have hrl' : rA σ 103 (wp + 15) (0 : Int32) = some (wp + 390) := hrl
  obtain ⟨r1, r2, r3, r4, ⟨r5, r5'⟩, r6, r7, r8, r9, r10⟩ := h
  obtain ⟨a0, hA0⟩ := RA_any (δ := δ) (h := wp + 16)
  obtain ⟨d1, e1, t1, t2⟩ := t_take kA hA0 (n := n) (x := a) (y := b)
  have F1 : Fr (fun r => wp + 16 ≤ r ∧ r < wp + 18) δ d1 := t2.wk (fun r p => by unfold blk at p; omega)
  have e2 : pL σ d1 0 (wp + 16) 2 (0 : Int64) = some (d1.1, u2 d1.2 (wp + 16) 2 0) := pL_ko kA.1
  have e3 : pL σ (d1.1, u2 d1.2 (wp + 16) 2 0) 0 (wp + 16) 3 (0 : Int64) = some (d1.1, u2 (u2 d1.2 (wp + 16) 2 0) (wp + 16) 3 0) := pL_ko kA.1
  have F2 : Fr (fun r => r = wp + 16) d1 (d1.1, u2 (u2 d1.2 (wp + 16) 2 0) (wp + 16) 3 0) := (Fr_u2L (P := fun r => r = wp + 16) rfl).tr (Fr_u2L (P := fun r => r = wp + 16) (δ := (d1.1, u2 d1.2 (wp + 16) 2 0)) rfl)
  have v2 : (d1.1, u2 (u2 d1.2 (wp + 16) 2 0) (wp + 16) 3 0).2 (wp + 16) 2 = (0 : Int64) := by simp (disch := omega) only [u2, if_neg, and_self, ↓reduceIte]
  have v3 : (d1.1, u2 (u2 d1.2 (wp + 16) 2 0) (wp + 16) 3 0).2 (wp + 16) 3 = (0 : Int64) := by simp only [u2, and_self, ↓reduceIte]
  have v1 : (d1.1, u2 (u2 d1.2 (wp + 16) 2 0) (wp + 16) 3 0).1 = d1.1 := rfl
  generalize (d1.1, u2 (u2 d1.2 (wp + 16) 2 0) (wp + 16) 3 0) = d2 at e3 F2 v1 v2 v3
  have hA2 : RA d2 (wp + 16) (begA n a b) := by
    refine ⟨by rw [v1]; exact t1.1, fun z z0 z1 => by rw [v1]; exact t1.2.1 z z0 z1, fun t ht => ?_⟩
    rw [v2, v3]
    show (0 : BitVec 64).getLsbD t = false ∧ (0 : BitVec 64).getLsbD t = false
    exact ⟨BitVec.getLsbD_zero, BitVec.getLsbD_zero⟩
  have F02 : Fr (fun r => wp + 16 ≤ r ∧ r < wp + 18) δ d2 := F1.tr (F2.wk (fun r p => by omega))
  obtain ⟨d3, e4, t4, t5⟩ := t_qadd pq4 kA (by omega) (RQ_of_Fr r7 F02 (fun r _ _ => by omega)) hA2 (by omega) (n := n)
  have F3 : Fr (fun r => wp + 403 ≤ r ∧ r < wp + 407) d2 d3 := t5.wk (fun r p => by unfold blk at p; omega)
  have F : Fr (fun r => (wp + 16 ≤ r ∧ r < wp + 18) ∨ (wp + 403 ≤ r ∧ r < wp + 407)) δ d3 := (F02.wk (fun r p => Or.inl p)).tr (F3.wk (fun r p => Or.inr p))
  refine ⟨d3, ?_, ⟨RS_of_Fr r1 F (fun r a b => by omega), ?_, by rw [(F (wp + 23) (by omega)).1]; exact r3, by rw [(F (wp + 18) (by omega)).1]; exact r4, ⟨by rw [(F (wp + 11) (by omega)).1]; exact r5, ?_⟩, ?_, t4, fun j hj => ?_, by rw [(F wp (by omega)).1]; exact r9, by rw [(F wp (by omega)).1]; exact r10⟩, F⟩
  · unfold m_X10_admit
    rw [gR_ko k0 k8, ob_some, chk_ko kA.1, ob_some, e1, ob_some, ob_some, e2, ob_some, ob_some, e3, ob_some, gR_ko k0 k7, ob_some, hrl', ob_some, gR_ko p0 p4, ob_some, ob_some, chk_ko pq4.1, ob_some, e4, ob_some]
  · unfold HiR; rw [(F (wp + 21) (by omega)).2]; exact r2
  · unfold RPw; rw [(F (wp + 12) (by omega)).1]; exact r5'
  · unfold RTk; rw [(F (wp + 14) (by omega)).1]; exact r6
  · by_cases hj0 : j = 0
    · subst hj0
      obtain ⟨q1, q2, q3, -, q5⟩ := r8 0 (by omega)
      have mv : ∀ (q R : Nat), wp + 390 ≤ q → (q + 4 ≤ wp + 403 ∨ wp + 407 ≤ q) → (∃ l, RQ δ q R l) → ∃ l, RQ d3 q R l := fun q R h1 h2 ⟨l, hl⟩ => ⟨l, RQ_of_Fr hl F (fun r _ _ => by omega)⟩
      exact ⟨mv _ _ (by omega) (by omega) q1, mv _ _ (by omega) (by omega) q2, mv _ _ (by omega) (by omega) q3, ⟨_, t4⟩, mv _ _ (by omega) (by omega) q5⟩
    · exact RLany_of_Fr (r8 j hj) F (fun r a b => by omega)
theorem GI_adm (h : GI E st I) (hn : gNode E n) (ha : tm (s_nv (v_S (i_V I))) a) (hb : tm (s_nv (v_S (i_V I))) b) (hl : (i_nx I).length < 60) : GI E st (admI I n a b) := by
  obtain ⟨h1, h2, h3, h4, h5, h6, h7, h8⟩ := h
  refine ⟨h1, h2, h3, h4, gAs_add h5 ⟨hn, fun z z0 z1 => ?_⟩, ?_, h7, h8⟩
  · show tm (s_nv (v_S (i_V I))) (if z = 0 then a else if z = 1 then b else 0)
    by_cases c0 : z = 0
    · rw [if_pos c0]; exact ha
    · rw [if_neg c0]
      by_cases c1 : z = 1
      · rw [if_pos c1]; exact hb
      · rw [if_neg c1]; exact Or.inl ⟨by decide, by decide⟩
  · show (i_nx I ++ [begA n a b]).length ≤ 60
    rw [List.length_append, List.length_singleton]; omega
def badV (nv a : Int) : Prop := 400 ≤ a ∧ ¬ a < 400 + nv
theorem c_noV_y (hT : KT σ) (hR : RId δ 68 md I) (hn : 0 ≤ s_nv (v_S (i_V I)) ∧ s_nv (v_S (i_V I)) ≤ 60) (ha : rng a) (h : ¬ badV (s_nv (v_S (i_V I))) a) : m_X11_isNoVariable σ 0 (ii a) δ = some 0 := by
  have kW : KO σ 68 10 := hT.2.2.2.2.1.2.1
  have kS := hT.2.2.2.2.1.2.2.1
  have kst : KS σ (68 + 1) := hT.2.2.2.2.1.2.2.2.2.2.1
  have h' : ¬ (400 ≤ a ∧ ¬ a < 400 + s_nv (v_S (i_V I))) := h
  have x1 : gI σ δ 8 (68 + 1) 2 = some (ii (s_nv (v_S (i_V I)))) := by rw [gI_ko kst.1]; exact congrArg some hR.1.1
  unfold m_X11_isNoVariable
  rw [show ((400 : Int32)) = ii 400 from rfl]
  by_cases c : a < 400
  · rw [if_pos (show ii a < ii 400 by rw [ii_lt ha.1 ha.2 (by omega) (by omega)]; exact c)]
  · rw [if_neg (show ¬ ii a < ii 400 by rw [ii_lt ha.1 ha.2 (by omega) (by omega)]; exact c), gR_ko hT.1 hT.2.1.2.2.1, ob_some, gR_ko kW kS.2.1, ob_some, x1, ob_some, ii_sub, if_pos (show ii (a - 400) < ii (s_nv (v_S (i_V I))) by rw [ii_lt (by omega) (by omega) (by omega) (by omega)]; omega)]
end
