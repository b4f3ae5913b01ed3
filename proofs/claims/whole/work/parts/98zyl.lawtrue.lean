/-! THE LAW IS TRUE: the start, and the loop behind it -/
section
variable {σ σ' : St} {t q : Nat}
theorem nL_ex {n N : Nat} {v : Int32} (hr : sn σ < roB) (hv : v = ii n) (hn : n ≤ N) (hb : n ≤ 1000000) : ∃ s, nwA σ t v N = some s ∧ sn s = sn σ + 1 ∧ KD s (sn σ) t n ∧ ∀ p, Bx σ s p := by
  have hc : (ii (n : Int)).toNatClampNeg = n := by rw [ii_nat (by omega) (by omega)]; omega
  have hneg : ¬ ii (n : Int) < 0 := by
    rw [show ((0 : Int32)) = ii 0 from rfl, ii_lt (by omega) (by omega) (by omega) (by omega)]
    omega
  refine ⟨nwS σ t n, ?_, rfl, ⟨⟨Nat.lt_succ_self _, if_pos rfl⟩, if_pos rfl, hb⟩, fun p => ⟨Nat.le_succ _, fun r h => ⟨if_neg (by omega), if_neg (by omega), fun _ j => ?_⟩⟩⟩
  · rw [hv]
    unfold nwA
    rw [hc, if_pos ⟨hr, hneg, hn⟩]
  · show (if r = sn σ then (fun _ => none) else σ.2.2.1 r) j = _
    rw [if_neg (by omega)]
    rfl
theorem KM_bx {mo : Nat} (h : KM σ mo) (k : Bx σ σ' 0) (hm : ¬ mo = 0) : KM σ' mo := ⟨KO_bx h.1 k, fun p hp => ⟨((k.2 mo h.1.1).2.2 hm p.1).trans (h.2 p hp).1, KD_bx (h.2 p hp).2 k⟩⟩
theorem KT_bx (h : KT σ) (k0 : Bx σ σ' 0) (k1 : Bx σ σ' q) (hq : 1040 ≤ q) : KT σ' := by
  obtain ⟨h1, ⟨a0, a1, a2, a3, a4, a5⟩, h2, ⟨s0, s1, ⟨b0, b1, b2⟩, s2, s3, s4⟩, h3, h4⟩ := h
  have e0 := (k1.2 0 h1.1).2.2 (by omega)
  have e9 := (k1.2 9 s1.1).2.2 (by omega)
  exact ⟨KO_bx h1 k1, ⟨(e0 0).trans a0, (e0 1).trans a1, (e0 2).trans a2, (e0 3).trans a3, (e0 4).trans a4, (e0 5).trans a5⟩, KD_bx h2 k1, ⟨s0, KO_bx s1 k1, ⟨(e9 0).trans b0, (e9 1).trans b1, (e9 4).trans b2⟩, KD_bx s2 k1, KD_bx s3 k1, KD_bx s4 k1⟩, KWo_bx h3 k0 (by omega), KWo_bx h4 k0 (by omega)⟩
end
def R00 : Rl := (0, fun _ => 0, fun _ => 0, fun _ => false, 0, fun _ => 0, fun _ => 0, false, 0, 0, 0)
def E00 : Ev := ((0, fun _ => 0, fun _ => 0, fun _ => 0, fun _ => 0, fun _ => 0, fun _ => 0), fun _ => -1, fun _ => R00, 0)
section
variable {δ : Dy} {F : Ev} {mo : Nat}
theorem E00_ct (h : AgE E00 F) : e_ct F = 0 := h.1
theorem E00_md (h : AgE E00 F) : e_md F = 0 := h.2.1
theorem E00_df (h : AgE E00 F) : e_df F = fun _ => -1 := h.2.2.1
theorem E00_no (h : AgE E00 F) {n : Int} (hn : gNode F n) : False := by
  have h1 : 0 ≤ n ∧ n < e_ct F := hn
  rw [E00_ct h] at h1
  omega
theorem Good00 (h : AgE E00 F) : Good F false R00 I0 := by
  have gE : GE F := by
    refine ⟨by rw [E00_ct h]; omega, by rw [E00_md h]; omega, fun w w0 w1 => ?_, fun d _ _ => Or.inl (by rw [E00_df h]), fun n hn => (E00_no h hn).elim⟩
    rw [E00_md h] at w1
    omega
  have e : stE F (fun _ => -1) 0 = F := by
    obtain ⟨N, df, Rs, md⟩ := F
    have h1 : df = fun _ => -1 := E00_df h
    have h2 : md = 0 := E00_md h
    subst h1
    subst h2
    rfl
  obtain ⟨g1, g2, g3, g4⟩ := (st0_good gE).1
  have g2' : GI (stE F (fun _ => -1) 0) (60 * i_st I0) I0 := g2
  have g3' : XI (stE F (fun _ => -1) 0) (60 * i_st I0) I0 := g3
  rw [e] at g2' g3'
  exact ⟨gE, g2', g3', g4, fun hb => (by cases hb)⟩
theorem RT00 (h : AgE E00 F) (r68 : RId δ 68 0 I0) (r554 : RId δ 554 0 I0) (df : ∀ z : Int, 0 ≤ z → z < 6 → δ.1 (68 + 13) z.toNat = ii (-1)) (z0 : ∀ k, δ.1 0 k = 0) (z16 : δ.1 1 6 = 0) : RT δ F false R00 I0 [] := by
  refine ⟨⟨⟨?_, fun n hn => (E00_no h hn).elim⟩, fun w w0 w1 => ?_, fun d d0 d1 => ?_⟩, ?_, ⟨(z0 7).trans rfl, fun hb => (by cases hb)⟩, ⟨(z0 6).trans rfl, fun j e he => (by have h' : (none : Option Jn) = some e := he; cases h')⟩, 0, I0, r554⟩
  · rw [E00_ct h]; exact z16.trans rfl
  · rw [E00_md h] at w1; omega
  · rw [E00_df h]; exact df d d0 d1
  · rw [E00_md h]; exact r68
theorem RM00 (h : AgE E00 F) (z0 : ∀ k, δ.1 mo k = 0) (dD : ∀ j : Nat, j < 6 → δ.1 (mo + 8) j = -1) (d38 : δ.1 (mo + 1) 7038 = 1) (dz : ∀ j : Nat, (j = 0 ∨ 121 ≤ j) → ¬ j = 7038 → δ.1 (mo + 1) j = 0) : RM δ mo F false R00 I0 := by
  refine ⟨⟨⟨?_, fun w w0 w1 => ?_⟩, ?_, fun d hd => ?_, fun n hn => (E00_no h hn).elim⟩, ⟨?_, ⟨?_, fun j e he => (by have h' : (none : Option (Int × Int × Int)) = some e := he; cases h')⟩, fun w hw => ?_, ⟨?_, fun k hk => ?_, fun z hz => ?_, ?_⟩, ?_, ?_, fun j a ha => (by have h' : (none : Option Ag) = some a := ha; cases h')⟩, ?_, (z0 20).trans rfl, fun hb => (by cases hb)⟩
  · rw [E00_md h]; exact (z0 14).trans rfl
  · rw [E00_md h] at w1; omega
  · rw [E00_ct h]; exact (z0 7).trans rfl
  · rw [E00_df h]; exact (dD d hd).trans rfl
  · have no : ∀ {t : Int}, 0 ≤ t → ¬ t < 0 := fun a b => by omega
    exact ⟨(dz 0 (by omega) (by omega)).trans rfl, fun v v0 v1 => (no v0 v1).elim, fun v v0 v1 => (no v0 v1).elim, (dz 121 (by omega) (by omega)).trans rfl, fun v v0 v1 => (no v0 v1).elim, fun v v0 v1 => (no v0 v1).elim, fun v v0 v1 => (no v0 v1).elim, fun v v0 v1 => (no v0 v1).elim, fun v v0 v1 => (no v0 v1).elim, fun v v0 v1 => (no v0 v1).elim⟩
  · exact (dz 1022 (by omega) (by omega)).trans rfl
  · exact (dz (7023 + w) (by omega) (by omega)).trans rfl
  · exact d38.trans rfl
  · exact (dz (7031 + k) (by omega) (by omega)).trans rfl
  · exact (dz (9743 + z) (by omega) (by omega)).trans rfl
  · exact (dz 7039 (by omega) (by omega)).trans rfl
  · exact (dz 7040 (by omega) (by omega)).trans rfl
  · exact (dz 7041 (by omega) (by omega)).trans rfl
  · exact (dz 9742 (by omega) (by omega)).trans rfl
theorem Core00 (h : AgE E00 F) (hT : RT δ F false R00 I0 []) (hM : RM δ mo F false R00 I0) : Core δ mo 0 F false R00 I0 [] := by
  refine ⟨Good00 h, hT, hM, Nat.le_refl _, fun _ => ((fun _ => -1), 0, I0), rfl, fun j e he => (by have h' : (none : Option Jn) = some e := he; cases h'), ?_⟩
  show ((fun _ => -1), (0 : Int), I0) = (e_df F, e_md F, I0)
  rw [E00_df h, E00_md h]
theorem law_true {L : Nat} (xs : Nat → Int32) (hL : L ≤ 3072) : m_law xs L σE δE = some () := by
  have hro := roB_big
  have n0 : sn σE = 0 := rfl
  obtain ⟨s1, x1, n1, k1, -⟩ := nO_ex (σ := σE) (c := 11) (by omega)
  rw [n0] at n1 k1
  obtain ⟨s2, d2, x2, n2, kT, r68, r554, df, zz, z16⟩ := i_X11 (δ := nwD σE δE) k1 n1 nwD_at
  obtain ⟨s3, x3, n3, k3, b3⟩ := nO_ex (σ := s2) (c := 12) (by omega)
  rw [n2] at n3 k3
  have zm : Zer (nwD s2 d2) 1040 := by rw [← n2]; exact nwD_at
  obtain ⟨s4, D, x4, k4, n4, zD, lw, b4⟩ := i_X12A (δ := nwD s2 d2) k3 n3 zm (by omega)
  obtain ⟨d, x5, dD, d38, dz, dF⟩ := i_X12B k4 zD
  obtain ⟨s5, x6, n5, k5, b5⟩ := nL_ex (σ := s4) (t := 102) (n := 1) (N := 1) (v := (1 : Int32)) (by omega) rfl (Nat.le_refl _) (by omega)
  rw [n4] at k5
  have B0 : Bx s2 s5 0 := ((b3 0).tr b4 (Or.inr (by omega))).tr (b5 0) (Or.inl rfl)
  have B1 : Bx s2 s5 1040 := ((b3 1040).tr b4 (Or.inl rfl)).tr (b5 1040) (Or.inl rfl)
  have up : ∀ i, ¬ i = 1077 → (nwD s4 d).1 i = d.1 i ∧ (nwD s4 d).2 i = d.2 i := fun i hi => nwD_ne (by omega)
  have FF : Fr (fun r => 1040 ≤ r) d2 (nwD s4 d) := fun r hr => by
    rw [(up r (by omega)).1, (up r (by omega)).2, (dF r (by omega)).1, (dF r (by omega)).2, (lw r (by omega)).1, (lw r (by omega)).2]
    exact nwD_ne (by omega)
  have q0 : ∀ k, (nwD s4 d).1 0 k = 0 := fun k => by rw [(FF 0 (by omega)).1]; exact (zz k).1
  have q1 : (nwD s4 d).1 1 6 = 0 := by rw [(FF 1 (by omega)).1]; exact z16
  have qd : ∀ z : Int, 0 ≤ z → z < 6 → (nwD s4 d).1 (68 + 13) z.toNat = ii (-1) := fun z a b => by rw [(FF (68 + 13) (by omega)).1]; exact df z a b
  have m0 : ∀ k, (nwD s4 d).1 1040 k = 0 := fun k => by rw [(up 1040 (by omega)).1, (dF 1040 (by omega)).1]; exact (zD 1040 (by omega) (by omega) k).1
  have m1 : (nwD s4 d).1 (1040 + 1) = d.1 (1040 + 1) := (up _ (by omega)).1
  have m8 : (nwD s4 d).1 (1040 + 8) = d.1 (1040 + 8) := (up _ (by omega)).1
  have hI : InvL s5 1040 1077 0 (nwD s4 d) := by
    refine ⟨⟨KT_bx kT B0 B1 (by omega), KM_bx k4 (b5 0) (by omega), k5, by omega, by omega⟩, E00, false, R00, fun F hF => ⟨I0, [], Core00 hF ?_ ?_⟩⟩
    · exact RT00 hF (RId_of_Fr r68 FF (fun r a b => by omega)) (RId_of_Fr r554 FF (fun r a b => by omega)) qd q0 q1
    · exact RM00 hF m0 (fun j hj => by rw [m8]; exact dD j hj) (by rw [m1]; exact d38) (fun j a b => by rw [m1]; exact dz j a b)
  have x7 : m_X12_init s3 1040 (nwD s2 d2) = some (s4, d) := x4.trans x5
  unfold m_law
  simp only [x1, n0, ob_some, x2, n2, x3, x7, n4, x6]
  exact law_loop hI hL
end
