/-! THE REFERENCE: settling -/
section
variable {σ : St} {δ : Dy} {mo : Nat} {S : Sto} {V : Vw} {Rs : Int → Rl} {R : Rl} {made B : Int} {bd : Int → Int} {rest : List Frm}
theorem sr_bit : ∀ (t : Fin 32), (1#32 <<< (t : Nat)).getLsbD t = true := by decide +kernel
/-- a bit, as the reference asks for it -/
theorem m_bit {v : Int32} {t : Int} (h0 : 0 ≤ t) (h1 : t < 32) : (((v >>> ((ii t) &&& 31)) &&& (1 : Int32)) = ii 0) = (v.toBitVec.getLsbD t.toNat = false) := by
  have hs : ∀ t : Fin 32, ((ii ((t : Nat) : Int)) &&& 31).toBitVec.smod 32 = BitVec.ofNat 32 t := by decide +kernel
  have hst := hs ⟨t.toNat, by omega⟩
  rw [show (((⟨t.toNat, by omega⟩ : Fin 32) : Nat) : Int) = t from (show ((t.toNat : Nat) : Int) = t by omega)] at hst
  have hsh : (v >>> ((ii t) &&& 31)).toBitVec = v.toBitVec.sshiftRight t.toNat := by
    rw [Int32.toBitVec_shiftRight, hst]
    rw [BitVec.sshiftRight_eq']
    congr 1
    show (BitVec.ofNat 32 t.toNat).toNat = t.toNat
    rw [BitVec.toNat_ofNat]
    omega
  refine propext ⟨fun h => ?_, fun h => ?_⟩
  · have h2 := congrArg (fun x => x.toBitVec.getLsbD 0) h
    rw [Int32.toBitVec_and, BitVec.getLsbD_and, hsh, BitVec.getLsbD_sshiftRight] at h2
    have h3 : (1 : Int32).toBitVec.getLsbD 0 = true := by decide
    have h4 : (ii 0).toBitVec.getLsbD 0 = false := by decide
    rw [h3, h4, Bool.and_true] at h2
    have h5 : ¬ 32 ≤ 0 := by omega
    simp only [Nat.add_zero, decide_eq_true_eq] at h2
    rw [if_pos (by omega)] at h2
    simpa using h2
  · apply Int32.toBitVec_inj.mp
    apply BitVec.eq_of_getLsbD_eq
    intro i hi
    rw [Int32.toBitVec_and, BitVec.getLsbD_and]
    by_cases hi0 : i = 0
    · subst hi0
      rw [hsh, BitVec.getLsbD_sshiftRight]
      simp only [Nat.add_zero]
      rw [if_pos (by omega), h, Bool.and_false, Bool.false_and]
      rfl
    · have : (1 : Int32).toBitVec.getLsbD i = false := by
        show (1#32).getLsbD i = false
        rw [BitVec.getLsbD_one]
        simp [hi0]
      rw [this, Bool.and_false]
      show false = (0#32).getLsbD i
      simp
theorem m_goAgain (hK : KM σ mo) (hV : RVm δ mo Rs V) (hX : XV Rs made B V) (hB : B ≤ 1830) {a j : Int} {m : Nat → Bool} (hf : v_fr V = .inr (.inl (a, m)) :: rest) (hJ : TopJ Rs δ mo (v_fr V) j) : Ok (m_X12_goAgain σ mo (ii (12 * rest.length)) δ) (fun d => FM mo δ d ∧ Rnd Rs made B mo V j d) := by
  obtain ⟨x1, x2, x3, x4, x5⟩ := id hX
  obtain ⟨g1, g2, g3, g4, g5, g6, g7, g8⟩ := id x1
  have gn := g1.1
  have hlen : rest.length + 1 < 183 := by
    have := g6
    rw [hf] at this g7
    have h2 : (rest.length : Int) + 1 ≤ 3 * nBo rest + 1 := this.2
    have h3 : nBo rest ≤ v_ac V := g7
    omega
  have hh : (v_hi V).length ≤ 1900 := by omega
  have hft : gFrm (v_S V) Rs made (.inr (.inl (a, m))) := g5 _ (by rw [hf]; exact List.mem_cons_self ..)
  have ga : 0 ≤ a ∧ a ≤ 100 := hft
  have hm5 := x5 a m (by rw [hf]; exact List.mem_cons_self ..)
  rw [hf] at hJ
  have hj : j = 101 - a := hJ
  have hfr := hV.2.2.1
  have f3 := hV.2.1.2.2
  rw [hf] at hfr f3
  obtain ⟨⟨c0, c1, c2⟩, hfr'⟩ := hfr
  have nn : (0 : Int) ≤ rest.length := by omega
  have e1 : rI σ δ (mo + 28) (ii (12 * (rest.length : Int) + 1)) = some (ii a) := rst (md36 hK) (by omega) (by omega) (by omega) c1
  have hadv : adv V Rs made = advW V a m rest := by unfold adv; rw [hf]
  unfold m_X12_goAgain
  rw [show ((1 : Int32)) = ii 1 from rfl, mg36 hK, ob_some, ii_add, e1, ob_some]
  unfold m_X12_goAgain_b9
  -- at the bit that is found
  have hit : ∀ z : Int, a ≤ z → z ≤ 100 → (∀ y, a ≤ y → y < z → m y.toNat = false) → (z = 100 ∨ m z.toNat = true) → Ok (m_X12_goAgain_b44 σ mo (ii (12 * rest.length)) (ii z) δ) (fun d => FM mo δ d ∧ Rnd Rs made B mo V j d) := by
    intro z z0 z1 hno hz
    unfold m_X12_goAgain_b44
    by_cases c100 : z = 100
    · obtain ⟨d, e, q1, q2⟩ := m_goPop hK hV g1 (by omega) hf (by omega)
      refine ⟨d, ?_, q2, Or.inl ?_⟩
      · rw [if_pos (show ii z = (100 : Int32) by rw [c100]; rfl)]
        exact e
      · rw [hadv]
        unfold advW
        rw [if_pos (show wNext (v_S V) a m = -1 from fnd_no _ a (fun y y0 y1 => by rw [hno y y0 (by omega), Bool.false_and]))]
        exact q1
    · have hmz : m z.toNat = true := hz.resolve_left c100
      have hznt : z < s_nt (v_S V) := by have := hm5 z.toNat hmz; omega
      rw [if_neg (show ¬ ii z = (100 : Int32) by rw [show (100 : Int32) = ii 100 from rfl, ii_eq (by omega) (by omega) (by omega) (by omega)]; exact c100)]
      have hF : Fr (fun r => r = mo + 28) δ (u2 δ.1 (mo + 28) (12 * (rest.length : Int) + 1).toNat (ii (z + 1)), δ.2) := Fr_u2 rfl
      have ew : wI σ δ (mo + 28) (ii (12 * (rest.length : Int) + 1)) (ii (z + 1)) = some (u2 δ.1 (mo + 28) (12 * (rest.length : Int) + 1).toNat (ii (z + 1)), δ.2) := wI_kd (md36 hK) (by omega) (by omega)
      have hkk : ∀ k, ¬ k = 12 * rest.length + 1 → (u2 δ.1 (mo + 28) (12 * (rest.length : Int) + 1).toNat (ii (z + 1)), δ.2).1 (mo + 28) k = δ.1 (mo + 28) k := fun k hk => by simp (disch := omega) only [u2, if_neg]
      have hk1 : (u2 δ.1 (mo + 28) (12 * (rest.length : Int) + 1).toNat (ii (z + 1)), δ.2).1 (mo + 28) (12 * rest.length + 1) = ii (z + 1) := by
        rw [show (12 * (rest.length : Int) + 1).toNat = 12 * rest.length + 1 by omega]
        simp only [u2, and_self, ↓reduceIte]
      generalize (u2 δ.1 (mo + 28) (12 * (rest.length : Int) + 1).toNat (ii (z + 1)), δ.2) = d1 at hF ew hkk hk1
      have hf1 : RMf Rs d1 mo rest.length (.inr (.inl (z + 1, m))) := ⟨by rw [hkk _ (by omega)]; exact c0, hk1, B32_eq c2 (fun k _ => hkk _ (by omega))⟩
      have hfr1 : RMfr Rs d1 mo rest := RMfr_eq hfr' (fun k hk => hkk k (by omega))
      obtain ⟨q1, q2⟩ := RVm_fr hV g1 (by omega) (d := d1) (fr := .inr (.inl (z + 1, m)) :: rest) (hF.wk (fun r p => Or.inr p)) (fun k _ => by rw [(hF mo (by omega)).1]) (by rw [(hF mo (by omega)).1]; exact f3) ⟨hf1, hfr1⟩
      have hS1 : RSm d1 mo (v_S V) := q1.1
      have rs := (m_t4 hK hS1 g1 (by omega) hznt).2.2.2.1
      have hwz : (s_sd (v_S V) z = true) → wNext (v_S V) a m = z := fun hs => fnd_hit _ a z z0 (by omega) (by rw [hmz, hs]; rfl) (fun y y0 y1 => by rw [hno y y0 y1, Bool.false_and])
      cases hs : s_sd (v_S V) z with
      | true =>
        rw [hs] at rs
        obtain ⟨D, eD, p1, p2, p3, p4⟩ := m_pushActive (δ := d1) hK (n := rest.length + 1) (by omega) (by rw [(hF mo (by omega)).1]; exact f3) (t := z)
        have hb1 : bi true = ii 1 := rfl
        have k28 : ∀ k, k < 12 * (rest.length + 1) → D.1 (mo + 28) k = d1.1 (mo + 28) k := fun k hk => by rw [p1, if_neg (by omega), if_neg (by omega)]
        have n0' : D.1 (mo + 28) (12 * (rest.length + 1)) = ii 0 := by rw [p1, if_neg (by omega), if_pos (by omega)]
        have n1' : D.1 (mo + 28) (12 * (rest.length + 1) + 1) = ii z := by rw [p1, if_pos rfl]
        have n2' : D.1 (mo + 28) (12 * (rest.length + 1) + 2) = ii 0 := by rw [p1, if_neg (by omega), if_pos (by omega)]
        have n3' : D.1 (mo + 28) (12 * (rest.length + 1) + 3) = ii 0 := by rw [p1, if_neg (by omega), if_pos (by omega)]
        have n4' : D.1 (mo + 28) (12 * (rest.length + 1) + 4) = ii 0 := by rw [p1, if_neg (by omega), if_pos (by omega)]
        obtain ⟨y1, y2⟩ := RVm_fr (d := D) q1 g1 (by show (v_hi V).length ≤ 2000; omega) (fr := .inl (z, 0) :: .inr (.inl (z + 1, m)) :: rest) p4 p3 (by rw [p2]; rfl) ⟨⟨n0', n1', 0, 0, 0, rfl, ⟨by omega, by omega, by omega, by omega, by omega, Or.inl rfl⟩, n2', n3', n4'⟩, RMf_eq hf1 (fun k _ h2 => k28 k (by omega)), RMfr_eq hfr1 (fun k hk => k28 k (by omega))⟩
        refine ⟨D, ?_, q2.tr y2, Or.inl ?_⟩
        · simp (disch := omega) only [mg36 hK, mg0 hK, ob_some, ii_lit, ii_add, ew, rs, hb1, ↓reduceIte, chk_ko hK.1, eD]
        · rw [hadv]
          unfold advW
          rw [hwz hs, if_neg (by omega)]
          exact y1
      | false =>
        rw [hs] at rs
        have hb1 : ¬ (bi false = ii 1) := by decide
        refine ⟨d1, ?_, q2, Or.inr ⟨.inr (.inl (z + 1, m)), rest, 101 - (z + 1), q1, ?_, ?_, ?_, rfl, by omega, by omega⟩⟩
        · simp (disch := omega) only [mg36 hK, mg0 hK, ob_some, ii_lit, ii_add, ew, rs, hb1, ↓reduceIte]
        · refine XV_setfr hX (GV_setfr x1 (fun f hm => ?_) (by rw [hf] at g6; exact g6) (by rw [hf] at g7; exact g7)) (fun t p hm => ?_) (fun a' m' hm => ?_)
          · rcases List.mem_cons.mp hm with rfl | hm
            · show 0 ≤ z + 1 ∧ z + 1 ≤ 100
              omega
            · exact g5 f (by rw [hf]; exact List.mem_cons_of_mem _ hm)
          · rcases List.mem_cons.mp hm with h | h
            · cases h
            · exact x4 t p (by rw [hf]; exact List.mem_cons_of_mem _ h)
          · rcases List.mem_cons.mp hm with h | h
            · cases h; exact hm5
            · exact x5 a' m' (by rw [hf]; exact List.mem_cons_of_mem _ h)
        · refine advW_skip hf (by omega) (by omega) (fun y y0 y1 => ?_)
          by_cases hyz : y = z
          · rw [hyz, hs, Bool.and_false]
          · rw [hno y y0 (by omega), Bool.false_and]
        · rw [hf]
          show wFrs rest + (1 + 2 * (100 - (z + 1))) ≤ wFrs rest + (1 + 2 * (100 - a))
          omega
  refine Ok_lp (fun s => ∃ z : Int, s = ii z ∧ a ≤ z ∧ z ≤ 100 ∧ ∀ y, a ≤ y → y < z → m y.toNat = false) (fun s => (100 - s.toInt).toNat) ?_ ⟨a, rfl, Int.le_refl _, ga.2, fun y _ _ => by omega⟩ (by rw [ii_toInt (by omega) (by omega)]; omega)
  rintro s ⟨z, rfl, z0, z1, hno⟩
  by_cases c100 : 100 ≤ z
  · obtain ⟨d, e, hd⟩ := hit z z0 z1 hno (Or.inl (by omega))
    refine Ok_inr (r := d) ?_ hd
    rw [if_pos (show (100 : Int32) ≤ ii z by rw [show (100 : Int32) = ii 100 from rfl, ii_le (by omega) (by omega) (by omega) (by omega)]; exact c100), e, ob_some]
  · have hb := c2 (z / 32).toNat (z % 32).toNat (by omega) (by omega)
    rw [show 32 * (z / 32).toNat + (z % 32).toNat = z.toNat by omega] at hb
    have ev : rI σ δ (mo + 28) (ii (12 * (rest.length : Int) + 2 + z / 32)) = some (δ.1 (mo + 28) (12 * rest.length + 2 + (z / 32).toNat)) := rst (md36 hK) (by omega) (by omega) (by omega) rfl
    have hmb := m_bit (v := δ.1 (mo + 28) (12 * rest.length + 2 + (z / 32).toNat)) (t := z % 32) (by omega) (by omega)
    have hdv := dvI_ii (a := z) (b := 32) (by omega) (by omega) (by omega) (by omega)
    have hrm := rmI_ii (a := z) (b := 32) (by omega) (by omega) (by omega) (by omega)
    have pre : (if (100 : Int32) ≤ ii z then (m_X12_goAgain_b44 σ mo (ii (12 * rest.length)) (ii z) δ).bind fun r => some (Sum.inr r : Int32 ⊕ Dy) else (gR σ 12 mo 36).bind fun v10 => (dvI (ii z) (32 : Int32)).bind fun v11 => (rI σ δ v10 ((ii (12 * rest.length) + (2 : Int32)) + v11)).bind fun v12 => (rmI (ii z) (32 : Int32)).bind fun v13 => if ((v12 >>> (v13 &&& 31)) &&& (1 : Int32)) = 0 then some (Sum.inl (ii z + (1 : Int32))) else (m_X12_goAgain_b44 σ mo (ii (12 * rest.length)) (ii z) δ).bind fun r => some (Sum.inr r)) = if m z.toNat = false then some (Sum.inl (ii (z + 1))) else (m_X12_goAgain_b44 σ mo (ii (12 * rest.length)) (ii z) δ).bind fun r => some (Sum.inr r) := by
      rw [if_neg (show ¬ (100 : Int32) ≤ ii z by rw [show (100 : Int32) = ii 100 from rfl, ii_le (by omega) (by omega) (by omega) (by omega)]; exact c100), mg36 hK, ob_some, show (32 : Int32) = ii 32 from rfl, hdv, ob_some, show (2 : Int32) = ii 2 from rfl, ii_add, ii_add, ev, ob_some, hrm, ob_some]
      have hb' : (δ.1 (mo + 28) (12 * rest.length + 2 + (z / 32).toNat)).toBitVec.getLsbD (z % 32).toNat = m z.toNat := hb
      rw [hb'] at hmb
      by_cases hmz : m z.toNat = false
      · rw [if_pos hmz, if_pos (show _ = (0 : Int32) from (hmb ▸ hmz : _ = ii 0)), show ((1 : Int32)) = ii 1 from rfl, ii_add]
      · rw [if_neg hmz, if_neg (show ¬ _ = (0 : Int32) from fun h => hmz (hmb ▸ (show _ = ii 0 from h)))]
    show Ok (if (100 : Int32) ≤ ii z then _ else _) _
    cases hmz : m z.toNat with
    | false =>
      rw [if_pos hmz] at pre
      refine Ok_inl (s' := ii (z + 1)) pre ⟨⟨z + 1, rfl, by omega, by omega, fun y y0 y1 => ?_⟩, ?_⟩
      · by_cases hyz : y = z
        · rw [hyz]; exact hmz
        · exact hno y y0 (by omega)
      · rw [ii_toInt (by omega) (by omega), ii_toInt (by omega) (by omega)]
        omega
    | true =>
      rw [if_neg (show ¬ m z.toNat = false by rw [hmz]; decide)] at pre
      obtain ⟨d, e, hd⟩ := hit z z0 z1 hno (Or.inr hmz)
      refine Ok_inr (r := d) ?_ hd
      exact pre.trans (by rw [e, ob_some])
end
