/-! THE REFERENCE: a round of settling, an active token -/
section
variable {σ : St} {δ : Dy} {mo : Nat} {S : Sto} {V : Vw} {Rs : Int → Rl} {R : Rl} {made B : Int} {bd : Int → Int} {rest : List Frm}
/-- how far the top frame is, in the reference's own counts -/
def TopJ (Rs : Int → Rl) (δ : Dy) (mo : Nat) (fr : List Frm) (j : Int) : Prop := match fr with
  | .inl (_, p) :: rest => ∃ r h o : Int, p = 200 * r + 100 * h + o ∧ (0 ≤ r ∧ 0 ≤ h ∧ 100 * h + o ≤ 200 ∧ 0 ≤ o ∧ o ≤ 100 ∧ (h = 0 ∨ h ≤ l_hd (Rs r))) ∧ δ.1 (mo + 28) (12 * rest.length + 2) = ii r ∧ δ.1 (mo + 28) (12 * rest.length + 3) = ii h ∧ δ.1 (mo + 28) (12 * rest.length + 4) = ii o ∧ j = (8 - r) * 1000 + (3 - h) * 200 + (101 - o)
  | .inr (.inl (a, _)) :: _ => j = 101 - a
  | _ => j = 0
/-- what a round leaves: an advance, or a step within one -/
def Rnd (Rs : Int → Rl) (made B : Int) (mo : Nat) (V : Vw) (j : Int) (d : Dy) : Prop := RVm d mo Rs (adv V Rs made) ∨ ∃ (f' : Frm) (rest : List Frm) (j' : Int), RVm d mo Rs (v_setfr V (f' :: rest)) ∧ XV Rs made B (v_setfr V (f' :: rest)) ∧ adv (v_setfr V (f' :: rest)) Rs made = adv V Rs made ∧ wFrs (f' :: rest) ≤ wFrs (v_fr V) ∧ TopJ Rs d mo (f' :: rest) j' ∧ 0 ≤ j' ∧ j' < j
theorem XV_place {t p q : Int} (hX : XV Rs made B V) (hf : v_fr V = .inl (t, p) :: rest) (q0 : 0 ≤ q) (q1 : q ≤ 200 * made) : XV Rs made B (v_setfr V (.inl (t, q) :: rest)) := by
  have hm := hX.1.2.2.1
  refine XV_setfr hX (GV_place hX.1 hf q0 (by omega)) (fun t' p' h => ?_) (fun a m h => ?_)
  · rcases List.mem_cons.mp h with h | h
    · cases h; exact q1
    · exact hX.2.2.2.1 t' p' (by rw [hf]; exact List.mem_cons_of_mem _ h)
  · rcases List.mem_cons.mp h with h | h
    · cases h
    · exact hX.2.2.2.2 a m (by rw [hf]; exact List.mem_cons_of_mem _ h)
/-- the place of the top frame is written -/
theorem m_place (hV : RVm δ mo Rs V) (hG : GS (v_S V)) (hh : (v_hi V).length ≤ 2000) {t p q r h o : Int} (hf : v_fr V = .inl (t, p) :: rest) (hq : q = 200 * r + 100 * h + o) (hr : 0 ≤ r ∧ 0 ≤ h ∧ 100 * h + o ≤ 200 ∧ 0 ≤ o ∧ o ≤ 100 ∧ (h = 0 ∨ h ≤ l_hd (Rs r))) {d : Dy} (hF : Fr (fun r => r = mo + 28) δ d) (k2 : d.1 (mo + 28) (12 * rest.length + 2) = ii r) (k3 : d.1 (mo + 28) (12 * rest.length + 3) = ii h) (k4 : d.1 (mo + 28) (12 * rest.length + 4) = ii o) (kk : ∀ k, ¬ (12 * rest.length + 2 ≤ k ∧ k < 12 * rest.length + 5) → d.1 (mo + 28) k = δ.1 (mo + 28) k) : RVm d mo Rs (v_setfr V (.inl (t, q) :: rest)) ∧ FM mo δ d ∧ TopJ Rs d mo (.inl (t, q) :: rest) ((8 - r) * 1000 + (3 - h) * 200 + (101 - o)) := by
  have hfr := hV.2.2.1
  have f3 := hV.2.1.2.2
  rw [hf] at hfr f3
  obtain ⟨⟨c0, c1, -⟩, hfr'⟩ := hfr
  obtain ⟨q1, q2⟩ := RVm_fr hV hG hh (fr := .inl (t, q) :: rest) (hF.wk (fun r p => Or.inr p)) (fun k _ => by rw [(hF mo (by omega)).1]) (by rw [(hF mo (by omega)).1]; exact f3) ⟨⟨by rw [kk _ (by omega)]; exact c0, by rw [kk _ (by omega)]; exact c1, r, h, o, hq, hr, k2, k3, k4⟩, RMfr_eq hfr' (fun k hk => kk k (by omega))⟩
  exact ⟨q1, q2, r, h, o, hq, hr, k2, k3, k4, rfl⟩
theorem m_goPop (hK : KM σ mo) (hV : RVm δ mo Rs V) (hG : GS (v_S V)) (hh : (v_hi V).length ≤ 2000) {f : Frm} (hf : v_fr V = f :: rest) (hl : rest.length ≤ 183) : Ok ((gI σ δ 12 mo 37).bind fun v11 => (pI σ δ 12 mo 37 (v11 - (1 : Int32))).bind fun d12 => some d12) (fun d => RVm d mo Rs (v_setfr V rest) ∧ FM mo δ d) := by
  have hfr := hV.2.2.1
  have f3 := hV.2.1.2.2
  rw [hf] at hfr f3
  have f3' : δ.1 mo 37 = ii ((rest.length : Int) + 1) := f3
  have hF : Fr (fun r => r = mo) δ (u2 δ.1 mo 37 (ii rest.length), δ.2) := Fr_u2 rfl
  refine ⟨(u2 δ.1 mo 37 (ii rest.length), δ.2), ?_, RVm_fr hV hG hh (hF.wk (fun r p => Or.inl p)) (fun k hk => by simp (disch := omega) only [u2, if_neg]) (by simp only [u2, and_self, ↓reduceIte]) (RMfr_eq hfr.2 (fun k _ => by rw [(hF (mo + 28) (by omega)).1]))⟩
  simp (disch := omega) only [gI_ko hK.1, f3', ob_some, ii_lit, ii_sub, pI_ko hK.1]
  rw [show (rest.length : Int) + 1 - 1 = rest.length by omega]
theorem goA_pre (hK : KM σ mo) {n t r h o hd nt : Int} (t0 : 0 ≤ t ∧ t < 100) (r0 : 0 ≤ r ∧ r < made) (m8 : made ≤ 8) (h0 : 0 ≤ h ∧ h ≤ 2) (o0 : 0 ≤ o ∧ o ≤ 100) (d0 : 1 ≤ hd ∧ hd ≤ 2) (hne : ¬ h = hd) (n0 : 0 ≤ nt ∧ nt ≤ 100) (e1 : rI σ δ (mo + 28) (ii (n + 1)) = some (ii t)) (e2 : rI σ δ (mo + 28) (ii (n + 2)) = some (ii r)) (e3 : rI σ δ (mo + 28) (ii (n + 3)) = some (ii h)) (e4 : rI σ δ (mo + 28) (ii (n + 4)) = some (ii o)) (rs : rI σ δ (mo + 1) (ii (422 + t)) = some (bi true)) (h14 : δ.1 mo 14 = ii made) (e9 : rI σ δ (mo + 9) (ii r) = some (ii hd)) (n2 : rI σ δ (mo + 1) (ii 121) = some (ii nt)) : m_X12_goActive σ mo (ii n) δ = if hd = 1 then (if 0 < o then m_X12_goActive_b152 σ mo (ii n) (ii t) (ii r) (ii h) (ii o) (ii 1) δ else m_X12_goActive_b152 σ mo (ii n) (ii t) (ii r) (ii h) (ii o) (ii 0) δ) else (if nt ≤ o then m_X12_goActive_b152 σ mo (ii n) (ii t) (ii r) (ii h) (ii o) (ii 1) δ else m_X12_goActive_b152 σ mo (ii n) (ii t) (ii r) (ii h) (ii o) (ii 0) δ) := by
  have g36 := mg36 hK
  have g0 := mg0 hK
  have g9 := mg9 hK
  have gk : ∀ k, gI σ δ 12 mo k = some (δ.1 mo k) := fun k => gI_ko hK.1
  clear hK
  unfold m_X12_goActive
  have l1 : (1 : Int32) = ii 1 := rfl
  have l2 : (2 : Int32) = ii 2 := rfl
  have l3 : (3 : Int32) = ii 3 := rfl
  have l4 : (4 : Int32) = ii 4 := rfl
  have l422 : (422 : Int32) = ii 422 := rfl
  have l121 : (121 : Int32) = ii 121 := rfl
  have l0 : (0 : Int32) = ii 0 := rfl
  rw [l1, l2, l3, l4, l422, l121, l0]
  simp only [g36, g0, g9, ob_some, ii_add, e1, e2, e3, e4, rs, gk, h14, e9, n2]
  rw [if_neg (show ¬ bi true = ii 0 by decide), if_neg (by rw [ii_eq (by omega) (by omega) (by omega) (by omega)]; omega), if_neg (by rw [ii_eq (by omega) (by omega) (by omega) (by omega)]; exact hne)]
  by_cases c : hd = 1
  · rw [if_pos c, if_pos (congrArg ii c)]
    by_cases co : 0 < o
    · rw [if_pos co, if_neg (by rw [ii_le (by omega) (by omega) (by omega) (by omega)]; omega)]
    · rw [if_neg co, if_pos (by rw [ii_le (by omega) (by omega) (by omega) (by omega)]; omega)]
  · rw [if_neg c, if_neg (by rw [ii_eq (by omega) (by omega) (by omega) (by omega)]; exact c)]
    by_cases co : nt ≤ o
    · rw [if_pos co, if_neg (by rw [ii_lt (by omega) (by omega) (by omega) (by omega)]; omega)]
    · rw [if_neg co, if_pos (by rw [ii_lt (by omega) (by omega) (by omega) (by omega)]; omega)]
theorem m_goActive (hK : KM σ mo) (hR : RRm δ mo made Rs) (hV : RVm δ mo Rs V) (hX : XV Rs made B V) (hB : B ≤ 1830) (hf0 : v_fl V = false) {t p j : Int} (hf : v_fr V = .inl (t, p) :: rest) (hJ : TopJ Rs δ mo (v_fr V) j) : Ok (m_X12_goActive σ mo (ii (12 * rest.length)) δ) (fun d => FM mo δ d ∧ Rnd Rs made B mo V j d) := by
  obtain ⟨x1, x2, x3, x4, x5⟩ := id hX
  obtain ⟨g1, g2, g3, g4, g5, g6, g7, g8⟩ := id x1
  have gn := g1.1
  have hlen : rest.length < 183 := by
    have := okF_len g6
    rw [hf, List.length_cons] at this
    rw [hf] at g7
    omega
  have hh : (v_hi V).length ≤ 1900 := by omega
  have hft : gFrm (v_S V) Rs made (.inl (t, p)) := g5 _ (by rw [hf]; exact List.mem_cons_self ..)
  obtain ⟨t0, p0, p1⟩ := hft
  have hp4 := x4 t p (by rw [hf]; exact List.mem_cons_self ..)
  rw [hf] at hJ
  obtain ⟨r, h, o, hp, ⟨r0, h0, h1, o0, o1, h2⟩, k2, k3, k4, hj⟩ := hJ
  have hfr := hV.2.2.1
  rw [hf] at hfr
  obtain ⟨⟨c0, c1, -⟩, hfr'⟩ := hfr
  obtain ⟨-, -, -, rs, -⟩ := m_t4 hK hV.1 g1 t0.1 t0.2
  have nn : (0 : Int) ≤ rest.length := by omega
  have e1 : rI σ δ (mo + 28) (ii (12 * (rest.length : Int) + 1)) = some (ii t) := rst (md36 hK) (by omega) (by omega) (by omega) c1
  have e2 : rI σ δ (mo + 28) (ii (12 * (rest.length : Int) + 2)) = some (ii r) := rst (md36 hK) (by omega) (by omega) (by omega) k2
  have e3 : rI σ δ (mo + 28) (ii (12 * (rest.length : Int) + 3)) = some (ii h) := rst (md36 hK) (by omega) (by omega) (by omega) k3
  have e4 : rI σ δ (mo + 28) (ii (12 * (rest.length : Int) + 4)) = some (ii o) := rst (md36 hK) (by omega) (by omega) (by omega) k4
  have hadv : adv V Rs made = advA V Rs made t p rest := by unfold adv; rw [hf]
  have hwf : ∀ q : Int, wFrs (.inl (t, q) :: rest) ≤ wFrs (v_fr V) := fun q => by rw [hf]; exact Int.le_refl _
  have h14 := hR.1
  -- nothing more can fire
  have pop : aEnd (v_S V) made t ≤ p → Ok (m_X12_goActive_b59 σ mo δ) (fun d => FM mo δ d ∧ Rnd Rs made B mo V j d) := by
    intro hle
    obtain ⟨d, e, q1, q2⟩ := m_goPop hK hV g1 (by omega) hf (by omega)
    refine ⟨d, e, q2, Or.inl ?_⟩
    rw [hadv]
    unfold advA aNext
    rw [show (aEnd (v_S V) made t - p).toNat = 0 by omega, if_pos (show fnd (fun z => (canF (v_S V) Rs (v_hi V) t z).isSome) 0 p = -1 from rfl)]
    exact q1
  cases hsd : s_sd (v_S V) t with
  | false =>
    rw [hsd] at rs
    obtain ⟨d, e, hd⟩ := pop (by unfold aEnd; rw [hsd, if_neg (by decide)]; exact p0)
    refine ⟨d, ?_, hd⟩
    rw [← e]
    have hz : bi false = ii 0 := rfl
    unfold m_X12_goActive
    simp (disch := omega) only [mg36 hK, mg0 hK, ob_some, ii_lit, ii_add, e1, e2, e3, e4, rs, hz, ↓reduceIte]
  | true =>
    rw [hsd] at rs
    have hae : aEnd (v_S V) made t = made * 200 := by unfold aEnd; rw [hsd, if_pos rfl]
    have hnz : ¬ (bi true = ii 0) := by decide
    have hrm : r ≤ made := by omega
    by_cases cr : r = made
    · obtain ⟨d, e, hd⟩ := pop (by rw [hae]; omega)
      refine ⟨d, ?_, hd⟩
      rw [← e]
      unfold m_X12_goActive
      simp (disch := omega) only [mg36 hK, mg0 hK, ob_some, ii_lit, ii_add, e1, e2, e3, e4, rs, hnz, ↓reduceIte, gI_ko hK.1, h14, cr]
    · have hGr := g4 r r0 (by omega)
      have hhd := hGr.1
      obtain ⟨a1, -⟩ := hR.2 r r0 (by omega)
      have e9 := rI_kd (σ := σ) (δ := δ) (md9 hK) r0 (show r < ((8 : Nat) : Int) by omega)
      rw [a1] at e9
      by_cases ch : h = l_hd (Rs r)
      · -- the next rule
        have hF : Fr (fun r => r = mo + 28) δ (u2 (u2 (u2 δ.1 (mo + 28) (12 * (rest.length : Int) + 2).toNat (ii (r + 1))) (mo + 28) (12 * (rest.length : Int) + 3).toNat (ii 0)) (mo + 28) (12 * (rest.length : Int) + 4).toNat (ii 0), δ.2) := fun x hx => ⟨by simp (disch := omega) only [u2_ne], rfl⟩
        obtain ⟨q1, q2, q3⟩ := m_place hV g1 (by omega) (q := 200 * (r + 1)) (r := r + 1) (h := 0) (o := 0) hf (by omega) ⟨by omega, by omega, by omega, by omega, by omega, Or.inl rfl⟩ hF (by simp (disch := omega) only [u2, if_neg, if_pos, true_and]) (by simp (disch := omega) only [u2, if_neg, if_pos, true_and]) (by simp (disch := omega) only [u2, if_neg, if_pos, true_and]) (fun k hk => by simp (disch := omega) only [u2, if_neg])
        refine ⟨_, ?_, q2, Or.inr ⟨.inl (t, 200 * (r + 1)), rest, _, q1, XV_place hX hf (by omega) (by omega), ?_, hwf _, q3, by omega, by omega⟩⟩
        · have w1' : wI σ δ (mo + 28) (ii (12 * (rest.length : Int) + 2)) (ii (r + 1)) = some (u2 δ.1 (mo + 28) (12 * (rest.length : Int) + 2).toNat (ii (r + 1)), δ.2) := wI_kd (md36 hK) (by omega) (by omega)
          have hnem : ¬ ii r = ii made := by rw [ii_eq (by omega) (by omega) (by omega) (by omega)]; exact cr
          unfold m_X12_goActive
          simp (disch := omega) only [mg36 hK, mg0 hK, mg9 hK, ob_some, ii_lit, ii_add, e1, e2, e3, e4, rs, hnz, ↓reduceIte, gI_ko hK.1, h14, hnem, e9, ch, wI_kd (md36 hK)]
        · refine advA_skip hX hf (by omega) (by rw [hae]; omega) (fun z z0 z1 => canF_h ?_)
          rw [show z / 200 = r by omega]
          omega
      · have hlt : h < l_hd (Rs r) := by
          rcases h2 with h2 | h2
          · omega
          · omega
        -- the next head
        have nxt : l_hd (Rs r) = 1 ∧ 0 < o ∨ ¬ l_hd (Rs r) = 1 ∧ s_nt (v_S V) ≤ o → Ok (m_X12_goActive_b152 σ mo (ii (12 * rest.length)) (ii t) (ii r) (ii h) (ii o) (ii 1) δ) (fun d => FM mo δ d ∧ Rnd Rs made B mo V j d) := by
          intro hov
          have hF : Fr (fun r => r = mo + 28) δ (u2 (u2 δ.1 (mo + 28) (12 * (rest.length : Int) + 3).toNat (ii (h + 1))) (mo + 28) (12 * (rest.length : Int) + 4).toNat (ii 0), δ.2) := fun x hx => ⟨by simp (disch := omega) only [u2_ne], rfl⟩
          obtain ⟨q1, q2, q3⟩ := m_place hV g1 (by omega) (q := 200 * r + 100 * (h + 1)) (r := r) (h := h + 1) (o := 0) hf (by omega) ⟨by omega, by omega, by omega, by omega, by omega, Or.inr (by omega)⟩ hF (by simp (disch := omega) only [u2, if_neg]; exact k2) (by simp (disch := omega) only [u2, if_neg, if_pos, true_and]) (by simp (disch := omega) only [u2, if_neg, if_pos, true_and]) (fun k hk => by simp (disch := omega) only [u2, if_neg])
          refine ⟨_, ?_, q2, Or.inr ⟨.inl (t, 200 * r + 100 * (h + 1)), rest, _, q1, XV_place hX hf (by omega) (by omega), ?_, hwf _, q3, by omega, by omega⟩⟩
          · unfold m_X12_goActive_b152
            simp (disch := omega) only [mg36 hK, ob_some, ii_lit, ii_eq, if_neg, ii_add, e3, wI_kd (md36 hK)]
          · refine advA_skip hX hf (by omega) (by rw [hae]; omega) (fun z z0 z1 => canF_b ?_)
            rw [show z / 200 = r by omega]
            split <;> omega
        -- one attempt
        have att : ¬ (l_hd (Rs r) = 1 ∧ 0 < o ∨ ¬ l_hd (Rs r) = 1 ∧ s_nt (v_S V) ≤ o) → Ok (m_X12_goActive_b152 σ mo (ii (12 * rest.length)) (ii t) (ii r) (ii h) (ii o) (ii 0) δ) (fun d => FM mo δ d ∧ Rnd Rs made B mo V j d) := by
          intro hov
          have ho100 : o < 100 := by omega
          have z1 : p / 200 = r := by omega
          have z2 : p / 100 % 2 = h := by omega
          have z3 : p % 100 = o := by omega
          have hF : Fr (fun r => r = mo + 28) δ (u2 δ.1 (mo + 28) (12 * (rest.length : Int) + 4).toNat (ii (o + 1)), δ.2) := Fr_u2 rfl
          obtain ⟨q1, q2, q3⟩ := m_place hV g1 (by omega) (q := p + 1) (r := r) (h := h) (o := o + 1) hf (by omega) ⟨by omega, by omega, by omega, by omega, by omega, h2⟩ hF (by simp (disch := omega) only [u2, if_neg]; exact k2) (by simp (disch := omega) only [u2, if_neg]; exact k3) (by simp (disch := omega) only [u2, if_neg, if_pos, true_and]) (fun k hk => by simp (disch := omega) only [u2, if_neg])
          have hX1 := XV_place hX hf (q := p + 1) (by omega) (by omega)
          have ew : wI σ δ (mo + 28) (ii (12 * (rest.length : Int) + 4)) (ii (o + 1)) = some (u2 δ.1 (mo + 28) (12 * (rest.length : Int) + 4).toNat (ii (o + 1)), δ.2) := wI_kd (md36 hK) (by omega) (by omega)
          generalize (u2 δ.1 (mo + 28) (12 * (rest.length : Int) + 4).toNat (ii (o + 1)), δ.2) = d1 at hF q1 q2 q3 ew
          have hR1 : RRm d1 mo made Rs := RRm_eq hR (by rw [(hF mo (by omega)).1]) (fun r a b => (hF r (by omega)).1)
          -- nothing fires here
          have none' : ∀ d : Dy, Fr (fun r => r = mo + 29) d1 d → canF (v_S V) Rs (v_hi V) t p = none → FM mo δ d ∧ Rnd Rs made B mo V j d := by
            intro d hFd hcn
            have hfm : FM mo d1 d := ⟨fun r hr => hFd r (by omega), fun k _ => by rw [(hFd mo (by omega)).1], fun k _ => by rw [(hFd (mo + 1) (by omega)).1]⟩
            have hVd : RVm d mo Rs (v_setfr V (.inl (t, p + 1) :: rest)) := by
              obtain ⟨s1, ⟨s2, s3, s4⟩, s5, s6, s7⟩ := q1
              exact ⟨RSm_eq s1 g1 (fun k _ => by rw [(hFd (mo + 1) (by omega)).1]), ⟨by rw [(hFd mo (by omega)).1]; exact s2, by rw [(hFd mo (by omega)).1]; exact s3, by rw [(hFd mo (by omega)).1]; exact s4⟩, RMfr_eq s5 (fun k _ => by rw [(hFd (mo + 28) (by omega)).1]), RMh_eq s6 (fun k _ _ => by rw [(hFd (mo + 1) (by omega)).1]) (by show (v_hi V).length ≤ 2000; omega), fun w hw => by rw [(hFd (mo + 1) (by omega)).1]; exact s7 w hw⟩
            refine ⟨q2.tr hfm, Or.inr ⟨.inl (t, p + 1), rest, (8 - r) * 1000 + (3 - h) * 200 + (101 - (o + 1)), hVd, hX1, ?_, hwf _, ?_, ?_, ?_⟩⟩
            · exact advA_skip hX hf (by omega) (by rw [hae]; omega) (fun z a b => by rw [show z = p by omega]; exact hcn)
            · obtain ⟨r', h', o', u1, u2', u3, u4, u5, u6⟩ := q3
              exact ⟨r', h', o', u1, u2', by rw [(hFd (mo + 28) (by omega)).1]; exact u3, by rw [(hFd (mo + 28) (by omega)).1]; exact u4, by rw [(hFd (mo + 28) (by omega)).1]; exact u5, u6⟩
            · omega
            · omega
          -- it fires, or not
          have can : ∀ one two : Int, 0 ≤ one → one < s_nt (v_S V) → s_sd (v_S V) one = true → ((l_hd (Rs r) < 2 ∧ two = -1) ∨ (¬ l_hd (Rs r) < 2 ∧ (0 ≤ two ∧ two < s_nt (v_S V)) ∧ s_sd (v_S V) two = true ∧ ¬ one = two)) → canF (v_S V) Rs (v_hi V) t p = canM (v_S V) (Rs r) r (v_hi V) one two → one = cOne (Rs r) h t o → two = cTwo (Rs r) h t o → Ok ((chk σ 12 mo).bind fun _ => (m_X12_canFire σ mo (ii r) (ii one) (ii two) d1).bind fun v34 => if v34.1 = 0 then some v34.2 else (chk σ 12 mo).bind fun _ => (m_X12_fire σ mo (ii r) (ii one) (ii two) v34.2).bind fun v35 => some v35) (fun d => FM mo δ d ∧ Rnd Rs made B mo V j d) := by
            intro one two oo0 oo1 hso htw hcf hc1 hc2
            have htw' : (l_hd (Rs r) < 2 ∧ two = -1) ∨ (¬ l_hd (Rs r) < 2 ∧ 0 ≤ two ∧ two < s_nt (v_S V)) := by
              rcases htw with h | ⟨h, h', -⟩
              · exact Or.inl h
              · exact Or.inr ⟨h, h'.1, h'.2⟩
            obtain ⟨⟨v, d2⟩, f1, f2, f3, f4⟩ := m_canFire (S := v_S V) (hi := v_hi V) hK hR1 g3.2 q1.1 g1 q1.2.2.2.1 hh g8 x2 r0 (by omega) hGr ⟨oo0, oo1⟩ htw'
            dsimp only at f2 f3 f4
            subst f2
            refine Ok_bind (chk_ko hK.1) (Ok_bind f1 ?_)
            dsimp only
            have f3' : ∀ bd, canF (v_S V) Rs (v_hi V) t p = some bd → RBm d2 mo bd := fun bd hbd => f3 bd (by rw [← hcf]; exact hbd)
            have hcf' : canM (v_S (v_setfr V (.inl (t, p + 1) :: rest))) (Rs r) r (v_hi (v_setfr V (.inl (t, p + 1) :: rest))) one two = canF (v_S V) Rs (v_hi V) t p := hcf.symm
            cases hcv : canF (v_S V) Rs (v_hi V) t p with
            | none =>
              have hcm : canM (v_S V) (Rs r) r (v_hi V) one two = none := by rw [← hcf]; exact hcv
              rw [hcm, if_pos (show bi (none : Option (Int → Int)).isSome = 0 from rfl)]
              exact ⟨d2, rfl, none' d2 f4 hcv⟩
            | some bd =>
              have hcm : canM (v_S V) (Rs r) r (v_hi V) one two = some bd := by rw [← hcf]; exact hcv
              rw [hcm, if_neg (show ¬ bi (some bd).isSome = 0 from (by decide : ¬ bi true = 0))]
              have hV2 : RVm d2 mo Rs (v_setfr V (.inl (t, p + 1) :: rest)) := by
                obtain ⟨s1, ⟨s2, s3, s4⟩, s5, s6, s7⟩ := q1
                exact ⟨RSm_eq s1 g1 (fun k _ => by rw [(f4 (mo + 1) (by omega)).1]), ⟨by rw [(f4 mo (by omega)).1]; exact s2, by rw [(f4 mo (by omega)).1]; exact s3, by rw [(f4 mo (by omega)).1]; exact s4⟩, RMfr_eq s5 (fun k _ => by rw [(f4 (mo + 28) (by omega)).1]), RMh_eq s6 (fun k _ _ => by rw [(f4 (mo + 1) (by omega)).1]) (by show (v_hi V).length ≤ 2000; omega), fun w hw => by rw [(f4 (mo + 1) (by omega)).1]; exact s7 w hw⟩
              have hR2 : RRm d2 mo made Rs := RRm_eq hR1 (by rw [(f4 mo (by omega)).1]) (fun r a b => (f4 r (by omega)).1)
              obtain ⟨D, eD, y1, y2⟩ := m_fire hK hR2 g3.2 hV2 hX1.1 r0 (by omega) oo0 oo1 hso htw hh (f3' bd hcv)
              have hfm : FM mo d1 d2 := ⟨fun r hr => f4 r (by omega), fun k _ => by rw [(f4 mo (by omega)).1], fun k _ => by rw [(f4 (mo + 1) (by omega)).1]⟩
              refine ⟨D, by rw [chk_ko hK.1, ob_some, eD, ob_some], (q2.tr hfm).tr y2, Or.inl ?_⟩
              have hnx : aNext V Rs made t p = p := fnd_at (by omega) (by show (canF (v_S V) Rs (v_hi V) t p).isSome = true; rw [hcv]; rfl)
              rw [hadv]
              unfold advA
              rw [hnx, if_neg (by omega), hcv, z1, z2, z3, ← hc1, ← hc2]
              exact y1
          unfold m_X12_goActive_b152
          have e9' : rI σ d1 (mo + 9) (ii r) = some (ii (l_hd (Rs r))) := by
            rw [rI_kd (md9 hK) r0 (by omega), (hF (mo + 9) (by omega)).1, a1]
          by_cases c1 : l_hd (Rs r) = 1
          · have hh0 : h = 0 := by omega
            have ho0 : o = 0 := by omega
            obtain ⟨X, eX, hX'⟩ := can t (-1) t0.1 t0.2 hsd (Or.inl ⟨by omega, rfl⟩) (by rw [canF_one (by rw [z1]; exact c1) (by rw [z2]; exact hh0) (by rw [z3]; exact ho0), z1]) (by unfold cOne; rw [if_pos hh0]) (by unfold cTwo; rw [if_pos hh0, if_neg (by omega)])
            refine ⟨X, ?_, hX'⟩
            rw [← eX]
            simp (disch := omega) only [mg36 hK, mg9 hK, ob_some, ii_lit, ii_neg, ↓reduceIte, ii_add, e4, ew, e9', c1]
          · have hc2 : l_hd (Rs r) = 2 := by omega
            have hont : o < s_nt (v_S V) := by omega
            have hcf2 := canF_two (S := v_S V) (Rs := Rs) (hi := v_hi V) (t := t) (p := p) (by rw [z1]; exact hc2) (by rw [z3]; exact hont)
            rw [z1, z2, z3] at hcf2
            by_cases cot : o = t
            · rw [if_neg (fun h => h.1 cot)] at hcf2
              refine ⟨d1, ?_, none' d1 Fr.rf hcf2⟩
              simp (disch := omega) only [mg36 hK, mg9 hK, ob_some, ii_lit, ii_add, e4, ew, e9', ii_eq, if_neg, if_pos, ↓reduceIte]
            · have hS1 : RSm d1 mo (v_S V) := q1.1
              have ro := (m_t4 hK hS1 g1 o0 hont).2.2.2.1
              cases hso : s_sd (v_S V) o with
              | false =>
                rw [hso] at ro hcf2
                rw [if_neg (fun h => by have := h.2; cases this)] at hcf2
                refine ⟨d1, ?_, none' d1 Fr.rf hcf2⟩
                have hb1 : ¬ (bi false = ii 1) := by decide
                simp (disch := omega) only [mg36 hK, mg9 hK, mg0 hK, ob_some, ii_lit, ↓reduceIte, ii_add, e4, ew, e9', ii_eq, if_neg, ro, hb1]
              | true =>
                rw [hso] at ro hcf2
                rw [if_pos ⟨cot, rfl⟩] at hcf2
                have hb1 : (bi true = ii 1) := rfl
                have c1' : cOne (Rs r) h t o = if h = 0 then t else o := by unfold cOne; rw [if_pos (show 2 ≤ l_hd (Rs r) by omega)]
                have c2' : cTwo (Rs r) h t o = if h = 0 then o else t := by unfold cTwo; rw [if_pos (show 2 ≤ l_hd (Rs r) by omega)]
                by_cases hh0 : h = 0
                · rw [if_pos hh0, if_pos hh0] at hcf2
                  obtain ⟨X, eX, hX'⟩ := can t o t0.1 t0.2 hsd (Or.inr ⟨by omega, ⟨o0, hont⟩, hso, fun h => cot h.symm⟩) hcf2 (by rw [c1', if_pos hh0]) (by rw [c2', if_pos hh0])
                  refine ⟨X, ?_, hX'⟩
                  rw [← eX]
                  simp (disch := omega) only [mg36 hK, mg9 hK, mg0 hK, ob_some, ii_lit, ↓reduceIte, ii_add, e4, ew, e9', ii_eq, if_neg, ro, hb1, hh0, m_X12_goActive_b255, m_X12_goActive_b268]
                · rw [if_neg hh0, if_neg hh0] at hcf2
                  obtain ⟨X, eX, hX'⟩ := can o t o0 hont hso (Or.inr ⟨by omega, t0, hsd, cot⟩) hcf2 (by rw [c1', if_neg hh0]) (by rw [c2', if_neg hh0])
                  refine ⟨X, ?_, hX'⟩
                  rw [← eX]
                  simp (disch := omega) only [mg36 hK, mg9 hK, mg0 hK, ob_some, ii_lit, ↓reduceIte, ii_add, e4, ew, e9', ii_eq, if_neg, ro, hb1, m_X12_goActive_b255, m_X12_goActive_b268]
        have n2 := (m_n hK hV.1).2
        rw [goA_pre hK (n := 12 * (rest.length : Int)) ⟨t0.1, by omega⟩ ⟨r0, by omega⟩ g3.2 ⟨h0, by omega⟩ ⟨o0, o1⟩ hhd ch ⟨gn.2.2.1, gn.2.2.2⟩ e1 e2 e3 e4 rs h14 e9 n2]
        by_cases c1 : l_hd (Rs r) = 1
        · rw [if_pos c1]
          by_cases co : 0 < o
          · rw [if_pos co]; exact nxt (Or.inl ⟨c1, co⟩)
          · rw [if_neg co]; exact att (by omega)
        · rw [if_neg c1]
          by_cases co : s_nt (v_S V) ≤ o
          · rw [if_pos co]; exact nxt (Or.inr ⟨c1, co⟩)
          · rw [if_neg co]; exact att (by omega)
end
