/-! THE START: the layout grows (made by geninit.py) -/
/-- from σ to σ' places were added, and only the object p got new parts -/
def Bx (σ σ' : St) (p : Nat) : Prop := sn σ ≤ sn σ' ∧ ∀ r, r < sn σ → skd σ' r = skd σ r ∧ sln σ' r = sln σ r ∧ (¬ r = p → ∀ k, srv σ' r k = srv σ r k)
theorem Bx.rf {σ : St} {p : Nat} : Bx σ σ p := ⟨Nat.le_refl _, fun r _ => ⟨rfl, rfl, fun _ _ => rfl⟩⟩
theorem Bx.tr {σ σ' σ'' : St} {p q : Nat} (h : Bx σ σ' p) (k : Bx σ' σ'' q) (hq : q = p ∨ sn σ ≤ q) : Bx σ σ'' p := by
  refine ⟨Nat.le_trans h.1 k.1, fun r hr => ?_⟩
  obtain ⟨a1, a2, a3⟩ := h.2 r hr
  obtain ⟨b1, b2, b3⟩ := k.2 r (Nat.lt_of_lt_of_le hr h.1)
  exact ⟨b1.trans a1, b2.trans a2, fun hp j => (b3 (by omega) j).trans (a3 hp j)⟩
theorem KO_bx {σ σ' : St} {p r c : Nat} (h : KO σ r c) (k : Bx σ σ' p) : KO σ' r c := ⟨Nat.lt_of_lt_of_le h.1 k.1, (k.2 r h.1).1.trans h.2⟩
theorem KD_bx {σ σ' : St} {p r t n : Nat} (h : KD σ r t n) (k : Bx σ σ' p) : KD σ' r t n := ⟨⟨Nat.lt_of_lt_of_le h.1.1 k.1, (k.2 r h.1.1).1.trans h.1.2⟩, (k.2 r h.1.1).2.1.trans h.2.1, h.2.2⟩
/-- new places are empty -/
def Zer (δ : Dy) (i : Nat) : Prop := ∀ k, δ.1 i k = 0 ∧ δ.2 i k = 0
theorem nwD_at {σ : St} {δ : Dy} : Zer (nwD σ δ) (sn σ) := fun k => ⟨by show (if sn σ = sn σ then (fun _ => (0 : Int32)) else δ.1 (sn σ)) k = 0; rw [if_pos rfl], by show (if sn σ = sn σ then (fun _ => (0 : Int64)) else δ.2 (sn σ)) k = 0; rw [if_pos rfl]⟩
theorem nwD_ne {σ : St} {δ : Dy} {i : Nat} (h : ¬ i = sn σ) : (nwD σ δ).1 i = δ.1 i ∧ (nwD σ δ).2 i = δ.2 i := ⟨if_neg h, if_neg h⟩
theorem Zer_eq {δ d : Dy} {i : Nat} (h : Zer δ i) (e : d.1 i = δ.1 i ∧ d.2 i = δ.2 i) : Zer d i := fun k => by rw [e.1, e.2]; exact h k
section
variable {σ : St} {δ : Dy} {p c k t : Nat}
theorem roB_big : 1200 < roB := by decide
theorem nO_ex (hr : sn σ < roB) : ∃ s, nwO σ c = some s ∧ sn s = sn σ + 1 ∧ KO s (sn σ) c ∧ ∀ q, Bx σ s q := by
  refine ⟨nwS σ c 0, if_pos hr, rfl, ⟨Nat.lt_succ_self _, if_pos rfl⟩, fun q => ⟨Nat.le_succ _, fun r h => ⟨if_neg (by omega), if_neg (by omega), fun _ j => ?_⟩⟩⟩
  show (if r = sn σ then (fun _ => none) else σ.2.2.1 r) j = _
  rw [if_neg (by omega)]
  rfl
theorem pR_ex {x : Nat} (hp : KO σ p c) (hx : x < sn σ) : ∃ s, pR σ c p k x = some s ∧ sn s = sn σ ∧ srv s p k = some x ∧ (∀ j, ¬ j = k → srv s p j = srv σ p j) ∧ Bx σ s p := by
  refine ⟨(σ.1, σ.2.1, u2 σ.2.2.1 p k (some x), σ.2.2.2), if_pos ⟨hp, hx⟩, rfl, ?_, fun j hj => ?_, Nat.le_refl _, fun r hr => ⟨rfl, rfl, fun hne j => ?_⟩⟩
  · show u2 σ.2.2.1 p k (some x) p k = _
    simp only [u2, and_self, ↓reduceIte]
  · show u2 σ.2.2.1 p k (some x) p j = _
    simp only [u2, hj, and_false, ↓reduceIte]
    rfl
  · show u2 σ.2.2.1 p k (some x) r j = _
    simp only [u2, hne, false_and, ↓reduceIte]
    rfl
/-- an array is made and becomes a part of p -/
theorem nA_ex {n N : Nat} {v : Int32} (hp : KO σ p c) (hr : sn σ < roB) (hv : v = ii n) (hn : n ≤ N) (hb : n ≤ 1000000) : ∃ s1 s2, nwA σ t v N = some s1 ∧ pR s1 c p k (sn σ) = some s2 ∧ sn s2 = sn σ + 1 ∧ KD s2 (sn σ) t n ∧ srv s2 p k = some (sn σ) ∧ (∀ j, ¬ j = k → srv s2 p j = srv σ p j) ∧ Bx σ s2 p := by
  have hc : (ii (n : Int)).toNatClampNeg = n := by rw [ii_nat (by omega) (by omega)]; omega
  have hneg : ¬ ii (n : Int) < 0 := by
    rw [show ((0 : Int32)) = ii 0 from rfl, ii_lt (by omega) (by omega) (by omega) (by omega)]
    omega
  have hsn : sn (nwS σ t n) = sn σ + 1 := rfl
  have hb1 : Bx σ (nwS σ t n) p := ⟨Nat.le_succ _, fun r h => ⟨if_neg (by omega), if_neg (by omega), fun _ j => by
    show (if r = sn σ then (fun _ => none) else σ.2.2.1 r) j = _
    rw [if_neg (by omega)]
    rfl⟩⟩
  have hsp : ∀ j, srv (nwS σ t n) p j = srv σ p j := fun j => by
    show (if p = sn σ then (fun _ => none) else σ.2.2.1 p) j = _
    rw [if_neg (by have := hp.1; omega)]
    rfl
  obtain ⟨s2, e2, q1, q2, q3, q4⟩ := pR_ex (σ := nwS σ t n) (k := k) (x := sn σ) (KO_bx hp hb1) (by rw [hsn]; omega)
  refine ⟨nwS σ t n, s2, ?_, e2, by rw [q1, hsn], ?_, q2, fun j hj => by rw [q3 j hj, hsp], hb1.tr q4 (Or.inl rfl)⟩
  · rw [hv]
    unfold nwA
    rw [hc, if_pos ⟨hr, hneg, hn⟩]
  · have hd : KD (nwS σ t n) (sn σ) t n := ⟨⟨Nat.lt_succ_self _, if_pos rfl⟩, if_pos rfl, hb⟩
    exact KD_bx hd q4
theorem i_X5 (hp : KO σ p 5) (hn : sn σ = p + 1) (hr : p < 1100) : ∃ s d, m_X5_init σ p δ = some (s, d) ∧ sn s = p + 7 ∧ KN s p ∧ Bx σ s p ∧ (∀ i, p < i → i < p + 7 → Zer d i) ∧ ∀ i, i ≤ p → d.1 i = δ.1 i ∧ d.2 i = δ.2 i := by
  have hro := roB_big
  obtain ⟨a0, s0, x0, y0, n0, D0, v0, o0, B0⟩ := nA_ex (σ := σ) (p := p) (c := 5) (k := 0) (t := 100) (n := 60) (N := 60) (v := (60 : Int32)) hp (by omega) rfl (Nat.le_refl _) (by omega)
  have h0 : KO s0 p 5 := KO_bx hp B0
  obtain ⟨a1, s1, x1, y1, n1, D1, v1, o1, B1⟩ := nA_ex (σ := s0) (p := p) (c := 5) (k := 1) (t := 100) (n := 60) (N := 60) (v := (60 : Int32)) h0 (by omega) rfl (Nat.le_refl _) (by omega)
  have h1 : KO s1 p 5 := KO_bx h0 B1
  obtain ⟨a2, s2, x2, y2, n2, D2, v2, o2, B2⟩ := nA_ex (σ := s1) (p := p) (c := 5) (k := 2) (t := 100) (n := 60) (N := 60) (v := (60 : Int32)) h1 (by omega) rfl (Nat.le_refl _) (by omega)
  have h2 : KO s2 p 5 := KO_bx h1 B2
  obtain ⟨a3, s3, x3, y3, n3, D3, v3, o3, B3⟩ := nA_ex (σ := s2) (p := p) (c := 5) (k := 3) (t := 100) (n := 60) (N := 60) (v := (60 : Int32)) h2 (by omega) rfl (Nat.le_refl _) (by omega)
  have h3 : KO s3 p 5 := KO_bx h2 B3
  obtain ⟨a4, s4, x4, y4, n4, D4, v4, o4, B4⟩ := nA_ex (σ := s3) (p := p) (c := 5) (k := 4) (t := 100) (n := 60) (N := 60) (v := (60 : Int32)) h3 (by omega) rfl (Nat.le_refl _) (by omega)
  have h4 : KO s4 p 5 := KO_bx h3 B4
  obtain ⟨a5, s5, x5, y5, n5, D5, v5, o5, B5⟩ := nA_ex (σ := s4) (p := p) (c := 5) (k := 5) (t := 100) (n := 60) (N := 60) (v := (60 : Int32)) h4 (by omega) rfl (Nat.le_refl _) (by omega)
  have h5 : KO s5 p 5 := KO_bx h4 B5
  have Z5 : Bx s5 s5 p := Bx.rf
  have Z4 : Bx s4 s5 p := B5.tr Z5 (Or.inl rfl)
  have Z3 : Bx s3 s5 p := B4.tr Z4 (Or.inl rfl)
  have Z2 : Bx s2 s5 p := B3.tr Z3 (Or.inl rfl)
  have Z1 : Bx s1 s5 p := B2.tr Z2 (Or.inl rfl)
  have Z0 : Bx s0 s5 p := B1.tr Z1 (Or.inl rfl)
  refine ⟨s5, (nwD s4 (nwD s3 (nwD s2 (nwD s1 (nwD s0 (nwD σ δ)))))), ?_, by omega, ?_, B0.tr Z0 (Or.inl rfl), fun i i0 i1 => ?_, fun i hi => ?_⟩
  · unfold m_X5_init
    simp only [x0, y0, x1, y1, x2, y2, x3, y3, x4, y4, x5, y5, ob_some]
  · exact ⟨h5, ⟨(by rw [o5 0 (by decide), o4 0 (by decide), o3 0 (by decide), o2 0 (by decide), o1 0 (by decide), v0]; exact congrArg some (by omega)), (by rw [o5 1 (by decide), o4 1 (by decide), o3 1 (by decide), o2 1 (by decide), v1]; exact congrArg some (by omega)), (by rw [o5 2 (by decide), o4 2 (by decide), o3 2 (by decide), v2]; exact congrArg some (by omega)), (by rw [o5 3 (by decide), o4 3 (by decide), v3]; exact congrArg some (by omega)), (by rw [o5 4 (by decide), v4]; exact congrArg some (by omega)), (by rw [v5]; exact congrArg some (by omega))⟩, (by have q := KD_bx D0 Z0; rw [show sn σ = p + 1 by omega] at q; exact q), (by have q := KD_bx D1 Z1; rw [show sn s0 = p + 2 by omega] at q; exact q), (by have q := KD_bx D2 Z2; rw [show sn s1 = p + 3 by omega] at q; exact q), (by have q := KD_bx D3 Z3; rw [show sn s2 = p + 4 by omega] at q; exact q), (by have q := KD_bx D4 Z4; rw [show sn s3 = p + 5 by omega] at q; exact q), (by have q := KD_bx D5 Z5; rw [show sn s4 = p + 6 by omega] at q; exact q)⟩
  · by_cases c0 : i = p + 1
    · have q : Zer (nwD σ δ) i := by rw [show i = sn σ by omega]; exact nwD_at
      have q := Zer_eq q (nwD_ne (σ := s0) (by omega))
      have q := Zer_eq q (nwD_ne (σ := s1) (by omega))
      have q := Zer_eq q (nwD_ne (σ := s2) (by omega))
      have q := Zer_eq q (nwD_ne (σ := s3) (by omega))
      have q := Zer_eq q (nwD_ne (σ := s4) (by omega))
      exact q
    by_cases c1 : i = p + 2
    · have q : Zer (nwD s0 (nwD σ δ)) i := by rw [show i = sn s0 by omega]; exact nwD_at
      have q := Zer_eq q (nwD_ne (σ := s1) (by omega))
      have q := Zer_eq q (nwD_ne (σ := s2) (by omega))
      have q := Zer_eq q (nwD_ne (σ := s3) (by omega))
      have q := Zer_eq q (nwD_ne (σ := s4) (by omega))
      exact q
    by_cases c2 : i = p + 3
    · have q : Zer (nwD s1 (nwD s0 (nwD σ δ))) i := by rw [show i = sn s1 by omega]; exact nwD_at
      have q := Zer_eq q (nwD_ne (σ := s2) (by omega))
      have q := Zer_eq q (nwD_ne (σ := s3) (by omega))
      have q := Zer_eq q (nwD_ne (σ := s4) (by omega))
      exact q
    by_cases c3 : i = p + 4
    · have q : Zer (nwD s2 (nwD s1 (nwD s0 (nwD σ δ)))) i := by rw [show i = sn s2 by omega]; exact nwD_at
      have q := Zer_eq q (nwD_ne (σ := s3) (by omega))
      have q := Zer_eq q (nwD_ne (σ := s4) (by omega))
      exact q
    by_cases c4 : i = p + 5
    · have q : Zer (nwD s3 (nwD s2 (nwD s1 (nwD s0 (nwD σ δ))))) i := by rw [show i = sn s3 by omega]; exact nwD_at
      have q := Zer_eq q (nwD_ne (σ := s4) (by omega))
      exact q
    by_cases c5 : i = p + 6
    · have q : Zer (nwD s4 (nwD s3 (nwD s2 (nwD s1 (nwD s0 (nwD σ δ)))))) i := by rw [show i = sn s4 by omega]; exact nwD_at
      exact q
    omega
  · refine ⟨?_, ?_⟩
    · rw [(nwD_ne (σ := s4) (by omega)).1, (nwD_ne (σ := s3) (by omega)).1, (nwD_ne (σ := s2) (by omega)).1, (nwD_ne (σ := s1) (by omega)).1, (nwD_ne (σ := s0) (by omega)).1, (nwD_ne (σ := σ) (by omega)).1]
    · rw [(nwD_ne (σ := s4) (by omega)).2, (nwD_ne (σ := s3) (by omega)).2, (nwD_ne (σ := s2) (by omega)).2, (nwD_ne (σ := s1) (by omega)).2, (nwD_ne (σ := s0) (by omega)).2, (nwD_ne (σ := σ) (by omega)).2]
theorem i_X8 (hp : KO σ p 8) (hn : sn σ = p + 1) (hr : p < 1100) : ∃ s d, m_X8_init σ p δ = some (s, d) ∧ sn s = p + 10 ∧ KS s p ∧ Bx σ s p ∧ (∀ i, p < i → i < p + 10 → Zer d i) ∧ ∀ i, i ≤ p → d.1 i = δ.1 i ∧ d.2 i = δ.2 i := by
  have hro := roB_big
  obtain ⟨a0, s0, x0, y0, n0, D0, v0, o0, B0⟩ := nA_ex (σ := σ) (p := p) (c := 8) (k := 0) (t := 100) (n := 60) (N := 60) (v := (60 : Int32)) hp (by omega) rfl (Nat.le_refl _) (by omega)
  have h0 : KO s0 p 8 := KO_bx hp B0
  obtain ⟨a1, s1, x1, y1, n1, D1, v1, o1, B1⟩ := nA_ex (σ := s0) (p := p) (c := 8) (k := 1) (t := 100) (n := 60) (N := 60) (v := (60 : Int32)) h0 (by omega) rfl (Nat.le_refl _) (by omega)
  have h1 : KO s1 p 8 := KO_bx h0 B1
  obtain ⟨a2, s2, x2, y2, n2, D2, v2, o2, B2⟩ := nA_ex (σ := s1) (p := p) (c := 8) (k := 3) (t := 100) (n := 100) (N := 100) (v := (100 : Int32)) h1 (by omega) rfl (Nat.le_refl _) (by omega)
  have h2 : KO s2 p 8 := KO_bx h1 B2
  obtain ⟨a3, s3, x3, y3, n3, D3, v3, o3, B3⟩ := nA_ex (σ := s2) (p := p) (c := 8) (k := 4) (t := 100) (n := 100) (N := 100) (v := (100 : Int32)) h2 (by omega) rfl (Nat.le_refl _) (by omega)
  have h3 : KO s3 p 8 := KO_bx h2 B3
  obtain ⟨a4, s4, x4, y4, n4, D4, v4, o4, B4⟩ := nA_ex (σ := s3) (p := p) (c := 8) (k := 5) (t := 100) (n := 100) (N := 100) (v := (100 : Int32)) h3 (by omega) rfl (Nat.le_refl _) (by omega)
  have h4 : KO s4 p 8 := KO_bx h3 B4
  obtain ⟨a5, s5, x5, y5, n5, D5, v5, o5, B5⟩ := nA_ex (σ := s4) (p := p) (c := 8) (k := 6) (t := 101) (n := 100) (N := 100) (v := (100 : Int32)) h4 (by omega) rfl (Nat.le_refl _) (by omega)
  have h5 : KO s5 p 8 := KO_bx h4 B5
  obtain ⟨a6, s6, x6, y6, n6, D6, v6, o6, B6⟩ := nA_ex (σ := s5) (p := p) (c := 8) (k := 7) (t := 101) (n := 100) (N := 100) (v := (100 : Int32)) h5 (by omega) rfl (Nat.le_refl _) (by omega)
  have h6 : KO s6 p 8 := KO_bx h5 B6
  obtain ⟨a7, s7, x7, y7, n7, D7, v7, o7, B7⟩ := nA_ex (σ := s6) (p := p) (c := 8) (k := 8) (t := 102) (n := 100) (N := 100) (v := (100 : Int32)) h6 (by omega) rfl (Nat.le_refl _) (by omega)
  have h7 : KO s7 p 8 := KO_bx h6 B7
  obtain ⟨a8, s8, x8, y8, n8, D8, v8, o8, B8⟩ := nA_ex (σ := s7) (p := p) (c := 8) (k := 9) (t := 102) (n := 100) (N := 100) (v := (100 : Int32)) h7 (by omega) rfl (Nat.le_refl _) (by omega)
  have h8 : KO s8 p 8 := KO_bx h7 B8
  have Z8 : Bx s8 s8 p := Bx.rf
  have Z7 : Bx s7 s8 p := B8.tr Z8 (Or.inl rfl)
  have Z6 : Bx s6 s8 p := B7.tr Z7 (Or.inl rfl)
  have Z5 : Bx s5 s8 p := B6.tr Z6 (Or.inl rfl)
  have Z4 : Bx s4 s8 p := B5.tr Z5 (Or.inl rfl)
  have Z3 : Bx s3 s8 p := B4.tr Z4 (Or.inl rfl)
  have Z2 : Bx s2 s8 p := B3.tr Z3 (Or.inl rfl)
  have Z1 : Bx s1 s8 p := B2.tr Z2 (Or.inl rfl)
  have Z0 : Bx s0 s8 p := B1.tr Z1 (Or.inl rfl)
  refine ⟨s8, (nwD s7 (nwD s6 (nwD s5 (nwD s4 (nwD s3 (nwD s2 (nwD s1 (nwD s0 (nwD σ δ))))))))), ?_, by omega, ?_, B0.tr Z0 (Or.inl rfl), fun i i0 i1 => ?_, fun i hi => ?_⟩
  · unfold m_X8_init
    simp only [x0, y0, x1, y1, x2, y2, x3, y3, x4, y4, x5, y5, x6, y6, x7, y7, x8, y8, ob_some]
  · exact ⟨h8, ⟨(by rw [o8 0 (by decide), o7 0 (by decide), o6 0 (by decide), o5 0 (by decide), o4 0 (by decide), o3 0 (by decide), o2 0 (by decide), o1 0 (by decide), v0]; exact congrArg some (by omega)), (by rw [o8 1 (by decide), o7 1 (by decide), o6 1 (by decide), o5 1 (by decide), o4 1 (by decide), o3 1 (by decide), o2 1 (by decide), v1]; exact congrArg some (by omega)), (by rw [o8 3 (by decide), o7 3 (by decide), o6 3 (by decide), o5 3 (by decide), o4 3 (by decide), o3 3 (by decide), v2]; exact congrArg some (by omega)), (by rw [o8 4 (by decide), o7 4 (by decide), o6 4 (by decide), o5 4 (by decide), o4 4 (by decide), v3]; exact congrArg some (by omega)), (by rw [o8 5 (by decide), o7 5 (by decide), o6 5 (by decide), o5 5 (by decide), v4]; exact congrArg some (by omega)), (by rw [o8 6 (by decide), o7 6 (by decide), o6 6 (by decide), v5]; exact congrArg some (by omega)), (by rw [o8 7 (by decide), o7 7 (by decide), v6]; exact congrArg some (by omega)), (by rw [o8 8 (by decide), v7]; exact congrArg some (by omega)), (by rw [v8]; exact congrArg some (by omega))⟩, (by have q := KD_bx D0 Z0; rw [show sn σ = p + 1 by omega] at q; exact q), (by have q := KD_bx D1 Z1; rw [show sn s0 = p + 2 by omega] at q; exact q), (by have q := KD_bx D2 Z2; rw [show sn s1 = p + 3 by omega] at q; exact q), (by have q := KD_bx D3 Z3; rw [show sn s2 = p + 4 by omega] at q; exact q), (by have q := KD_bx D4 Z4; rw [show sn s3 = p + 5 by omega] at q; exact q), (by have q := KD_bx D5 Z5; rw [show sn s4 = p + 6 by omega] at q; exact q), (by have q := KD_bx D6 Z6; rw [show sn s5 = p + 7 by omega] at q; exact q), (by have q := KD_bx D7 Z7; rw [show sn s6 = p + 8 by omega] at q; exact q), (by have q := KD_bx D8 Z8; rw [show sn s7 = p + 9 by omega] at q; exact q)⟩
  · by_cases c0 : i = p + 1
    · have q : Zer (nwD σ δ) i := by rw [show i = sn σ by omega]; exact nwD_at
      have q := Zer_eq q (nwD_ne (σ := s0) (by omega))
      have q := Zer_eq q (nwD_ne (σ := s1) (by omega))
      have q := Zer_eq q (nwD_ne (σ := s2) (by omega))
      have q := Zer_eq q (nwD_ne (σ := s3) (by omega))
      have q := Zer_eq q (nwD_ne (σ := s4) (by omega))
      have q := Zer_eq q (nwD_ne (σ := s5) (by omega))
      have q := Zer_eq q (nwD_ne (σ := s6) (by omega))
      have q := Zer_eq q (nwD_ne (σ := s7) (by omega))
      exact q
    by_cases c1 : i = p + 2
    · have q : Zer (nwD s0 (nwD σ δ)) i := by rw [show i = sn s0 by omega]; exact nwD_at
      have q := Zer_eq q (nwD_ne (σ := s1) (by omega))
      have q := Zer_eq q (nwD_ne (σ := s2) (by omega))
      have q := Zer_eq q (nwD_ne (σ := s3) (by omega))
      have q := Zer_eq q (nwD_ne (σ := s4) (by omega))
      have q := Zer_eq q (nwD_ne (σ := s5) (by omega))
      have q := Zer_eq q (nwD_ne (σ := s6) (by omega))
      have q := Zer_eq q (nwD_ne (σ := s7) (by omega))
      exact q
    by_cases c2 : i = p + 3
    · have q : Zer (nwD s1 (nwD s0 (nwD σ δ))) i := by rw [show i = sn s1 by omega]; exact nwD_at
      have q := Zer_eq q (nwD_ne (σ := s2) (by omega))
      have q := Zer_eq q (nwD_ne (σ := s3) (by omega))
      have q := Zer_eq q (nwD_ne (σ := s4) (by omega))
      have q := Zer_eq q (nwD_ne (σ := s5) (by omega))
      have q := Zer_eq q (nwD_ne (σ := s6) (by omega))
      have q := Zer_eq q (nwD_ne (σ := s7) (by omega))
      exact q
    by_cases c3 : i = p + 4
    · have q : Zer (nwD s2 (nwD s1 (nwD s0 (nwD σ δ)))) i := by rw [show i = sn s2 by omega]; exact nwD_at
      have q := Zer_eq q (nwD_ne (σ := s3) (by omega))
      have q := Zer_eq q (nwD_ne (σ := s4) (by omega))
      have q := Zer_eq q (nwD_ne (σ := s5) (by omega))
      have q := Zer_eq q (nwD_ne (σ := s6) (by omega))
      have q := Zer_eq q (nwD_ne (σ := s7) (by omega))
      exact q
    by_cases c4 : i = p + 5
    · have q : Zer (nwD s3 (nwD s2 (nwD s1 (nwD s0 (nwD σ δ))))) i := by rw [show i = sn s3 by omega]; exact nwD_at
      have q := Zer_eq q (nwD_ne (σ := s4) (by omega))
      have q := Zer_eq q (nwD_ne (σ := s5) (by omega))
      have q := Zer_eq q (nwD_ne (σ := s6) (by omega))
      have q := Zer_eq q (nwD_ne (σ := s7) (by omega))
      exact q
    by_cases c5 : i = p + 6
    · have q : Zer (nwD s4 (nwD s3 (nwD s2 (nwD s1 (nwD s0 (nwD σ δ)))))) i := by rw [show i = sn s4 by omega]; exact nwD_at
      have q := Zer_eq q (nwD_ne (σ := s5) (by omega))
      have q := Zer_eq q (nwD_ne (σ := s6) (by omega))
      have q := Zer_eq q (nwD_ne (σ := s7) (by omega))
      exact q
    by_cases c6 : i = p + 7
    · have q : Zer (nwD s5 (nwD s4 (nwD s3 (nwD s2 (nwD s1 (nwD s0 (nwD σ δ))))))) i := by rw [show i = sn s5 by omega]; exact nwD_at
      have q := Zer_eq q (nwD_ne (σ := s6) (by omega))
      have q := Zer_eq q (nwD_ne (σ := s7) (by omega))
      exact q
    by_cases c7 : i = p + 8
    · have q : Zer (nwD s6 (nwD s5 (nwD s4 (nwD s3 (nwD s2 (nwD s1 (nwD s0 (nwD σ δ)))))))) i := by rw [show i = sn s6 by omega]; exact nwD_at
      have q := Zer_eq q (nwD_ne (σ := s7) (by omega))
      exact q
    by_cases c8 : i = p + 9
    · have q : Zer (nwD s7 (nwD s6 (nwD s5 (nwD s4 (nwD s3 (nwD s2 (nwD s1 (nwD s0 (nwD σ δ))))))))) i := by rw [show i = sn s7 by omega]; exact nwD_at
      exact q
    omega
  · refine ⟨?_, ?_⟩
    · rw [(nwD_ne (σ := s7) (by omega)).1, (nwD_ne (σ := s6) (by omega)).1, (nwD_ne (σ := s5) (by omega)).1, (nwD_ne (σ := s4) (by omega)).1, (nwD_ne (σ := s3) (by omega)).1, (nwD_ne (σ := s2) (by omega)).1, (nwD_ne (σ := s1) (by omega)).1, (nwD_ne (σ := s0) (by omega)).1, (nwD_ne (σ := σ) (by omega)).1]
    · rw [(nwD_ne (σ := s7) (by omega)).2, (nwD_ne (σ := s6) (by omega)).2, (nwD_ne (σ := s5) (by omega)).2, (nwD_ne (σ := s4) (by omega)).2, (nwD_ne (σ := s3) (by omega)).2, (nwD_ne (σ := s2) (by omega)).2, (nwD_ne (σ := s1) (by omega)).2, (nwD_ne (σ := s0) (by omega)).2, (nwD_ne (σ := σ) (by omega)).2]
theorem i_X7 (hp : KO σ p 7) (hn : sn σ = p + 1) (hr : p < 1100) : ∃ s d, m_X7_init σ p δ = some (s, d) ∧ sn s = p + 6 ∧ KRu s p ∧ Bx σ s p ∧ (∀ i, p < i → i < p + 6 → Zer d i) ∧ ∀ i, i ≤ p → d.1 i = δ.1 i ∧ d.2 i = δ.2 i := by
  have hro := roB_big
  obtain ⟨a0, s0, x0, y0, n0, D0, v0, o0, B0⟩ := nA_ex (σ := σ) (p := p) (c := 7) (k := 0) (t := 100) (n := 2) (N := 2) (v := (2 : Int32)) hp (by omega) rfl (Nat.le_refl _) (by omega)
  have h0 : KO s0 p 7 := KO_bx hp B0
  obtain ⟨a1, s1, x1, y1, n1, D1, v1, o1, B1⟩ := nA_ex (σ := s0) (p := p) (c := 7) (k := 1) (t := 100) (n := 4) (N := 4) (v := (4 : Int32)) h0 (by omega) rfl (Nat.le_refl _) (by omega)
  have h1 : KO s1 p 7 := KO_bx h0 B1
  obtain ⟨a2, s2, x2, y2, n2, D2, v2, o2, B2⟩ := nA_ex (σ := s1) (p := p) (c := 7) (k := 2) (t := 101) (n := 2) (N := 2) (v := (2 : Int32)) h1 (by omega) rfl (Nat.le_refl _) (by omega)
  have h2 : KO s2 p 7 := KO_bx h1 B2
  obtain ⟨a3, s3, x3, y3, n3, D3, v3, o3, B3⟩ := nA_ex (σ := s2) (p := p) (c := 7) (k := 3) (t := 100) (n := 2) (N := 2) (v := (2 : Int32)) h2 (by omega) rfl (Nat.le_refl _) (by omega)
  have h3 : KO s3 p 7 := KO_bx h2 B3
  obtain ⟨a4, s4, x4, y4, n4, D4, v4, o4, B4⟩ := nA_ex (σ := s3) (p := p) (c := 7) (k := 4) (t := 100) (n := 4) (N := 4) (v := (4 : Int32)) h3 (by omega) rfl (Nat.le_refl _) (by omega)
  have h4 : KO s4 p 7 := KO_bx h3 B4
  have Z4 : Bx s4 s4 p := Bx.rf
  have Z3 : Bx s3 s4 p := B4.tr Z4 (Or.inl rfl)
  have Z2 : Bx s2 s4 p := B3.tr Z3 (Or.inl rfl)
  have Z1 : Bx s1 s4 p := B2.tr Z2 (Or.inl rfl)
  have Z0 : Bx s0 s4 p := B1.tr Z1 (Or.inl rfl)
  refine ⟨s4, (nwD s3 (nwD s2 (nwD s1 (nwD s0 (nwD σ δ))))), ?_, by omega, ?_, B0.tr Z0 (Or.inl rfl), fun i i0 i1 => ?_, fun i hi => ?_⟩
  · unfold m_X7_init
    simp only [x0, y0, x1, y1, x2, y2, x3, y3, x4, y4, ob_some]
  · exact ⟨h4, ⟨(by rw [o4 0 (by decide), o3 0 (by decide), o2 0 (by decide), o1 0 (by decide), v0]; exact congrArg some (by omega)), (by rw [o4 1 (by decide), o3 1 (by decide), o2 1 (by decide), v1]; exact congrArg some (by omega)), (by rw [o4 2 (by decide), o3 2 (by decide), v2]; exact congrArg some (by omega)), (by rw [o4 3 (by decide), v3]; exact congrArg some (by omega)), (by rw [v4]; exact congrArg some (by omega))⟩, (by have q := KD_bx D0 Z0; rw [show sn σ = p + 1 by omega] at q; exact q), (by have q := KD_bx D1 Z1; rw [show sn s0 = p + 2 by omega] at q; exact q), (by have q := KD_bx D2 Z2; rw [show sn s1 = p + 3 by omega] at q; exact q), (by have q := KD_bx D3 Z3; rw [show sn s2 = p + 4 by omega] at q; exact q), (by have q := KD_bx D4 Z4; rw [show sn s3 = p + 5 by omega] at q; exact q)⟩
  · by_cases c0 : i = p + 1
    · have q : Zer (nwD σ δ) i := by rw [show i = sn σ by omega]; exact nwD_at
      have q := Zer_eq q (nwD_ne (σ := s0) (by omega))
      have q := Zer_eq q (nwD_ne (σ := s1) (by omega))
      have q := Zer_eq q (nwD_ne (σ := s2) (by omega))
      have q := Zer_eq q (nwD_ne (σ := s3) (by omega))
      exact q
    by_cases c1 : i = p + 2
    · have q : Zer (nwD s0 (nwD σ δ)) i := by rw [show i = sn s0 by omega]; exact nwD_at
      have q := Zer_eq q (nwD_ne (σ := s1) (by omega))
      have q := Zer_eq q (nwD_ne (σ := s2) (by omega))
      have q := Zer_eq q (nwD_ne (σ := s3) (by omega))
      exact q
    by_cases c2 : i = p + 3
    · have q : Zer (nwD s1 (nwD s0 (nwD σ δ))) i := by rw [show i = sn s1 by omega]; exact nwD_at
      have q := Zer_eq q (nwD_ne (σ := s2) (by omega))
      have q := Zer_eq q (nwD_ne (σ := s3) (by omega))
      exact q
    by_cases c3 : i = p + 4
    · have q : Zer (nwD s2 (nwD s1 (nwD s0 (nwD σ δ)))) i := by rw [show i = sn s2 by omega]; exact nwD_at
      have q := Zer_eq q (nwD_ne (σ := s3) (by omega))
      exact q
    by_cases c4 : i = p + 5
    · have q : Zer (nwD s3 (nwD s2 (nwD s1 (nwD s0 (nwD σ δ))))) i := by rw [show i = sn s3 by omega]; exact nwD_at
      exact q
    omega
  · refine ⟨?_, ?_⟩
    · rw [(nwD_ne (σ := s3) (by omega)).1, (nwD_ne (σ := s2) (by omega)).1, (nwD_ne (σ := s1) (by omega)).1, (nwD_ne (σ := s0) (by omega)).1, (nwD_ne (σ := σ) (by omega)).1]
    · rw [(nwD_ne (σ := s3) (by omega)).2, (nwD_ne (σ := s2) (by omega)).2, (nwD_ne (σ := s1) (by omega)).2, (nwD_ne (σ := s0) (by omega)).2, (nwD_ne (σ := σ) (by omega)).2]
theorem i_X9 (hp : KO σ p 9) (hn : sn σ = p + 1) (hr : p < 1100) : ∃ s d, m_X9_init σ p δ = some (s, d) ∧ sn s = p + 4 ∧ (KO s p 9 ∧ (srv s p 0 = some (p + 1) ∧ srv s p 1 = some (p + 2) ∧ srv s p 4 = some (p + 3)) ∧ KD s (p + 1) 100 61 ∧ KD s (p + 2) 100 61 ∧ KD s (p + 3) 100 1296) ∧ Bx σ s p ∧ (∀ i, p < i → i < p + 4 → Zer d i) ∧ ∀ i, i ≤ p → d.1 i = δ.1 i ∧ d.2 i = δ.2 i := by
  have hro := roB_big
  obtain ⟨a0, s0, x0, y0, n0, D0, v0, o0, B0⟩ := nA_ex (σ := σ) (p := p) (c := 9) (k := 0) (t := 100) (n := 61) (N := 61) (v := (61 : Int32)) hp (by omega) rfl (Nat.le_refl _) (by omega)
  have h0 : KO s0 p 9 := KO_bx hp B0
  obtain ⟨a1, s1, x1, y1, n1, D1, v1, o1, B1⟩ := nA_ex (σ := s0) (p := p) (c := 9) (k := 1) (t := 100) (n := 61) (N := 61) (v := (61 : Int32)) h0 (by omega) rfl (Nat.le_refl _) (by omega)
  have h1 : KO s1 p 9 := KO_bx h0 B1
  obtain ⟨a2, s2, x2, y2, n2, D2, v2, o2, B2⟩ := nA_ex (σ := s1) (p := p) (c := 9) (k := 4) (t := 100) (n := 1296) (N := 1296) (v := (1296 : Int32)) h1 (by omega) rfl (Nat.le_refl _) (by omega)
  have h2 : KO s2 p 9 := KO_bx h1 B2
  have Z2 : Bx s2 s2 p := Bx.rf
  have Z1 : Bx s1 s2 p := B2.tr Z2 (Or.inl rfl)
  have Z0 : Bx s0 s2 p := B1.tr Z1 (Or.inl rfl)
  refine ⟨s2, (nwD s1 (nwD s0 (nwD σ δ))), ?_, by omega, ?_, B0.tr Z0 (Or.inl rfl), fun i i0 i1 => ?_, fun i hi => ?_⟩
  · unfold m_X9_init
    simp only [x0, y0, x1, y1, x2, y2, ob_some]
  · exact ⟨h2, ⟨(by rw [o2 0 (by decide), o1 0 (by decide), v0]; exact congrArg some (by omega)), (by rw [o2 1 (by decide), v1]; exact congrArg some (by omega)), (by rw [v2]; exact congrArg some (by omega))⟩, (by have q := KD_bx D0 Z0; rw [show sn σ = p + 1 by omega] at q; exact q), (by have q := KD_bx D1 Z1; rw [show sn s0 = p + 2 by omega] at q; exact q), (by have q := KD_bx D2 Z2; rw [show sn s1 = p + 3 by omega] at q; exact q)⟩
  · by_cases c0 : i = p + 1
    · have q : Zer (nwD σ δ) i := by rw [show i = sn σ by omega]; exact nwD_at
      have q := Zer_eq q (nwD_ne (σ := s0) (by omega))
      have q := Zer_eq q (nwD_ne (σ := s1) (by omega))
      exact q
    by_cases c1 : i = p + 2
    · have q : Zer (nwD s0 (nwD σ δ)) i := by rw [show i = sn s0 by omega]; exact nwD_at
      have q := Zer_eq q (nwD_ne (σ := s1) (by omega))
      exact q
    by_cases c2 : i = p + 3
    · have q : Zer (nwD s1 (nwD s0 (nwD σ δ))) i := by rw [show i = sn s1 by omega]; exact nwD_at
      exact q
    omega
  · refine ⟨?_, ?_⟩
    · rw [(nwD_ne (σ := s1) (by omega)).1, (nwD_ne (σ := s0) (by omega)).1, (nwD_ne (σ := σ) (by omega)).1]
    · rw [(nwD_ne (σ := s1) (by omega)).2, (nwD_ne (σ := s0) (by omega)).2, (nwD_ne (σ := σ) (by omega)).2]
theorem i_X3 (hp : KO σ p 3) (hn : sn σ = p + 1) (hr : p < 1100) : ∃ s d, m_X3_init σ p δ = some (s, d) ∧ sn s = p + 2 ∧ (KO s p 3 ∧ srv s p 0 = some (p + 1) ∧ KD s (p + 1) 100 4) ∧ Bx σ s p ∧ (∀ i, p < i → i < p + 2 → Zer d i) ∧ ∀ i, i ≤ p → d.1 i = δ.1 i ∧ d.2 i = δ.2 i := by
  have hro := roB_big
  obtain ⟨a0, s0, x0, y0, n0, D0, v0, o0, B0⟩ := nA_ex (σ := σ) (p := p) (c := 3) (k := 0) (t := 100) (n := 4) (N := 4) (v := (4 : Int32)) hp (by omega) rfl (Nat.le_refl _) (by omega)
  have h0 : KO s0 p 3 := KO_bx hp B0
  have Z0 : Bx s0 s0 p := Bx.rf
  refine ⟨s0, (nwD σ δ), ?_, by omega, ?_, B0.tr Z0 (Or.inl rfl), fun i i0 i1 => ?_, fun i hi => ?_⟩
  · unfold m_X3_init
    simp only [x0, y0, ob_some]
  · exact ⟨h0, (by rw [v0]; exact congrArg some (by omega)), (by have q := KD_bx D0 Z0; rw [show sn σ = p + 1 by omega] at q; exact q)⟩
  · by_cases c0 : i = p + 1
    · have q : Zer (nwD σ δ) i := by rw [show i = sn σ by omega]; exact nwD_at
      exact q
    omega
  · refine ⟨?_, ?_⟩
    · rw [(nwD_ne (σ := σ) (by omega)).1]
    · rw [(nwD_ne (σ := σ) (by omega)).2]
theorem i_X0 (hp : KO σ p 0) (hn : sn σ = p + 1) (hr : p < 1100) : ∃ s d, m_X0_init σ p δ = some (s, d) ∧ sn s = p + 2 ∧ KA s p ∧ Bx σ s p ∧ (∀ i, p < i → i < p + 2 → Zer d i) ∧ ∀ i, i ≤ p → d.1 i = δ.1 i ∧ d.2 i = δ.2 i := by
  have hro := roB_big
  obtain ⟨a0, s0, x0, y0, n0, D0, v0, o0, B0⟩ := nA_ex (σ := σ) (p := p) (c := 0) (k := 0) (t := 100) (n := 4) (N := 4) (v := (4 : Int32)) hp (by omega) rfl (Nat.le_refl _) (by omega)
  have h0 : KO s0 p 0 := KO_bx hp B0
  have Z0 : Bx s0 s0 p := Bx.rf
  refine ⟨s0, (nwD σ δ), ?_, by omega, ?_, B0.tr Z0 (Or.inl rfl), fun i i0 i1 => ?_, fun i hi => ?_⟩
  · unfold m_X0_init
    simp only [x0, y0, ob_some]
  · exact ⟨h0, (by rw [v0]; exact congrArg some (by omega)), (by have q := KD_bx D0 Z0; rw [show sn σ = p + 1 by omega] at q; exact q)⟩
  · by_cases c0 : i = p + 1
    · have q : Zer (nwD σ δ) i := by rw [show i = sn σ by omega]; exact nwD_at
      exact q
    omega
  · refine ⟨?_, ?_⟩
    · rw [(nwD_ne (σ := σ) (by omega)).1]
    · rw [(nwD_ne (σ := σ) (by omega)).2]
end
