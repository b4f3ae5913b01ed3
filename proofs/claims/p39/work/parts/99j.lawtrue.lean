/-! THE LAW IS TRUE -/
section
variable {σ : St} {δ : Dy} {N : Nat} {xs : Nat → Int32}
def E01 : Ev := newE E00 2 0 200 201 (-1) (-1)
def E02 : Ev := newE E01 2 1 200 201 (-1) (-1)
def E03 : Ev := newE E02 0 0 1 2 (-1) (-1)
def E04 : Ev := newE E03 3 0 0 0 2 2
def E05 : Ev := newE E04 2 2 200 201 (-1) (-1)
def E06 : Ev := newE E05 4 10 200 (if (10 : Int) = 3 then 0 else 201) 4 (-1)
theorem Nds06 : Nds E06 := ⟨rfl, ⟨rfl, rfl, rfl, rfl⟩, ⟨rfl, rfl, rfl, rfl⟩, ⟨rfl, rfl, rfl⟩, ⟨rfl, rfl, rfl⟩, ⟨rfl, rfl, rfl, rfl⟩, rfl, rfl, rfl, rfl, rfl⟩
theorem gs200 : gTm 200 ∧ gTm 201 := ⟨Or.inr ⟨by decide, by decide⟩, Or.inr ⟨by decide, by decide⟩⟩
theorem PN_0 : PN (upE (fun _ => 0)) 7 = 1 ∧ PN (dnE (fun _ => 0)) 7 = 1 := by decide +kernel
theorem Q0_0 : Q0 (mkvar S00) ((0 : Nat) - 1 : Int) 0 0 := ⟨rfl, ⟨rfl, rfl⟩, rfl, Int.le_refl _, rfl, fun t t0 t1 => by omega⟩
theorem law_b8 (hN : N ≤ 260) (h : CoA σ δ 0 E00 I0 []) : Ok (m_law_b8 xs N σ 0 δ) (fun _ => True) := by
  have hT := h.t.1
  obtain ⟨D0, e0, h0⟩ := A_variable h (by omega) (by decide) rfl
  obtain ⟨D1, e1, h1⟩ := A_token h0 (s := 0) (p := 200) (q := 201) (by omega) (by omega) (by omega) (by omega) gs200 (by decide)
  obtain ⟨D2, e2, h2⟩ := A_token h1 (s := 1) (p := 200) (q := 201) (by omega) (by omega) (by omega) (by omega) gs200 (by decide)
  obtain ⟨D3, e3, h3⟩ := A_equate h2 (p := 1) (q := 2) (by omega) (by omega) ⟨Or.inl ⟨by decide, by decide⟩, Or.inl ⟨by decide, by decide⟩⟩ (by decide)
  obtain ⟨D4, e4, h4⟩ := A_both h3 (p := 2) (q := 2) (by omega) (by omega) ⟨by decide, by decide⟩ ⟨by decide, by decide⟩ (by decide)
  obtain ⟨D5, e5, h5⟩ := A_token h4 (s := 2) (p := 200) (q := 201) (by omega) (by omega) (by omega) (by omega) gs200 (by decide)
  obtain ⟨D6, e6, h6⟩ := A_when h5 (c := 10) (a := 200) (b := 201) (p := 4) (by omega) (by omega) (by omega) (by omega) ⟨by decide, by decide⟩ ⟨Or.inr ⟨by decide, by decide⟩, gs200⟩ (by decide)
  have e0' : m_X11_variable σ 0 δ = some (.inl (ii 0), D0) := e0
  have e1' : m_X11_token σ 0 (0 : Int32) (200 : Int32) (201 : Int32) (1 : Int32) D0 = some (.inl (ii 0), D1) := e1
  have e2' : m_X11_token σ 0 (1 : Int32) (200 : Int32) (201 : Int32) (1 : Int32) D1 = some (.inl (ii 1), D2) := e2
  have e3' : m_X11_equate σ 0 (1 : Int32) (2 : Int32) D2 = some (.inl (ii 2), D3) := e3
  have e4' : m_X11_both σ 0 (ii 2) (ii 2) D3 = some (.inl (ii 3), D4) := e4
  have e5' : m_X11_token σ 0 (2 : Int32) (200 : Int32) (201 : Int32) (1 : Int32) D4 = some (.inl (ii 4), D5) := e5
  have e6' : m_X11_when σ 0 (10 : Int32) (200 : Int32) (201 : Int32) (ii 4) D5 = some (.inl (ii 5), D6) := e6
  have h6' : CoA σ D6 1 E06 ((mkvar S00, [], [], fun _ => 0, 0, false), 1, fun _ => 0, fun _ => 0, [], 0, 0) ([] ++ [(0, 0, 0, 0)]) := h6
  unfold m_law_b8
  rw [chk_ko hT.1, ob_some, e0', ob_some]
  dsimp only
  rw [xok_l, ob_some, e1', ob_some]
  dsimp only
  rw [xok_l, ob_some, e2', ob_some]
  dsimp only
  rw [xok_l, ob_some, e3', ob_some]
  dsimp only
  rw [xok_l, ob_some, e4', ob_some]
  dsimp only
  rw [xok_l, ob_some, e5', ob_some]
  dsimp only
  rw [xok_l, ob_some, e6', ob_some]
  dsimp only
  rw [xok_l]
  refine law_loop hN ⟨0, E06, mkvar S00, [], fun _ => 0, 0, 1, fun _ => 0, fun _ => 0, 0, 0, [] ++ [(0, 0, 0, 0)], by omega, ?_, h6', Nds06, ⟨by decide, by decide⟩, Q0_0, by decide, by rw [PN_0.1]; decide, by rw [PN_0.2]; decide, by decide, by decide⟩
  rw [PN_0.1, PN_0.2]
  rfl
theorem law_true {L : Nat} (xs : Nat → Int32) (hL : L ≤ 260) : m_law xs L σE δE = some () := by
  have hro := roB_big
  have n0 : sn σE = 0 := rfl
  obtain ⟨s1, x1, n1, k1, -⟩ := nO_ex (σ := σE) (c := 11) (by omega)
  rw [n0] at n1 k1
  obtain ⟨s2, d2, x2, n2, kT, r68, r554, df, zz, z16⟩ := i_X11 (δ := nwD σE δE) k1 n1 nwD_at
  have hA : CoA s2 d2 0 E00 I0 [] := fun F hF => ⟨kT, Good00 hF, RT00 hF r68 r554 df (fun k => (zz k).1) z16, Nat.le_refl _, fun _ => ((fun _ => -1), 0, I0), rfl, fun j e he => (by have h' : (none : Option Jn) = some e := he; cases h'), by
    show ((fun _ => -1), (0 : Int), I0) = (e_df F, e_md F, I0)
    rw [E00_df hF, E00_md hF]⟩
  obtain ⟨u, e, -⟩ := law_b8 (xs := xs) hL hA
  unfold m_law
  rw [x1, ob_some, n0, x2, ob_some]
  exact e
end
