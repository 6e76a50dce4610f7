/-! town on both sides: the good text -/
section T14
variable {S M N O : zS} {n k t : Nat}
theorem twn_2 {e j : Nat} {b : Int32} (h : j < 21) : twnF N e b 2 j = N 5 j := by
  show updU (N 2) (N 5) 21 j = N 5 j
  rw [updU_v, if_pos h]
theorem twn_4 {e j : Nat} {b : Int32} (h : j < 24) : twnF N e b 4 j = N 7 j := by
  show updU (N 4) (N 7) 24 j = N 7 j
  rw [updU_v, if_pos h]
theorem twn_3 {e j : Nat} {b : Int32} (h : j < 42) : twnF N e b 3 j = N 6 j := by
  show updU (N 3) (N 6) 42 j = N 6 j
  rw [updU_v, if_pos h]
theorem twn_80 {e j : Nat} {b : Int32} (h : j < 13) : twnF N e b 8 j = 0 := by
  show updU (N 8) (nwV (twn1 N e b)) 55 j = 0
  rw [updU_v, if_pos (by omega)]
  exact if_pos h
theorem twn_81 {e j : Nat} {b : Int32} (h : j < 42) : twnF N e b 8 (13 + j) = N 6 j := by
  show updU (N 8) (nwV (twn1 N e b)) 55 (13 + j) = N 6 j
  rw [updU_v, if_pos (by omega)]
  unfold nwV
  rw [if_neg (by omega), show 13 + j - 13 = j by omega]
  show updU (N 3) (N 6) 42 j = N 6 j
  rw [updU_v, if_pos h]
theorem tnS_26 {X : zS} {j : Nat} (h : j < 42) : tnS X 26 j = X 7 j := by
  show (if j < 42 then cpR 42 (X 7) (X 18) j else _) = _
  rw [if_pos h]
  exact if_pos h
theorem tnS_260 {X : zS} {j : Nat} (h : 42 ≤ j) (h2 : j < 55) : tnS X 26 j = 0 := by
  show (if j < 42 then _ else updU (X 26) (fun _ => 0) 55 j) = _
  rw [if_neg (by omega), updU_v, if_pos h2]
theorem town_good (C : relC S M n k) (fm : fmC S O) (F : frM M N) {e : Nat} {b na : Int32} {T : Nat → Int32} (hL : (twL T t).1 = .inl e) (D : dfC T t O (twL T t).2.1 (twL T t).2.2) (E : dfP T t N (twL T t).2.1 (twL T t).2.2)
    (d0 : O 3 0 = twB T t) (d1 : O 3 1 = twJ T t) (d2 : O 3 2 = twY T t) (e1 : N 0 11 = twJ T t) (e2 : N 0 12 = twY T t) :
    relC (tnS (twX O (.inl e) b na)) (twnF N e (twB T t)) (twL T t).2.1.length (twL T t).2.2.length ∧ okY (twnF N e (twB T t)) := by
  obtain ⟨⟨j6, hj6, ej6⟩, ⟨y, hy, ey⟩⟩ := tw_rng hL
  generalize (twL T t).2.1 = ms at *
  generalize (twL T t).2.2 = xs at *
  obtain ⟨D1, D2, D3, D4, D5, D6⟩ := D
  obtain ⟨E1, E2, E3, E4, E5, E6⟩ := E
  have m4 : twnF N e (twB T t) 0 4 = N 0 11 := rfl
  have m5 : twnF N e (twB T t) 0 5 = N 0 12 := rfl
  have m6 : twnF N e (twB T t) 0 6 = N 0 13 := rfl
  have m7 : twnF N e (twB T t) 0 7 = N 0 14 := rfl
  have m3 : twnF N e (twB T t) 0 3 = twB T t := rfl
  have m24 : twnF N e (twB T t) 0 24 = N 0 24 := rfl
  have m20 : twnF N e (twB T t) 0 20 = 0 := rfl
  have m26 : twnF N e (twB T t) 0 26 = 0 := rfl
  have m28 : twnF N e (twB T t) 0 28 = 0 := rfl
  have m1 : twnF N e (twB T t) 0 1 = 0 := rfl
  have m2' : twnF N e (twB T t) 0 2 = -1 := rfl
  have m120 : twnF N e (twB T t) 12 0 = 0 := rfl
  have m121 : twnF N e (twB T t) 12 1 = 0 := rfl
  have m2 : ∀ j, j < 21 → twnF N e (twB T t) 2 j = N 5 j := fun j hj => twn_2 hj
  have mm4 : ∀ j, j < 24 → twnF N e (twB T t) 4 j = N 7 j := fun j hj => twn_4 hj
  have mm3 : ∀ j, j < 42 → twnF N e (twB T t) 3 j = N 6 j := fun j hj => twn_3 hj
  have m80 : ∀ j, j < 13 → twnF N e (twB T t) 8 j = 0 := fun j hj => twn_80 hj
  have m81 : ∀ j, j < 42 → twnF N e (twB T t) 8 (13 + j) = N 6 j := fun j hj => twn_81 hj
  have s14 : ∀ j, j < 5 → tnS (twX O (.inl e) b na) 14 j = O 3 j := fun j hj => by
    match j, hj with
    | 0, _ => rfl
    | 1, _ => rfl
    | 2, _ => rfl
    | 3, _ => rfl
    | 4, _ => rfl
  have s15 : ∀ j, j < 7 → tnS (twX O (.inl e) b na) 15 j = O 4 j := fun j hj => if_pos hj
  have s16 : ∀ j, j < 7 → tnS (twX O (.inl e) b na) 16 j = O 5 j := fun j hj => if_pos hj
  have s17 : ∀ j, j < 7 → tnS (twX O (.inl e) b na) 17 j = O 6 j := fun j hj => if_pos hj
  have s18 : ∀ j, j < 42 → tnS (twX O (.inl e) b na) 18 j = O 7 j := fun j hj => if_pos hj
  have s19 : ∀ j, j < 4 → tnS (twX O (.inl e) b na) 19 j = O 8 j := fun j hj => if_pos hj
  have s20 : ∀ j, j < 4 → tnS (twX O (.inl e) b na) 20 j = O 9 j := fun j hj => if_pos hj
  have s21 : ∀ j, j < 4 → tnS (twX O (.inl e) b na) 21 j = O 10 j := fun j hj => if_pos hj
  have s22 : ∀ j, j < 4 → tnS (twX O (.inl e) b na) 22 j = O 11 j := fun j hj => if_pos hj
  have s23 : ∀ j, j < 4 → tnS (twX O (.inl e) b na) 23 j = O 12 j := fun j hj => if_pos hj
  have s24 : ∀ j, j < 4 → tnS (twX O (.inl e) b na) 24 j = O 13 j := fun j hj => if_pos hj
  have s26 : ∀ j, j < 42 → tnS (twX O (.inl e) b na) 26 j = O 7 j := fun j hj => tnS_26 hj
  have s260 : ∀ j, 42 ≤ j → j < 55 → tnS (twX O (.inl e) b na) 26 j = 0 := fun j h1 h2 => tnS_260 h1 h2
  have s11 : tnS (twX O (.inl e) b na) 1 1 = 0 := rfl
  have s010 : tnS (twX O (.inl e) b na) 0 10 = -1 := rfl
  have s011 : tnS (twX O (.inl e) b na) 0 11 = O 0 11 := rfl
  have s713 : tnS (twX O (.inl e) b na) 71 3 = 0 := rfl
  have s716 : tnS (twX O (.inl e) b na) 71 6 = 0 := rfl
  have s772 : tnS (twX O (.inl e) b na) 77 2 = 0 := rfl
  have s792 : tnS (twX O (.inl e) b na) 79 2 = 0 := rfl
  have s392 : tnS (twX O (.inl e) b na) 39 2 = 0 := rfl
  have s391 : tnS (twX O (.inl e) b na) 39 1 = O 39 1 := rfl
  generalize twnF N e (twB T t) = M' at *
  generalize tnS (twX O (.inl e) b na) = S' at *
  have rw6 : ∀ m, m < ms.length → ∀ h, h < 6 → N 6 (6 * m + h) = -1 ∨ ∃ p, p < 6 ∧ N 6 (6 * m + h) = nI p := by
    intro m hm h hh
    obtain ⟨⟨e0, g0⟩, -, -, -, g4⟩ := E5 m hm
    obtain ⟨-, -, -, r⟩ := man_rng g0
    rw [g4 h hh]
    exact rw_rng (r h hh)
  refine ⟨⟨⟨?_, ?_, ?_, ?_, ?_⟩, ?_, ?_, ?_, ?_, ?_, ?_, ?_⟩, ?_⟩
  · refine ⟨E3, E4, m6.trans E1, m7.trans E2, ⟨j6, hj6, m4.trans (e1.trans ej6)⟩, fun m hm => ?_, fun x hx => ?_⟩
    · obtain ⟨⟨e0, g0⟩, g1, g2, g3, -⟩ := E5 m hm
      obtain ⟨⟨a0, a1, a2⟩, ⟨b0, b1, b2⟩, ⟨c0, c1, c2, c3⟩, -⟩ := man_rng g0
      rw [m2 _ (by omega), m2 _ (by omega), m2 _ (by omega), g1, g2, g3]
      exact ⟨⟨a0, a1, a2⟩, ⟨b0, b1, b2⟩, ⟨c0, c1, c2, c3⟩⟩
    · obtain ⟨⟨e0, g0⟩, g1, g2, g3, g4, g5, g6⟩ := E6 x hx
      have r := mis_rng (by omega) g0
      rw [mm4 _ (by omega), mm4 _ (by omega), mm4 _ (by omega), mm4 _ (by omega), mm4 _ (by omega), mm4 _ (by omega), g1, g2, g3, g4, g5, g6]
      exact r
  · intro x hx
    obtain ⟨⟨e0, g0⟩, g1, g2, g3, g4, g5, g6⟩ := E6 x hx
    obtain ⟨-, -, -, -, ⟨p, p1, p2, p3⟩, -⟩ := mis_rng (by omega) g0
    refine ⟨p, 0, 0, p, by decide, ?_, rfl, ?_, by omega, p2⟩
    · rw [m80 _ (by omega)]; rfl
    · rw [mm4 _ (by omega), g5]; exact p3
  · refine ⟨fun m hm => ⟨0, by decide, ?_⟩, fun m hm h hh => ?_⟩
    · rw [m80 _ (by omega)]; rfl
    · rw [show 13 + 6 * m + h = 13 + (6 * m + h) by omega, m81 _ (by omega)]
      exact rw6 m hm h hh
  · refine ⟨(s14 3 (by decide)).trans D1, (s14 4 (by decide)).trans D2, (s14 0 (by decide)).trans (d0.trans m3.symm), ?_, ?_, fun m hm => ?_, fun x hx => ?_⟩
    · rw [s14 1 (by decide), d1, m4, e1]
    · rw [s14 2 (by decide), d2, m5, e2]
    · obtain ⟨-, g1, g2, g3, g4⟩ := E5 m hm
      obtain ⟨-, f1, f2, f3, f4⟩ := D5 m hm
      refine ⟨?_, ?_, ?_, fun h hh => ?_⟩
      · rw [s15 _ (by omega), m2 _ (by omega), f1, g1]
      · rw [s16 _ (by omega), m2 _ (by omega), f2, g2]
      · rw [s17 _ (by omega), m2 _ (by omega), f3, g3]
      · rw [s18 _ (by omega), mm3 _ (by omega), f4 h hh, g4 h hh]
    · obtain ⟨-, g1, g2, g3, g4, g5, g6⟩ := E6 x hx
      obtain ⟨-, f1, f2, f3, f4, f5, f6⟩ := D6 x hx
      rw [s19 _ (by omega), s20 _ (by omega), s21 _ (by omega), s22 _ (by omega), s23 _ (by omega), s24 _ (by omega), mm4 _ (by omega), mm4 _ (by omega), mm4 _ (by omega), mm4 _ (by omega), mm4 _ (by omega), mm4 _ (by omega), f1, f2, f3, f4, f5, f6, g1, g2, g3, g4, g5, g6]
      exact ⟨rfl, rfl, rfl, rfl, rfl, rfl⟩
  · refine ⟨fun m hm h hh => ?_, fun m hm => ?_, fun x hx => ?_, ?_, ?_⟩
    · obtain ⟨-, -, -, -, g4⟩ := E5 m hm
      obtain ⟨-, -, -, -, f4⟩ := D5 m hm
      rw [s26 _ (by omega), show 13 + 6 * m + h = 13 + (6 * m + h) by omega, m81 _ (by omega), f4 h hh, g4 h hh]
    · rw [s260 _ (by omega) (by omega), m80 _ (by omega)]
    · rw [s260 _ (by omega) (by omega), m80 _ (by omega)]
    · rw [s260 _ (by omega) (by omega), m80 _ (by omega)]
    · rw [s260 _ (by omega) (by omega), m80 _ (by omega)]
  · exact ⟨0, 0, by decide, by decide, m26, s713, m28, s716, fun j hj => absurd hj (by omega), fun j hj => absurd hj (by omega)⟩
  · exact ⟨0, by decide, s11, m1, fun j hj => absurd hj (by omega)⟩
  · exact ⟨s772.trans m120.symm, s792.trans m121.symm, fun h => absurd m120 h, fun h => absurd m121 h⟩
  · obtain ⟨-, -, -, -, ⟨de, nx, h1, h2, h3, h4, h5, -⟩, -, -, -⟩ := C
    refine ⟨0, nx, by decide, h2, m20, s392, ?_, fun x hx => absurd hx (by omega)⟩
    rw [s391, fm 39 (by decide) (by decide) (Or.inr (by decide))]; exact h5
  · rw [s010, m2']
  · rw [s011, m24, fm 0 (by decide) (by decide) (Or.inl (by decide)), F.2 24 (by decide) (by decide) (by decide) (by decide)]
    exact C.2.2.2.2.2.2.1
  · intro m hm h hh
    rw [mm3 _ (by omega)]
    exact rw6 m hm h hh
  · exact ⟨y, hy, m5.trans (e2.trans ey)⟩
/-- town on both sides -/
theorem town_rel (C : relC S M n k) (Y : okY M) (T0 : ∀ j, j < t → ∃ c, c < 256 ∧ M 1 j = nI c) {v v' : Option Value} {σ σ' : List va_E} (hc : tcQ S (M 1) t v σ) (hm : tnQ M t v' σ') : v' = v ∧ ∃ S' M' n' k', σ = encC S' ∧ σ' = encM M' ∧ relC S' M' n' k' ∧ okY M' := by
  obtain ⟨O, b, na, fm, h⟩ := hc
  cases h with
  | inl h =>
    obtain ⟨p, hp, rfl, rfl⟩ := h
    obtain ⟨N, rfl, rfl, F⟩ := hm.2 p hp
    refine ⟨rfl, _, _, n, k, rfl, rfl, town_bad C fm F, ?_⟩
    obtain ⟨y, y1, y2⟩ := Y
    exact ⟨y, y1, (F.2 5 (by decide) (by decide) (by decide) (by decide)).trans y2⟩
  | inr h =>
    obtain ⟨e, he, rfl, rfl, d1, d2, d3, d4⟩ := h
    obtain ⟨N, rfl, rfl, F, E, e1, e2⟩ := hm.1 e he
    obtain ⟨g1, g2⟩ := town_good C fm F he d1 E d2 d3 d4 e1 e2 (b := b) (na := na)
    exact ⟨by rw [d1.1, E.1], _, _, _, _, rfl, rfl, g1, g2⟩
end T14
