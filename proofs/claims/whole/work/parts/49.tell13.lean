/-! town on both sides: the good text -/
section T14
variable {S M N O : zS} {n k t : Nat}
theorem twn_2 {e j : Nat} {b : Int32} (h : j < 21) : twnF N e b 2 j = N 5 j := by
  show updU (N 2) (N 5) 21 j = N 5 j
  rw [updU_v, if_pos h]
theorem twn_4 {e j : Nat} {b : Int32} (h : j < 24) : twnF N e b 4 j = N 7 j := by
  show updU (N 4) (N 7) 24 j = N 7 j
  rw [updU_v, if_pos h]
theorem twn_3 {e j : Nat} {b : Int32} (h : j < 42) : twnF N e b 3 j = N 6 j := by
  show updU (N 3) (N 6) 42 j = N 6 j
  rw [updU_v, if_pos h]
theorem twn_80 {e j : Nat} {b : Int32} (h : j < 13) : twnF N e b 8 j = 0 := by
  show updU (N 8) (nwV (twn1 N e b)) 55 j = 0
  rw [updU_v, if_pos (by omega)]
  exact if_pos h
theorem twn_81 {e j : Nat} {b : Int32} (h : j < 42) : twnF N e b 8 (13 + j) = N 6 j := by
  show updU (N 8) (nwV (twn1 N e b)) 55 (13 + j) = N 6 j
  rw [updU_v, if_pos (by omega)]
  unfold nwV
  rw [if_neg (by omega), show 13 + j - 13 = j by omega]
  show updU (N 3) (N 6) 42 j = N 6 j
  rw [updU_v, if_pos h]
theorem tnS_26 {X : zS} {j : Nat} (h : j < 42) : tnS X 26 j = X 7 j := by
  show (if j < 42 then cpR 42 (X 7) (X 18) j else _) = _
  rw [if_pos h]
  exact if_pos h
theorem tnS_260 {X : zS} {j : Nat} (h : 42 ≤ j) (h2 : j < 55) : tnS X 26 j = 0 := by
  show (if j < 42 then _ else updU (X 26) (fun _ => 0) 55 j) = _
  rw [if_neg (by omega), updU_v, if_pos h2]
theorem tnS_15 {X : zS} {j : Nat} (h : j < 7) : tnS X 15 j = X 4 j := by
  show cpR 7 (X 4) (X 15) j = _
  exact if_pos h
theorem tnS_16 {X : zS} {j : Nat} (h : j < 7) : tnS X 16 j = X 5 j := by
  show cpR 7 (X 5) (X 16) j = _
  exact if_pos h
theorem tnS_17 {X : zS} {j : Nat} (h : j < 7) : tnS X 17 j = X 6 j := by
  show cpR 7 (X 6) (X 17) j = _
  exact if_pos h
theorem tnS_18 {X : zS} {j : Nat} (h : j < 42) : tnS X 18 j = X 7 j := by
  show cpR 42 (X 7) (X 18) j = _
  exact if_pos h
theorem tnS_19 {X : zS} {j : Nat} (h : j < 4) : tnS X 19 j = X 8 j := by
  show cpR 4 (X 8) (X 19) j = _
  exact if_pos h
theorem tnS_20 {X : zS} {j : Nat} (h : j < 4) : tnS X 20 j = X 9 j := by
  show cpR 4 (X 9) (X 20) j = _
  exact if_pos h
theorem tnS_21 {X : zS} {j : Nat} (h : j < 4) : tnS X 21 j = X 10 j := by
  show cpR 4 (X 10) (X 21) j = _
  exact if_pos h
theorem tnS_22 {X : zS} {j : Nat} (h : j < 4) : tnS X 22 j = X 11 j := by
  show cpR 4 (X 11) (X 22) j = _
  exact if_pos h
theorem tnS_23 {X : zS} {j : Nat} (h : j < 4) : tnS X 23 j = X 12 j := by
  show cpR 4 (X 12) (X 23) j = _
  exact if_pos h
theorem tnS_24 {X : zS} {j : Nat} (h : j < 4) : tnS X 24 j = X 13 j := by
  show cpR 4 (X 13) (X 24) j = _
  exact if_pos h
theorem tnS_14 {X : zS} {j : Nat} (h : j < 5) : tnS X 14 j = X 3 j := by
  match j, h with
  | 0, _ => rfl
  | 1, _ => rfl
  | 2, _ => rfl
  | 3, _ => rfl
  | 4, _ => rfl
theorem tnS_1_1 {X : zS} : tnS X 1 1 = X 1 1 := rfl
theorem tnS_0_10 {X : zS} : tnS X 0 10 = X 0 10 := rfl
theorem tnS_0_11 {X : zS} : tnS X 0 11 = X 0 11 := rfl
theorem tnS_71_3 {X : zS} : tnS X 71 3 = 0 := rfl
theorem tnS_71_6 {X : zS} : tnS X 71 6 = 0 := rfl
theorem tnS_77_2 {X : zS} : tnS X 77 2 = 0 := rfl
theorem tnS_79_2 {X : zS} : tnS X 79 2 = 0 := rfl
theorem tnS_39_2 {X : zS} : tnS X 39 2 = 0 := rfl
theorem tnS_39_1 {X : zS} : tnS X 39 1 = X 39 1 := rfl
theorem twn_0_1 {e : Nat} {b : Int32} : twnF N e b 0 1 = 0 := rfl
theorem twn_0_2 {e : Nat} {b : Int32} : twnF N e b 0 2 = -1 := rfl
theorem twn_0_3 {e : Nat} {b : Int32} : twnF N e b 0 3 = b := rfl
theorem twn_0_4 {e : Nat} {b : Int32} : twnF N e b 0 4 = N 0 11 := rfl
theorem twn_0_5 {e : Nat} {b : Int32} : twnF N e b 0 5 = N 0 12 := rfl
theorem twn_0_6 {e : Nat} {b : Int32} : twnF N e b 0 6 = N 0 13 := rfl
theorem twn_0_7 {e : Nat} {b : Int32} : twnF N e b 0 7 = N 0 14 := rfl
theorem twn_0_24 {e : Nat} {b : Int32} : twnF N e b 0 24 = N 0 24 := rfl
theorem twn_0_20 {e : Nat} {b : Int32} : twnF N e b 0 20 = 0 := rfl
theorem twn_0_26 {e : Nat} {b : Int32} : twnF N e b 0 26 = 0 := rfl
theorem twn_0_28 {e : Nat} {b : Int32} : twnF N e b 0 28 = 0 := rfl
theorem twn_12_0 {e : Nat} {b : Int32} : twnF N e b 12 0 = 0 := rfl
theorem twn_12_1 {e : Nat} {b : Int32} : twnF N e b 12 1 = 0 := rfl
theorem town_good (C : relC S M n k) (fm : fmC S O) (F : frM M N) {e : Nat} {b na : Int32} {T : Nat → Int32} (hL : (twL T t).1 = .inl e) (D : dfC T t O (twL T t).2.1 (twL T t).2.2) (E : dfP T t N (twL T t).2.1 (twL T t).2.2)
    (d0 : O 3 0 = twB T t) (d1 : O 3 1 = twJ T t) (d2 : O 3 2 = twY T t) (e1 : N 0 11 = twJ T t) (e2 : N 0 12 = twY T t) :
    relC (tnS (twX O (.inl e) b na)) (twnF N e (twB T t)) (twL T t).2.1.length (twL T t).2.2.length ∧ okY (twnF N e (twB T t)) := by
  obtain ⟨⟨j6, hj6, ej6⟩, ⟨y, hy, ey⟩⟩ := tw_rng hL
  generalize (twL T t).2.1 = ms at *
  generalize (twL T t).2.2 = xs at *
  obtain ⟨D1, D2, D3, D4, D5, D6⟩ := D
  obtain ⟨E1, E2, E3, E4, E5, E6⟩ := E
  have m4 := twn_0_4 (N := N) (e := e) (b := twB T t)
  have m5 := twn_0_5 (N := N) (e := e) (b := twB T t)
  have m6 := twn_0_6 (N := N) (e := e) (b := twB T t)
  have m7 := twn_0_7 (N := N) (e := e) (b := twB T t)
  have m3 := twn_0_3 (N := N) (e := e) (b := twB T t)
  have m24 := twn_0_24 (N := N) (e := e) (b := twB T t)
  have m20 := twn_0_20 (N := N) (e := e) (b := twB T t)
  have m26 := twn_0_26 (N := N) (e := e) (b := twB T t)
  have m28 := twn_0_28 (N := N) (e := e) (b := twB T t)
  have m1 := twn_0_1 (N := N) (e := e) (b := twB T t)
  have m2' := twn_0_2 (N := N) (e := e) (b := twB T t)
  have m120 := twn_12_0 (N := N) (e := e) (b := twB T t)
  have m121 := twn_12_1 (N := N) (e := e) (b := twB T t)
  have m2 : ∀ j, j < 21 → twnF N e (twB T t) 2 j = N 5 j := fun j hj => twn_2 hj
  have mm4 : ∀ j, j < 24 → twnF N e (twB T t) 4 j = N 7 j := fun j hj => twn_4 hj
  have mm3 : ∀ j, j < 42 → twnF N e (twB T t) 3 j = N 6 j := fun j hj => twn_3 hj
  have m80 : ∀ j, j < 13 → twnF N e (twB T t) 8 j = 0 := fun j hj => twn_80 hj
  have m81 : ∀ j, j < 42 → twnF N e (twB T t) 8 (13 + j) = N 6 j := fun j hj => twn_81 hj
  have hX : ∀ c, 3 ≤ c → twX O (.inl e) b na c = O c := fun c hc => by
    unfold twX cP
    rw [zU_k (by omega), zU_k (by omega), zU_k (by omega), zU_k (by omega), zU_k (by omega), zU_k (by omega)]
  have x11 : twX O (.inl e) b na 1 1 = 0 := rfl
  have x010 : twX O (.inl e) b na 0 10 = -1 := rfl
  have x011 : twX O (.inl e) b na 0 11 = O 0 11 := rfl
  generalize twX O (.inl e) b na = X at *
  have s14 : ∀ j, j < 5 → tnS X 14 j = O 3 j := fun j hj => (tnS_14 hj).trans (by rw [hX 3 (by decide)])
  have s15 : ∀ j, j < 7 → tnS X 15 j = O 4 j := fun j hj => (tnS_15 hj).trans (by rw [hX 4 (by decide)])
  have s16 : ∀ j, j < 7 → tnS X 16 j = O 5 j := fun j hj => (tnS_16 hj).trans (by rw [hX 5 (by decide)])
  have s17 : ∀ j, j < 7 → tnS X 17 j = O 6 j := fun j hj => (tnS_17 hj).trans (by rw [hX 6 (by decide)])
  have s18 : ∀ j, j < 42 → tnS X 18 j = O 7 j := fun j hj => (tnS_18 hj).trans (by rw [hX 7 (by decide)])
  have s19 : ∀ j, j < 4 → tnS X 19 j = O 8 j := fun j hj => (tnS_19 hj).trans (by rw [hX 8 (by decide)])
  have s20 : ∀ j, j < 4 → tnS X 20 j = O 9 j := fun j hj => (tnS_20 hj).trans (by rw [hX 9 (by decide)])
  have s21 : ∀ j, j < 4 → tnS X 21 j = O 10 j := fun j hj => (tnS_21 hj).trans (by rw [hX 10 (by decide)])
  have s22 : ∀ j, j < 4 → tnS X 22 j = O 11 j := fun j hj => (tnS_22 hj).trans (by rw [hX 11 (by decide)])
  have s23 : ∀ j, j < 4 → tnS X 23 j = O 12 j := fun j hj => (tnS_23 hj).trans (by rw [hX 12 (by decide)])
  have s24 : ∀ j, j < 4 → tnS X 24 j = O 13 j := fun j hj => (tnS_24 hj).trans (by rw [hX 13 (by decide)])
  have s26 : ∀ j, j < 42 → tnS X 26 j = O 7 j := fun j hj => (tnS_26 hj).trans (by rw [hX 7 (by decide)])
  have s260 : ∀ j, 42 ≤ j → j < 55 → tnS X 26 j = 0 := fun j h1 h2 => tnS_260 h1 h2
  have s11 : tnS X 1 1 = 0 := tnS_1_1.trans x11
  have s010 : tnS X 0 10 = -1 := tnS_0_10.trans x010
  have s011 : tnS X 0 11 = O 0 11 := tnS_0_11.trans x011
  have s713 : tnS X 71 3 = 0 := tnS_71_3
  have s716 : tnS X 71 6 = 0 := tnS_71_6
  have s772 : tnS X 77 2 = 0 := tnS_77_2
  have s792 : tnS X 79 2 = 0 := tnS_79_2
  have s392 : tnS X 39 2 = 0 := tnS_39_2
  have s391 : tnS X 39 1 = O 39 1 := tnS_39_1.trans (by rw [hX 39 (by decide)])
  clear hX x11 x010 x011
  generalize hM' : twnF N e (twB T t) = M' at m4 m5 m6 m7 m3 m24 m20 m26 m28 m1 m2' m120 m121 m2 mm4 mm3 m80 m81 ⊢
  generalize hS' : tnS X = S' at s14 s15 s16 s17 s18 s19 s20 s21 s22 s23 s24 s26 s260 s11 s010 s011 s713 s716 s772 s792 s392 s391 ⊢
  clear hS' hM'
  have rw6 : ∀ m, m < ms.length → ∀ h, h < 6 → N 6 (6 * m + h) = -1 ∨ ∃ p, p < 6 ∧ N 6 (6 * m + h) = nI p := by
    intro m hm h hh
    obtain ⟨⟨e0, g0⟩, -, -, -, g4⟩ := E5 m hm
    obtain ⟨-, -, -, r⟩ := man_rng g0
    rw [g4 h hh]
    exact rw_rng (r h hh)
  refine ⟨⟨⟨?_, ?_, ?_, ?_, ?_⟩, ?_, ?_, ?_, ?_, ?_, ?_, ?_⟩, ?_⟩
  · refine ⟨E3, E4, m6.trans E1, m7.trans E2, ⟨j6, hj6, m4.trans (e1.trans ej6)⟩, fun m hm => ?_, fun x hx => ?_⟩
    · obtain ⟨⟨e0, g0⟩, g1, g2, g3, -⟩ := E5 m hm
      obtain ⟨⟨a0, a1, a2⟩, ⟨b0, b1, b2⟩, ⟨c0, c1, c2, c3⟩, -⟩ := man_rng g0
      rw [m2 _ (by omega), m2 _ (by omega), m2 _ (by omega), g1, g2, g3]
      exact ⟨⟨a0, a1, a2⟩, ⟨b0, b1, b2⟩, ⟨c0, c1, c2, c3⟩⟩
    · obtain ⟨⟨e0, g0⟩, g1, g2, g3, g4, g5, g6⟩ := E6 x hx
      have r := mis_rng (by omega) g0
      rw [mm4 _ (by omega), mm4 _ (by omega), mm4 _ (by omega), mm4 _ (by omega), mm4 _ (by omega), mm4 _ (by omega), g1, g2, g3, g4, g5, g6]
      exact r
  · intro x hx
    obtain ⟨⟨e0, g0⟩, g1, g2, g3, g4, g5, g6⟩ := E6 x hx
    obtain ⟨-, -, -, -, ⟨p, p1, p2, p3⟩, -⟩ := mis_rng (by omega) g0
    refine ⟨p, 0, 0, p, by decide, ?_, rfl, ?_, by omega, p2⟩
    · rw [m80 _ (by omega)]; rfl
    · rw [mm4 _ (by omega), g5]; exact p3
  · refine ⟨fun m hm => ⟨0, by decide, ?_⟩, fun m hm h hh => ?_⟩
    · rw [m80 _ (by omega)]; rfl
    · rw [show 13 + 6 * m + h = 13 + (6 * m + h) by omega, m81 _ (by omega)]
      exact rw6 m hm h hh
  · refine ⟨(s14 3 (by decide)).trans D1, (s14 4 (by decide)).trans D2, (s14 0 (by decide)).trans (d0.trans m3.symm), ?_, ?_, fun m hm => ?_, fun x hx => ?_⟩
    · rw [s14 1 (by decide), d1, m4, e1]
    · rw [s14 2 (by decide), d2, m5, e2]
    · obtain ⟨-, g1, g2, g3, g4⟩ := E5 m hm
      obtain ⟨-, f1, f2, f3, f4⟩ := D5 m hm
      refine ⟨?_, ?_, ?_, fun h hh => ?_⟩
      · rw [s15 _ (by omega), m2 _ (by omega), f1, g1]
      · rw [s16 _ (by omega), m2 _ (by omega), f2, g2]
      · rw [s17 _ (by omega), m2 _ (by omega), f3, g3]
      · rw [s18 _ (by omega), mm3 _ (by omega), f4 h hh, g4 h hh]
    · obtain ⟨-, g1, g2, g3, g4, g5, g6⟩ := E6 x hx
      obtain ⟨-, f1, f2, f3, f4, f5, f6⟩ := D6 x hx
      rw [s19 _ (by omega), s20 _ (by omega), s21 _ (by omega), s22 _ (by omega), s23 _ (by omega), s24 _ (by omega), mm4 _ (by omega), mm4 _ (by omega), mm4 _ (by omega), mm4 _ (by omega), mm4 _ (by omega), mm4 _ (by omega), f1, f2, f3, f4, f5, f6, g1, g2, g3, g4, g5, g6]
      exact ⟨rfl, rfl, rfl, rfl, rfl, rfl⟩
  · refine ⟨fun m hm h hh => ?_, fun m hm => ?_, fun x hx => ?_, ?_, ?_⟩
    · obtain ⟨-, -, -, -, g4⟩ := E5 m hm
      obtain ⟨-, -, -, -, f4⟩ := D5 m hm
      rw [s26 _ (by omega), show 13 + 6 * m + h = 13 + (6 * m + h) by omega, m81 _ (by omega), f4 h hh, g4 h hh]
    · rw [s260 _ (by omega) (by omega), m80 _ (by omega)]
    · rw [s260 _ (by omega) (by omega), m80 _ (by omega)]
    · rw [s260 _ (by omega) (by omega), m80 _ (by omega)]
    · rw [s260 _ (by omega) (by omega), m80 _ (by omega)]
  · exact ⟨0, 0, by decide, by decide, m26, s713, m28, s716, fun j hj => absurd hj (by omega), fun j hj => absurd hj (by omega)⟩
  · exact ⟨0, by decide, s11, m1, fun j hj => absurd hj (by omega)⟩
  · exact ⟨s772.trans m120.symm, s792.trans m121.symm, fun h => absurd m120 h, fun h => absurd m121 h⟩
  · obtain ⟨-, -, -, -, ⟨de, nx, h1, h2, h3, h4, h5, -⟩, -, -, -⟩ := C
    refine ⟨0, nx, by decide, h2, m20, s392, ?_, fun x hx => absurd hx (by omega)⟩
    rw [s391, fm 39 (by decide) (by decide) (Or.inr (by decide))]; exact h5
  · rw [s010, m2']
  · rw [s011, m24, fm 0 (by decide) (by decide) (Or.inl (by decide)), F.2 24 (by decide) (by decide) (by decide) (by decide)]
    exact C.2.2.2.2.2.2.1
  · intro m hm h hh
    rw [mm3 _ (by omega)]
    exact rw6 m hm h hh
  · exact ⟨y, hy, m5.trans (e2.trans ey)⟩
/-- town on both sides -/
theorem town_rel (C : relC S M n k) (Y : okY M) (T0 : ∀ j, j < t → ∃ c, c < 256 ∧ M 1 j = nI c) {v v' : Option Value} {σ σ' : List va_E} (hc : tcQ S (M 1) t v σ) (hm : tnQ M t v' σ') : v' = v ∧ ∃ S' M' n' k', σ = encC S' ∧ σ' = encM M' ∧ relC S' M' n' k' ∧ okY M' := by
  obtain ⟨O, b, na, fm, h⟩ := hc
  cases h with
  | inl h =>
    obtain ⟨p, hp, rfl, rfl⟩ := h
    obtain ⟨N, rfl, rfl, F⟩ := hm.2 p hp
    refine ⟨rfl, _, _, n, k, rfl, rfl, town_bad C fm F, ?_⟩
    obtain ⟨y, y1, y2⟩ := Y
    exact ⟨y, y1, (F.2 5 (by decide) (by decide) (by decide) (by decide)).trans y2⟩
  | inr h =>
    obtain ⟨e, he, rfl, rfl, d1, d2, d3, d4⟩ := h
    obtain ⟨N, rfl, rfl, F, E, e1, e2⟩ := hm.1 e he
    obtain ⟨g1, g2⟩ := town_good C fm F he d1 E d2 d3 d4 e1 e2 (b := b) (na := na)
    exact ⟨by rw [d1.1, E.1], _, _, _, _, rfl, rfl, g1, g2⟩
end T14
