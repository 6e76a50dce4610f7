/-! town on both sides: what holds after -/
def okY (M : zS) : Prop := ∃ y, y ≤ 500 ∧ M 0 5 = nI y
theorem relC_fr {S M S' M' : zS} {n k : Nat} (C : relC S M n k) (hS : ∀ c, 13 < c → (c < 28 ∨ 38 < c) → S' c = S c) (hM : ∀ c, c ≠ 0 → c ≠ 5 → c ≠ 6 → c ≠ 7 → c < 15 → M' c = M c)
    (h0 : ∀ j, j ≠ 1 → j ≠ 2 → j ≠ 11 → j ≠ 12 → j ≠ 13 → j ≠ 14 → j ≠ 29 → j ≠ 30 → j ≠ 35 → M' 0 j = M 0 j) (T : relT S' M') (f : S' 0 10 = M' 0 2) (s : S' 0 11 = M' 0 24) : relC S' M' n k := by
  have g4 := h0 4 (by decide) (by decide) (by decide) (by decide) (by decide) (by decide) (by decide) (by decide) (by decide)
  have g3 := h0 3 (by decide) (by decide) (by decide) (by decide) (by decide) (by decide) (by decide) (by decide) (by decide)
  have g5 := h0 5 (by decide) (by decide) (by decide) (by decide) (by decide) (by decide) (by decide) (by decide) (by decide)
  have g6 := h0 6 (by decide) (by decide) (by decide) (by decide) (by decide) (by decide) (by decide) (by decide) (by decide)
  have g7 := h0 7 (by decide) (by decide) (by decide) (by decide) (by decide) (by decide) (by decide) (by decide) (by decide)
  have g20 := h0 20 (by decide) (by decide) (by decide) (by decide) (by decide) (by decide) (by decide) (by decide) (by decide)
  have g26 := h0 26 (by decide) (by decide) (by decide) (by decide) (by decide) (by decide) (by decide) (by decide) (by decide)
  have g28 := h0 28 (by decide) (by decide) (by decide) (by decide) (by decide) (by decide) (by decide) (by decide) (by decide)
  have m2 := hM 2 (by decide) (by decide) (by decide) (by decide) (by decide)
  have m3 := hM 3 (by decide) (by decide) (by decide) (by decide) (by decide)
  have m4 := hM 4 (by decide) (by decide) (by decide) (by decide) (by decide)
  have m8 := hM 8 (by decide) (by decide) (by decide) (by decide) (by decide)
  have m9 := hM 9 (by decide) (by decide) (by decide) (by decide) (by decide)
  have m10 := hM 10 (by decide) (by decide) (by decide) (by decide) (by decide)
  have m11 := hM 11 (by decide) (by decide) (by decide) (by decide) (by decide)
  have m12 := hM 12 (by decide) (by decide) (by decide) (by decide) (by decide)
  have m13 := hM 13 (by decide) (by decide) (by decide) (by decide) (by decide)
  have m14 := hM 14 (by decide) (by decide) (by decide) (by decide) (by decide)
  obtain ⟨⟨R1, R2, R3, R4, R5⟩, P, -, I, ⟨de, nx, e1, e2, e3, e4, e5, e6⟩, -, -, K⟩ := C
  refine ⟨⟨?_, ?_, ?_, ?_, ?_⟩, ?_, T, ?_, ⟨de, nx, e1, e2, ?_, ?_, ?_, fun t ht => ?_⟩, f, s, ?_⟩
  · unfold okM at R1 ⊢; rw [g4, g6, g7, m2, m4]; exact R1
  · unfold okB freeAt at R2 ⊢; rw [m4, m8]; exact R2
  · unfold okW at R3 ⊢; rw [m8]; exact R3
  · unfold relF at R4 ⊢
    rw [hS 14 (by decide) (by decide), hS 15 (by decide) (by decide), hS 16 (by decide) (by decide), hS 17 (by decide) (by decide), hS 18 (by decide) (by decide), hS 19 (by decide) (by decide), hS 20 (by decide) (by decide), hS 21 (by decide) (by decide), hS 22 (by decide) (by decide), hS 23 (by decide) (by decide), hS 24 (by decide) (by decide), g3, g4, g5, m2, m3, m4]
    exact R4
  · rw [hS 26 (by decide) (by decide), m8]; exact R5
  · unfold relP at P ⊢
    rw [g26, g28, hS 71 (by decide) (by decide), hS 72 (by decide) (by decide), hS 73 (by decide) (by decide), hS 74 (by decide) (by decide), hS 75 (by decide) (by decide), hS 76 (by decide) (by decide), m13, m14]
    exact P
  · unfold relI at I ⊢
    rw [hS 77 (by decide) (by decide), hS 78 (by decide) (by decide), hS 79 (by decide) (by decide), hS 80 (by decide) (by decide), m4, m10, m11, m12]
    exact I
  · rw [g20]; exact e3
  · rw [hS 39 (by decide) (by decide)]; exact e4
  · rw [hS 39 (by decide) (by decide)]; exact e5
  · rw [hS _ (by omega) (by omega), m9, m4]; exact e6 t ht
  · unfold okR at K ⊢; rw [m3]; exact K
section T13
variable {S M N O : zS} {n k t : Nat}
theorem town_bad (C : relC S M n k) (fm : fmC S O) (F : frM M N) {p : Nat × Nat} {b na : Int32} : relC (twX O (.inr p) b na) (twnB N p) n k := by
  refine relC_fr C (fun c hc _ => ?_) (fun c c0 c5 c6 c7 _ => ?_) (fun j j1 j2 j11 j12 j13 j14 j29 j30 _ => ?_) ⟨0, by decide, rfl, rfl, fun j hj => absurd hj (by omega)⟩ rfl ?_
  · unfold twX cP
    rw [zU_k (by omega), zU_k (by omega), zU_k (by omega), zU_k (by omega), zU_k (by omega), zU_k (by omega)]
    exact fm c (by omega) (by omega) (Or.inr hc)
  · unfold twnB mP
    rw [zU_k c0, zU_k c0, zU_k c0, zU_k c0]
    exact F.1 c c0 c5 c6 c7
  · unfold twnB mP
    rw [zU_s, upd_n j2, zU_s, upd_n j1, zU_s, upd_n j29, zU_s, upd_n j30]
    exact F.2 j j11 j12 j13 j14
  · have e1 : twX O (.inr p) b na 0 11 = O 0 11 := rfl
    have e2 : twnB N p 0 24 = N 0 24 := rfl
    rw [e1, e2, fm 0 (by decide) (by decide) (Or.inl (by decide)), F.2 24 (by decide) (by decide) (by decide) (by decide)]
    exact C.2.2.2.2.2.2.1
theorem nm_rng {T : Nat → Int32} {t e a b : Nat} {lo hi : Int32} {q : zCur} (ea : lo = nI a) (eb : hi = nI b) (ha : a < 2 ^ 31) (hb : b < 2 ^ 31) (h : nmQ T t lo hi q = .inl e) : ∃ p, a ≤ p ∧ p ≤ b ∧ nmV T t q = nI p := by
  subst ea; subst eb
  obtain ⟨c, -, h1, h2⟩ := nmQ_good h
  have h0 : (0 : Int32) ≤ nI a := by rw [← nI_0]; exact (nI_leI (by decide) ha).mpr (Nat.zero_le a)
  obtain ⟨j, hj, e⟩ := z_rng hb ⟨Int32.le_trans h0 h1, h2⟩
  rw [e] at h1
  exact ⟨j, (nI_leI ha (by omega)).mp h1, hj, e⟩
theorem rw_rng {x : Int32} (h : isR x = true) : rwV x = -1 ∨ ∃ p, p < 6 ∧ rwV x = nI p := by
  unfold isR at h
  unfold rwV
  by_cases z : x = 45
  · rw [if_pos z]; exact Or.inl rfl
  · rw [if_neg z]
    rw [decide_eq_false z, Bool.or_false] at h
    obtain ⟨h1, h2⟩ := of_decide_eq_true h
    obtain ⟨j, hj, e⟩ := z_rng (N := 102) (by decide) ⟨Int32.le_trans (by decide) h1, h2⟩
    subst e
    have h3 : 97 ≤ j := (nI_leI (a := 97) (by decide) (by omega)).mp h1
    refine Or.inr ⟨j - 97, by omega, ?_⟩
    rw [← pk_sub h3]; rfl
theorem tw_rng {T : Nat → Int32} {e : Nat} (h : (twL T t).1 = .inl e) : (∃ j, j ≤ 6 ∧ twJ T t = nI j) ∧ ∃ y, y ≤ 500 ∧ twY T t = nI y := by
  unfold twL at h
  unfold twJ twY
  by_cases z : twE T t = true
  · rw [if_pos z, if_pos z]; exact ⟨⟨0, by decide, rfl⟩, ⟨0, by decide, rfl⟩⟩
  · rw [if_neg z] at h
    rw [if_neg z, if_neg z]
    generalize skF T t 0 = a at *
    cases h4 : rd4 T t a with
    | inr p =>
      unfold rdL at h
      rw [h4, lpU_r] at h
      cases h
    | inl e4 =>
      obtain ⟨e3, he3⟩ := skQ_good (show skQ T t (rd3 T t a) = .inl e4 from h4)
      obtain ⟨e2, he2⟩ := wdQ_good (show wdQ T t 59 (rd2 T t a) = .inl e3 from he3)
      obtain ⟨p, -, p2, p3⟩ := nm_rng (lo := 1) (hi := 500) (a := 1) (b := 500) rfl rfl (by decide) (by decide) (show nmQ T t 1 500 (rd1 T t a) = .inl e2 from he2)
      obtain ⟨e1, he1, -⟩ := nmQ_good (show nmQ T t 1 500 (rd1 T t a) = .inl e2 from he2)
      obtain ⟨r, -, r2, r3⟩ := nm_rng (lo := 0) (hi := 6) (a := 0) (b := 6) rfl rfl (by decide) (by decide) (show nmQ T t 0 6 (rd0 T t a) = .inl e1 from he1)
      exact ⟨⟨r, r2, r3⟩, ⟨p, p2, p3⟩⟩
theorem man_rng {T : Nat → Int32} {m a e : Nat} (h : manQ T t m a = .inl e) : (∃ p, p ≤ 15 ∧ nmV T t (mn0 a) = nI p) ∧ (∃ p, p ≤ 63 ∧ nmV T t (mn1 T t a) = nI p) ∧ (∃ p, 1 ≤ p ∧ p ≤ 99 ∧ nmV T t (mn2 T t a) = nI p) ∧ ∀ i, i < 6 → isR (lkF T t (qn (mn4 T t a) + i)) = true := by
  unfold manQ at h
  by_cases z : m = 7
  · rw [if_pos z] at h; cases h
  rw [if_neg z] at h
  obtain ⟨e5, he5⟩ := wdQ_good (show wdQ T t 59 (mn5 T t a) = .inl e from h)
  obtain ⟨e4, he4, g4, hr⟩ := rwU_good 6 e5 (show rwU T t 6 (mn4 T t a) = .inl e5 from he5)
  obtain ⟨e3, he3⟩ := skQ_good (show skQ T t (mn3 T t a) = .inl e4 from he4)
  obtain ⟨e2, he2, -⟩ := nmQ_good (show nmQ T t 1 99 (mn2 T t a) = .inl e3 from he3)
  obtain ⟨e1, he1, -⟩ := nmQ_good (show nmQ T t 0 63 (mn1 T t a) = .inl e2 from he2)
  obtain ⟨r0, -, r1, r2⟩ := nm_rng (lo := 0) (hi := 15) (a := 0) (b := 15) rfl rfl (by decide) (by decide) (show nmQ T t 0 15 (mn0 a) = .inl e1 from he1)
  obtain ⟨s0, -, s1, s2⟩ := nm_rng (lo := 0) (hi := 63) (a := 0) (b := 63) rfl rfl (by decide) (by decide) (show nmQ T t 0 63 (mn1 T t a) = .inl e2 from he2)
  obtain ⟨t0, t00, t1, t2⟩ := nm_rng (lo := 1) (hi := 99) (a := 1) (b := 99) rfl rfl (by decide) (by decide) (show nmQ T t 1 99 (mn2 T t a) = .inl e3 from he3)
  rw [he4]
  exact ⟨⟨r0, r1, r2⟩, ⟨s0, s1, s2⟩, ⟨t0, t00, t1, t2⟩, hr⟩
theorem mis_rng {T : Nat → Int32} {x a e : Nat} (hx : x < 4) (h : misQ T t x a = .inl e) : (∃ p, p < 6 ∧ nmV T t (xs0 a) = nI p) ∧ (∃ p, p < 6 ∧ nmV T t (xs1 T t a) = nI p) ∧ (∃ p, p ≤ 15 ∧ nmV T t (xs2 T t a) = nI p) ∧ (∃ p, p ≤ 5 ∧ nmV T t (xs3 T t a) = nI p) ∧ (∃ p, 1 ≤ p ∧ p ≤ 2 ∧ nmV T t (xs4 T t a) = nI p) ∧ ((if nmV T t (xs6 T t a) = 9 then -1 else nmV T t (xs6 T t a)) = -1 ∨ ∃ p, p < x ∧ (if nmV T t (xs6 T t a) = 9 then -1 else nmV T t (xs6 T t a)) = nI p) := by
  unfold misQ at h
  rw [if_neg (by omega)] at h
  obtain ⟨e8, he8⟩ := wdQ_good (show wdQ T t 59 (xs8 T t x a) = .inl e from h)
  obtain ⟨he7, ho⟩ := orQ_good (show orQ x (nmV T t (xs6 T t a)) (qn (xs6 T t a)) (xs7 T t a) = .inl e8 from he8)
  obtain ⟨e6, he6, -⟩ := nmQ_good (show nmQ T t 0 9 (xs6 T t a) = .inl e8 from he7)
  obtain ⟨e5, he5⟩ := skQ_good (show skQ T t (xs5 T t a) = .inl e6 from he6)
  obtain ⟨e4, he4, -⟩ := nmQ_good (show nmQ T t 1 2 (xs4 T t a) = .inl e5 from he5)
  obtain ⟨e3, he3, -⟩ := nmQ_good (show nmQ T t 0 5 (xs3 T t a) = .inl e4 from he4)
  obtain ⟨e2, he2, -⟩ := nmQ_good (show nmQ T t 0 15 (xs2 T t a) = .inl e3 from he3)
  obtain ⟨e1, he1, -⟩ := nmQ_good (show nmQ T t 0 5 (xs1 T t a) = .inl e2 from he2)
  obtain ⟨a0, -, a1, a2⟩ := nm_rng (lo := 0) (hi := 5) (a := 0) (b := 5) rfl rfl (by decide) (by decide) (show nmQ T t 0 5 (xs0 a) = .inl e1 from he1)
  obtain ⟨b0, -, b1, b2⟩ := nm_rng (lo := 0) (hi := 5) (a := 0) (b := 5) rfl rfl (by decide) (by decide) (show nmQ T t 0 5 (xs1 T t a) = .inl e2 from he2)
  obtain ⟨c0, -, c1, c2⟩ := nm_rng (lo := 0) (hi := 15) (a := 0) (b := 15) rfl rfl (by decide) (by decide) (show nmQ T t 0 15 (xs2 T t a) = .inl e3 from he3)
  obtain ⟨d0, -, d1, d2⟩ := nm_rng (lo := 0) (hi := 5) (a := 0) (b := 5) rfl rfl (by decide) (by decide) (show nmQ T t 0 5 (xs3 T t a) = .inl e4 from he4)
  obtain ⟨f0, f00, f1, f2⟩ := nm_rng (lo := 1) (hi := 2) (a := 1) (b := 2) rfl rfl (by decide) (by decide) (show nmQ T t 1 2 (xs4 T t a) = .inl e5 from he5)
  obtain ⟨g0, -, g1, g2⟩ := nm_rng (lo := 0) (hi := 9) (a := 0) (b := 9) rfl rfl (by decide) (by decide) (show nmQ T t 0 9 (xs6 T t a) = .inl e8 from he7)
  refine ⟨⟨a0, by omega, a2⟩, ⟨b0, by omega, b2⟩, ⟨c0, c1, c2⟩, ⟨d0, d1, d2⟩, ⟨f0, f00, f1, f2⟩, ?_⟩
  by_cases z : nmV T t (xs6 T t a) = 9
  · rw [if_pos z]; exact Or.inl rfl
  · rw [if_neg z]
    refine Or.inr ⟨g0, ?_, g2⟩
    have h9 := ho.resolve_left z
    rw [g2] at h9
    exact (nI_ltI (by omega) (by omega)).mp h9
end T13
