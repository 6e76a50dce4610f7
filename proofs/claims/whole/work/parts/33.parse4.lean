/-! reading, the reference: the whole text -/
def lpU (T : Nat → Int32) (t : Nat) : Nat → zCur → List Nat → List Nat → zCur × List Nat × List Nat
  | 0, q, ms, xs => (q, ms, xs)
  | f + 1, q, ms, xs => match q with
    | .inr p => (.inr p, ms, xs)
    | .inl a => if lkF T t a = -1 then (.inl a, ms, xs) else if lkF T t a = 109 then lpU T t f (skQ T t (manQ T t ms.length a)) (ms ++ [a]) xs else if lkF T t a = 120 then lpU T t f (skQ T t (misQ T t xs.length a)) ms (xs ++ [a]) else (.inr (if lkF T t a = 97 then 3 else 1, a), ms, xs)
theorem lpU_r {T : Nat → Int32} {t f : Nat} {p : Nat × Nat} {ms xs : List Nat} : lpU T t f (.inr p) ms xs = (.inr p, ms, xs) := by cases f <;> rfl
theorem lpU_i {T : Nat → Int32} {t f a : Nat} {ms xs : List Nat} : lpU T t (f + 1) (.inl a) ms xs = if lkF T t a = -1 then (.inl a, ms, xs) else if lkF T t a = 109 then lpU T t f (skQ T t (manQ T t ms.length a)) (ms ++ [a]) xs else if lkF T t a = 120 then lpU T t f (skQ T t (misQ T t xs.length a)) ms (xs ++ [a]) else (.inr (if lkF T t a = 97 then 3 else 1, a), ms, xs) := rfl
def manV (T : Nat → Int32) (t : Nat) (N : zS) (m a : Nat) : Prop := (∃ e, manQ T t m a = .inl e) ∧ N 5 (3 * m) = nmV T t (mn0 a) ∧ N 5 (3 * m + 1) = nmV T t (mn1 T t a) ∧ N 5 (3 * m + 2) = nmV T t (mn2 T t a) ∧ ∀ h, h < 6 → N 6 (6 * m + h) = rwV (lkF T t (qn (mn4 T t a) + h))
def misV (T : Nat → Int32) (t : Nat) (N : zS) (x a : Nat) : Prop := (∃ e, misQ T t x a = .inl e) ∧ N 7 (6 * x) = nmV T t (xs0 a) ∧ N 7 (6 * x + 1) = nmV T t (xs1 T t a) ∧ N 7 (6 * x + 2) = nmV T t (xs2 T t a) ∧ N 7 (6 * x + 3) = nmV T t (xs3 T t a) ∧ N 7 (6 * x + 4) = nmV T t (xs4 T t a) ∧ N 7 (6 * x + 5) = if nmV T t (xs6 T t a) = 9 then -1 else nmV T t (xs6 T t a)
def dfP (T : Nat → Int32) (t : Nat) (N : zS) (ms xs : List Nat) : Prop := N 0 13 = nI ms.length ∧ N 0 14 = nI xs.length ∧ ms.length ≤ 7 ∧ xs.length ≤ 4 ∧ (∀ m, m < ms.length → manV T t N m (ms.getD m 0)) ∧ ∀ x, x < xs.length → misV T t N x (xs.getD x 0)
def rd0 (T : Nat → Int32) (t a : Nat) : zCur := wdQ T t 97 (.inl a)
def rd1 (T : Nat → Int32) (t a : Nat) : zCur := nmQ T t 0 6 (rd0 T t a)
def rd2 (T : Nat → Int32) (t a : Nat) : zCur := nmQ T t 1 500 (rd1 T t a)
def rd3 (T : Nat → Int32) (t a : Nat) : zCur := wdQ T t 59 (rd2 T t a)
def rd4 (T : Nat → Int32) (t a : Nat) : zCur := skQ T t (rd3 T t a)
def rdL (T : Nat → Int32) (t a : Nat) : zCur × List Nat × List Nat := lpU T t (t + 1) (rd4 T t a) [] []
theorem wdQ_up {T : Nat → Int32} {t e a : Nat} {w : Int32} (ha : a ≤ t) (h : wdQ T t w (.inl a) = .inl e) : a < e := by
  rw [wdQ_i] at h
  have := skF_r (T := T) ha
  split at h
  · cases h; omega
  · cases h
theorem skQ_up {T : Nat → Int32} {t e a : Nat} (ha : a ≤ t) (h : skQ T t (.inl a) = .inl e) : a ≤ e := by
  have := skF_r (T := T) ha
  cases h
  exact this.1
theorem nmQ_up {T : Nat → Int32} {t e a : Nat} {lo hi : Int32} (ha : a ≤ t) (h : nmQ T t lo hi (.inl a) = .inl e) : a ≤ e := by
  rw [nmQ_i] at h
  have h1 := skF_r (T := T) ha
  have h2 := dgF_r (T := T) h1.2
  split at h
  · cases h
  · split at h
    · cases h; omega
    · cases h
theorem man_up {T : Nat → Int32} {t m e a : Nat} (ha : a < t) (h : manQ T t m a = .inl e) : a < e ∧ m < 7 ∨ 7 < m := by
  unfold manQ at h
  by_cases z : m = 7
  · rw [if_pos z] at h; cases h
  rw [if_neg z] at h
  have k0 : okQ t (mn0 a) := ha
  have k1 : okQ t (mn1 T t a) := nmQ_ok k0
  have k2 : okQ t (mn2 T t a) := nmQ_ok k1
  have k3 : okQ t (mn3 T t a) := nmQ_ok k2
  have k4 : okQ t (mn4 T t a) := skQ_ok k3
  have k5 : okQ t (mn5 T t a) := rwU_ok k4 6
  obtain ⟨e5, he5⟩ := wdQ_good (show wdQ T t 59 (mn5 T t a) = .inl e from h)
  obtain ⟨e4, he4, g4, -⟩ := rwU_good 6 e5 (show rwU T t 6 (mn4 T t a) = .inl e5 from he5)
  obtain ⟨e3, he3⟩ := skQ_good (show skQ T t (mn3 T t a) = .inl e4 from he4)
  obtain ⟨e2, he2, -⟩ := nmQ_good (show nmQ T t 1 99 (mn2 T t a) = .inl e3 from he3)
  obtain ⟨e1, he1, -⟩ := nmQ_good (show nmQ T t 0 63 (mn1 T t a) = .inl e2 from he2)
  rw [he1] at k1; rw [he2] at k2; rw [he3] at k3; rw [he4] at k4; rw [he5] at k5
  have u1 := nmQ_up (show a + 1 ≤ t from ha) (show nmQ T t 0 15 (.inl (a + 1)) = .inl e1 from he1)
  have u2 := nmQ_up k1 (show nmQ T t 0 63 (.inl e1) = .inl e2 by rw [← he1]; exact he2)
  have u3 := nmQ_up k2 (show nmQ T t 1 99 (.inl e2) = .inl e3 by rw [← he2]; exact he3)
  have u4 := skQ_up k3 (show skQ T t (.inl e3) = .inl e4 by rw [← he3]; exact he4)
  have u6 := wdQ_up k5 (show wdQ T t 59 (.inl e5) = .inl e by rw [← he5]; exact h)
  omega
theorem mis_up {T : Nat → Int32} {t m e a : Nat} (ha : a < t) (h : misQ T t m a = .inl e) : a < e ∧ m < 4 ∨ 4 < m := by
  unfold misQ at h
  by_cases z : m = 4
  · rw [if_pos z] at h; cases h
  rw [if_neg z] at h
  have k0 : okQ t (xs0 a) := ha
  have k1 : okQ t (xs1 T t a) := nmQ_ok k0
  have k2 : okQ t (xs2 T t a) := nmQ_ok k1
  have k3 : okQ t (xs3 T t a) := nmQ_ok k2
  have k4 : okQ t (xs4 T t a) := nmQ_ok k3
  have k5 : okQ t (xs5 T t a) := nmQ_ok k4
  have k6 : okQ t (xs6 T t a) := skQ_ok k5
  have k7 : okQ t (xs7 T t a) := nmQ_ok k6
  have k8 : okQ t (xs8 T t m a) := orQ_ok k7 (qn_ok k6)
  obtain ⟨e8, he8⟩ := wdQ_good (show wdQ T t 59 (xs8 T t m a) = .inl e from h)
  obtain ⟨he7, -⟩ := orQ_good (show orQ m (nmV T t (xs6 T t a)) (qn (xs6 T t a)) (xs7 T t a) = .inl e8 from he8)
  obtain ⟨e6, he6, -⟩ := nmQ_good (show nmQ T t 0 9 (xs6 T t a) = .inl e8 from he7)
  obtain ⟨e5, he5⟩ := skQ_good (show skQ T t (xs5 T t a) = .inl e6 from he6)
  obtain ⟨e4, he4, -⟩ := nmQ_good (show nmQ T t 1 2 (xs4 T t a) = .inl e5 from he5)
  obtain ⟨e3, he3, -⟩ := nmQ_good (show nmQ T t 0 5 (xs3 T t a) = .inl e4 from he4)
  obtain ⟨e2, he2, -⟩ := nmQ_good (show nmQ T t 0 15 (xs2 T t a) = .inl e3 from he3)
  obtain ⟨e1, he1, -⟩ := nmQ_good (show nmQ T t 0 5 (xs1 T t a) = .inl e2 from he2)
  rw [he1] at k1; rw [he2] at k2; rw [he3] at k3; rw [he4] at k4; rw [he5] at k5; rw [he6] at k6; rw [he7] at k7; rw [he8] at k8
  have u1 := nmQ_up (show a + 1 ≤ t from ha) (show nmQ T t 0 5 (.inl (a + 1)) = .inl e1 from he1)
  have u2 := nmQ_up k1 (show nmQ T t 0 5 (.inl e1) = .inl e2 by rw [← he1]; exact he2)
  have u3 := nmQ_up k2 (show nmQ T t 0 15 (.inl e2) = .inl e3 by rw [← he2]; exact he3)
  have u4 := nmQ_up k3 (show nmQ T t 0 5 (.inl e3) = .inl e4 by rw [← he3]; exact he4)
  have u5 := nmQ_up k4 (show nmQ T t 1 2 (.inl e4) = .inl e5 by rw [← he4]; exact he5)
  have u6 := skQ_up k5 (show skQ T t (.inl e5) = .inl e6 by rw [← he5]; exact he6)
  have u7 := nmQ_up k6 (show nmQ T t 0 9 (.inl e6) = .inl e8 by rw [← he6]; exact he7)
  have u8 := wdQ_up k8 (show wdQ T t 59 (.inl e8) = .inl e by rw [← he8]; exact h)
  omega
theorem getD_l {l : List Nat} {a i : Nat} (h : i < l.length) : (l ++ [a]).getD i 0 = l.getD i 0 := by
  simp [List.getD, List.getElem?_append_left h]
theorem getD_r {l : List Nat} {a : Nat} : (l ++ [a]).getD l.length 0 = a := by
  simp [List.getD]
theorem dfP_man {M N : zS} {t a e : Nat} {ms xs : List Nat} (D : dfP (M 1) t M ms xs) (ha : a < t) (he : manQ (M 1) t ms.length a = .inl e) (P : manP M N t ms.length a) : dfP (M 1) t N (ms ++ [a]) xs := by
  obtain ⟨d1, d2, d3, d4, d5, d6⟩ := D
  obtain ⟨p1, p2, p3, p4, p5, p6, p7, p8, p9, p10, p11⟩ := P
  have hl : (ms ++ [a]).length = ms.length + 1 := by simp
  have h7 : ms.length < 7 := by have := man_up ha he; omega
  refine ⟨by rw [hl]; exact p1, p4.trans d2, by omega, d4, fun m hm => ?_, fun x hx => ?_⟩
  · by_cases z : m = ms.length
    · subst z
      rw [getD_r]
      exact ⟨⟨e, he⟩, p8, p9, p10, p11⟩
    · have hm' : m < ms.length := by omega
      rw [getD_l hm']
      obtain ⟨g, g1, g2, g3, g4⟩ := d5 m hm'
      exact ⟨g, by rw [p6 _ (by omega)]; exact g1, by rw [p6 _ (by omega)]; exact g2, by rw [p6 _ (by omega)]; exact g3, fun h hh => by rw [p7 _ (by omega)]; exact g4 h hh⟩
  · unfold misV
    rw [p5]
    exact d6 x hx
theorem dfP_mis {M N : zS} {t a e : Nat} {ms xs : List Nat} (D : dfP (M 1) t M ms xs) (ha : a < t) (he : misQ (M 1) t xs.length a = .inl e) (P : misP M N t xs.length a) : dfP (M 1) t N ms (xs ++ [a]) := by
  obtain ⟨d1, d2, d3, d4, d5, d6⟩ := D
  obtain ⟨p1, p2, p3, p4, p5, p6, p7, p8, p9, p10, p11, p12, p13⟩ := P
  have hl : (xs ++ [a]).length = xs.length + 1 := by simp
  have h7 : xs.length < 4 := by have := mis_up ha he; omega
  refine ⟨p4.trans d1, by rw [hl]; exact p1, d3, by omega, fun m hm => ?_, fun x hx => ?_⟩
  · unfold manV
    rw [p5, p6]
    exact d5 m hm
  · by_cases z : x = xs.length
    · subst z
      rw [getD_r]
      exact ⟨⟨e, he⟩, p8, p9, p10, p11, p12, p13⟩
    · have hx' : x < xs.length := by omega
      rw [getD_l hx']
      obtain ⟨g, g1, g2, g3, g4, g5, g6⟩ := d6 x hx'
      exact ⟨g, by rw [p7 _ (by omega)]; exact g1, by rw [p7 _ (by omega)]; exact g2, by rw [p7 _ (by omega)]; exact g3, by rw [p7 _ (by omega)]; exact g4, by rw [p7 _ (by omega)]; exact g5, by rw [p7 _ (by omega)]; exact g6⟩
