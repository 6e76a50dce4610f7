/-! the whole relation of the two sides -/
def okRow (F : Nat → Int32) (n k : Nat) (N : Nat → Int32) : Prop := (∀ x, x < k → ∃ f s c z, s < 128 ∧ N (7 + x) = nI s ∧ onesU (nI s) 7 = nI c ∧ F (6 * x + 4) = nI z ∧ z = c + f ∧ z ≤ 2) ∧
  (∀ m, m < n → ∃ w, w ≤ 9 ∧ N m = nI w) ∧ ∀ m, m < n → ∀ h, h < 6 → N (13 + 6 * m + h) = -1 ∨ ∃ p, p < 6 ∧ N (13 + 6 * m + h) = nI p
theorem okRow_of {M : zS} {n k : Nat} (B : okB M k) (W : okW M n) : okRow (M 4) n k (M 8) := ⟨B, W.1, W.2⟩
theorem okRow_B {M : zS} {n k : Nat} (R : okRow (M 4) n k (M 8)) : okB M k := R.1
theorem okRow_W {M : zS} {n k : Nat} (R : okRow (M 4) n k (M 8)) : okW M n := ⟨R.2.1, R.2.2⟩
def relT (S M : zS) : Prop := ∃ t, t ≤ 230 ∧ S 1 1 = nI t ∧ M 0 1 = nI t ∧ ∀ j, j < t → S 2 j = M 1 j ∧ ∃ c, c < 256 ∧ M 1 j = nI c
def relI (S M : zS) (n k : Nat) : Prop := S 77 2 = M 12 0 ∧ S 79 2 = M 12 1 ∧
  (M 12 0 ≠ 0 → S 77 1 = M 11 0 ∧ rowEq n k (S 78) (fun j => M 10 (0 + j)) ∧ okRow (M 4) n k (fun j => M 10 (0 + j))) ∧
  (M 12 1 ≠ 0 → S 79 1 = M 11 1 ∧ rowEq n k (S 80) (fun j => M 10 (55 + j)) ∧ okRow (M 4) n k (fun j => M 10 (55 + j)))
def relH (S M : zS) (n k : Nat) : Prop := ∃ de nx, de ≤ 30 ∧ nx < 30 ∧ M 0 20 = nI de ∧ S 39 2 = nI de ∧ S 39 1 = nI nx ∧
  ∀ t, t < de → rowEq n k (S (41 + (nx + 29 - t) % 30)) (fun j => M 9 (55 * (de - 1 - t) + j)) ∧ okRow (M 4) n k (fun j => M 9 (55 * (de - 1 - t) + j))
def okR (M : zS) (n : Nat) : Prop := ∀ m, m < n → ∀ h, h < 6 → M 3 (6 * m + h) = -1 ∨ ∃ p, p < 6 ∧ M 3 (6 * m + h) = nI p
def relC (S M : zS) (n k : Nat) : Prop := rel1 S M n k ∧ relP S M n k ∧ relT S M ∧ relI S M n k ∧ relH S M n k ∧ S 0 10 = M 0 2 ∧ S 0 11 = M 0 24 ∧ okR M n
theorem relC_row {S M : zS} {n k : Nat} {c N : Nat → Int32} (C : relC S M n k) (e : rowEq n k c N) (o : okRow (M 4) n k N) : relC (zUr S 26 c) (zUr M 8 N) n k := by
  obtain ⟨R, P, T, I, ⟨de, nx, h1, h2, h3, h4, h5, h6⟩, f, s⟩ := C
  refine ⟨⟨R.1, okRow_B (M := zUr M 8 N) o, okRow_W (M := zUr M 8 N) o, R.2.2.2.1, e⟩, P, T, I, ⟨de, nx, h1, h2, h3, h4, h5, fun t ht => ?_⟩, f, s⟩
  rw [zUr_k (by omega)]
  exact h6 t ht
theorem rowEq_place {n k : Nat} {c N : Nat → Int32} {m h : Nat} {p : Int32} (hn : n ≤ 7) (hk : k ≤ 4) (hm : m < n) (hh : h < 6) (e : rowEq n k c N) : rowEq n k (upd c (6 * m + h) p) (upd N (13 + 6 * m + h) p) := by
  obtain ⟨e1, e2, e3, e4, e5⟩ := e
  refine ⟨fun a ha b hb => ?_, fun a ha => ?_, fun x hx => ?_, ?_, ?_⟩
  · by_cases z : 6 * a + b = 6 * m + h
    · rw [z, show 13 + 6 * a + b = 13 + 6 * m + h by omega, upd_s, upd_s]
    · rw [upd_n z, upd_n (by omega)]; exact e1 a ha b hb
  · rw [upd_n (by omega), upd_n (by omega)]; exact e2 a ha
  · rw [upd_n (by omega), upd_n (by omega)]; exact e3 x hx
  · rw [upd_n (by omega), upd_n (by omega)]; exact e4
  · rw [upd_n (by omega), upd_n (by omega)]; exact e5
theorem rowEq_worn {n k : Nat} {c N : Nat → Int32} {m : Nat} {p q : Int32} (hn : n ≤ 7) (hk : k ≤ 4) (hm : m < n) (hpq : p = q) (e : rowEq n k c N) : rowEq n k (upd c (42 + m) p) (upd N m q) := by
  subst hpq
  obtain ⟨e1, e2, e3, e4, e5⟩ := e
  refine ⟨fun a ha b hb => ?_, fun a ha => ?_, fun x hx => ?_, ?_, ?_⟩
  · rw [upd_n (by omega), upd_n (by omega)]; exact e1 a ha b hb
  · by_cases z : a = m
    · rw [z, upd_s, upd_s]
    · rw [upd_n (by omega), upd_n z]; exact e2 a ha
  · rw [upd_n (by omega), upd_n (by omega)]; exact e3 x hx
  · rw [upd_n (by omega), upd_n (by omega)]; exact e4
  · rw [upd_n (by omega), upd_n (by omega)]; exact e5
theorem rowEq_blamed {n k : Nat} {c N : Nat → Int32} {y : Nat} {p q : Int32} (hn : n ≤ 7) (hk : k ≤ 4) (hy : y < k) (hpq : p = q) (e : rowEq n k c N) : rowEq n k (upd c (49 + y) p) (upd N (7 + y) q) := by
  subst hpq
  obtain ⟨e1, e2, e3, e4, e5⟩ := e
  refine ⟨fun a ha b hb => ?_, fun a ha => ?_, fun x hx => ?_, ?_, ?_⟩
  · rw [upd_n (by omega), upd_n (by omega)]; exact e1 a ha b hb
  · rw [upd_n (by omega), upd_n (by omega)]; exact e2 a ha
  · by_cases z : x = y
    · rw [z, upd_s, upd_s]
    · rw [upd_n (by omega), upd_n (by omega)]; exact e3 x hx
  · rw [upd_n (by omega), upd_n (by omega)]; exact e4
  · rw [upd_n (by omega), upd_n (by omega)]; exact e5
theorem rowEq_spent {n k : Nat} {c N : Nat → Int32} {p q : Int32} (hn : n ≤ 7) (hk : k ≤ 4) (hpq : p = q) (e : rowEq n k c N) : rowEq n k (upd c 53 p) (upd N 11 q) := by
  subst hpq
  obtain ⟨e1, e2, e3, e4, e5⟩ := e
  refine ⟨fun a ha b hb => ?_, fun a ha => ?_, fun x hx => ?_, ?_, ?_⟩
  · rw [upd_n (by omega), upd_n (by omega)]; exact e1 a ha b hb
  · rw [upd_n (by omega), upd_n (by omega)]; exact e2 a ha
  · rw [upd_n (by omega), upd_n (by omega)]; exact e3 x hx
  · rw [upd_s, upd_s]
  · rw [upd_n (by omega), upd_n (by omega)]; exact e5
theorem rowEq_days {n k : Nat} {c N : Nat → Int32} {p q : Int32} (hn : n ≤ 7) (hk : k ≤ 4) (hpq : p = q) (e : rowEq n k c N) : rowEq n k (upd c 54 p) (upd N 12 q) := by
  subst hpq
  obtain ⟨e1, e2, e3, e4, e5⟩ := e
  refine ⟨fun a ha b hb => ?_, fun a ha => ?_, fun x hx => ?_, ?_, ?_⟩
  · rw [upd_n (by omega), upd_n (by omega)]; exact e1 a ha b hb
  · rw [upd_n (by omega), upd_n (by omega)]; exact e2 a ha
  · rw [upd_n (by omega), upd_n (by omega)]; exact e3 x hx
  · rw [upd_n (by omega), upd_n (by omega)]; exact e4
  · rw [upd_s, upd_s]
/-- a row whose places below 55 are another's -/
theorem rowEq_congr {n k : Nat} {c c' N N' : Nat → Int32} (hn : n ≤ 7) (hk : k ≤ 4) (hc : ∀ j, j < 55 → c' j = c j) (hN : ∀ j, j < 55 → N' j = N j) (e : rowEq n k c N) : rowEq n k c' N' := by
  obtain ⟨e1, e2, e3, e4, e5⟩ := e
  refine ⟨fun a ha b hb => ?_, fun a ha => ?_, fun x hx => ?_, ?_, ?_⟩
  · rw [hc _ (by omega), hN _ (by omega)]; exact e1 a ha b hb
  · rw [hc _ (by omega), hN _ (by omega)]; exact e2 a ha
  · rw [hc _ (by omega), hN _ (by omega)]; exact e3 x hx
  · rw [hc _ (by omega), hN _ (by omega)]; exact e4
  · rw [hc _ (by omega), hN _ (by omega)]; exact e5
theorem okRow_congr {n k : Nat} {F F' N N' : Nat → Int32} (hn : n ≤ 7) (hk : k ≤ 4) (hF : F' = F) (hN : ∀ j, j < 55 → N' j = N j) (o : okRow F n k N) : okRow F' n k N' := by
  subst hF
  obtain ⟨o1, o2, o3⟩ := o
  refine ⟨fun x hx => ?_, fun m hm => ?_, fun m hm h hh => ?_⟩
  · rw [hN _ (by omega)]; exact o1 x hx
  · rw [hN _ (by omega)]; exact o2 m hm
  · rw [hN _ (by omega)]; exact o3 m hm h hh
theorem okRow_place {n k : Nat} {F N : Nat → Int32} {m h q : Nat} (hn : n ≤ 7) (hk : k ≤ 4) (hh : h < 6) (hq : q < 6) (o : okRow F n k N) : okRow F n k (upd N (13 + 6 * m + h) (nI q)) := by
  obtain ⟨o1, o2, o3⟩ := o
  refine ⟨fun x hx => ?_, fun a ha => ?_, fun a ha b hb => ?_⟩
  · rw [upd_n (by omega)]; exact o1 x hx
  · rw [upd_n (by omega)]; exact o2 a ha
  · by_cases z : 13 + 6 * a + b = 13 + 6 * m + h
    · rw [z, upd_s]; exact Or.inr ⟨q, hq, rfl⟩
    · rw [upd_n z]; exact o3 a ha b hb
theorem okRow_worn {n k : Nat} {F N : Nat → Int32} {m w : Nat} {v : Int32} (hn : n ≤ 7) (hm : m < 7) (hw : w ≤ 9) (hv : v = nI w) (o : okRow F n k N) : okRow F n k (upd N m v) := by
  subst hv
  obtain ⟨o1, o2, o3⟩ := o
  refine ⟨fun x hx => ?_, fun a ha => ?_, fun a ha b hb => ?_⟩
  · rw [upd_n (by omega)]; exact o1 x hx
  · by_cases z : a = m
    · rw [z, upd_s]; exact ⟨w, hw, rfl⟩
    · rw [upd_n z]; exact o2 a ha
  · rw [upd_n (by omega)]; exact o3 a ha b hb
theorem okRow_sums {n k : Nat} {F N : Nat → Int32} {j : Nat} {v : Int32} (hn : n ≤ 7) (hk : k ≤ 4) (hj : 11 ≤ j ∧ j < 13) (o : okRow F n k N) : okRow F n k (upd N j v) := by
  obtain ⟨o1, o2, o3⟩ := o
  refine ⟨fun x hx => ?_, fun a ha => ?_, fun a ha b hb => ?_⟩
  · rw [upd_n (by omega)]; exact o1 x hx
  · rw [upd_n (by omega)]; exact o2 a ha
  · rw [upd_n (by omega)]; exact o3 a ha b hb
/-- the past, one more row put into its ring -/
theorem enc_past {S : zS} {f : Nat → Int32} : ∀ j, j < 30 → (encC S).set (41 + j) (.inl (0, 55, .inl f)) = encC (zUr S (41 + j) f)
  | 0, _ => rfl | 1, _ => rfl | 2, _ => rfl | 3, _ => rfl | 4, _ => rfl | 5, _ => rfl | 6, _ => rfl | 7, _ => rfl | 8, _ => rfl | 9, _ => rfl
  | 10, _ => rfl | 11, _ => rfl | 12, _ => rfl | 13, _ => rfl | 14, _ => rfl | 15, _ => rfl | 16, _ => rfl | 17, _ => rfl | 18, _ => rfl | 19, _ => rfl
  | 20, _ => rfl | 21, _ => rfl | 22, _ => rfl | 23, _ => rfl | 24, _ => rfl | 25, _ => rfl | 26, _ => rfl | 27, _ => rfl | 28, _ => rfl | 29, _ => rfl
  | j + 30, h => absurd h (by omega)
theorem enc_at {S : zS} : ∀ j, j < 30 → (encC S)[41 + j]? = some (.inl (0, 55, .inl (S (41 + j))))
  | 0, _ => rfl | 1, _ => rfl | 2, _ => rfl | 3, _ => rfl | 4, _ => rfl | 5, _ => rfl | 6, _ => rfl | 7, _ => rfl | 8, _ => rfl | 9, _ => rfl
  | 10, _ => rfl | 11, _ => rfl | 12, _ => rfl | 13, _ => rfl | 14, _ => rfl | 15, _ => rfl | 16, _ => rfl | 17, _ => rfl | 18, _ => rfl | 19, _ => rfl
  | 20, _ => rfl | 21, _ => rfl | 22, _ => rfl | 23, _ => rfl | 24, _ => rfl | 25, _ => rfl | 26, _ => rfl | 27, _ => rfl | 28, _ => rfl | 29, _ => rfl
  | j + 30, h => absurd h (by omega)
