/-! the state: S k j is what cell k holds at place j -/
abbrev zS : Type := Nat → Nat → Int32
/-- one number put -/
def zU (S : zS) (k j : Nat) (v : Int32) : zS := va_up S k (upd (S k) j v)
/-- one row put -/
def zUr (S : zS) (k : Nat) (f : Nat → Int32) : zS := va_up S k f
theorem zU_k {S : zS} {k j a : Nat} {v : Int32} (h : a ≠ k) : zU S k j v a = S a := va_up_ne _ _ h
theorem zU_s {S : zS} {k j : Nat} {v : Int32} : zU S k j v k = upd (S k) j v := va_up_self _ _ _
theorem zUr_k {S : zS} {k a : Nat} {f : Nat → Int32} (h : a ≠ k) : zUr S k f a = S a := va_up_ne _ _ h
theorem zUr_s {S : zS} {k : Nat} {f : Nat → Int32} : zUr S k f k = f := va_up_self _ _ _
theorem upd_s {f : Nat → Int32} {k : Nat} {x : Int32} : upd f k x k = x := if_pos rfl
theorem upd_n {f : Nat → Int32} {k j : Nat} {x : Int32} (h : j ≠ k) : upd f k x j = f j := if_neg h
def encC (S : zS) : List va_E := [.inr (8, [.ref 1, .ref 3, .ref 14, .ref 25, .ref 27, .ref 28, .ref 39, .ref 71, .ref 77, .ref 79, .int (S 0 10), .int (S 0 11)]),
  .inr (7, [.ref 2, .int (S 1 1), .int (S 1 2), .int (S 1 3), .int (S 1 4), .int (S 1 5)]),
  .inl (0, 230, .inl (S 2)),
  .inr (1, [.int (S 3 0), .int (S 3 1), .int (S 3 2), .int (S 3 3), .int (S 3 4), .ref 4, .ref 5, .ref 6, .ref 7, .ref 8, .ref 9, .ref 10, .ref 11, .ref 12, .ref 13]),
  .inl (0, 7, .inl (S 4)),
  .inl (0, 7, .inl (S 5)),
  .inl (0, 7, .inl (S 6)),
  .inl (0, 42, .inl (S 7)),
  .inl (0, 4, .inl (S 8)),
  .inl (0, 4, .inl (S 9)),
  .inl (0, 4, .inl (S 10)),
  .inl (0, 4, .inl (S 11)),
  .inl (0, 4, .inl (S 12)),
  .inl (0, 4, .inl (S 13)),
  .inr (1, [.int (S 14 0), .int (S 14 1), .int (S 14 2), .int (S 14 3), .int (S 14 4), .ref 15, .ref 16, .ref 17, .ref 18, .ref 19, .ref 20, .ref 21, .ref 22, .ref 23, .ref 24]),
  .inl (0, 7, .inl (S 15)),
  .inl (0, 7, .inl (S 16)),
  .inl (0, 7, .inl (S 17)),
  .inl (0, 42, .inl (S 18)),
  .inl (0, 4, .inl (S 19)),
  .inl (0, 4, .inl (S 20)),
  .inl (0, 4, .inl (S 21)),
  .inl (0, 4, .inl (S 22)),
  .inl (0, 4, .inl (S 23)),
  .inl (0, 4, .inl (S 24)),
  .inr (6, [.ref 26]),
  .inl (0, 55, .inl (S 26)),
  .inr (0, [.ref 14, .ref 25]),
  .inr (5, [.ref 14, .ref 25, .ref 27, .ref 29, .ref 30, .ref 31, .ref 32, .ref 33, .ref 34, .ref 35, .ref 36, .ref 37, .ref 38, .int (S 28 13)]),
  .inl (0, 7, .inl (S 29)),
  .inl (0, 28, .inl (S 30)),
  .inl (0, 4, .inl (S 31)),
  .inl (0, 88, .inl (S 32)),
  .inl (0, 88, .inl (S 33)),
  .inl (0, 4, .inl (S 34)),
  .inl (0, 5, .inl (S 35)),
  .inl (0, 7, .inl (S 36)),
  .inl (0, 4, .inl (S 37)),
  .inl (0, 4, .inl (S 38)),
  .inr (4, [.ref 40, .int (S 39 1), .int (S 39 2)]),
  .inl (2, 30, .inr (.inr (.inr (.inr (fun j => if j < 30 then some (41 + j) else none))))),
  .inl (0, 55, .inl (S 41)),
  .inl (0, 55, .inl (S 42)),
  .inl (0, 55, .inl (S 43)),
  .inl (0, 55, .inl (S 44)),
  .inl (0, 55, .inl (S 45)),
  .inl (0, 55, .inl (S 46)),
  .inl (0, 55, .inl (S 47)),
  .inl (0, 55, .inl (S 48)),
  .inl (0, 55, .inl (S 49)),
  .inl (0, 55, .inl (S 50)),
  .inl (0, 55, .inl (S 51)),
  .inl (0, 55, .inl (S 52)),
  .inl (0, 55, .inl (S 53)),
  .inl (0, 55, .inl (S 54)),
  .inl (0, 55, .inl (S 55)),
  .inl (0, 55, .inl (S 56)),
  .inl (0, 55, .inl (S 57)),
  .inl (0, 55, .inl (S 58)),
  .inl (0, 55, .inl (S 59)),
  .inl (0, 55, .inl (S 60)),
  .inl (0, 55, .inl (S 61)),
  .inl (0, 55, .inl (S 62)),
  .inl (0, 55, .inl (S 63)),
  .inl (0, 55, .inl (S 64)),
  .inl (0, 55, .inl (S 65)),
  .inl (0, 55, .inl (S 66)),
  .inl (0, 55, .inl (S 67)),
  .inl (0, 55, .inl (S 68)),
  .inl (0, 55, .inl (S 69)),
  .inl (0, 55, .inl (S 70)),
  .inr (3, [.ref 72, .ref 73, .ref 74, .int (S 71 3), .ref 75, .ref 76, .int (S 71 6)]),
  .inl (0, 6, .inl (S 72)),
  .inl (0, 6, .inl (S 73)),
  .inl (0, 6, .inl (S 74)),
  .inl (0, 20, .inl (S 75)),
  .inl (0, 20, .inl (S 76)),
  .inr (2, [.ref 78, .int (S 77 1), .int (S 77 2)]),
  .inl (0, 55, .inl (S 78)),
  .inr (2, [.ref 80, .int (S 79 1), .int (S 79 2)]),
  .inl (0, 55, .inl (S 80))]
def encM (S : zS) : List va_E := [.inr (9, [.ref 1, .int (S 0 1), .int (S 0 2), .int (S 0 3), .int (S 0 4), .int (S 0 5), .int (S 0 6), .int (S 0 7), .ref 2, .ref 3, .ref 4, .int (S 0 11), .int (S 0 12), .int (S 0 13), .int (S 0 14), .ref 5, .ref 6, .ref 7, .ref 8, .ref 9, .int (S 0 20), .ref 10, .ref 11, .ref 12, .int (S 0 24), .ref 13, .int (S 0 26), .ref 14, .int (S 0 28), .int (S 0 29), .int (S 0 30), .ref 15, .ref 16, .ref 17, .ref 18, .int (S 0 35)]),
  .inl (0, 230, .inl (S 1)),
  .inl (0, 21, .inl (S 2)),
  .inl (0, 42, .inl (S 3)),
  .inl (0, 24, .inl (S 4)),
  .inl (0, 21, .inl (S 5)),
  .inl (0, 42, .inl (S 6)),
  .inl (0, 24, .inl (S 7)),
  .inl (0, 55, .inl (S 8)),
  .inl (0, 1650, .inl (S 9)),
  .inl (0, 110, .inl (S 10)),
  .inl (0, 2, .inl (S 11)),
  .inl (1, 2, .inl (S 12)),
  .inl (0, 18, .inl (S 13)),
  .inl (0, 40, .inl (S 14)),
  .inl (0, 92, .inl (S 15)),
  .inl (0, 4, .inl (S 16)),
  .inl (0, 4, .inl (S 17)),
  .inl (0, 4, .inl (S 18))]
theorem z_ad {a b : Int32} {i j : Nat} (ha : a = nI i) (hb : b = nI j) : a + b = nI (i + j) := by rw [ha, hb, nI_add]
theorem z_mu {a b : Int32} {i j : Nat} (ha : a = nI i) (hb : b = nI j) : a * b = nI (i * j) := by rw [ha, hb, pk_mul]
theorem z_ld {nx : zNx} {pc : Nat} {ls : List (Option Value)} {r : List Value} {σ : List va_E} {uc us n k : Nat} {i : Int32} {f : Nat → Int32} (e : i = nI k) (hk : k < n) (hn : n < 2 ^ 31) (h : nx pc ls (.int (f k) :: r) σ uc us) : vp_in i n ∧ nx pc ls (.int (f i.toNatClampNeg) :: r) σ uc us := by
  subst e
  exact ⟨vp_in_nI hk hn, by rw [nI_clamp (by omega)]; exact h⟩
theorem z_st {nx : zNx} {pc : Nat} {ls : List (Option Value)} {r : List Value} {σ : List va_E} {uc us n k a t : Nat} {i x : Int32} {f : Nat → Int32} (e : i = nI k) (hk : k < n) (hn : n < 2 ^ 31) (h : nx pc ls r (σ.set a (.inl (t, n, .inl (upd f k x)))) uc us) : vp_in i n ∧ nx pc ls r (σ.set a (.inl (t, n, .inl (upd f i.toNatClampNeg x)))) uc us := by
  subst e
  exact ⟨vp_in_nI hk hn, by rw [nI_clamp (by omega)]; exact h⟩
theorem z_call {nx : zNx} {g : zG} {d pc uc us : Nat} {ls : List (Option Value)} {av rest : List Value} {σ σ1 : List va_E} {v1 : Option Value} (h : zRuns g d av σ (fun v σ' => v = v1 ∧ σ' = σ1)) (k : nx pc ls (v1.toList ++ rest) σ1 uc us) : True ∧ zRuns g d av σ (fun v σ' => nx pc ls (v.toList ++ rest) σ' uc us) := ⟨trivial, h.eq k⟩
theorem z_callE {nx : zNx} {g : zG} {d pc uc us : Nat} {ls : List (Option Value)} {av rest : List Value} {σ : List va_E} {P : Option Value → List va_E → Prop} (h : zRuns g d av σ P) (k : ∀ v σ', P v σ' → nx pc ls (v.toList ++ rest) σ' uc us) : True ∧ zRuns g d av σ (fun v σ' => nx pc ls (v.toList ++ rest) σ' uc us) := ⟨trivial, h.mono k⟩
theorem q0 : (0 : Int32) = nI 0 := rfl
theorem q1 : (1 : Int32) = nI 1 := rfl
theorem q2 : (2 : Int32) = nI 2 := rfl
theorem q3 : (3 : Int32) = nI 3 := rfl
theorem q4 : (4 : Int32) = nI 4 := rfl
theorem q5 : (5 : Int32) = nI 5 := rfl
theorem q6 : (6 : Int32) = nI 6 := rfl
theorem q7 : (7 : Int32) = nI 7 := rfl
theorem q8 : (8 : Int32) = nI 8 := rfl
theorem q9 : (9 : Int32) = nI 9 := rfl
theorem q10 : (10 : Int32) = nI 10 := rfl
theorem q11 : (11 : Int32) = nI 11 := rfl
theorem q12 : (12 : Int32) = nI 12 := rfl
theorem q13 : (13 : Int32) = nI 13 := rfl
theorem q18 : (18 : Int32) = nI 18 := rfl
theorem q20 : (20 : Int32) = nI 20 := rfl
theorem q22 : (22 : Int32) = nI 22 := rfl
theorem q23 : (23 : Int32) = nI 23 := rfl
theorem q28 : (28 : Int32) = nI 28 := rfl
theorem q29 : (29 : Int32) = nI 29 := rfl
theorem q30 : (30 : Int32) = nI 30 := rfl
theorem q41 : (41 : Int32) = nI 41 := rfl
theorem q42 : (42 : Int32) = nI 42 := rfl
theorem q48 : (48 : Int32) = nI 48 := rfl
theorem q49 : (49 : Int32) = nI 49 := rfl
theorem q53 : (53 : Int32) = nI 53 := rfl
theorem q54 : (54 : Int32) = nI 54 := rfl
theorem q55 : (55 : Int32) = nI 55 := rfl
theorem q60 : (60 : Int32) = nI 60 := rfl
theorem q88 : (88 : Int32) = nI 88 := rfl
theorem q92 : (92 : Int32) = nI 92 := rfl
theorem q100 : (100 : Int32) = nI 100 := rfl
theorem q230 : (230 : Int32) = nI 230 := rfl
theorem bI_and (b : Bool) : bI b &&& 1 = bI b := by cases b <;> decide
