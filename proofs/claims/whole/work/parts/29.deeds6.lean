/-! the class's deeds: the images -/
section D6
variable {d : Nat} {S M : zS} {n k : Nat}
theorem c_forget : zRuns gPs_forget d [.ref 39] (encC S) (fun r σ' => r = none ∧ σ' = encC (zU S 39 2 0)) := by
  refine m_Ps_forget [] rfl (Nat.le_of_ble_eq_true rfl) ?_
  exact ⟨rfl, rfl⟩
theorem c_image0 : zRuns gB_imageOf d [.ref 0, .int 0] (encC S) (fun r σ' => r = some (.ref 77) ∧ σ' = encC S) := by
  refine m_B_imageOf [] rfl (Nat.le_of_ble_eq_true rfl) ?_
  refine br_t rfl ?_
  exact ⟨rfl, rfl⟩
theorem c_image1 : zRuns gB_imageOf d [.ref 0, .int 1] (encC S) (fun r σ' => r = some (.ref 79) ∧ σ' = encC S) := by
  refine m_B_imageOf [] rfl (Nat.le_of_ble_eq_true rfl) ?_
  refine br_f (by decide) ?_
  refine br_t rfl ?_
  exact ⟨rfl, rfl⟩
theorem c_image2 {i : Int32} (h0 : ¬ i = 0) (h1 : ¬ i = 1) : zRuns gB_imageOf d [.ref 0, .int i] (encC S) (fun r σ' => r = some .null ∧ σ' = encC S) := by
  refine m_B_imageOf [] rfl (Nat.le_of_ble_eq_true rfl) ?_
  refine ⟨fun h => absurd h h0, fun _ => ?_⟩
  refine ⟨fun h => absurd h h1, fun _ => ?_⟩
  exact ⟨rfl, rfl⟩
theorem t_0 : (0 : Int32).toNatClampNeg = 0 := by decide
theorem t_1 : (1 : Int32).toNatClampNeg = 1 := by decide
theorem img_of {i : Int32} (h : 0 ≤ i ∧ i ≤ 1) : i = 0 ∨ i = 1 := by
  obtain ⟨j, hj, rfl⟩ := z_rng (N := 1) (by decide) h
  have : j = 0 ∨ j = 1 := by omega
  rcases this with e | e <;> subst e
  · exact Or.inl rfl
  · exact Or.inr rfl
theorem img_no {i : Int32} (h : ¬ (0 ≤ i ∧ i ≤ 1)) : ¬ i = 0 ∧ ¬ i = 1 := ⟨fun z => h (by rw [z]; decide), fun z => h (by rw [z]; decide)⟩
theorem cpy_in {f g : Nat → Int32} {a b : Nat} : ∀ j, j < 55 → cpyF f g a b (b + j) = f (a + j) := by
  intro j hj
  unfold cpyF
  rw [if_pos (by omega), show b + j - b = j by omega]
theorem cpy_in0 {f g : Nat → Int32} {a : Nat} : ∀ j, j < 55 → cpyF f g a 0 j = f (a + j) := by
  intro j hj
  have := cpy_in (f := f) (g := g) (a := a) (b := 0) j hj
  rwa [Nat.zero_add] at this
theorem cpy_out {f g : Nat → Int32} {a b c : Nat} (h : b + 55 ≤ c ∨ c + 55 ≤ b) : ∀ j, j < 55 → cpyF f g a b (c + j) = g (c + j) := by
  intro j hj
  unfold cpyF
  rw [if_neg (by omega)]
theorem relC_keep0 (C : relC S M n k) : relC (zU (zU (zU (zUr S 78 (fun j => if j < 55 then S 26 j else S 78 j)) 77 1 (S 0 11)) 77 2 1) 39 2 0) (zU (zU (zU (zUr M 10 (cpyF (M 8) (M 10) 0 (55 * 0))) 11 0 (M 0 24)) 12 0 1) 0 20 0) n k := by
  have hn := C.1.1.1; have hk := C.1.1.2.1
  have now := relC_now C
  obtain ⟨R, P, T, ⟨i1, i2, i3, i4⟩, ⟨de, nx, h1, h2, h3, h4, h5, h6⟩, f, s, r⟩ := C
  refine ⟨⟨okM_of R.1 rfl rfl rfl rfl rfl, R.2.1, R.2.2.1, R.2.2.2.1, R.2.2.2.2⟩, P, T, ⟨rfl, i2, fun _ => ⟨s, ?_, ?_⟩, fun h => ⟨(i4 h).1, ?_, ?_⟩⟩, ⟨0, nx, by omega, h2, rfl, rfl, h5, fun y hy => absurd hy (by omega)⟩, f, s, r⟩
  · exact rowEq_congr hn hk (fun j hj => if_pos hj) (fun j hj => (cpy_in (a := 0) (b := 0) j hj).trans (by rw [Nat.zero_add])) R.2.2.2.2
  · exact okRow_congr hn hk rfl (fun j hj => (cpy_in (a := 0) (b := 0) j hj).trans (by rw [Nat.zero_add])) now
  · exact rowEq_congr hn hk (fun j hj => rfl) (cpy_out (by omega)) (i4 h).2.1
  · exact okRow_congr hn hk rfl (cpy_out (by omega)) (i4 h).2.2
theorem relC_keep1 (C : relC S M n k) : relC (zU (zU (zU (zUr S 80 (fun j => if j < 55 then S 26 j else S 80 j)) 79 1 (S 0 11)) 79 2 1) 39 2 0) (zU (zU (zU (zUr M 10 (cpyF (M 8) (M 10) 0 (55 * 1))) 11 1 (M 0 24)) 12 1 1) 0 20 0) n k := by
  have hn := C.1.1.1; have hk := C.1.1.2.1
  have now := relC_now C
  obtain ⟨R, P, T, ⟨i1, i2, i3, i4⟩, ⟨de, nx, h1, h2, h3, h4, h5, h6⟩, f, s, r⟩ := C
  refine ⟨⟨okM_of R.1 rfl rfl rfl rfl rfl, R.2.1, R.2.2.1, R.2.2.2.1, R.2.2.2.2⟩, P, T, ⟨i1, rfl, fun h => ⟨(i3 h).1, ?_, ?_⟩, fun _ => ⟨s, ?_, ?_⟩⟩, ⟨0, nx, by omega, h2, rfl, rfl, h5, fun y hy => absurd hy (by omega)⟩, f, s, r⟩
  · exact rowEq_congr hn hk (fun j hj => rfl) (cpy_out (by omega)) (i3 h).2.1
  · exact okRow_congr hn hk rfl (cpy_out (by omega)) (i3 h).2.2
  · exact rowEq_congr hn hk (fun j hj => if_pos hj) (fun j hj => (cpy_in (a := 0) (b := 55) j hj).trans (by rw [Nat.zero_add])) R.2.2.2.2
  · exact okRow_congr hn hk rfl (fun j hj => (cpy_in (a := 0) (b := 55) j hj).trans (by rw [Nat.zero_add])) now
theorem c_keep (C : relC S M n k) {i : Int32} : zRuns gB_keep (d + 2) [.ref 0, .int i] (encC S) (fun v σ' => v = some (.int (pKeep i)) ∧ ∃ S', σ' = encC S' ∧ relC S' (gKeep M i) n k) := by
  refine m_B_keep [] rfl (Nat.le_of_ble_eq_true rfl) ?_
  by_cases h : 0 ≤ i ∧ i ≤ 1
  · rcases img_of h with rfl | rfl
    · refine z_call c_image0 ?_
      refine z_call (c_copyRow (r1 := 26) (r2 := 78) (n1 := 55) (n2 := 55) (f1 := S 26) (f2 := S 78) rfl rfl (by decide) (by decide) (by decide)) ?_
      refine ⟨Or.inr rfl, ?_⟩
      refine z_call (c_forget (S := zU (zU (zUr S 78 (fun j => if j < 55 then S 26 j else S 78 j)) 77 1 (S 0 11)) 77 2 1)) ?_
      exact ⟨by unfold pKeep; rw [if_neg (fun z => z h)], _, rfl, by unfold gKeep; rw [if_neg (fun z => z h), t_0]; exact relC_keep0 C⟩
    · refine z_call c_image1 ?_
      refine z_call (c_copyRow (r1 := 26) (r2 := 80) (n1 := 55) (n2 := 55) (f1 := S 26) (f2 := S 80) rfl rfl (by decide) (by decide) (by decide)) ?_
      refine ⟨Or.inr rfl, ?_⟩
      refine z_call (c_forget (S := zU (zU (zUr S 80 (fun j => if j < 55 then S 26 j else S 80 j)) 79 1 (S 0 11)) 79 2 1)) ?_
      exact ⟨by unfold pKeep; rw [if_neg (fun z => z h)], _, rfl, by unfold gKeep; rw [if_neg (fun z => z h), t_1]; exact relC_keep1 C⟩
  · obtain ⟨h0, h1⟩ := img_no h
    refine z_call (c_image2 h0 h1) ?_
    exact ⟨by unfold pKeep; rw [if_pos h], S, rfl, by unfold gKeep; rw [if_pos h]; exact C⟩
theorem relC_back {c N : Nat → Int32} {v : Int32} (C : relC S M n k) (e : rowEq n k c N) (o : okRow (M 4) n k N) : relC (zU (zU (zUr S 26 c) 0 11 v) 39 2 0) (zU (zU (zUr M 8 N) 0 24 v) 0 20 0) n k := by
  obtain ⟨R, P, T, I, ⟨de, nx, h1, h2, h3, h4, h5, h6⟩, f, s, r⟩ := relC_seed (v := v) (relC_row C e o)
  exact ⟨⟨okM_of R.1 rfl rfl rfl rfl rfl, R.2.1, R.2.2.1, R.2.2.2.1, R.2.2.2.2⟩, P, T, I, ⟨0, nx, by omega, h2, rfl, rfl, h5, fun y hy => absurd hy (by omega)⟩, f, s, r⟩
theorem c_goBack (C : relC S M n k) {i : Int32} : zRuns gB_goBack (d + 2) [.ref 0, .int i] (encC S) (fun v σ' => v = some (.int (pBack M i)) ∧ ∃ S', σ' = encC S' ∧ relC S' (gBack M i) n k) := by
  have C0 := C
  have hn := C.1.1.1; have hk := C.1.1.2.1
  obtain ⟨R, P, T, ⟨i1, i2, i3, i4⟩, -⟩ := C
  refine m_B_goBack [] rfl (Nat.le_of_ble_eq_true rfl) ?_
  by_cases h : 0 ≤ i ∧ i ≤ 1
  · rcases img_of h with rfl | rfl
    · refine z_call c_image0 ?_
      show (S 77 2 = 0 → _) ∧ (¬ S 77 2 = 0 → _)
      rw [i1]
      refine ⟨fun g => ?_, fun g => ?_⟩
      · exact ⟨by unfold pBack; rw [if_neg (fun z => z h), t_0, if_pos g], S, rfl, by unfold gBack; rw [if_neg (fun z => z h), t_0, if_pos g]; exact C0⟩
      obtain ⟨a1, a2, a3⟩ := i3 g
      refine z_call (c_copyRow (r1 := 78) (r2 := 26) (n1 := 55) (n2 := 55) (f1 := S 78) (f2 := S 26) rfl rfl (by decide) (by decide) (by decide)) ?_
      refine z_call (c_forget (S := zU (zUr S 26 (fun j => if j < 55 then S 78 j else S 26 j)) 0 11 (S 77 1))) ?_
      refine ⟨by unfold pBack; rw [if_neg (fun z => z h), t_0, if_neg g], _, rfl, ?_⟩
      unfold gBack
      rw [if_neg (fun z => z h), t_0, if_neg g, a1]
      exact relC_back C0 (rowEq_congr hn hk (fun j hj => if_pos hj) (fun j hj => cpy_in0 (a := 0) j hj) a2) (okRow_congr hn hk rfl (fun j hj => cpy_in0 (a := 0) j hj) a3)
    · refine z_call c_image1 ?_
      show (S 79 2 = 0 → _) ∧ (¬ S 79 2 = 0 → _)
      rw [i2]
      refine ⟨fun g => ?_, fun g => ?_⟩
      · exact ⟨by unfold pBack; rw [if_neg (fun z => z h), t_1, if_pos g], S, rfl, by unfold gBack; rw [if_neg (fun z => z h), t_1, if_pos g]; exact C0⟩
      obtain ⟨a1, a2, a3⟩ := i4 g
      refine z_call (c_copyRow (r1 := 80) (r2 := 26) (n1 := 55) (n2 := 55) (f1 := S 80) (f2 := S 26) rfl rfl (by decide) (by decide) (by decide)) ?_
      refine z_call (c_forget (S := zU (zUr S 26 (fun j => if j < 55 then S 80 j else S 26 j)) 0 11 (S 79 1))) ?_
      refine ⟨by unfold pBack; rw [if_neg (fun z => z h), t_1, if_neg g], _, rfl, ?_⟩
      unfold gBack
      rw [if_neg (fun z => z h), t_1, if_neg g, a1]
      exact relC_back C0 (rowEq_congr hn hk (fun j hj => if_pos hj) (fun j hj => cpy_in0 (a := 55) j hj) a2) (okRow_congr hn hk rfl (fun j hj => cpy_in0 (a := 55) j hj) a3)
  · obtain ⟨h0, h1⟩ := img_no h
    refine z_call (c_image2 h0 h1) ?_
    exact ⟨by unfold pBack; rw [if_pos h], S, rfl, by unfold gBack; rw [if_pos h]; exact C0⟩
end D6
