/-! the class's deeds, the small writes -/
def clW (v : Int32) : Int32 := if (0 : Int32) < (if v < 9 then v else 9) then (if v < 9 then v else 9) else 0
section D1
variable {d : Nat} {S M : zS} {n k : Nat}
theorem b_nx : ∀ j, j < 30 → nI j + 1 - (nI j + 1) / 30 * 30 = nI ((j + 1) % 30) := by decide +kernel
theorem b_fm : ∀ j, j < 30 → ∀ u, u < 31 → (let x := nI j - nI u; let r := x - x / 30 * 30; (if r ^^^ 30 < 0 then (if r = 0 then r else r + 30) else r) = nI ((j + 30 - u) % 30)) := by decide +kernel
theorem b_de : ∀ j, j < 31 → (if nI j + 1 < 30 then nI j + 1 else 30) = nI (if j = 30 then 30 else j + 1) := by decide +kernel
theorem row_set {f g : Nat → Int32} : ∀ j, j < 55 → (fun j => if j < 55 then f j else g j) j = f j := fun j h => if_pos h
theorem s_remember {nx de : Nat} (h1 : nx < 30) (h2 : de ≤ 30) (e1 : S 39 1 = nI nx) (e2 : S 39 2 = nI de) : zRuns gPs_remember (d + 2) [.ref 39, .ref 25] (encC S) (fun v σ' => v = none ∧ σ' = encC (zU (zU (zUr S (41 + nx) (fun j => if j < 55 then S 26 j else S (41 + nx) j)) 39 1 (nI ((nx + 1) % 30))) 39 2 (nI (if de = 30 then 30 else de + 1)))) := by
  refine m_Ps_remember [] rfl (Nat.le_of_ble_eq_true rfl) ?_
  refine ⟨fun q => absurd q (by rw [e1]; exact nI_pos (by omega)), fun _ => ?_⟩
  refine ⟨fun q => absurd q (by rw [e1]; exact nI_ge h1 (by decide)), fun _ => ?_⟩
  refine ⟨by rw [e1]; exact vp_in_nI h1 (by decide), ?_⟩
  generalize hS1 : zUr S (41 + nx) (fun j => if j < 55 then S 26 j else S (41 + nx) j) = S1
  have f1 : S1 39 1 = nI nx := by rw [← hS1, zUr_k (by omega)]; exact e1
  have f2 : S1 39 2 = nI de := by rw [← hS1, zUr_k (by omega)]; exact e2
  have cp : ∀ r : Value, r = .ref (41 + nx) → zRuns gB_copyRow (d + 1) [.ref 26, r] (encC S) (fun v σ' => v = none ∧ σ' = encC S1) := by
    rintro _ rfl
    rw [← hS1, ← enc_past nx h1]
    exact c_copyRow (r1 := 26) (n1 := 55) (n2 := 55) rfl (enc_at nx h1) (by omega) (by decide) (by decide)
  refine z_call (cp _ (by rw [e1, nI_clamp (by omega)]; simp [zRf, h1])) ?_
  refine ⟨by decide, ?_⟩
  refine z_call c_min ?_
  rw [f1, f2, b_nx nx h1, b_de de (by omega)]
  exact ⟨rfl, rfl⟩
theorem rel1_row {c N : Nat → Int32} (R : rel1 S M n k) (e : rowEq n k c N) (o : okRow (M 4) n k N) : rel1 (zUr S 26 c) (zUr M 8 N) n k := ⟨R.1, okRow_B (M := zUr M 8 N) o, okRow_W (M := zUr M 8 N) o, R.2.2.2.1, e⟩
theorem relC_now (C : relC S M n k) : okRow (M 4) n k (M 8) := okRow_of C.1.2.1 C.1.2.2.1
theorem c_remember (C : relC S M n k) : zRuns gPs_remember (d + 2) [.ref 39, .ref 25] (encC S) (fun v σ' => v = none ∧ ∃ S', σ' = encC S' ∧ relC S' (notesF M (M 0 20).toNatClampNeg) n k) := by
  have hn := C.1.1.1; have hk := C.1.1.2.1
  have now := relC_now C
  obtain ⟨R, P, T, I, ⟨de, nx, h1, h2, h3, h4, h5, h6⟩, f, s, r⟩ := C
  refine (s_remember h2 h1 h5 h4).mono ?_
  rintro v σ' ⟨rfl, rfl⟩
  refine ⟨rfl, _, rfl, ?_⟩
  have ede : (M 0 20).toNatClampNeg = de := by rw [h3, nI_clamp (by omega)]
  rw [ede]
  generalize hA : (zU (zU (zUr S (41 + nx) (fun j => if j < 55 then S 26 j else S (41 + nx) j)) 39 1 (nI ((nx + 1) % 30))) 39 2 (nI (if de = 30 then 30 else de + 1))) = A
  have a0 : ∀ c, c ≠ 39 → c ≠ 41 + nx → A c = S c := by
    intro c z1 z2
    rw [← hA, zU_k z1, zU_k z1, zUr_k z2]
  have a1 : A 39 1 = nI ((nx + 1) % 30) := by rw [← hA, zU_s, upd_n (by decide), zU_s, upd_s]
  have a2 : A 39 2 = nI (if de = 30 then 30 else de + 1) := by rw [← hA, zU_s, upd_s]
  have a3 : A (41 + nx) = fun j => if j < 55 then S 26 j else S (41 + nx) j := by rw [← hA, zU_k (by omega), zU_k (by omega), zUr_s]
  have b0 : ∀ c, c ≠ 0 → c ≠ 9 → notesF M de c = M c := fun c => notesF_k
  have b1 : ∀ j, j ≠ 20 → notesF M de 0 j = M 0 j := fun j => notesF_0
  generalize hB : notesF M de = B at *
  have q : ∀ c, c < 39 → A c = S c := fun c hc => a0 c (by omega) (by omega)
  have q' : ∀ c, 71 ≤ c → A c = S c := fun c hc => a0 c (by omega) (by omega)
  refine ⟨?_, ?_, ?_, ?_, ?_, ?_, ?_, ?_⟩
  · have IM : okM B n k := okM_of R.1 (b1 4 (by decide)) (b1 6 (by decide)) (b1 7 (by decide)) (b0 2 (by decide) (by decide)) (b0 4 (by decide) (by decide))
    have now' : okRow (B 4) n k (B 8) := by rw [b0 4 (by decide) (by decide), b0 8 (by decide) (by decide)]; exact now
    refine ⟨IM, okRow_B now', okRow_W now', ?_, ?_⟩
    · unfold relF
      rw [q 14 (by decide), q 15 (by decide), q 16 (by decide), q 17 (by decide), q 18 (by decide), q 19 (by decide), q 20 (by decide), q 21 (by decide), q 22 (by decide), q 23 (by decide), q 24 (by decide), b1 3 (by decide), b1 4 (by decide), b1 5 (by decide), b0 2 (by decide) (by decide), b0 3 (by decide) (by decide), b0 4 (by decide) (by decide)]
      exact R.2.2.2.1
    · rw [q 26 (by decide), b0 8 (by decide) (by decide)]
      exact R.2.2.2.2
  · unfold relP
    rw [q' 71 (by decide), q' 72 (by decide), q' 73 (by decide), q' 74 (by decide), q' 75 (by decide), q' 76 (by decide), b1 26 (by decide), b1 28 (by decide), b0 13 (by decide) (by decide), b0 14 (by decide) (by decide)]
    exact P
  · unfold relT
    rw [q 1 (by decide), q 2 (by decide), b1 1 (by decide), b0 1 (by decide) (by decide)]
    exact T
  · unfold relI
    rw [q' 77 (by decide), q' 78 (by decide), q' 79 (by decide), q' 80 (by decide), b0 10 (by decide) (by decide), b0 11 (by decide) (by decide), b0 12 (by decide) (by decide), b0 4 (by decide) (by decide)]
    exact I
  · have c0 : B 0 20 = nI (if de = 30 then 30 else de + 1) := by
      rw [← hB]; unfold notesF
      by_cases z : de = 30
      · rw [if_pos z, if_pos z, zU_s, upd_s]
      · rw [if_neg z, if_neg z, zU_s, upd_s]
    have c9 : ∀ r j, r < 30 → j < 55 → B 9 (55 * r + j) = if de = 30 then (if r = 29 then M 8 j else M 9 (55 * (r + 1) + j)) else (if r = de then M 8 j else M 9 (55 * r + j)) := by
      intro r j hr hj
      rw [← hB]; unfold notesF
      by_cases z : de = 30
      · rw [if_pos z, if_pos z, zU_k (by decide), zUr_s]
        unfold cpyF shfF
        by_cases w : r = 29
        · rw [if_pos w, if_pos (by omega), show 0 + (55 * r + j - 1595) = j by omega]
        · rw [if_neg w, if_neg (by omega)]
          show (if 55 * r + j < 1595 then _ else _) = _
          rw [if_pos (by omega)]
          congr 1
          omega
      · rw [if_neg z, if_neg z, zU_k (by decide), zUr_s]
        unfold cpyF
        by_cases w : r = de
        · rw [if_pos w, if_pos (by omega)]
          congr 1
          omega
        · rw [if_neg w, if_neg (by omega)]
    refine ⟨if de = 30 then 30 else de + 1, (nx + 1) % 30, by split <;> omega, by omega, c0, a2, a1, fun t ht => ?_⟩
    by_cases ht0 : t = 0
    · subst ht0
      have e1 : ((nx + 1) % 30 + 29 - 0) % 30 = nx := by omega
      have e2 : ∀ j, j < 55 → B 9 (55 * ((if de = 30 then 30 else de + 1) - 1 - 0) + j) = M 8 j := by
        intro j hj
        by_cases z : de = 30
        · rw [if_pos z, c9 29 j (by omega) hj, if_pos z, if_pos rfl]
        · rw [if_neg z, show de + 1 - 1 - 0 = de by omega, c9 de j (by omega) hj, if_neg z, if_pos rfl]
      rw [e1, a3]
      refine ⟨rowEq_congr hn hk (fun j hj => if_pos hj) e2 R.2.2.2.2, okRow_congr hn hk (b0 4 (by decide) (by decide)) e2 now⟩
    · have e1 : ((nx + 1) % 30 + 29 - t) % 30 = (nx + 29 - (t - 1)) % 30 := by split at ht <;> omega
      have e2 : ∀ j, j < 55 → B 9 (55 * ((if de = 30 then 30 else de + 1) - 1 - t) + j) = M 9 (55 * (de - 1 - (t - 1)) + j) := by
        intro j hj
        by_cases z : de = 30
        · rw [if_pos z] at ht
          rw [if_pos z, c9 (30 - 1 - t) j (by omega) hj, if_pos z, if_neg (by omega)]
          congr 2
          omega
        · rw [if_neg z] at ht
          rw [if_neg z, c9 (de + 1 - 1 - t) j (by omega) hj, if_neg z, if_neg (by omega)]
          congr 2
          omega
      have ht' : t - 1 < de := by split at ht <;> omega
      have hne : (nx + 29 - (t - 1)) % 30 ≠ nx := by split at ht <;> omega
      rw [e1, a0 _ (by omega) (by omega)]
      obtain ⟨g1, g2⟩ := h6 (t - 1) ht'
      exact ⟨rowEq_congr hn hk (fun j hj => rfl) e2 g1, okRow_congr hn hk (b0 4 (by decide) (by decide)) e2 g2⟩
  · rw [q 0 (by decide), b1 2 (by decide)]; exact f
  · rw [q 0 (by decide), b1 24 (by decide)]; exact s
  · unfold okR; rw [b0 3 (by decide) (by decide)]; exact r
end D1
