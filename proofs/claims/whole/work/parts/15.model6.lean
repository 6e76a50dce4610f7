def lcgM (s : Int32) : Int32 := ((s.toInt64 * 1103515245 + 12345) &&& 2147483647).toInt32
theorem lcg_eq (s : Int32) : lcgM s = (s * 1103515245 + 12345) &&& 2147483647 := by
  unfold lcgM
  simp
theorem lcg_n (s : Int32) : ∃ a, a < 2 ^ 31 ∧ lcgM s = nI a := by
  rw [lcg_eq]
  exact pk_andE _ 31 (by decide)
def drawF (s n : Int32) : Int32 := lcgM s / 65536 - lcgM s / 65536 / n * n
theorem draw_n (s : Int32) {c : Nat} (h0 : 0 < c) (hc : c < 2 ^ 31) : ∃ q, q < c ∧ drawF s (nI c) = nI q := by
  obtain ⟨a, ha, e⟩ := lcg_n s
  refine ⟨a / 65536 % c, Nat.mod_lt _ h0, ?_⟩
  unfold drawF
  rw [e, show (65536 : Int32) = nI 65536 from rfl, pk_div ha (by decide) (by decide), pk_rem (by omega) h0 hc]
def memU (s kk e : Int32) : Nat → Nat → Int32 → Int32
  | 0, _, _ => e
  | f + 1, m, c => if hasB s (nI m) then (if c = kk then nI m else memU s kk e f (m + 1) (c + 1)) else memU s kk e f (m + 1) c
def memF (s kk : Int32) : Int32 := memU s kk 0 7 0 0
theorem b_put : ∀ s, s < 128 → ∀ m, m < 7 → hasB (nI s) (nI m) = false → (nI s ||| (1 <<< (nI m &&& 31)) = nI (s + 2 ^ m) ∧ s + 2 ^ m < 128 ∧ onesU (nI (s + 2 ^ m)) 7 = onesU (nI s) 7 + 1) := by decide +kernel
theorem b_or : ∀ n, n < 7 → ∀ s, s < 2 ^ n → (nI s ||| (1 <<< (nI n &&& 31)) = nI (s + 2 ^ n) ∧ ∀ m, m < 7 → hasB (nI (s + 2 ^ n)) (nI m) = (hasB (nI s) (nI m) || decide (m = n))) := by decide +kernel
theorem b_ones : ∀ s, s < 128 → s ≠ 0 → (onesU (nI s) 7 = nI (onesU (nI s) 7).toNatClampNeg ∧ 0 < (onesU (nI s) 7).toNatClampNeg ∧ (onesU (nI s) 7).toNatClampNeg < 8) := by decide +kernel
theorem b_mem : ∀ s, s < 128 → ∀ q, q < 7 → q < (onesU (nI s) 7).toNatClampNeg → (memF (nI s) (nI q) = nI (memF (nI s) (nI q)).toNatClampNeg ∧ (memF (nI s) (nI q)).toNatClampNeg < 7 ∧ hasB (nI s) (nI (memF (nI s) (nI q)).toNatClampNeg) = true) := by decide +kernel
theorem b_zero : ∀ m, m < 7 → hasB (nI 0) (nI m) = false := by decide +kernel
theorem bits_n (p : Nat → Bool) : ∀ n, n ≤ 7 → ∃ s, s < 2 ^ n ∧ bits p n = nI s ∧ ∀ m, m < 7 → hasB (nI s) (nI m) = (decide (m < n) && p m)
  | 0, _ => ⟨0, by decide, rfl, fun m hm => by rw [b_zero m hm]; simp⟩
  | n + 1, h => by
    obtain ⟨s, hs, e, hm⟩ := bits_n p n (by omega)
    by_cases hp : p n = true
    · obtain ⟨e1, e2⟩ := b_or n (by omega) s hs
      refine ⟨s + 2 ^ n, by rw [Nat.pow_succ]; omega, ?_, fun m h7 => ?_⟩
      · simp only [bits]
        rw [e, if_pos hp, e1]
      · rw [e2 m h7, hm m h7]
        by_cases h9 : m = n
        · subst h9; simp [hp]
        · by_cases h8 : m < n
          · simp [h9, h8, show m < n + 1 by omega]
          · simp [h9, h8, show ¬ m < n + 1 by omega]
    · refine ⟨s, by rw [Nat.pow_succ]; omega, ?_, fun m h7 => ?_⟩
      · simp only [bits]
        rw [e, if_neg hp]
        simp
      · rw [hm m h7]
        by_cases h9 : m = n
        · subst h9; simp [hp]
        · by_cases h8 : m < n
          · simp [h8, show m < n + 1 by omega]
          · simp [h8, show ¬ m < n + 1 by omega]
