/-! the reference, its questions: what each answers, over its own numbers -/
def hasB (x i : Int32) : Bool := decide ((x >>> (i &&& 31)) &&& 1 = 1)
def onesU (x : Int32) : Nat → Int32
  | 0 => 0
  | j + 1 => onesU x j + ((x >>> (nI j &&& 31)) &&& 1)
def offF (a b : Int32) : Int32 := if a ≤ b then b - a else a - b
def okM (M : zS) (n k : Nat) : Prop := n ≤ 7 ∧ k ≤ 4 ∧ M 0 6 = nI n ∧ M 0 7 = nI k ∧ (∃ j, j ≤ 6 ∧ M 0 4 = nI j) ∧
  (∀ m, m < n → (∃ p, p ≤ 15 ∧ M 2 (3 * m) = nI p) ∧ (∃ p, p ≤ 63 ∧ M 2 (3 * m + 1) = nI p) ∧ (∃ p, 1 ≤ p ∧ p ≤ 99 ∧ M 2 (3 * m + 2) = nI p)) ∧
  (∀ x, x < k → (∃ p, p < 6 ∧ M 4 (6 * x) = nI p) ∧ (∃ p, p < 6 ∧ M 4 (6 * x + 1) = nI p) ∧ (∃ p, p ≤ 15 ∧ M 4 (6 * x + 2) = nI p) ∧ (∃ p, p ≤ 5 ∧ M 4 (6 * x + 3) = nI p) ∧ (∃ p, 1 ≤ p ∧ p ≤ 2 ∧ M 4 (6 * x + 4) = nI p) ∧ (M 4 (6 * x + 5) = -1 ∨ ∃ p, p < x ∧ M 4 (6 * x + 5) = nI p))
section M1
variable {d : Nat} {M : zS} {n k : Nat} {σ : List va_E}
theorem c_M_in {x lo hi : Int32} : zRuns gM_in d [.int x, .int lo, .int hi] σ (fun v σ' => v = some (.int (bI (decide (lo ≤ x ∧ x ≤ hi)))) ∧ σ' = σ) := by
  refine m_M_in [] rfl (Nat.le_of_ble_eq_true rfl) ?_
  refine ⟨fun h1 => ?_, fun h1 => ?_⟩
  · exact ⟨rfl, by rw [bI_ndec (fun q => Int32.lt_irrefl (Int32.lt_of_lt_of_le h1 q.1))], rfl⟩
  · refine ⟨fun h2 => ?_, fun h2 => ?_⟩
    · exact ⟨rfl, by rw [bI_ndec (fun q => Int32.lt_irrefl (Int32.lt_of_lt_of_le h2 q.2))], rfl⟩
    · exact ⟨rfl, by rw [bI_dec ⟨Int32.not_lt.mp h1, Int32.not_lt.mp h2⟩], rfl⟩
theorem c_M_has {x i : Int32} : zRuns gM_has d [.int x, .int i] σ (fun v σ' => v = some (.int (bI (hasB x i))) ∧ σ' = σ) := by
  refine m_M_has [] rfl (Nat.le_of_ble_eq_true rfl) ?_
  refine ⟨fun h1 => ?_, fun h1 => ?_⟩
  · exact ⟨rfl, by unfold hasB; rw [bI_dec h1], rfl⟩
  · exact ⟨rfl, by unfold hasB; rw [bI_ndec h1], rfl⟩
theorem c_M_ones {x : Int32} : zRuns gM_ones d [.int x] σ (fun v σ' => v = some (.int (onesU x 7)) ∧ σ' = σ) := by
  refine m_M_ones [4] rfl (Nat.le_of_ble_eq_true rfl) ?_
  refine ⟨trivial, ?_⟩
  refine z_up (P := fun j => ∀ i a, i = nI j → a = onesU x j → zGood gM_ones d (fun v σ' => v = some (.int (onesU x 7)) ∧ σ' = σ) 4 [some (.int x), some (.int a), some (.int i)] [] σ 0 0) 7 (fun j hj ih i a hi ha => ?_) 0 (Nat.zero_le _) 0 0 nI_0.symm rfl
  subst hi; subst ha
  refine w_M_ones [4] ?_
  refine ⟨fun q => ?_, fun q => ?_⟩
  · have : j = 7 := Nat.le_antisymm hj (Nat.not_lt.mp fun z => nI_ge z (by omega) q)
    subst this
    exact ⟨rfl, rfl⟩
  · exact ⟨trivial, ih (Nat.not_le.mp fun z => q (nI_le z (by omega))) _ _ (nI_1 j) rfl⟩
theorem c_M_off {x y : Int32} : zRuns gM_off d [.int x, .int y] σ (fun v σ' => v = some (.int (offF x y)) ∧ σ' = σ) := by
  refine m_M_off [] rfl (Nat.le_of_ble_eq_true rfl) ?_
  refine ⟨fun h => ?_, fun h => ?_⟩
  · exact ⟨by unfold offF; rw [if_pos h], rfl⟩
  · exact ⟨by unfold offF; rw [if_neg h], rfl⟩
def wh (M : zS) (m x : Nat) : Int32 := M 8 (13 + 6 * m + (M 4 (6 * x + 1)).toNatClampNeg)
theorem okM_T (I : okM M n k) {x : Nat} (hx : x < k) : ∃ t, t < 6 ∧ M 4 (6 * x + 1) = nI t := (I.2.2.2.2.2.2 x hx).2.1
theorem c_M_whereIs (I : okM M n k) {m x : Nat} (hm : m < n) (hx : x < k) : zRuns gM_whereIs d [.ref 0, .int (nI m), .int (nI x)] (encM M) (fun v σ' => v = some (.int (wh M m x)) ∧ σ' = encM M) := by
  obtain ⟨t, ht, et⟩ := okM_T I hx
  have h7 := I.1; have h4 := I.2.1
  refine m_M_whereIs [] rfl (Nat.le_of_ble_eq_true rfl) ?_
  refine z_ld (z_ad (z_mu q6 rfl) q1) (by omega) (by decide) ?_
  refine z_ld (z_ad (z_ad q13 (z_mu q6 rfl)) et) (by omega) (by decide) ?_
  exact ⟨by unfold wh; rw [et, nI_clamp (by omega)], rfl⟩
def nearB (M : zS) (m x : Nat) : Bool := decide (wh M m x ≠ -1) && decide (offF (wh M m x) (M 4 (6 * x)) < 2)
theorem c_M_isNear (I : okM M n k) {m x : Nat} (hm : m < n) (hx : x < k) : zRuns gM_isNear (d + 1) [.ref 0, .int (nI m), .int (nI x)] (encM M) (fun v σ' => v = some (.int (bI (nearB M m x))) ∧ σ' = encM M) := by
  have h7 := I.1; have h4 := I.2.1
  refine m_M_isNear [] rfl (Nat.le_of_ble_eq_true rfl) ?_
  refine z_call (c_M_whereIs I hm hx) ?_
  refine ⟨fun h => ?_, fun h => ?_⟩
  · exact ⟨rfl, by simp [nearB, h, bI], rfl⟩
  · refine z_call (c_M_whereIs I hm hx) ?_
    refine z_ld (z_mu q6 rfl) (by omega) (by decide) ?_
    refine z_call c_M_off ?_
    refine ⟨fun h2 => ?_, fun h2 => ?_⟩
    · exact ⟨rfl, by simp [nearB, h, Int32.not_lt.mpr h2, bI], rfl⟩
    · exact ⟨rfl, by simp [nearB, h, Int32.not_le.mp h2, bI], rfl⟩
def canB (M : zS) (m x : Nat) : Bool := decide (M 4 (6 * x + 2) &&& (M 2 (3 * m) ^^^ -1) = 0)
theorem c_M_can (I : okM M n k) {m x : Nat} (hm : m < n) (hx : x < k) : zRuns gM_can d [.ref 0, .int (nI m), .int (nI x)] (encM M) (fun v σ' => v = some (.int (bI (canB M m x))) ∧ σ' = encM M) := by
  have h7 := I.1; have h4 := I.2.1
  refine m_M_can [] rfl (Nat.le_of_ble_eq_true rfl) ?_
  refine z_ld (z_ad (z_mu q6 rfl) q2) (by omega) (by decide) ?_
  refine z_ld (z_mu q3 rfl) (by omega) (by decide) ?_
  refine ⟨fun h => ?_, fun h => ?_⟩
  · exact ⟨rfl, by unfold canB; rw [bI_dec h], rfl⟩
  · exact ⟨rfl, by unfold canB; rw [bI_ndec h], rfl⟩
def belF (M : zS) (m x : Nat) (p w : Int32) : Int32 := 1 + (if hasB (M 2 (3 * m + 1)) (M 4 (6 * x + 3)) then 2 else 0) + (if p = M 4 (6 * x) then 2 else 0) - w
theorem c_M_beliefAt (I : okM M n k) {m x : Nat} {p w : Int32} (hm : m < n) (hx : x < k) : zRuns gM_beliefAt (d + 1) [.ref 0, .int (nI m), .int (nI x), .int p, .int w] (encM M) (fun v σ' => v = some (.int (belF M m x p w)) ∧ σ' = encM M) := by
  have h7 := I.1; have h4 := I.2.1
  refine m_M_beliefAt [] rfl (Nat.le_of_ble_eq_true rfl) ?_
  refine z_ld (z_ad (z_mu q3 rfl) q1) (by omega) (by decide) ?_
  refine z_ld (z_ad (z_mu q6 rfl) q3) (by omega) (by decide) ?_
  refine z_call c_M_has ?_
  refine ⟨fun h => ?_, fun h => ?_⟩
  · refine z_ld (z_mu q6 rfl) (by omega) (by decide) ?_
    refine ⟨fun h2 => ?_, fun h2 => ?_⟩
    · exact ⟨by simp [belF, bI_0 h, h2], rfl⟩
    · exact ⟨by simp [belF, bI_0 h, h2], rfl⟩
  · refine z_ld (z_mu q6 rfl) (by omega) (by decide) ?_
    refine ⟨fun h2 => ?_, fun h2 => ?_⟩
    · exact ⟨by simp [belF, bI_1 h, h2], rfl⟩
    · exact ⟨by simp [belF, bI_1 h, h2], rfl⟩
end M1
