theorem z_b {A B : Prop} {b : Bool} (ht : b = false → A) (hf : b = true → B) : (bI b = 0 → A) ∧ (¬ bI b = 0 → B) := ⟨fun h => ht (bI_0 h), fun h => hf (bI_1 h)⟩
theorem z0a (m : Nat) : (0 : Int32) + nI m = nI m := by rw [q0, nI_add, Nat.zero_add]
theorem z_end {a : Int32} {j N : Nat} (e : a = nI N) (hj : j ≤ N) (hN : N < 2 ^ 31) (q : a ≤ nI j) : j = N := by
  subst e
  exact Nat.le_antisymm hj (Nat.not_lt.mp fun z => nI_ge z hN q)
theorem z_go {a : Int32} {j N : Nat} (e : a = nI N) (hj : j ≤ N) (hN : N < 2 ^ 31) (q : ¬ a ≤ nI j) : j < N := by
  subst e
  exact Nat.not_le.mp fun z => q (nI_le z (by omega))
def ixB (n : Nat) (m : Int32) : Bool := decide (0 ≤ m ∧ m < nI n)
theorem ixB_t {n : Nat} {m : Int32} (hn : n < 2 ^ 31) (h : ixB n m = true) : ∃ j, j < n ∧ m = nI j := by
  obtain ⟨h1, h2⟩ := of_decide_eq_true h
  obtain ⟨j, hj, rfl⟩ := nI_of (Int32.not_lt.mpr h1)
  exact ⟨j, Nat.not_le.mp fun z => nI_nlt z (by omega) h2, rfl⟩
theorem ixB_m {n : Nat} {m : Int32} (hn : n < 2 ^ 30) : decide (0 ≤ m ∧ m ≤ nI n - 1) = ixB n m := by
  unfold ixB
  congr 1
  have e : (nI n - nI 1).toInt = (n : Int) - 1 := pk_sub_toInt hn (by decide)
  have e2 : nI n - 1 = nI n - nI 1 := rfl
  rw [e2, Int32.le_iff_toInt_le, Int32.le_iff_toInt_le, Int32.lt_iff_toInt_lt, e, nI_toInt (by omega)]
  apply propext
  constructor
  · intro h; exact ⟨h.1, by omega⟩
  · intro h; exact ⟨h.1, by omega⟩
def bits (p : Nat → Bool) : Nat → Int32
  | 0 => 0
  | j + 1 => bits p j ||| (if p j then (1 <<< (nI j &&& 31)) else 0)
theorem bits_t {p : Nat → Bool} {j : Nat} (h : p j = true) : bits p j ||| (1 <<< (nI j &&& 31)) = bits p (j + 1) := by simp [bits, h]
theorem bits_f {p : Nat → Bool} {j : Nat} (h : p j = false) : bits p j ||| 0 = bits p (j + 1) := by simp [bits, h]
theorem bits_c {p : Nat → Bool} {j : Nat} (h : p j = false) : bits p j = bits p (j + 1) := by simp [bits, h]
theorem bits_congr {p q : Nat → Bool} : ∀ {n : Nat}, (∀ j, j < n → p j = q j) → bits p n = bits q n
  | 0, _ => rfl
  | n + 1, h => by
    have h1 : bits p n = bits q n := bits_congr fun j hj => h j (by omega)
    simp only [bits]
    rw [h1, h n (by omega)]
def allU (p : Nat → Bool) : Nat → Bool
  | 0 => true
  | j + 1 => allU p j && p j
def fitsB (M : zS) (m x : Nat) (w : Int32) : Bool := nearB M m x && (canB M m x && decide (M 0 4 ≤ belF M m x (wh M m x) w))
def farB (M : zS) (x y : Nat) : Bool := decide (¬ offF (M 4 (6 * x)) (M 4 (6 * y)) ≤ offF (M 4 (6 * x + 1)) (M 4 (6 * y + 1)))
def freeF (M : zS) (x : Nat) : Int32 := M 4 (6 * x + 4) - onesU (M 8 (7 + x)) 7
def allFreeU (M : zS) : Nat → Int32
  | 0 => 0
  | j + 1 => allFreeU M j + freeF M j
def blamesF (M : zS) (k m : Nat) : Int32 := bits (fun x => hasB (M 8 (7 + x)) (nI m)) k
def mayB (M : zS) (k m x : Nat) : Bool := (decide (0 < freeF M x) && (!hasB (M 8 (7 + x)) (nI m) && fitsB M m x (M 8 m))) && allU (fun y => !(hasB (M 8 (7 + y)) (nI m) && farB M x y)) k
def mayForF (M : zS) (n k x : Nat) : Int32 := bits (fun m => mayB M k m x) n
section M2
variable {d : Nat} {M : zS} {n k : Nat} {σ : List va_E}
theorem c_M_fits (I : okM M n k) {m x : Nat} {w : Int32} (hm : m < n) (hx : x < k) : zRuns gM_fits (d + 2) [.ref 0, .int (nI m), .int (nI x), .int w] (encM M) (fun v σ' => v = some (.int (bI (fitsB M m x w))) ∧ σ' = encM M) := by
  refine m_M_fits [] rfl (Nat.le_of_ble_eq_true rfl) ?_
  refine z_call (c_M_isNear I hm hx) ?_
  refine z_b (fun h => ?_) (fun h => ?_)
  · exact ⟨rfl, by simp [fitsB, h, bI], rfl⟩
  refine z_call (c_M_can I hm hx) ?_
  refine z_b (fun h2 => ?_) (fun h2 => ?_)
  · exact ⟨rfl, by simp [fitsB, h, h2, bI], rfl⟩
  refine z_call (c_M_whereIs I hm hx) ?_
  refine z_call (c_M_beliefAt I hm hx) ?_
  refine ⟨fun h3 => ?_, fun h3 => ?_⟩
  · exact ⟨rfl, by simp [fitsB, h, h2, Int32.not_le.mpr h3, bI], rfl⟩
  · exact ⟨rfl, by simp [fitsB, h, h2, Int32.not_lt.mp h3, bI], rfl⟩
theorem c_M_areFar (I : okM M n k) {x y : Nat} (hx : x < k) (hy : y < k) : zRuns gM_areFar (d + 1) [.ref 0, .int (nI x), .int (nI y)] (encM M) (fun v σ' => v = some (.int (bI (farB M x y))) ∧ σ' = encM M) := by
  have h4 := I.2.1
  refine m_M_areFar [] rfl (Nat.le_of_ble_eq_true rfl) ?_
  refine z_ld (z_mu q6 rfl) (by omega) (by decide) ?_
  refine z_ld (z_mu q6 rfl) (by omega) (by decide) ?_
  refine z_call c_M_off ?_
  refine z_ld (z_ad (z_mu q6 rfl) q1) (by omega) (by decide) ?_
  refine z_ld (z_ad (z_mu q6 rfl) q1) (by omega) (by decide) ?_
  refine z_call c_M_off ?_
  refine ⟨fun h3 => ?_, fun h3 => ?_⟩
  · exact ⟨rfl, by unfold farB; rw [bI_ndec (fun q => q h3)], rfl⟩
  · exact ⟨rfl, by unfold farB; rw [bI_dec h3], rfl⟩
theorem c_M_blamedFor (I : okM M n k) {x : Nat} (hx : x < k) : zRuns gM_blamedFor d [.ref 0, .int (nI x)] (encM M) (fun v σ' => v = some (.int (M 8 (7 + x))) ∧ σ' = encM M) := by
  have h4 := I.2.1
  refine m_M_blamedFor [] rfl (Nat.le_of_ble_eq_true rfl) ?_
  refine z_ld (z_ad q7 rfl) (by omega) (by decide) ?_
  exact ⟨rfl, rfl⟩
theorem c_M_free (I : okM M n k) {x : Nat} (hx : x < k) : zRuns gM_free (d + 1) [.ref 0, .int (nI x)] (encM M) (fun v σ' => v = some (.int (freeF M x)) ∧ σ' = encM M) := by
  have h4 := I.2.1
  refine m_M_free [] rfl (Nat.le_of_ble_eq_true rfl) ?_
  refine z_ld (z_ad (z_mu q6 rfl) q4) (by omega) (by decide) ?_
  refine z_call (c_M_blamedFor I hx) ?_
  refine z_call c_M_ones ?_
  exact ⟨rfl, rfl⟩
theorem c_M_allFree (I : okM M n k) : zRuns gM_allFree (d + 2) [.ref 0] (encM M) (fun v σ' => v = some (.int (allFreeU M k)) ∧ σ' = encM M) := by
  have h4 := I.2.1
  refine m_M_allFree [4] rfl (Nat.le_of_ble_eq_true rfl) ?_
  refine ⟨trivial, ?_⟩
  refine z_up (P := fun j => ∀ i a, i = nI j → a = allFreeU M j → zGood gM_allFree (d + 2) (fun v σ' => v = some (.int (allFreeU M k)) ∧ σ' = encM M) 4 [some (.ref 0), some (.int a), some (.int i)] [] (encM M) 0 0) k (fun j hj ih i a hi ha => ?_) 0 (Nat.zero_le _) 0 0 nI_0.symm rfl
  subst hi; subst ha
  refine w_M_allFree [4] ?_
  refine ⟨fun q => ?_, fun q => ?_⟩
  · have e := z_end I.2.2.2.1 hj (by omega) q
    subst e
    exact ⟨rfl, rfl⟩
  · have hlt := z_go I.2.2.2.1 hj (by omega) q
    refine z_call (c_M_free I hlt) ?_
    exact ⟨trivial, ih hlt _ _ (nI_1 j) rfl⟩
theorem c_M_blamesOf (I : okM M n k) {m : Nat} : zRuns gM_blamesOf (d + 2) [.ref 0, .int (nI m)] (encM M) (fun v σ' => v = some (.int (blamesF M k m)) ∧ σ' = encM M) := by
  have h4 := I.2.1
  refine m_M_blamesOf [4] rfl (Nat.le_of_ble_eq_true rfl) ?_
  refine ⟨trivial, ?_⟩
  refine z_up (P := fun j => ∀ i a, i = nI j → a = blamesF M j m → zGood gM_blamesOf (d + 2) (fun v σ' => v = some (.int (blamesF M k m)) ∧ σ' = encM M) 4 [some (.ref 0), some (.int (nI m)), some (.int a), some (.int i)] [] (encM M) 0 0) k (fun j hj ih i a hi ha => ?_) 0 (Nat.zero_le _) 0 0 nI_0.symm rfl
  subst hi; subst ha
  refine w_M_blamesOf [4] ?_
  refine ⟨fun q => ?_, fun q => ?_⟩
  · have e := z_end I.2.2.2.1 hj (by omega) q
    subst e
    exact ⟨rfl, rfl⟩
  · have hlt := z_go I.2.2.2.1 hj (by omega) q
    refine z_call (c_M_blamedFor I hlt) ?_
    refine z_call c_M_has ?_
    refine z_b (fun h => ?_) (fun h => ?_)
    · refine ⟨trivial, ih hlt _ _ (nI_1 j) ?_⟩
      exact bits_f (p := fun x => hasB (M 8 (7 + x)) (nI m)) h
    · refine ⟨trivial, ih hlt _ _ (nI_1 j) ?_⟩
      exact bits_t (p := fun x => hasB (M 8 (7 + x)) (nI m)) h
theorem c_M_mayBe (I : okM M n k) {m x : Nat} (hm : m < n) (hx : x < k) : zRuns gM_mayBe (d + 3) [.ref 0, .int (nI m), .int (nI x)] (encM M) (fun v σ' => v = some (.int (bI (mayB M k m x))) ∧ σ' = encM M) := by
  have h7 := I.1; have h4 := I.2.1
  have loop : ∀ (b : Bool), (decide (0 < freeF M x) && (!hasB (M 8 (7 + x)) (nI m) && fitsB M m x (M 8 m))) = b → zGood gM_mayBe (d + 3) (fun v σ' => v = some (.int (bI (mayB M k m x))) ∧ σ' = encM M) 46 [some (.ref 0), some (.int (nI m)), some (.int (nI x)), some (.int (bI b)), some (.int 0)] [] (encM M) 0 0 := by
    intro b hb
    refine z_up (P := fun j => ∀ i a, i = nI j → a = bI (b && allU (fun y => !(hasB (M 8 (7 + y)) (nI m) && farB M x y)) j) → zGood gM_mayBe (d + 3) (fun v σ' => v = some (.int (bI (mayB M k m x))) ∧ σ' = encM M) 46 [some (.ref 0), some (.int (nI m)), some (.int (nI x)), some (.int a), some (.int i)] [] (encM M) 0 0) k (fun j hj ih i a hi ha => ?_) 0 (Nat.zero_le _) 0 (bI b) nI_0.symm (by simp [allU])
    subst hi; subst ha
    refine w_M_mayBe [46] ?_
    refine ⟨fun q => ?_, fun q => ?_⟩
    · have e := z_end I.2.2.2.1 hj (by omega) q
      subst e
      refine ⟨bI_and _, ?_, rfl⟩
      unfold mayB
      rw [hb]
    · have hlt := z_go I.2.2.2.1 hj (by omega) q
      refine z_b (fun h => ?_) (fun h => ?_)
      · refine ⟨trivial, ih hlt _ _ (nI_1 j) ?_⟩
        simp only [allU]
        rw [← Bool.and_assoc, h]
        rfl
      · refine z_call (c_M_blamedFor I hlt) ?_
        refine z_call c_M_has ?_
        refine z_b (fun h2 => ?_) (fun h2 => ?_)
        · refine ⟨trivial, ih hlt _ _ (nI_1 j) ?_⟩
          simp only [allU]
          rw [← Bool.and_assoc, h, h2]
          rfl
        · refine z_call (c_M_areFar I hx hlt) ?_
          refine z_b (fun h3 => ?_) (fun h3 => ?_)
          · refine ⟨trivial, ih hlt _ _ (nI_1 j) ?_⟩
            simp only [allU]
            rw [← Bool.and_assoc, h, h2, h3]
            rfl
          · refine ⟨trivial, ih hlt _ _ (nI_1 j) ?_⟩
            simp only [allU]
            rw [← Bool.and_assoc, h, h2, h3]
            rfl
  refine m_M_mayBe [46] rfl (Nat.le_of_ble_eq_true rfl) ?_
  refine z_call (c_M_free I hx) ?_
  refine ⟨fun h => ?_, fun h => ?_⟩
  · exact ⟨trivial, loop false (by simp [Int32.not_lt.mpr h])⟩
  have h0 : 0 < freeF M x := Int32.not_le.mp h
  refine z_call (c_M_blamedFor I hx) ?_
  refine z_call c_M_has ?_
  refine z_b (fun h2 => ?_) (fun h2 => ?_)
  · refine z_ld (z0a m) (by omega) (by decide) ?_
    refine z_call (c_M_fits I hm hx) ?_
    refine z_b (fun h3 => ?_) (fun h3 => ?_)
    · exact ⟨trivial, loop false (by simp [h3])⟩
    · exact ⟨trivial, loop true (by simp [h0, h2, h3])⟩
  · exact ⟨trivial, loop false (by simp [h2])⟩
theorem c_M_mayFor (I : okM M n k) {x : Nat} (hx : x < k) : zRuns gM_mayFor (d + 4) [.ref 0, .int (nI x)] (encM M) (fun v σ' => v = some (.int (mayForF M n k x)) ∧ σ' = encM M) := by
  have h7 := I.1
  refine m_M_mayFor [4] rfl (Nat.le_of_ble_eq_true rfl) ?_
  refine ⟨trivial, ?_⟩
  refine z_up (P := fun j => ∀ i a, i = nI j → a = bits (fun m => mayB M k m x) j → zGood gM_mayFor (d + 4) (fun v σ' => v = some (.int (mayForF M n k x)) ∧ σ' = encM M) 4 [some (.ref 0), some (.int (nI x)), some (.int a), some (.int i)] [] (encM M) 0 0) n (fun j hj ih i a hi ha => ?_) 0 (Nat.zero_le _) 0 0 nI_0.symm rfl
  subst hi; subst ha
  refine w_M_mayFor [4] ?_
  refine ⟨fun q => ?_, fun q => ?_⟩
  · have e := z_end I.2.2.1 hj (by omega) q
    subst e
    exact ⟨rfl, rfl⟩
  · have hlt := z_go I.2.2.1 hj (by omega) q
    refine z_call (c_M_mayBe I hlt hx) ?_
    refine z_b (fun h => ?_) (fun h => ?_)
    · refine ⟨trivial, ih hlt _ _ (nI_1 j) ?_⟩
      exact bits_f (p := fun m => mayB M k m x) h
    · refine ⟨trivial, ih hlt _ _ (nI_1 j) ?_⟩
      exact bits_t (p := fun m => mayB M k m x) h
theorem c_M_isMan (I : okM M n k) {m : Int32} : zRuns gM_isMan (d + 1) [.ref 0, .int m] (encM M) (fun v σ' => v = some (.int (bI (ixB n m))) ∧ σ' = encM M) := by
  have h7 := I.1
  refine m_M_isMan [] rfl (Nat.le_of_ble_eq_true rfl) ?_
  refine z_call c_M_in ?_
  refine ⟨bI_and _, ?_, rfl⟩
  rw [I.2.2.1, ixB_m (by omega)]
theorem c_M_isMishap (I : okM M n k) {x : Int32} : zRuns gM_isMishap (d + 1) [.ref 0, .int x] (encM M) (fun v σ' => v = some (.int (bI (ixB k x))) ∧ σ' = encM M) := by
  have h7 := I.2.1
  refine m_M_isMishap [] rfl (Nat.le_of_ble_eq_true rfl) ?_
  refine z_call c_M_in ?_
  refine ⟨bI_and _, ?_, rfl⟩
  rw [I.2.2.2.1, ixB_m (by omega)]
end M2
