/-! the class, its asked questions -/
section C2
variable {d : Nat} {S M : zS} {n k : Nat}
theorem c_isMan (R : rel1 S M n k) {m : Int32} : zRuns gB_isMan (d + 1) [.ref 0, .int m] (encC S) (fun v σ' => v = some (.int (bI (ixB n m))) ∧ σ' = encC S) := by
  refine m_B_isMan [] rfl (Nat.le_of_ble_eq_true rfl) ?_
  refine ⟨fun h => ?_, fun h => ?_⟩
  · exact ⟨rfl, by unfold ixB; rw [bI_ndec (fun z => Int32.lt_irrefl (Int32.lt_of_lt_of_le h z.1))], rfl⟩
  show (S 14 3 ≤ m → _) ∧ (¬ S 14 3 ≤ m → _)
  rw [R_men R]
  refine ⟨fun h2 => ?_, fun h2 => ?_⟩
  · exact ⟨rfl, by unfold ixB; rw [bI_ndec (fun z => Int32.lt_irrefl (Int32.lt_of_lt_of_le z.2 h2))], rfl⟩
  · exact ⟨rfl, by unfold ixB; rw [bI_dec ⟨Int32.not_lt.mp h, Int32.not_le.mp h2⟩], rfl⟩
theorem c_isMishap (R : rel1 S M n k) {m : Int32} : zRuns gB_isMishap (d + 1) [.ref 0, .int m] (encC S) (fun v σ' => v = some (.int (bI (ixB k m))) ∧ σ' = encC S) := by
  refine m_B_isMishap [] rfl (Nat.le_of_ble_eq_true rfl) ?_
  refine ⟨fun h => ?_, fun h => ?_⟩
  · exact ⟨rfl, by unfold ixB; rw [bI_ndec (fun z => Int32.lt_irrefl (Int32.lt_of_lt_of_le h z.1))], rfl⟩
  show (S 14 4 ≤ m → _) ∧ (¬ S 14 4 ≤ m → _)
  rw [R_mis R]
  refine ⟨fun h2 => ?_, fun h2 => ?_⟩
  · exact ⟨rfl, by unfold ixB; rw [bI_ndec (fun z => Int32.lt_irrefl (Int32.lt_of_lt_of_le z.2 h2))], rfl⟩
  · exact ⟨rfl, by unfold ixB; rw [bI_dec ⟨Int32.not_lt.mp h, Int32.not_le.mp h2⟩], rfl⟩
theorem c_told (R : rel1 S M n k) (e1 : S 1 1 = M 0 1) (e2 : S 71 3 = M 0 26) (e3 : S 71 6 = M 0 28) (e4 : S 39 2 = M 0 20) {w : Int32} : zRuns gB_told (d + 5) [.ref 0, .int w] (encC S) (fun v σ' => v = some (.int (pTold M k w)) ∧ σ' = encC S) := by
  refine m_B_told [] rfl (Nat.le_of_ble_eq_true rfl) ?_
  refine ⟨fun h => ?_, fun h0 => ?_⟩
  · subst h
    show (S 14 0 = 0 → _) ∧ (¬ S 14 0 = 0 → _)
    rw [R.2.2.2.1.2.2.1]
    refine ⟨fun h => ?_, fun h => ?_⟩
    · exact ⟨by rw [show pTold M k (Int32.ofNat 0) = if M 0 3 = 0 then 0 else 1 from rfl, if_pos h], rfl⟩
    · exact ⟨by rw [show pTold M k (Int32.ofNat 0) = if M 0 3 = 0 then 0 else 1 from rfl, if_neg h], rfl⟩
  refine ⟨fun h => ?_, fun h1 => ?_⟩
  · subst h; exact ⟨congrArg (fun z => some (Value.int z)) R.2.2.2.1.2.2.2.1, rfl⟩
  refine ⟨fun h => ?_, fun h2 => ?_⟩
  · subst h; exact ⟨congrArg (fun z => some (Value.int z)) R.2.2.2.1.2.2.2.2.1, rfl⟩
  refine ⟨fun h => ?_, fun h3 => ?_⟩
  · subst h; exact ⟨congrArg (fun z => some (Value.int z)) ((R_men R).trans R.1.2.2.1.symm), rfl⟩
  refine ⟨fun h => ?_, fun h4 => ?_⟩
  · subst h; exact ⟨congrArg (fun z => some (Value.int z)) ((R_mis R).trans R.1.2.2.2.1.symm), rfl⟩
  refine ⟨fun h => ?_, fun h5 => ?_⟩
  · subst h; exact ⟨congrArg (fun z => some (Value.int z)) e1, rfl⟩
  refine ⟨fun h => ?_, fun h6 => ?_⟩
  · subst h
    refine z_call (c_St_days R) ?_
    exact ⟨rfl, rfl⟩
  refine ⟨fun h => ?_, fun h7 => ?_⟩
  · subst h
    refine z_call (c_St_spent R) ?_
    exact ⟨rfl, rfl⟩
  refine ⟨fun h => ?_, fun h8 => ?_⟩
  · subst h
    refine z_call (c_Ct_freeInAll R) ?_
    exact ⟨rfl, rfl⟩
  refine ⟨fun h => ?_, fun h9 => ?_⟩
  · subst h; exact ⟨congrArg (fun z => some (Value.int z)) e2, rfl⟩
  refine ⟨fun h => ?_, fun h10 => ?_⟩
  · subst h; exact ⟨congrArg (fun z => some (Value.int z)) e3, rfl⟩
  refine ⟨fun h => ?_, fun h11 => ?_⟩
  · subst h; exact ⟨congrArg (fun z => some (Value.int z)) e4, rfl⟩
  exact ⟨by unfold pTold; rw [if_neg h0, if_neg h1, if_neg h2, if_neg h3, if_neg h4, if_neg h5, if_neg h6, if_neg h7, if_neg h8, if_neg h9, if_neg h10, if_neg h11], rfl⟩
theorem pMishap_w {x q : Nat} (hx : x < k) (hk : k ≤ 4) (hq : q ≤ 6) : pMishap M k (nI x) (nI q) = if q < 6 then M 4 (6 * x + q) else M 8 (7 + x) := by
  have h : ixB k (nI x) = true := decide_eq_true ⟨by rw [q0]; exact nI_le (Nat.zero_le x) (by omega), nI_lt hx (by omega)⟩
  have h2 : 0 ≤ nI q ∧ nI q ≤ 6 := ⟨by rw [q0]; exact nI_le (Nat.zero_le q) (by omega), by rw [q6]; exact nI_le hq (by omega)⟩
  unfold pMishap
  rw [h, if_neg (by decide), if_neg (fun z => z h2), nI_clamp (by omega), nI_clamp (by omega)]
theorem c_mishap (R : rel1 S M n k) {x w : Int32} : zRuns gB_mishap (d + 3) [.ref 0, .int x, .int w] (encC S) (fun v σ' => v = some (.int (pMishap M k x w)) ∧ σ' = encC S) := by
  have h4 := R.1.2.1
  refine m_B_mishap [] rfl (Nat.le_of_ble_eq_true rfl) ?_
  refine z_call (c_isMishap R) ?_
  refine z_b (fun h => ?_) (fun h => ?_)
  · exact ⟨by simp [pMishap, h], rfl⟩
  obtain ⟨i, hi, rfl⟩ := ixB_t (by omega) h
  refine ⟨fun h => ?_, fun h0 => ?_⟩
  · subst h
    refine z_call (c_atv (n := 4) (f := S 19) rfl (by decide) rfl (by omega) (R_x R hi).1) ?_
    exact ⟨congrArg (fun z => some (Value.int z)) (pMishap_w (q := 0) hi h4 (by decide)).symm, rfl⟩
  refine ⟨fun h => ?_, fun h1 => ?_⟩
  · subst h
    refine z_call (c_atv (n := 4) (f := S 20) rfl (by decide) rfl (by omega) (R_x R hi).2.1) ?_
    exact ⟨congrArg (fun z => some (Value.int z)) (pMishap_w (q := 1) hi h4 (by decide)).symm, rfl⟩
  refine ⟨fun h => ?_, fun h2 => ?_⟩
  · subst h
    refine z_call (c_atv (n := 4) (f := S 21) rfl (by decide) rfl (by omega) (R_x R hi).2.2.1) ?_
    exact ⟨congrArg (fun z => some (Value.int z)) (pMishap_w (q := 2) hi h4 (by decide)).symm, rfl⟩
  refine ⟨fun h => ?_, fun h3 => ?_⟩
  · subst h
    refine z_call (c_atv (n := 4) (f := S 22) rfl (by decide) rfl (by omega) (R_x R hi).2.2.2.1) ?_
    exact ⟨congrArg (fun z => some (Value.int z)) (pMishap_w (q := 3) hi h4 (by decide)).symm, rfl⟩
  refine ⟨fun h => ?_, fun h5 => ?_⟩
  · subst h
    refine z_call (c_atv (n := 4) (f := S 23) rfl (by decide) rfl (by omega) (R_x R hi).2.2.2.2.1) ?_
    exact ⟨congrArg (fun z => some (Value.int z)) (pMishap_w (q := 4) hi h4 (by decide)).symm, rfl⟩
  refine ⟨fun h => ?_, fun h6 => ?_⟩
  · subst h
    refine z_call (c_atv (n := 4) (f := S 24) rfl (by decide) rfl (by omega) (R_x R hi).2.2.2.2.2) ?_
    exact ⟨congrArg (fun z => some (Value.int z)) (pMishap_w (q := 5) hi h4 (by decide)).symm, rfl⟩
  refine ⟨fun h => ?_, fun h7 => ?_⟩
  · subst h
    refine z_call (c_St_blamedFor R hi) ?_
    exact ⟨congrArg (fun z => some (Value.int z)) (pMishap_w (q := 6) hi h4 (by decide)).symm, rfl⟩
  refine ⟨?_, rfl⟩
  unfold pMishap
  rw [h, if_neg (by decide), if_pos]
  rintro ⟨g1, g2⟩
  obtain ⟨q, hq, rfl⟩ := z_rng (N := 6) (by decide) ⟨g1, g2⟩
  have : q = 0 ∨ q = 1 ∨ q = 2 ∨ q = 3 ∨ q = 4 ∨ q = 5 ∨ q = 6 := by omega
  rcases this with e | e | e | e | e | e | e <;> subst e <;> first | exact h0 rfl | exact h1 rfl | exact h2 rfl | exact h3 rfl | exact h5 rfl | exact h6 rfl | exact h7 rfl
theorem pMan_w {m q : Nat} (hm : m < n) (hn : n ≤ 7) (hq : q ≤ 10) : pMan M n k (nI m) (nI q) = if q < 3 then M 2 (3 * m + q) else if q = 3 then M 8 m else if q = 4 then blamesF M k m else M 8 (13 + 6 * m + (q - 5)) := by
  have h : ixB n (nI m) = true := decide_eq_true ⟨by rw [q0]; exact nI_le (Nat.zero_le m) (by omega), nI_lt hm (by omega)⟩
  have h2 : 0 ≤ nI q ∧ nI q ≤ 10 := ⟨by rw [q0]; exact nI_le (Nat.zero_le q) (by omega), by rw [q10]; exact nI_le hq (by omega)⟩
  unfold pMan
  rw [h, if_neg (by decide), if_neg (fun z => z h2), nI_clamp (by omega), nI_clamp (by omega)]
theorem c_man (R : rel1 S M n k) {m w : Int32} : zRuns gB_man (d + 4) [.ref 0, .int m, .int w] (encC S) (fun v σ' => v = some (.int (pMan M n k m w)) ∧ σ' = encC S) := by
  have h7 := R.1.1
  refine m_B_man [] rfl (Nat.le_of_ble_eq_true rfl) ?_
  refine z_call (c_isMan R) ?_
  refine z_b (fun h => ?_) (fun h => ?_)
  · exact ⟨by simp [pMan, h], rfl⟩
  obtain ⟨i, hi, rfl⟩ := ixB_t (by omega) h
  refine ⟨fun h => ?_, fun h0 => ?_⟩
  · subst h
    refine z_call (c_atv (n := 7) (f := S 15) rfl (by decide) rfl (by omega) (R_man R hi).1) ?_
    exact ⟨congrArg (fun z => some (Value.int z)) (pMan_w (q := 0) hi h7 (by decide)).symm, rfl⟩
  refine ⟨fun h => ?_, fun h1 => ?_⟩
  · subst h
    refine z_call (c_atv (n := 7) (f := S 16) rfl (by decide) rfl (by omega) (R_man R hi).2.1) ?_
    exact ⟨congrArg (fun z => some (Value.int z)) (pMan_w (q := 1) hi h7 (by decide)).symm, rfl⟩
  refine ⟨fun h => ?_, fun h2 => ?_⟩
  · subst h
    refine z_call (c_atv (n := 7) (f := S 17) rfl (by decide) rfl (by omega) (R_man R hi).2.2.1) ?_
    exact ⟨congrArg (fun z => some (Value.int z)) (pMan_w (q := 2) hi h7 (by decide)).symm, rfl⟩
  refine ⟨fun h => ?_, fun h3 => ?_⟩
  · subst h
    refine z_call (c_St_wornOf R hi) ?_
    exact ⟨congrArg (fun z => some (Value.int z)) (pMan_w (q := 3) hi h7 (by decide)).symm, rfl⟩
  refine ⟨fun h => ?_, fun h4 => ?_⟩
  · subst h
    refine z_call (c_Ct_blamesOf R (by omega)) ?_
    exact ⟨congrArg (fun z => some (Value.int z)) (pMan_w (q := 4) hi h7 (by decide)).symm, rfl⟩
  refine ⟨fun h => ?_, fun h5 => ?_⟩
  · subst h
    refine z_call (c_St_placeOf R (h := 0) hi (by decide) rfl) ?_
    exact ⟨congrArg (fun z => some (Value.int z)) (pMan_w (q := 5) hi h7 (by decide)).symm, rfl⟩
  refine ⟨fun h => ?_, fun h6 => ?_⟩
  · subst h
    refine z_call (c_St_placeOf R (h := 1) hi (by decide) rfl) ?_
    exact ⟨congrArg (fun z => some (Value.int z)) (pMan_w (q := 6) hi h7 (by decide)).symm, rfl⟩
  refine ⟨fun h => ?_, fun h8 => ?_⟩
  · subst h
    refine z_call (c_St_placeOf R (h := 2) hi (by decide) rfl) ?_
    exact ⟨congrArg (fun z => some (Value.int z)) (pMan_w (q := 7) hi h7 (by decide)).symm, rfl⟩
  refine ⟨fun h => ?_, fun h9 => ?_⟩
  · subst h
    refine z_call (c_St_placeOf R (h := 3) hi (by decide) rfl) ?_
    exact ⟨congrArg (fun z => some (Value.int z)) (pMan_w (q := 8) hi h7 (by decide)).symm, rfl⟩
  refine ⟨fun h => ?_, fun h10 => ?_⟩
  · subst h
    refine z_call (c_St_placeOf R (h := 4) hi (by decide) rfl) ?_
    exact ⟨congrArg (fun z => some (Value.int z)) (pMan_w (q := 9) hi h7 (by decide)).symm, rfl⟩
  refine ⟨fun h => ?_, fun h11 => ?_⟩
  · subst h
    refine z_call (c_St_placeOf R (h := 5) hi (by decide) rfl) ?_
    exact ⟨congrArg (fun z => some (Value.int z)) (pMan_w (q := 10) hi h7 (by decide)).symm, rfl⟩
  refine ⟨?_, rfl⟩
  unfold pMan
  rw [h, if_neg (by decide), if_pos]
  rintro ⟨g1, g2⟩
  obtain ⟨q, hq, rfl⟩ := z_rng (N := 10) (by decide) ⟨g1, g2⟩
  have : q = 0 ∨ q = 1 ∨ q = 2 ∨ q = 3 ∨ q = 4 ∨ q = 5 ∨ q = 6 ∨ q = 7 ∨ q = 8 ∨ q = 9 ∨ q = 10 := by omega
  rcases this with e | e | e | e | e | e | e | e | e | e | e <;> subst e <;> first | exact h0 rfl | exact h1 rfl | exact h2 rfl | exact h3 rfl | exact h4 rfl | exact h5 rfl | exact h6 rfl | exact h8 rfl | exact h9 rfl | exact h10 rfl | exact h11 rfl
theorem c_belief (R : rel1 S M n k) {m x : Int32} : zRuns gB_belief (d + 4) [.ref 0, .int m, .int x] (encC S) (fun v σ' => v = some (.int (pBelief M n k m x)) ∧ σ' = encC S) := by
  have h7 := R.1.1; have h4 := R.1.2.1
  refine m_B_belief [] rfl (Nat.le_of_ble_eq_true rfl) ?_
  refine z_call (c_isMan R) ?_
  refine z_b (fun h => ?_) (fun h => ?_)
  · exact ⟨by simp [pBelief, h], rfl⟩
  refine z_call (c_isMishap R) ?_
  refine z_b (fun h2 => ?_) (fun h2 => ?_)
  · exact ⟨by simp [pBelief, h, h2], rfl⟩
  obtain ⟨i, hi, rfl⟩ := ixB_t (by omega) h
  obtain ⟨j, hj, rfl⟩ := ixB_t (by omega) h2
  have e0 : pBelief M n k (nI i) (nI j) = if (nearB M i j && canB M i j) = false then 0 else 10 + belF M i j (wh M i j) (M 8 i) := by
    unfold pBelief
    rw [h, if_neg (by decide), h2, if_neg (by decide), nI_clamp (by omega), nI_clamp (by omega)]
  rw [e0]
  refine z_call (c_atv (n := 4) (f := S 20) rfl (by decide) rfl (by omega) (R_x R hj).2.1) ?_
  refine z_call (c_Ct_where R hi hj) ?_
  refine z_call (c_Ct_isNear R hj (where_P R hi hj)) ?_
  refine z_b (fun h5 => ?_) (fun h5 => ?_)
  · have h5' : nearB M i j = false := h5
    exact ⟨by rw [h5']; simp, rfl⟩
  have h5' : nearB M i j = true := h5
  refine z_call (c_Ct_hasPowers R hi hj) ?_
  refine z_b (fun h6 => ?_) (fun h6 => ?_)
  · exact ⟨by rw [h6]; simp, rfl⟩
  refine z_call (c_Ct_freshBelief R hi hj) ?_
  refine z_call (c_St_wornOf R hi) ?_
  refine ⟨?_, rfl⟩
  rw [h5', h6, if_neg (by decide)]
  unfold belF frF
  rw [Int32.add_comm]
theorem c_may (R : rel1 S M n k) {x : Int32} : zRuns gB_may (d + 6) [.ref 0, .int x] (encC S) (fun v σ' => v = some (.int (pMay M n k x)) ∧ σ' = encC S) := by
  have h4 := R.1.2.1
  refine m_B_may [] rfl (Nat.le_of_ble_eq_true rfl) ?_
  refine z_call (c_isMishap R) ?_
  refine z_b (fun h => ?_) (fun h => ?_)
  · exact ⟨by simp [pMay, h], rfl⟩
  obtain ⟨i, hi, rfl⟩ := ixB_t (by omega) h
  refine z_call (c_Ct_takers R hi) ?_
  exact ⟨by unfold pMay; rw [h, if_neg (by decide), nI_clamp (by omega)], rfl⟩
theorem c_orphans (R : rel1 S M n k) : zRuns gB_orphans (d + 6) [.ref 0] (encC S) (fun v σ' => v = some (.int (pOrphans M n k)) ∧ σ' = encC S) := by
  have h4 := R.1.2.1
  refine m_B_orphans [4] rfl (Nat.le_of_ble_eq_true rfl) ?_
  refine ⟨trivial, ?_⟩
  refine z_up (P := fun j => ∀ i a, i = nI j → a = bits (fun x => decide (0 < freeF M x) && decide (mayForF M n k x = 0)) j → zGood gB_orphans (d + 6) (fun v σ' => v = some (.int (pOrphans M n k)) ∧ σ' = encC S) 4 [some (.ref 0), some (.int a), some (.int i)] [] (encC S) 0 0) k (fun j hj ih i a hi ha => ?_) 0 (Nat.zero_le _) 0 0 nI_0.symm rfl
  subst hi; subst ha
  refine w_B_orphans [4] ?_
  refine ⟨fun q => ?_, fun q => ?_⟩
  · have e := z_end (R_mis R) hj (by omega) q
    subst e
    exact ⟨rfl, rfl⟩
  · have hlt := z_go (R_mis R) hj (by omega) q
    refine z_call (c_Ct_freeOf R hlt) ?_
    refine ⟨fun h => ?_, fun h => ?_⟩
    · exact ⟨trivial, ih hlt _ _ (nI_1 j) (bits_c (p := fun x => decide (0 < freeF M x) && decide (mayForF M n k x = 0)) (by simp [Int32.not_lt.mpr h]))⟩
    refine z_call (c_Ct_takers R hlt) ?_
    refine ⟨fun h2 => ?_, fun h2 => ?_⟩
    · exact ⟨trivial, ih hlt _ _ (nI_1 j) (bits_t (p := fun x => decide (0 < freeF M x) && decide (mayForF M n k x = 0)) (by simp [Int32.not_le.mp h, h2]))⟩
    · exact ⟨trivial, ih hlt _ _ (nI_1 j) (bits_c (p := fun x => decide (0 < freeF M x) && decide (mayForF M n k x = 0)) (by simp [h2]))⟩
theorem c_idle (R : rel1 S M n k) : zRuns gB_idle (d + 4) [.ref 0] (encC S) (fun v σ' => v = some (.int (pIdle M n k)) ∧ σ' = encC S) := by
  have h7 := R.1.1
  refine m_B_idle [4] rfl (Nat.le_of_ble_eq_true rfl) ?_
  refine ⟨trivial, ?_⟩
  refine z_up (P := fun j => ∀ i a, i = nI j → a = bits (fun m => decide (blamesF M k m = 0)) j → zGood gB_idle (d + 4) (fun v σ' => v = some (.int (pIdle M n k)) ∧ σ' = encC S) 4 [some (.ref 0), some (.int a), some (.int i)] [] (encC S) 0 0) n (fun j hj ih i a hi ha => ?_) 0 (Nat.zero_le _) 0 0 nI_0.symm rfl
  subst hi; subst ha
  refine w_B_idle [4] ?_
  refine ⟨fun q => ?_, fun q => ?_⟩
  · have e := z_end (R_men R) hj (by omega) q
    subst e
    exact ⟨rfl, rfl⟩
  · have hlt := z_go (R_men R) hj (by omega) q
    refine z_call (c_Ct_blamesOf R (by omega)) ?_
    refine ⟨fun h2 => ?_, fun h2 => ?_⟩
    · exact ⟨trivial, ih hlt _ _ (nI_1 j) (bits_t (p := fun m => decide (blamesF M k m = 0)) (by simp [h2]))⟩
    · exact ⟨trivial, ih hlt _ _ (nI_1 j) (bits_c (p := fun m => decide (blamesF M k m = 0)) (by simp [h2]))⟩
theorem c_culprits (R : rel1 S M n k) {x : Int32} : zRuns gB_culprits (d + 4) [.ref 0, .int x] (encC S) (fun v σ' => v = some (.int (pCulprits M n k x)) ∧ σ' = encC S) := by
  have h7 := R.1.1; have h4 := R.1.2.1
  refine m_B_culprits [15] rfl (Nat.le_of_ble_eq_true rfl) ?_
  refine z_call (c_isMishap R) ?_
  refine z_b (fun h => ?_) (fun h => ?_)
  · exact ⟨by simp [pCulprits, h], rfl⟩
  obtain ⟨x, hx, rfl⟩ := ixB_t (by omega) h
  have e0 : pCulprits M n k (nI x) = bits (fun m => canB M m x && decide (wh M m x = M 4 (6 * x))) n := by
    unfold pCulprits
    rw [h, if_neg (by decide), nI_clamp (by omega)]
  rw [e0]
  refine ⟨trivial, ?_⟩
  refine z_up (P := fun j => ∀ i a (l4 : Option Value), i = nI j → a = bits (fun m => canB M m x && decide (wh M m x = M 4 (6 * x))) j → zGood gB_culprits (d + 4) (fun v σ' => v = some (.int (bits (fun m => canB M m x && decide (wh M m x = M 4 (6 * x))) n)) ∧ σ' = encC S) 15 [some (.ref 0), some (.int (nI x)), some (.int a), some (.int i), l4] [] (encC S) 0 0) n (fun j hj ih i a l4 hi ha => ?_) 0 (Nat.zero_le _) 0 0 none nI_0.symm rfl
  subst hi; subst ha
  refine w_B_culprits [15] ?_
  refine ⟨fun q => ?_, fun q => ?_⟩
  · have e := z_end (R_men R) hj (by omega) q
    subst e
    exact ⟨rfl, rfl⟩
  · have hlt := z_go (R_men R) hj (by omega) q
    refine z_call (c_atv (n := 4) (f := S 20) rfl (by decide) rfl (by omega) (R_x R hx).2.1) ?_
    refine z_call (c_Ct_where R hlt hx) ?_
    refine z_call (c_atv (n := 4) (f := S 19) rfl (by decide) rfl (by omega) (R_x R hx).1) ?_
    refine ⟨fun h2 => ?_, fun h2 => ?_⟩
    · refine br_f (by decide) ?_
      refine z_call (c_Ct_hasPowers R hlt hx) ?_
      refine z_b (fun h6 => ?_) (fun h6 => ?_)
      · exact ⟨trivial, ih hlt _ _ _ (nI_1 j) (bits_c (p := fun m => canB M m x && decide (wh M m x = M 4 (6 * x))) (by simp [h6]))⟩
      · exact ⟨trivial, ih hlt _ _ _ (nI_1 j) (bits_t (p := fun m => canB M m x && decide (wh M m x = M 4 (6 * x))) (by simp [h6, h2]))⟩
    · refine br_t rfl ?_
      exact ⟨trivial, ih hlt _ _ _ (nI_1 j) (bits_c (p := fun m => canB M m x && decide (wh M m x = M 4 (6 * x))) (by simp [h2]))⟩
end C2
