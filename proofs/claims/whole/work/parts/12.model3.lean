theorem z_le {x y : Int32} {A B : Prop} {a b : Nat} (hx : x = nI a) (hy : y = nI b) (ha : a < 2 ^ 31) (hb : b < 2 ^ 31) (f : a ≤ b → A) (g : b < a → B) : (x ≤ y → A) ∧ (¬ x ≤ y → B) := by
  subst hx; subst hy
  exact ⟨fun q => f ((nI_leI ha hb).mp q), fun q => g (Nat.not_le.mp fun z => q ((nI_leI ha hb).mpr z))⟩
theorem z_lt {x y : Int32} {A B : Prop} {a b : Nat} (hx : x = nI a) (hy : y = nI b) (ha : a < 2 ^ 31) (hb : b < 2 ^ 31) (f : a < b → A) (g : b ≤ a → B) : (x < y → A) ∧ (¬ x < y → B) := by
  subst hx; subst hy
  exact ⟨fun q => f ((nI_ltI ha hb).mp q), fun q => g (Nat.not_lt.mp fun z => q ((nI_ltI ha hb).mpr z))⟩
theorem z_eq {x y : Int32} {A B : Prop} {a b : Nat} (hx : x = nI a) (hy : y = nI b) (ha : a < 2 ^ 31) (hb : b < 2 ^ 31) (f : a = b → A) (g : a ≠ b → B) : (x = y → A) ∧ (¬ x = y → B) := by
  subst hx; subst hy
  exact ⟨fun q => f ((nI_eq ha hb).mp q), fun q => g (fun z => q ((nI_eq ha hb).mpr z))⟩
theorem z_dec {A B : Prop} {p : Prop} [Decidable p] (f : ¬ p → A) (g : p → B) : (bI (decide p) = 0 → A) ∧ (¬ bI (decide p) = 0 → B) := z_b (fun h => f (of_decide_eq_false h)) (fun h => g (of_decide_eq_true h))
/-- a number between two -/
theorem z_rng {x : Int32} {N : Nat} (hN : N < 2 ^ 31) (h : 0 ≤ x ∧ x ≤ nI N) : ∃ j, j ≤ N ∧ x = nI j := by
  obtain ⟨j, hj, rfl⟩ := nI_of (Int32.not_lt.mpr h.1)
  exact ⟨j, (nI_leI hj hN).mp h.2, rfl⟩
abbrev kUNK : Int32 := -1000000001
abbrev kOUT : Int32 := -1000000002
abbrev kNOT : Int32 := -1000000003
abbrev kFUL : Int32 := -1000000004
def pMan (M : zS) (n k : Nat) (m w : Int32) : Int32 := if ixB n m = false then kUNK else if ¬ (0 ≤ w ∧ w ≤ 10) then kOUT else
  if w.toNatClampNeg < 3 then M 2 (3 * m.toNatClampNeg + w.toNatClampNeg) else if w.toNatClampNeg = 3 then M 8 m.toNatClampNeg else if w.toNatClampNeg = 4 then blamesF M k m.toNatClampNeg else M 8 (13 + 6 * m.toNatClampNeg + (w.toNatClampNeg - 5))
def pMishap (M : zS) (k : Nat) (x w : Int32) : Int32 := if ixB k x = false then kUNK else if ¬ (0 ≤ w ∧ w ≤ 6) then kOUT else if w.toNatClampNeg < 6 then M 4 (6 * x.toNatClampNeg + w.toNatClampNeg) else M 8 (7 + x.toNatClampNeg)
def pBelief (M : zS) (n k : Nat) (m x : Int32) : Int32 := if ixB n m = false then kUNK else if ixB k x = false then kUNK else
  if (nearB M m.toNatClampNeg x.toNatClampNeg && canB M m.toNatClampNeg x.toNatClampNeg) = false then 0 else 10 + belF M m.toNatClampNeg x.toNatClampNeg (wh M m.toNatClampNeg x.toNatClampNeg) (M 8 m.toNatClampNeg)
def pTold (M : zS) (k : Nat) (w : Int32) : Int32 := if w = Int32.ofNat 0 then (if M 0 3 = 0 then 0 else 1) else if w = Int32.ofNat 1 then M 0 4 else if w = Int32.ofNat 2 then M 0 5 else if w = Int32.ofNat 3 then M 0 6 else if w = Int32.ofNat 4 then M 0 7 else if w = Int32.ofNat 5 then M 0 1 else if w = Int32.ofNat 6 then M 8 12 else if w = Int32.ofNat 7 then M 8 11 else if w = Int32.ofNat 8 then allFreeU M k else if w = Int32.ofNat 9 then M 0 26 else if w = Int32.ofNat 10 then M 0 28 else if w = Int32.ofNat 11 then M 0 20 else kOUT
def pMay (M : zS) (n k : Nat) (x : Int32) : Int32 := if ixB k x = false then kUNK else mayForF M n k x.toNatClampNeg
def pOrphans (M : zS) (n k : Nat) : Int32 := bits (fun x => decide (0 < freeF M x) && decide (mayForF M n k x = 0)) k
def pCulprits (M : zS) (n k : Nat) (x : Int32) : Int32 := if ixB k x = false then kUNK else bits (fun m => canB M m x.toNatClampNeg && decide (wh M m x.toNatClampNeg = M 4 (6 * x.toNatClampNeg))) n
def pIdle (M : zS) (n k : Nat) : Int32 := bits (fun m => decide (blamesF M k m = 0)) n
section M3
variable {d : Nat} {M : zS} {n k : Nat} {σ : List va_E}
theorem c_M_man (I : okM M n k) {m w : Int32} : zRuns gM_man (d + 3) [.ref 0, .int m, .int w] (encM M) (fun v σ' => v = some (.int (pMan M n k m w)) ∧ σ' = encM M) := by
  have h7 := I.1; have h4 := I.2.1
  refine m_M_man [] rfl (Nat.le_of_ble_eq_true rfl) ?_
  refine z_call (c_M_isMan I) ?_
  refine z_b (fun h => ?_) (fun h => ?_)
  · exact ⟨by simp [pMan, h], rfl⟩
  obtain ⟨i, hi, rfl⟩ := ixB_t (by omega) h
  refine z_call c_M_in ?_
  refine z_dec (fun h2 => ?_) (fun h2 => ?_)
  · exact ⟨by simp only [pMan, h]; rw [if_neg (by decide), if_pos h2], rfl⟩
  obtain ⟨q, hq, rfl⟩ := z_rng (N := 10) (by decide) h2
  have ei : (nI i).toNatClampNeg = i := nI_clamp (by omega)
  have eq : (nI q).toNatClampNeg = q := nI_clamp (by omega)
  have e0 : pMan M n k (nI i) (nI q) = if q < 3 then M 2 (3 * i + q) else if q = 3 then M 8 i else if q = 4 then blamesF M k i else M 8 (13 + 6 * i + (q - 5)) := by
    unfold pMan
    rw [h, if_neg (by decide), if_neg (fun z => z h2), ei, eq]
  rw [e0]
  refine z_le q3 rfl (by decide) (by omega) (fun h3 => ?_) (fun h3 => ?_)
  · refine z_eq rfl q3 (by omega) (by decide) (fun h5 => ?_) (fun h5 => ?_)
    · refine z_ld (z0a i) (by omega) (by decide) ?_
      exact ⟨by rw [if_neg (by omega), if_pos h5], rfl⟩
    refine z_eq rfl q4 (by omega) (by decide) (fun h6 => ?_) (fun h6 => ?_)
    · refine z_call (c_M_blamesOf I) ?_
      exact ⟨by rw [if_neg (by omega), if_neg h5, if_pos h6], rfl⟩
    · refine z_ld (k := 13 + 6 * i + (q - 5)) ?_ (by omega) (by decide) ?_
      · rw [show (13 : Int32) + 6 * nI i + nI q = nI (13 + 6 * i + q) from z_ad (z_ad q13 (z_mu q6 rfl)) rfl, q5, pk_sub (by omega)]
        congr 1
        omega
      · exact ⟨by rw [if_neg (by omega), if_neg h5, if_neg h6], rfl⟩
  · refine z_ld (z_ad (z_mu q3 rfl) rfl) (by omega) (by decide) ?_
    exact ⟨by rw [if_pos h3], rfl⟩
theorem c_M_mishap (I : okM M n k) {x w : Int32} : zRuns gM_mishap (d + 3) [.ref 0, .int x, .int w] (encM M) (fun v σ' => v = some (.int (pMishap M k x w)) ∧ σ' = encM M) := by
  have h7 := I.1; have h4 := I.2.1
  refine m_M_mishap [] rfl (Nat.le_of_ble_eq_true rfl) ?_
  refine z_call (c_M_isMishap I) ?_
  refine z_b (fun h => ?_) (fun h => ?_)
  · exact ⟨by simp [pMishap, h], rfl⟩
  obtain ⟨i, hi, rfl⟩ := ixB_t (by omega) h
  refine z_call c_M_in ?_
  refine z_dec (fun h2 => ?_) (fun h2 => ?_)
  · exact ⟨by simp only [pMishap, h]; rw [if_neg (by decide), if_pos h2], rfl⟩
  obtain ⟨q, hq, rfl⟩ := z_rng (N := 6) (by decide) h2
  have ei : (nI i).toNatClampNeg = i := nI_clamp (by omega)
  have eq : (nI q).toNatClampNeg = q := nI_clamp (by omega)
  have e0 : pMishap M k (nI i) (nI q) = if q < 6 then M 4 (6 * i + q) else M 8 (7 + i) := by
    unfold pMishap
    rw [h, if_neg (by decide), if_neg (fun z => z h2), ei, eq]
  rw [e0]
  refine z_le q6 rfl (by decide) (by omega) (fun h3 => ?_) (fun h3 => ?_)
  · refine z_call (c_M_blamedFor I hi) ?_
    exact ⟨by rw [if_neg (by omega)], rfl⟩
  · refine z_ld (z_ad (z_mu q6 rfl) rfl) (by omega) (by decide) ?_
    exact ⟨by rw [if_pos h3], rfl⟩
theorem c_M_belief (I : okM M n k) {m x : Int32} : zRuns gM_belief (d + 3) [.ref 0, .int m, .int x] (encM M) (fun v σ' => v = some (.int (pBelief M n k m x)) ∧ σ' = encM M) := by
  have h7 := I.1; have h4 := I.2.1
  refine m_M_belief [] rfl (Nat.le_of_ble_eq_true rfl) ?_
  refine z_call (c_M_isMan I) ?_
  refine z_b (fun h => ?_) (fun h => ?_)
  · exact ⟨by simp [pBelief, h], rfl⟩
  refine z_call (c_M_isMishap I) ?_
  refine z_b (fun h1 => ?_) (fun h1 => ?_)
  · exact ⟨by simp [pBelief, h, h1], rfl⟩
  obtain ⟨i, hi, rfl⟩ := ixB_t (by omega) h
  obtain ⟨j, hj, rfl⟩ := ixB_t (by omega) h1
  have ei : (nI i).toNatClampNeg = i := nI_clamp (by omega)
  have ej : (nI j).toNatClampNeg = j := nI_clamp (by omega)
  have e0 : pBelief M n k (nI i) (nI j) = if (nearB M i j && canB M i j) = false then 0 else 10 + belF M i j (wh M i j) (M 8 i) := by
    unfold pBelief
    rw [h, h1, if_neg (by decide), if_neg (by decide), ei, ej]
  rw [e0]
  refine z_call (c_M_isNear I hi hj) ?_
  refine z_b (fun h2 => ?_) (fun h2 => ?_)
  · exact ⟨by simp [h2], rfl⟩
  refine z_call (c_M_can I hi hj) ?_
  refine z_b (fun h3 => ?_) (fun h3 => ?_)
  · exact ⟨by simp [h3], rfl⟩
  refine z_call (c_M_whereIs I hi hj) ?_
  refine z_ld (z0a i) (by omega) (by decide) ?_
  refine z_call (c_M_beliefAt I hi hj) ?_
  exact ⟨by simp [h2, h3], rfl⟩
theorem c_M_told (I : okM M n k) {w : Int32} : zRuns gM_told (d + 3) [.ref 0, .int w] (encM M) (fun v σ' => v = some (.int (pTold M k w)) ∧ σ' = encM M) := by
  refine m_M_told [] rfl (Nat.le_of_ble_eq_true rfl) ?_
  refine ⟨fun h => ?_, fun h0 => ?_⟩
  · subst h
    refine ⟨fun h => ?_, fun h => ?_⟩
    · exact ⟨by rw [show pTold M k (Int32.ofNat 0) = if M 0 3 = 0 then 0 else 1 from rfl, if_pos h], rfl⟩
    · exact ⟨by rw [show pTold M k (Int32.ofNat 0) = if M 0 3 = 0 then 0 else 1 from rfl, if_neg h], rfl⟩
  refine ⟨fun h => ?_, fun h1 => ?_⟩
  · subst h; exact ⟨rfl, rfl⟩
  refine ⟨fun h => ?_, fun h2 => ?_⟩
  · subst h; exact ⟨rfl, rfl⟩
  refine ⟨fun h => ?_, fun h3 => ?_⟩
  · subst h; exact ⟨rfl, rfl⟩
  refine ⟨fun h => ?_, fun h4 => ?_⟩
  · subst h; exact ⟨rfl, rfl⟩
  refine ⟨fun h => ?_, fun h5 => ?_⟩
  · subst h; exact ⟨rfl, rfl⟩
  refine ⟨fun h => ?_, fun h6 => ?_⟩
  · subst h
    refine z_ld (k := 12) q12 (by omega) (by decide) ?_
    exact ⟨rfl, rfl⟩
  refine ⟨fun h => ?_, fun h7 => ?_⟩
  · subst h
    refine z_ld (k := 11) q11 (by omega) (by decide) ?_
    exact ⟨rfl, rfl⟩
  refine ⟨fun h => ?_, fun h8 => ?_⟩
  · subst h
    refine z_call (c_M_allFree I) ?_
    exact ⟨rfl, rfl⟩
  refine ⟨fun h => ?_, fun h9 => ?_⟩
  · subst h; exact ⟨rfl, rfl⟩
  refine ⟨fun h => ?_, fun h10 => ?_⟩
  · subst h; exact ⟨rfl, rfl⟩
  refine ⟨fun h => ?_, fun h11 => ?_⟩
  · subst h; exact ⟨rfl, rfl⟩
  exact ⟨by unfold pTold; rw [if_neg h0, if_neg h1, if_neg h2, if_neg h3, if_neg h4, if_neg h5, if_neg h6, if_neg h7, if_neg h8, if_neg h9, if_neg h10, if_neg h11], rfl⟩
theorem c_M_fault : zRuns gM_fault d [.ref 0] (encM M) (fun v σ' => v = some (.int (M 0 2)) ∧ σ' = encM M) := by
  refine m_M_fault [] rfl (Nat.le_of_ble_eq_true rfl) ?_
  exact ⟨rfl, rfl⟩
theorem c_M_may (I : okM M n k) {x : Int32} : zRuns gM_may (d + 5) [.ref 0, .int x] (encM M) (fun v σ' => v = some (.int (pMay M n k x)) ∧ σ' = encM M) := by
  have h7 := I.1; have h4 := I.2.1
  refine m_M_may [] rfl (Nat.le_of_ble_eq_true rfl) ?_
  refine z_call (c_M_isMishap I) ?_
  refine z_b (fun h => ?_) (fun h => ?_)
  · exact ⟨by simp [pMay, h], rfl⟩
  obtain ⟨i, hi, rfl⟩ := ixB_t (by omega) h
  refine z_call (c_M_mayFor I hi) ?_
  exact ⟨by unfold pMay; rw [h, if_neg (by decide), nI_clamp (by omega)], rfl⟩
theorem c_M_orphans (I : okM M n k) : zRuns gM_orphans (d + 5) [.ref 0] (encM M) (fun v σ' => v = some (.int (pOrphans M n k)) ∧ σ' = encM M) := by
  have h4 := I.2.1
  refine m_M_orphans [4] rfl (Nat.le_of_ble_eq_true rfl) ?_
  refine ⟨trivial, ?_⟩
  refine z_up (P := fun j => ∀ i a, i = nI j → a = bits (fun x => decide (0 < freeF M x) && decide (mayForF M n k x = 0)) j → zGood gM_orphans (d + 5) (fun v σ' => v = some (.int (pOrphans M n k)) ∧ σ' = encM M) 4 [some (.ref 0), some (.int a), some (.int i)] [] (encM M) 0 0) k (fun j hj ih i a hi ha => ?_) 0 (Nat.zero_le _) 0 0 nI_0.symm rfl
  subst hi; subst ha
  refine w_M_orphans [4] ?_
  refine ⟨fun q => ?_, fun q => ?_⟩
  · have e := z_end I.2.2.2.1 hj (by omega) q
    subst e
    exact ⟨rfl, rfl⟩
  · have hlt := z_go I.2.2.2.1 hj (by omega) q
    refine z_call (c_M_free I hlt) ?_
    refine ⟨fun h => ?_, fun h => ?_⟩
    · refine ⟨trivial, ih hlt _ _ (nI_1 j) ?_⟩
      exact bits_f (p := fun x => decide (0 < freeF M x) && decide (mayForF M n k x = 0)) (by simp [Int32.not_lt.mpr h])
    · refine z_call (c_M_mayFor I hlt) ?_
      refine ⟨fun h2 => ?_, fun h2 => ?_⟩
      · refine ⟨trivial, ih hlt _ _ (nI_1 j) ?_⟩
        exact bits_t (p := fun x => decide (0 < freeF M x) && decide (mayForF M n k x = 0)) (by simp [Int32.not_le.mp h, h2])
      · refine ⟨trivial, ih hlt _ _ (nI_1 j) ?_⟩
        exact bits_f (p := fun x => decide (0 < freeF M x) && decide (mayForF M n k x = 0)) (by simp [h2])
theorem c_M_culprits (I : okM M n k) {x : Int32} : zRuns gM_culprits (d + 3) [.ref 0, .int x] (encM M) (fun v σ' => v = some (.int (pCulprits M n k x)) ∧ σ' = encM M) := by
  have h7 := I.1; have h4 := I.2.1
  refine m_M_culprits [15] rfl (Nat.le_of_ble_eq_true rfl) ?_
  refine z_call (c_M_isMishap I) ?_
  refine z_b (fun h => ?_) (fun h => ?_)
  · exact ⟨by simp [pCulprits, h], rfl⟩
  obtain ⟨y, hy, rfl⟩ := ixB_t (by omega) h
  have e0 : pCulprits M n k (nI y) = bits (fun m => canB M m y && decide (wh M m y = M 4 (6 * y))) n := by
    unfold pCulprits
    rw [h, if_neg (by decide), nI_clamp (by omega)]
  rw [e0]
  refine ⟨trivial, ?_⟩
  refine z_up (P := fun j => ∀ i a, i = nI j → a = bits (fun m => canB M m y && decide (wh M m y = M 4 (6 * y))) j → zGood gM_culprits (d + 3) (fun v σ' => v = some (.int (bits (fun m => canB M m y && decide (wh M m y = M 4 (6 * y))) n)) ∧ σ' = encM M) 15 [some (.ref 0), some (.int (nI y)), some (.int a), some (.int i)] [] (encM M) 0 0) n (fun j hj ih i a hi ha => ?_) 0 (Nat.zero_le _) 0 0 nI_0.symm rfl
  subst hi; subst ha
  refine w_M_culprits [15] ?_
  refine ⟨fun q => ?_, fun q => ?_⟩
  · have e := z_end I.2.2.1 hj (by omega) q
    subst e
    exact ⟨rfl, rfl⟩
  · have hlt := z_go I.2.2.1 hj (by omega) q
    refine z_call (c_M_can I hlt hy) ?_
    refine z_b (fun h => ?_) (fun h => ?_)
    · refine ⟨trivial, ih hlt _ _ (nI_1 j) ?_⟩
      exact bits_f (p := fun m => canB M m y && decide (wh M m y = M 4 (6 * y))) (by simp [h])
    · refine z_call (c_M_whereIs I hlt hy) ?_
      refine z_ld (z_mu q6 rfl) (by omega) (by decide) ?_
      refine ⟨fun h2 => ?_, fun h2 => ?_⟩
      · refine ⟨trivial, ih hlt _ _ (nI_1 j) ?_⟩
        exact bits_t (p := fun m => canB M m y && decide (wh M m y = M 4 (6 * y))) (by simp [h, h2])
      · refine ⟨trivial, ih hlt _ _ (nI_1 j) ?_⟩
        exact bits_f (p := fun m => canB M m y && decide (wh M m y = M 4 (6 * y))) (by simp [h2])
theorem c_M_idle (I : okM M n k) : zRuns gM_idle (d + 3) [.ref 0] (encM M) (fun v σ' => v = some (.int (pIdle M n k)) ∧ σ' = encM M) := by
  have h4 := I.1
  refine m_M_idle [4] rfl (Nat.le_of_ble_eq_true rfl) ?_
  refine ⟨trivial, ?_⟩
  refine z_up (P := fun j => ∀ i a, i = nI j → a = bits (fun m => decide (blamesF M k m = 0)) j → zGood gM_idle (d + 3) (fun v σ' => v = some (.int (pIdle M n k)) ∧ σ' = encM M) 4 [some (.ref 0), some (.int a), some (.int i)] [] (encM M) 0 0) n (fun j hj ih i a hi ha => ?_) 0 (Nat.zero_le _) 0 0 nI_0.symm rfl
  subst hi; subst ha
  refine w_M_idle [4] ?_
  refine ⟨fun q => ?_, fun q => ?_⟩
  · have e := z_end I.2.2.1 hj (by omega) q
    subst e
    exact ⟨rfl, rfl⟩
  · have hlt := z_go I.2.2.1 hj (by omega) q
    refine z_call (c_M_blamesOf I) ?_
    refine ⟨fun h2 => ?_, fun h2 => ?_⟩
    · refine ⟨trivial, ih hlt _ _ (nI_1 j) ?_⟩
      exact bits_t (p := fun m => decide (blamesF M k m = 0)) (by simp [h2])
    · refine ⟨trivial, ih hlt _ _ (nI_1 j) ?_⟩
      exact bits_f (p := fun m => decide (blamesF M k m = 0)) (by simp [h2])
end M3
