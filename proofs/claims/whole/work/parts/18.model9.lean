def rateU (M : zS) (set : Nat) : Nat → Int32
  | 0 => 0
  | m + 1 => rateU M set m + (if hasB (nI set) (nI m) then M 2 (3 * m + 2) else 0)
/-- the first and its cost, among the sets 1 .. j: -1, none -/
def chp (p : Nat → Bool) (c : Nat → Int32) : Nat → Int32 × Int32
  | 0 => (-1, 0)
  | j + 1 => if p (j + 1) && (decide ((chp p c j).1 = -1) || decide (c (j + 1) < (chp p c j).2)) then (nI (j + 1), c (j + 1)) else chp p c j
def fillB (M : zS) (n k x set : Nat) : Bool := decide (nI set &&& (mayForF M n k x ^^^ -1) = 0) && decide (onesU (nI set) 7 = freeF M x)
def pCheap (M : zS) (n k : Nat) (x : Int32) : Int32 := if ixB k x = false then kUNK else (chp (fillB M n k x.toNatClampNeg) (fun s => rateU M s n) (2 ^ n - 1)).1
def nrB (M : zS) (m x p : Nat) : Bool := decide (offF (nI p) (M 4 (6 * x)) < 2) && decide (M 0 4 ≤ belF M m x (nI p) (M 8 m))
def nrU (M : zS) (m x : Nat) : Nat → Int32
  | 0 => -1
  | p + 1 => if nrB M m x p && (decide (nrU M m x p = -1) || decide (offF (nI p) (wh M m x) < offF (nrU M m x p) (wh M m x))) then nI p else nrU M m x p
def nrF (M : zS) (m x : Nat) : Int32 := if wh M m x = -1 then -1 else if canB M m x = false then -1 else nrU M m x 6
def pNearer (M : zS) (n k : Nat) (m x w : Int32) : Int32 := if ixB n m = false then kUNK else if ixB k x = false then kUNK else if ¬ (0 ≤ w ∧ w ≤ 1) then kOUT else
  if nrF M m.toNatClampNeg x.toNatClampNeg = -1 then -1 else if w = 1 then nrF M m.toNatClampNeg x.toNatClampNeg else offF (nrF M m.toNatClampNeg x.toNatClampNeg) (wh M m.toNatClampNeg x.toNatClampNeg)
theorem b_shl : ∀ n, n ≤ 7 → (1 : Int32) <<< (nI n &&& 31) = nI (2 ^ n) := by decide +kernel
section M9
variable {d : Nat} {M : zS} {n k : Nat} {σ : List va_E}
theorem c_M_chain (I : okM M n k) {x w : Int32} : zRuns gM_chain (d + 3) [.ref 0, .int x, .int w] (encM M) (fun v σ' => v = some (.int (pChain M k x w)) ∧ σ' = encM M) := by
  have h4 := I.2.1
  refine m_M_chain [39, 81] rfl (Nat.le_of_ble_eq_true rfl) ?_
  refine z_call (c_M_isMishap I) ?_
  refine z_b (fun h => ?_) (fun h => ?_)
  · exact ⟨by simp [pChain, h], rfl⟩
  obtain ⟨i, hi, rfl⟩ := ixB_t (by omega) h
  refine z_call c_M_in ?_
  refine z_dec (fun h2 => ?_) (fun h2 => ?_)
  · exact ⟨by unfold pChain; rw [h, if_neg (by decide), if_pos h2], rfl⟩
  have ei : (nI i).toNatClampNeg = i := nI_clamp (by omega)
  have e0 : pChain M k (nI i) w = if w = 1 then nI (rootU M 4 i) else if w = 0 then nI (chnU M 4 i) else bits (fun y => decide (rootU M 4 y = rootU M 4 i)) k := by
    unfold pChain; rw [h, if_neg (by decide), if_neg (fun z => z h2), ei]
  rw [e0]
  refine ⟨fun h3 => ?_, fun h3 => ?_⟩
  · refine z_call (c_M_root I hi) ?_
    exact ⟨by rw [if_pos h3], rfl⟩
  refine ⟨trivial, ?_⟩
  have l2 := z_up (P := fun j => ∀ y a, y = nI j → a = bits (fun y => decide (rootU M 4 y = rootU M 4 i)) j → zGood gM_chain (d + 3) (fun v σ' => v = some (.int (if w = 1 then nI (rootU M 4 i) else if w = 0 then nI (chnU M 4 i) else bits (fun y => decide (rootU M 4 y = rootU M 4 i)) k)) ∧ σ' = encM M) 81 [some (.ref 0), some (.int (nI i)), some (.int w), some (.int (nI (chnU M 4 i))), some (.int a), some (.int y)] [] (encM M) 0 0) k (fun j hj ih y a hy ha => by
    subst hy; subst ha
    refine w_M_chain [81] ?_
    refine ⟨fun q => ?_, fun q => ?_⟩
    · have e := z_end I.2.2.2.1 hj (by omega) q
      subst e
      refine ⟨fun h5 => ?_, fun h5 => ?_⟩
      · exact ⟨by rw [if_neg h3, if_pos h5], rfl⟩
      · exact ⟨by rw [if_neg h3, if_neg h5], rfl⟩
    · have hlt := z_go I.2.2.2.1 hj (by omega) q
      refine z_call (c_M_root I hlt) ?_
      refine z_call (c_M_root I hi) ?_
      have r1 := root_le I 4 j hlt
      have r2 := root_le I 4 i hi
      refine z_eq rfl rfl (by omega) (by omega) (fun h5 => ?_) (fun h5 => ?_)
      · refine ⟨trivial, ih hlt _ _ (nI_1 j) ?_⟩
        exact bits_t (p := fun y => decide (rootU M 4 y = rootU M 4 i)) (by simp [h5])
      · refine ⟨trivial, ih hlt _ _ (nI_1 j) ?_⟩
        exact bits_f (p := fun y => decide (rootU M 4 y = rootU M 4 i)) (by simp [h5])) 0 (Nat.zero_le _) 0 0 nI_0.symm rfl
  have lp : ∀ y, y < k → ∀ a u, a + chnU M 4 y = chnU M 4 i → zGood gM_chain (d + 3) (fun v σ' => v = some (.int (if w = 1 then nI (rootU M 4 i) else if w = 0 then nI (chnU M 4 i) else bits (fun y => decide (rootU M 4 y = rootU M 4 i)) k)) ∧ σ' = encM M) 39 [some (.ref 0), some (.int (nI i)), some (.int w), some (.int (nI a)), some (.int (nI y)), u] [] (encM M) 0 0 := by
    intro y
    induction y using Nat.strongRecOn with
    | _ y ih =>
      intro hy a u hr
      refine w_M_chain [39, 81] ?_
      refine z_ld (z_ad (z_mu q6 rfl) q5) (by omega) (by decide) ?_
      rw [chnU] at hr
      refine ⟨fun h5 => ?_, fun h5 => ?_⟩
      · rw [if_pos h5] at hr
        rw [show a = chnU M 4 i by omega]
        exact ⟨trivial, l2⟩
      · rw [if_neg h5] at hr
        rcases (I.2.2.2.2.2.2 y hy).2.2.2.2.2 with h9 | ⟨p, hp, e⟩
        · exact absurd h9 h5
        · rw [e, nI_clamp (by omega), chn_fuel I p (by omega) 3 4 (by omega) (by omega)] at hr
          refine z_ld (z_ad (z_mu q6 rfl) q5) (by omega) (by decide) ?_
          rw [e]
          have h9 := ih p hp (by omega) (a + 1) u (by omega)
          rw [← nI_1] at h9
          exact ⟨trivial, h9⟩
  exact lp i hi 0 none (by omega)
theorem c_M_alibi (I : okM M n k) {m : Int32} {s : Nat} (hs : M 0 26 = nI s) (hs6 : s ≤ 6) : zRuns gM_alibi (d + 2) [.ref 0, .int m] (encM M) (fun v σ' => v = some (.int (pAlibi M n k m)) ∧ σ' = encM M) := by
  have h7 := I.1; have h4 := I.2.1
  refine m_M_alibi [15, 26] rfl (Nat.le_of_ble_eq_true rfl) ?_
  refine z_call (c_M_isMan I) ?_
  refine z_b (fun h => ?_) (fun h => ?_)
  · exact ⟨by simp [pAlibi, h], rfl⟩
  have es : (M 0 26).toNatClampNeg = s := by rw [hs, nI_clamp (by omega)]
  have e0 : pAlibi M n k m = alU M k m s := by unfold pAlibi; rw [h, if_neg (by decide), es]
  rw [e0]
  refine ⟨trivial, ?_⟩
  refine z_up (P := fun j => ∀ i a u w, i = nI j → a = alU M k m j → zGood gM_alibi (d + 2) (fun v σ' => v = some (.int (alU M k m s)) ∧ σ' = encM M) 15 [some (.ref 0), some (.int m), some (.int a), some (.int i), u, w] [] (encM M) 0 0) s (fun j hj ih i a u w hi ha => ?_) 0 (Nat.zero_le _) 0 0 none none nI_0.symm rfl
  subst hi; subst ha
  refine w_M_alibi [15, 26] ?_
  refine z_le (a := s) (b := j) hs rfl (by omega) (by omega) (fun q => ?_) (fun q => ?_)
  · have : j = s := by omega
    subst this
    exact ⟨rfl, rfl⟩
  refine ⟨trivial, ?_⟩
  refine z_up (P := fun x => ∀ i a w, i = nI x → a = orU (alB M m j) (alU M k m j) x → zGood gM_alibi (d + 2) (fun v σ' => v = some (.int (alU M k m s)) ∧ σ' = encM M) 26 [some (.ref 0), some (.int m), some (.int a), some (.int (nI j)), some (.int i), w] [] (encM M) 0 0) k (fun x hx ihx i a w hi ha => ?_) 0 (Nat.zero_le _) 0 _ w nI_0.symm rfl
  subst hi; subst ha
  refine w_M_alibi [15, 26] ?_
  refine ⟨fun q2 => ?_, fun q2 => ?_⟩
  · have e := z_end I.2.2.2.1 hx (by omega) q2
    subst e
    exact ⟨trivial, ih q _ _ _ _ (nI_1 j) rfl⟩
  · have hlt := z_go I.2.2.2.1 hx (by omega) q2
    refine z_ld (z_mu q3 rfl) (by omega) (by decide) ?_
    refine ⟨fun h5 => ?_, fun h5 => ?_⟩
    · refine z_ld (z_ad (z_mu q3 rfl) (show (2 : Int32) = nI 2 from rfl)) (by omega) (by decide) ?_
      refine z_ld (z_mu q6 rfl) (by omega) (by decide) ?_
      refine z_call c_M_off ?_
      refine z_ld (z_ad (z_mu q3 rfl) q1) (by omega) (by decide) ?_
      refine z_ld (z_ad (z_mu q6 rfl) q1) (by omega) (by decide) ?_
      refine z_call c_M_off ?_
      refine ⟨fun h6 => ?_, fun h6 => ?_⟩
      · refine br_t rfl ?_
        refine ⟨trivial, ihx hlt _ _ _ (nI_1 x) ?_⟩
        exact orU_f (p := alB M m j) (by unfold alB; simp [h5, h6])
      · refine br_f (by decide) ?_
        refine ⟨trivial, ihx hlt _ _ _ (nI_1 x) ?_⟩
        exact orU_t (p := alB M m j) (by unfold alB; simp [h5]; exact Int32.not_le.mp h6)
    · refine br_t rfl ?_
      refine ⟨trivial, ihx hlt _ _ _ (nI_1 x) ?_⟩
      exact orU_f (p := alB M m j) (by unfold alB; simp [h5])
theorem c_M_cheapest (I : okM M n k) {x : Int32} : zRuns gM_cheapest (d + 5) [.ref 0, .int x] (encM M) (fun v σ' => v = some (.int (pCheap M n k x)) ∧ σ' = encM M) := by
  have h7 := I.1; have h4 := I.2.1
  have hp : 2 ^ n ≤ 128 := Nat.pow_le_pow_right (n := 2) (by decide) h7
  have hp1 : 1 ≤ 2 ^ n := Nat.one_le_two_pow
  refine m_M_cheapest [25, 42, 126] rfl (Nat.le_of_ble_eq_true rfl) ?_
  refine z_call (c_M_isMishap I) ?_
  refine z_b (fun h => ?_) (fun h => ?_)
  · exact ⟨by simp [pCheap, h], rfl⟩
  obtain ⟨y, hy, rfl⟩ := ixB_t (by omega) h
  have e0 : pCheap M n k (nI y) = (chp (fillB M n k y) (fun s => rateU M s n) (2 ^ n - 1)).1 := by unfold pCheap; rw [h, if_neg (by decide), nI_clamp (by omega)]
  rw [e0]
  refine z_call (c_M_mayFor I hy) ?_
  refine ⟨trivial, ?_⟩
  refine z_up (P := fun j => ∀ i f c u w, i = nI (j + 1) → f = (chp (fillB M n k y) (fun s => rateU M s n) j).1 → c = (chp (fillB M n k y) (fun s => rateU M s n) j).2 → zGood gM_cheapest (d + 5) (fun v σ' => v = some (.int (chp (fillB M n k y) (fun s => rateU M s n) (2 ^ n - 1)).1) ∧ σ' = encM M) 25 [some (.ref 0), some (.int (nI y)), some (.int (mayForF M n k y)), some (.int f), some (.int c), some (.int i), u, w] [] (encM M) 0 0) (2 ^ n - 1) (fun j hj ih i f c u w hi hf hc => ?_) 0 (Nat.zero_le _) 1 (-1) 0 none none rfl rfl rfl
  subst hi; subst hf; subst hc
  refine w_M_cheapest [25, 42, 126] ?_
  refine z_le (a := 2 ^ n) (b := j + 1) (by show (1 : Int32) <<< (M 0 6 &&& 31) = _; rw [I.2.2.1]; exact b_shl n h7) rfl (by omega) (by omega) (fun q => ?_) (fun q => ?_)
  · have : j = 2 ^ n - 1 := by omega
    subst this
    exact ⟨rfl, rfl⟩
  refine ⟨trivial, ?_⟩
  have hjl : j < 2 ^ n - 1 := by omega
  generalize hS : chp (fillB M n k y) (fun s => rateU M s n) j = S at *
  have fin : ∀ (b : Bool), (fillB M n k y (j + 1) && (decide (S.1 = -1) || decide (rateU M (j + 1) n < S.2))) = b → ∀ v, zGood gM_cheapest (d + 5) (fun v σ' => v = some (.int (chp (fillB M n k y) (fun s => rateU M s n) (2 ^ n - 1)).1) ∧ σ' = encM M) 126 [some (.ref 0), some (.int (nI y)), some (.int (mayForF M n k y)), some (.int S.1), some (.int S.2), some (.int (nI (j + 1))), some (.int (rateU M (j + 1) n)), v] [.int (bI b)] (encM M) 0 0 := by
    intro b hb v
    have es : chp (fillB M n k y) (fun s => rateU M s n) (j + 1) = if b = true then (nI (j + 1), rateU M (j + 1) n) else S := by
      unfold chp
      rw [hS, hb]
    have h9 := fun f c u w => ih hjl (nI (j + 1) + 1) f c u w (nI_1 (j + 1))
    rw [es] at h9
    refine w_M_cheapest [25, 42] ?_
    cases b with
    | false =>
      refine br_t rfl ?_
      refine br_t rfl ?_
      exact ⟨trivial, h9 _ _ _ _ rfl rfl⟩
    | true =>
      refine br_f (by decide) ?_
      refine br_f (by decide) ?_
      exact ⟨trivial, h9 _ _ _ _ rfl rfl⟩
  refine z_up (P := fun m => ∀ i a, i = nI m → a = rateU M (j + 1) m → zGood gM_cheapest (d + 5) (fun v σ' => v = some (.int (chp (fillB M n k y) (fun s => rateU M s n) (2 ^ n - 1)).1) ∧ σ' = encM M) 42 [some (.ref 0), some (.int (nI y)), some (.int (mayForF M n k y)), some (.int S.1), some (.int S.2), some (.int (nI (j + 1))), some (.int a), some (.int i)] [] (encM M) 0 0) n (fun m hm ihm i a hi ha => ?_) 0 (Nat.zero_le _) 0 0 nI_0.symm rfl
  subst hi; subst ha
  refine w_M_cheapest [25, 42, 126] ?_
  refine ⟨fun q2 => ?_, fun q2 => ?_⟩
  · have e := z_end I.2.2.1 hm (by omega) q2
    subst e
    refine ⟨fun h5 => ?_, fun h5 => ?_⟩
    · refine z_call c_M_ones ?_
      refine z_call (c_M_free I hy) ?_
      refine ⟨fun h6 => ?_, fun h6 => ?_⟩
      · have f1 : fillB M m k y (j + 1) = true := by unfold fillB; rw [decide_eq_true h5, decide_eq_true h6]; rfl
        refine ⟨fun h8 => ?_, fun h8 => ?_⟩
        · exact ⟨trivial, fin true (by rw [f1]; simp [h8]) _⟩
        · refine ⟨fun h9 => ?_, fun h9 => ?_⟩
          · exact ⟨trivial, fin false (by rw [f1]; simp [h8]; exact h9) _⟩
          · exact ⟨trivial, fin true (by rw [f1]; simp; exact Or.inr (Int32.not_le.mp h9)) _⟩
      · exact ⟨trivial, fin false (by unfold fillB; rw [decide_eq_false h6]; simp) _⟩
    · exact ⟨trivial, fin false (by unfold fillB; rw [decide_eq_false h5]; simp) _⟩
  · have hlt := z_go I.2.2.1 hm (by omega) q2
    refine z_call c_M_has ?_
    refine z_b (fun h5 => ?_) (fun h5 => ?_)
    · refine ⟨trivial, ihm hlt _ _ (nI_1 m) ?_⟩
      simp [rateU, h5]
    · refine z_ld (z_ad (z_mu q3 rfl) (show (2 : Int32) = nI 2 from rfl)) (by omega) (by decide) ?_
      refine ⟨trivial, ihm hlt _ _ (nI_1 m) ?_⟩
      simp [rateU, h5]
theorem c_M_nearer (I : okM M n k) {m x w : Int32} : zRuns gM_nearer (d + 3) [.ref 0, .int m, .int x, .int w] (encM M) (fun v σ' => v = some (.int (pNearer M n k m x w)) ∧ σ' = encM M) := by
  have h7 := I.1; have h4 := I.2.1
  refine m_M_nearer [45, 113, 158] rfl (Nat.le_of_ble_eq_true rfl) ?_
  refine z_call (c_M_isMan I) ?_
  refine z_b (fun h => ?_) (fun h => ?_)
  · exact ⟨by simp [pNearer, h], rfl⟩
  refine z_call (c_M_isMishap I) ?_
  refine z_b (fun h1 => ?_) (fun h1 => ?_)
  · exact ⟨by simp [pNearer, h, h1], rfl⟩
  obtain ⟨i, hi, rfl⟩ := ixB_t (by omega) h
  obtain ⟨y, hy, rfl⟩ := ixB_t (by omega) h1
  refine z_call c_M_in ?_
  refine z_dec (fun h2 => ?_) (fun h2 => ?_)
  · exact ⟨by unfold pNearer; rw [h, h1, if_neg (by decide), if_neg (by decide), if_pos h2], rfl⟩
  have ei : (nI i).toNatClampNeg = i := nI_clamp (by omega)
  have ey : (nI y).toNatClampNeg = y := nI_clamp (by omega)
  have e0 : pNearer M n k (nI i) (nI y) w = if nrF M i y = -1 then -1 else if w = 1 then nrF M i y else offF (nrF M i y) (wh M i y) := by
    unfold pNearer; rw [h, h1, if_neg (by decide), if_neg (by decide), if_neg (fun z => z h2), ei, ey]
  rw [e0]
  refine z_call (c_M_whereIs I hi hy) ?_
  refine ⟨trivial, ?_⟩
  have ende : ∀ u v, zGood gM_nearer (d + 3) (fun v σ' => v = some (.int (if nrF M i y = -1 then -1 else if w = 1 then nrF M i y else offF (nrF M i y) (wh M i y))) ∧ σ' = encM M) 158 [some (.ref 0), some (.int (nI i)), some (.int (nI y)), some (.int w), some (.int (wh M i y)), some (.int (nrF M i y)), u, v] [] (encM M) 0 0 := by
    intro u v
    refine w_M_nearer [] ?_
    refine ⟨fun h5 => ?_, fun h5 => ?_⟩
    · exact ⟨by rw [if_pos h5, h5], rfl⟩
    · refine ⟨fun h6 => ?_, fun h6 => ?_⟩
      · exact ⟨by rw [if_neg h5, if_pos h6], rfl⟩
      · refine z_call c_M_off ?_
        exact ⟨by rw [if_neg h5, if_neg h6], rfl⟩
  refine z_up (P := fun p => ∀ a b u, a = nI p → b = nrU M i y p → (p ≠ 0 → ¬ wh M i y = -1 ∧ canB M i y = true) → zGood gM_nearer (d + 3) (fun v σ' => v = some (.int (if nrF M i y = -1 then -1 else if w = 1 then nrF M i y else offF (nrF M i y) (wh M i y))) ∧ σ' = encM M) 45 [some (.ref 0), some (.int (nI i)), some (.int (nI y)), some (.int w), some (.int (wh M i y)), some (.int b), some (.int a), u] [] (encM M) 0 0) 6 (fun p hp ih a b u ha hb hg => ?_) 0 (Nat.zero_le _) 0 (-1) none nI_0.symm rfl (fun z => absurd rfl z)
  subst ha; subst hb
  refine w_M_nearer [45, 113, 158] ?_
  refine z_le (a := 6) (b := p) rfl rfl (by decide) (by omega) (fun q => ?_) (fun q => ?_)
  · have hp6 : p = 6 := by omega
    subst hp6
    obtain ⟨g1, g2⟩ := hg (by decide)
    have e1 : nrF M i y = nrU M i y 6 := by unfold nrF; rw [if_neg g1, g2, if_neg (by decide)]
    have h9 := ende (some (.int (nI 6))) u
    rw [e1] at h9 ⊢
    exact ⟨trivial, h9⟩
  refine ⟨fun h5 => ?_, fun h5 => ?_⟩
  · have hp0 : p = 0 := Nat.eq_zero_of_not_pos fun z => (hg (by omega)).1 h5
    subst hp0
    have e1 : nrF M i y = -1 := by unfold nrF; rw [if_pos h5]
    have h9 := ende (some (.int (nI 0))) u
    rw [e1] at h9 ⊢
    exact ⟨trivial, h9⟩
  refine z_call (c_M_can I hi hy) ?_
  refine z_b (fun h6 => ?_) (fun h6 => ?_)
  · have hp0 : p = 0 := Nat.eq_zero_of_not_pos fun z => by
      have := (hg (by omega)).2
      rw [h6] at this
      cases this
    subst hp0
    have e1 : nrF M i y = -1 := by unfold nrF; rw [if_neg h5, h6, if_pos rfl]
    have h9 := ende (some (.int (nI 0))) u
    rw [e1] at h9 ⊢
    exact ⟨trivial, h9⟩
  have mid : ∀ (b : Bool), nrB M i y p = b → zGood gM_nearer (d + 3) (fun v σ' => v = some (.int (if nrF M i y = -1 then -1 else if w = 1 then nrF M i y else offF (nrF M i y) (wh M i y))) ∧ σ' = encM M) 113 [some (.ref 0), some (.int (nI i)), some (.int (nI y)), some (.int w), some (.int (wh M i y)), some (.int (nrU M i y p)), some (.int (nI p)), u] [.int (bI b)] (encM M) 0 0 := by
    intro b hb
    have h9 := fun b u hb => ih q (nI p + 1) b u (nI_1 p) hb (fun _ => ⟨h5, h6⟩)
    refine w_M_nearer [45] ?_
    cases b with
    | false =>
      refine br_t rfl ?_
      refine ⟨trivial, h9 _ _ ?_⟩
      simp [nrU, hb]
    | true =>
      refine br_f (by decide) ?_
      refine ⟨fun h8 => ?_, fun h8 => ?_⟩
      · refine ⟨trivial, h9 _ _ ?_⟩
        rw [nrU, hb]
        simp [h8]
      · refine z_call c_M_off ?_
        refine z_call c_M_off ?_
        refine ⟨fun h10 => ?_, fun h10 => ?_⟩
        · refine ⟨trivial, h9 _ _ ?_⟩
          rw [nrU, hb, if_neg]
          simp [h8]
          exact h10
        · refine ⟨trivial, h9 _ _ ?_⟩
          rw [nrU, hb, if_pos]
          simp
          exact Or.inr (Int32.not_le.mp h10)
  refine z_ld (z_mu q6 rfl) (by omega) (by decide) ?_
  refine z_call c_M_off ?_
  refine ⟨fun h8 => ?_, fun h8 => ?_⟩
  · exact ⟨trivial, mid false (by unfold nrB; simp; intro z; exact absurd (Int32.lt_of_lt_of_le z h8) Int32.lt_irrefl)⟩
  · refine z_ld (z0a i) (by omega) (by decide) ?_
    refine z_call (c_M_beliefAt I hi hy) ?_
    refine ⟨fun h10 => ?_, fun h10 => ?_⟩
    · exact ⟨trivial, mid false (by unfold nrB; simp; intro _; exact h10)⟩
    · exact ⟨trivial, mid true (by unfold nrB; simp; exact ⟨Int32.not_le.mp h8, Int32.not_lt.mp h10⟩)⟩
end M9
