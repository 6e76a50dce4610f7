/-! the class: the cheapest, the nearest, the chain, the quiet day, the papers -/
def relP (S M : zS) (n k : Nat) : Prop := ∃ s e, s ≤ 6 ∧ e ≤ 20 ∧ M 0 26 = nI s ∧ S 71 3 = nI s ∧ M 0 28 = nI e ∧ S 71 6 = nI e ∧
  (∀ j, j < s → S 72 j = M 13 (3 * j) ∧ S 73 j = M 13 (3 * j + 1) ∧ S 74 j = M 13 (3 * j + 2) ∧ (∃ h, h < 6 ∧ M 13 (3 * j + 1) = nI h) ∧ ∃ p, p < 6 ∧ M 13 (3 * j + 2) = nI p) ∧
  (∀ j, j < e → S 75 j = M 14 (2 * j) ∧ S 76 j = M 14 (2 * j + 1) ∧ (∃ m, m < n ∧ M 14 (2 * j) = nI m) ∧ ∃ x, x < k ∧ M 14 (2 * j + 1) = nI x)
def cxU (p : Nat → Bool) (c : Nat → Int32) : Nat → Int32 × Int32
  | 0 => (-1, 2147483647)
  | j + 1 => if p (j + 1) && decide (c (j + 1) < (cxU p c j).2) then (nI (j + 1), c (j + 1)) else cxU p c j
theorem cxU_chp {p : Nat → Bool} {c : Nat → Int32} (hc : ∀ j, c j < 2147483647) : ∀ j, j < 2 ^ 31 → (cxU p c j).1 = (chp p c j).1 ∧ ((chp p c j).1 = -1 → (cxU p c j).2 = 2147483647) ∧ ((chp p c j).1 ≠ -1 → (cxU p c j).2 = (chp p c j).2) := by
  intro j
  induction j with
  | zero => intro _; exact ⟨rfl, fun _ => rfl, fun h => absurd rfl h⟩
  | succ j ih =>
    intro hj
    obtain ⟨i1, i2, i3⟩ := ih (by omega)
    have hne : nI (j + 1) ≠ -1 := by
      intro z
      have := nI_pos (n := j + 1) (by omega)
      rw [z] at this
      exact this (by decide)
    unfold cxU chp
    cases hp : p (j + 1) with
    | false => simpa using ⟨i1, i2, i3⟩
    | true =>
      by_cases h : (chp p c j).1 = -1
      · rw [i2 h]
        simp only [h, hc (j + 1), decide_true, Bool.true_and, Bool.true_or, if_true]
        exact ⟨trivial, fun z => absurd z hne, fun _ => trivial⟩
      · rw [i3 h]
        by_cases h2 : c (j + 1) < (chp p c j).2
        · simp only [h2, decide_true, Bool.true_and, Bool.or_true, if_true]
          exact ⟨trivial, fun z => absurd z hne, fun _ => trivial⟩
        · simp only [h, h2, decide_false, Bool.and_false, Bool.or_false, Bool.false_eq_true, if_false]
          exact ⟨i1, fun z => z.elim, fun _ => i3 h⟩
theorem chp_tail {p : Nat → Bool} {c : Nat → Int32} {N : Nat} : ∀ j, N ≤ j → (∀ i, N < i → i ≤ j → p i = false) → chp p c j = chp p c N := by
  intro j
  induction j with
  | zero => intro h _; have : N = 0 := by omega
            subst this; rfl
  | succ j ih =>
    intro h hp
    by_cases e : N = j + 1
    · subst e; rfl
    · rw [← ih (by omega) (fun i a b => hp i a (by omega))]
      rw [chp, hp (j + 1) (by omega) (by omega)]
      simp
theorem b_sub : ∀ n, n < 8 → ∀ t, t < 2 ^ n → ∀ s, s < 128 → 2 ^ n ≤ s → nI s &&& (nI t ^^^ -1) ≠ 0 := by decide +kernel
theorem b_off6 : ∀ a, a < 6 → ∀ b, b < 6 → offF (nI a) (nI b) < 6 := by decide +kernel
def anyU (p : Nat → Bool) : Nat → Bool
  | 0 => false
  | j + 1 => anyU p j || p j
theorem orU_or {p : Nat → Bool} {a : Int32} : ∀ k, orU p a k = a ||| bits p k
  | 0 => by simp [orU, bits]
  | k + 1 => by rw [orU, orU_or k, bits, Int32.or_assoc]
theorem bits_or {p q : Nat → Bool} : ∀ k, bits q k ||| bits p k = bits (fun x => q x || p x) k
  | 0 => by simp [bits]
  | k + 1 => by
    simp only [bits]
    rw [← bits_or k]
    have e : ∀ (a b u v : Int32), (a ||| u) ||| (b ||| v) = (a ||| b) ||| (u ||| v) := by
      intro a b u v
      rw [Int32.or_assoc, ← Int32.or_assoc u b v, Int32.or_comm u b, Int32.or_assoc b u v, ← Int32.or_assoc]
    rw [e]
    by_cases h1 : q k = true <;> by_cases h2 : p k = true <;> simp [h1, h2]
theorem alU_bits (M : zS) (k : Nat) (m : Int32) : ∀ s, alU M k m s = bits (fun x => anyU (fun j => alB M m j x) s) k
  | 0 => by rw [alU]; exact (bits_false k).symm
  | s + 1 => by
    rw [alU, orU_or, alU_bits M k m s, bits_or]
    rfl
section C3
variable {d : Nat} {S M : zS} {n k : Nat}
theorem rateU_n (I : okM M n k) (s : Nat) : ∀ m, m ≤ n → ∃ r, r ≤ 99 * m ∧ rateU M s m = nI r
  | 0, _ => ⟨0, by omega, rfl⟩
  | m + 1, h => by
    obtain ⟨r, h1, h2⟩ := rateU_n I s m (by omega)
    obtain ⟨p, _, h3, h4⟩ := (I.2.2.2.2.2.1 m (by omega)).2.2
    by_cases e : hasB (nI s) (nI m) = true
    · exact ⟨r + p, by omega, by rw [rateU, if_pos e, h2, h4, nI_add]⟩
    · exact ⟨r, by omega, by rw [rateU, if_neg e, h2, q0, nI_add, Nat.add_zero]⟩
theorem c_Fa_ratesOf (R : rel1 S M n k) {s : Nat} : zRuns gFa_ratesOf (d + 2) [.ref 14, .int (nI s)] (encC S) (fun v σ' => v = some (.int (rateU M s n)) ∧ σ' = encC S) := by
  have h7 := R.1.1
  refine m_Fa_ratesOf [4] rfl (Nat.le_of_ble_eq_true rfl) ?_
  refine ⟨trivial, ?_⟩
  refine z_up (P := fun j => ∀ i a, i = nI j → a = rateU M s j → zGood gFa_ratesOf (d + 2) (fun v σ' => v = some (.int (rateU M s n)) ∧ σ' = encC S) 4 [some (.ref 14), some (.int (nI s)), some (.int a), some (.int i)] [] (encC S) 0 0) n (fun j hj ih i a hi ha => ?_) 0 (Nat.zero_le _) 0 0 nI_0.symm rfl
  subst hi; subst ha
  refine w_Fa_ratesOf [4] ?_
  refine ⟨fun q => ?_, fun q => ?_⟩
  · have e := z_end (R_men R) hj (by omega) q
    subst e
    exact ⟨rfl, rfl⟩
  · have hlt := z_go (R_men R) hj (by omega) q
    refine z_call (c_isIn rfl (by omega)) ?_
    refine z_b (fun h => ?_) (fun h => ?_)
    · have h' : hasB (nI s) (nI j) = false := h
      refine ⟨trivial, ih hlt _ _ (nI_1 j) ?_⟩
      simp [rateU, h']
    · have h' : hasB (nI s) (nI j) = true := h
      refine z_call (c_atv (n := 7) (f := S 17) rfl (by decide) rfl (by omega) (R_man R hlt).2.2.1) ?_
      refine ⟨trivial, ih hlt _ _ (nI_1 j) ?_⟩
      simp [rateU, h']
theorem c_Ct_cheapestFor (R : rel1 S M n k) {x : Nat} (hx : x < k) : zRuns gCt_cheapestFor (d + 6) [.ref 27, .int (nI x)] (encC S) (fun v σ' => v = some (.int (chp (fillB M n k x) (fun s => rateU M s n) (2 ^ n - 1)).1) ∧ σ' = encC S) := by
  have h7 := R.1.1
  have hp : 2 ^ n ≤ 128 := Nat.pow_le_pow_right (n := 2) (by decide) h7
  have hp1 : 1 ≤ 2 ^ n := Nat.one_le_two_pow
  have hc : ∀ j, rateU M j n < 2147483647 := by
    intro j
    obtain ⟨r, h1, h2⟩ := rateU_n R.1 j n (Nat.le_refl n)
    rw [h2]
    exact nI_lt (b := 2147483647) (by omega) (by omega)
  have tail : chp (fillB M n k x) (fun s => rateU M s n) 127 = chp (fillB M n k x) (fun s => rateU M s n) (2 ^ n - 1) := by
    refine chp_tail 127 (by omega) (fun i h1 h2 => ?_)
    obtain ⟨t, ht, et, _⟩ := bits_n (fun m => mayB M k m x) n h7
    have e : mayForF M n k x = nI t := et
    unfold fillB
    rw [e, decide_eq_false (b_sub n (by omega) t ht i (by omega) (by omega))]
    rfl
  rw [← tail, ← (cxU_chp hc 127 (by decide)).1]
  refine m_Ct_cheapestFor [22] rfl (Nat.le_of_ble_eq_true rfl) ?_
  refine z_call (c_Ct_takers R hx) ?_
  refine z_call (c_Ct_freeOf R hx) ?_
  refine ⟨trivial, ?_⟩
  refine z_up (P := fun j => ∀ i f c u, i = nI (j + 1) → f = (cxU (fillB M n k x) (fun s => rateU M s n) j).1 → c = (cxU (fillB M n k x) (fun s => rateU M s n) j).2 → zGood gCt_cheapestFor (d + 6) (fun v σ' => v = some (.int (cxU (fillB M n k x) (fun s => rateU M s n) 127).1) ∧ σ' = encC S) 22 [some (.ref 27), some (.int (nI x)), some (.int (mayForF M n k x)), some (.int (freeF M x)), some (.int f), some (.int c), some (.int i), u] [] (encC S) 0 0) 127 (fun j hj ih i f c u hi hf hc => ?_) 0 (Nat.zero_le _) 1 (-1) 2147483647 none rfl rfl rfl
  subst hi; subst hf; subst hc
  refine w_Ct_cheapestFor [22] ?_
  refine z_le (a := 128) (b := j + 1) rfl rfl (by decide) (by omega) (fun q => ?_) (fun q => ?_)
  · have : j = 127 := by omega
    subst this
    exact ⟨rfl, rfl⟩
  have hjl : j < 127 := by omega
  have epop : zPop32 (nI (j + 1)) = onesU (nI (j + 1)) 7 := b_pop (j + 1) (by omega)
  have go := fun f c u => ih hjl (nI (j + 1) + 1) f c u (nI_1 (j + 1))
  refine ⟨fun h5 => ?_, fun h5 => ?_⟩
  · refine z_call c_bitCount ?_
    rw [epop]
    refine ⟨fun h6 => ?_, fun h6 => ?_⟩
    · have f1 : fillB M n k x (j + 1) = true := by unfold fillB; rw [decide_eq_true h5, decide_eq_true h6]; rfl
      refine br_f (by decide) ?_
      refine z_call (c_Fa_ratesOf R) ?_
      refine ⟨fun h8 => ?_, fun h8 => ?_⟩
      · refine ⟨trivial, go _ _ _ ?_ ?_⟩ <;> (rw [cxU, f1]; simp [Int32.not_lt.mpr h8])
      · refine z_call (c_Fa_ratesOf R) ?_
        refine ⟨trivial, go _ _ _ ?_ ?_⟩ <;> (rw [cxU, f1]; simp [Int32.not_le.mp h8])
    · have f1 : fillB M n k x (j + 1) = false := by unfold fillB; rw [decide_eq_false h6]; simp
      refine br_t rfl ?_
      refine ⟨trivial, go _ _ _ ?_ ?_⟩ <;> (rw [cxU, f1]; simp)
  · have f1 : fillB M n k x (j + 1) = false := by unfold fillB; rw [decide_eq_false h5]; simp
    refine br_t rfl ?_
    refine ⟨trivial, go _ _ _ ?_ ?_⟩ <;> (rw [cxU, f1]; simp)
theorem c_cheapest (R : rel1 S M n k) {x : Int32} : zRuns gB_cheapest (d + 7) [.ref 0, .int x] (encC S) (fun v σ' => v = some (.int (pCheap M n k x)) ∧ σ' = encC S) := by
  have h4 := R.1.2.1
  refine m_B_cheapest [] rfl (Nat.le_of_ble_eq_true rfl) ?_
  refine z_call (c_isMishap R) ?_
  refine z_b (fun h => ?_) (fun h => ?_)
  · exact ⟨by simp [pCheap, h], rfl⟩
  obtain ⟨i, hi, rfl⟩ := ixB_t (by omega) h
  refine z_call (c_Ct_cheapestFor R hi) ?_
  exact ⟨by unfold pCheap; rw [h, if_neg (by decide), nI_clamp (by omega)], rfl⟩
theorem nrU_n (m x : Nat) : ∀ p, nrU M m x p = -1 ∨ ∃ q, q < p ∧ nrU M m x p = nI q
  | 0 => Or.inl rfl
  | p + 1 => by
    unfold nrU
    split
    · exact Or.inr ⟨p, by omega, rfl⟩
    · rcases nrU_n m x p with h | ⟨q, h1, h2⟩
      · exact Or.inl h
      · exact Or.inr ⟨q, by omega, h2⟩
theorem c_Ct_nearestFit (R : rel1 S M n k) {m x : Nat} (hm : m < n) (hx : x < k) : zRuns gCt_nearestFit (d + 4) [.ref 27, .int (nI m), .int (nI x), .int (wh M m x)] (encC S) (fun v σ' => v = some (.int (nrF M m x)) ∧ σ' = encC S) := by
  have h7 := R.1.1; have h4 := R.1.2.1
  obtain ⟨w, hw, ew⟩ := R.2.2.1.1 m hm
  refine m_Ct_nearestFit [17] rfl (Nat.le_of_ble_eq_true rfl) ?_
  refine ⟨fun h => ?_, fun h => ?_⟩
  · exact ⟨by unfold nrF; rw [if_pos h], rfl⟩
  obtain ⟨q, hq, eq⟩ := (where_P R hm hx).resolve_left h
  have e0 : nrF M m x = if canB M m x = false then -1 else nrU M m x 6 := by unfold nrF; rw [if_neg h]
  rw [e0]
  refine ⟨trivial, ?_⟩
  refine z_up (P := fun p => ∀ i b l u, i = nI p → b = (if canB M m x = false then -1 else nrU M m x p) → l = (if b = -1 then 6 else offF b (wh M m x)) → zGood gCt_nearestFit (d + 4) (fun v σ' => v = some (.int (if canB M m x = false then -1 else nrU M m x 6)) ∧ σ' = encC S) 17 [some (.ref 27), some (.int (nI m)), some (.int (nI x)), some (.int (wh M m x)), some (.int b), some (.int l), some (.int i), u] [] (encC S) 0 0) 6 (fun p hp ih i b l u hi hb hl => ?_) 0 (Nat.zero_le _) 0 (-1) 6 none nI_0.symm (by cases canB M m x <;> rfl) rfl
  subst hi
  refine w_Ct_nearestFit [17] ?_
  refine z_le (a := 6) (b := p) rfl rfl (by decide) (by omega) (fun q2 => ?_) (fun q2 => ?_)
  · have : p = 6 := by omega
    subst this
    exact ⟨by rw [hb], rfl⟩
  refine z_call c_abs ?_
  have eab : (if 0 ≤ nI p - wh M m x then nI p - wh M m x else -(nI p - wh M m x)) = offF (nI p) (wh M m x) := by rw [eq]; exact b_abs p q2 q hq
  rw [eab]
  have hoff : offF (nI p) (wh M m x) < 6 := by rw [eq]; exact b_off6 p q2 q hq
  have key := wl_fits R hm hx hw (p := nI p)
  have hne : nI p ≠ -1 := by
    intro z
    have := nI_pos (n := p) (by omega)
    rw [z] at this
    exact this (by decide)
  rw [decide_eq_true hne, Bool.true_and] at key
  cases hcan : canB M m x with
  | false =>
    rw [hcan, if_pos rfl] at hb
    subst hb
    rw [if_pos rfl] at hl
    subst hl
    have key2 : ¬ nI w ≤ wlF M m x (nI p) := of_decide_eq_false (by rw [key, hcan]; simp)
    refine ⟨fun h8 => absurd (Int32.lt_of_lt_of_le hoff h8) Int32.lt_irrefl, fun h8 => ?_⟩
    refine z_call (c_St_wornOf R hm) ?_
    refine z_call (c_Ct_wornLimit R hm hx (Or.inr ⟨p, q2, rfl⟩)) ?_
    rw [ew]
    refine ⟨fun h9 => ?_, fun h9 => absurd (Int32.not_lt.mp h9) key2⟩
    refine ⟨trivial, ?_⟩
    have := ih q2 (nI p + 1) (-1) 6 (some (.int (offF (nI p) (wh M m x)))) (nI_1 p) (by rw [hcan, if_pos rfl]) rfl
    rw [hcan] at this
    exact this
  | true =>
    rw [hcan, if_neg (by decide)] at hb
    have key2 : decide (nI w ≤ wlF M m x (nI p)) = nrB M m x p := by rw [key, hcan, Bool.true_and, ← ew]; rfl
    have go : ∀ b l u, b = nrU M m x (p + 1) → l = (if b = -1 then 6 else offF b (wh M m x)) → zGood gCt_nearestFit (d + 4) (fun v σ' => v = some (.int (if true = false then -1 else nrU M m x 6)) ∧ σ' = encC S) 17 [some (.ref 27), some (.int (nI m)), some (.int (nI x)), some (.int (wh M m x)), some (.int b), some (.int l), some (.int (nI p + 1)), u] [] (encC S) 0 0 := by
      intro b l u h1 h2
      have := ih q2 (nI p + 1) b l u (nI_1 p) (by rw [hcan, if_neg (by decide)]; exact h1) h2
      rw [hcan] at this
      exact this
    refine ⟨fun h8 => ?_, fun h8 => ?_⟩
    · refine ⟨trivial, go _ _ _ ?_ hl⟩
      rw [hb, nrU]
      by_cases z : nrU M m x p = -1
      · rw [hb, if_pos z] at hl
        subst hl
        exact absurd (Int32.lt_of_lt_of_le hoff h8) Int32.lt_irrefl
      · rw [hb, if_neg z] at hl
        subst hl
        rw [if_neg]
        simp [z, Int32.not_lt.mpr h8]
    · refine z_call (c_St_wornOf R hm) ?_
      refine z_call (c_Ct_wornLimit R hm hx (Or.inr ⟨p, q2, rfl⟩)) ?_
      rw [ew]
      refine ⟨fun h9 => ?_, fun h9 => ?_⟩
      · refine ⟨trivial, go _ _ _ ?_ hl⟩
        rw [hb, nrU, ← key2, decide_eq_false (Int32.not_le.mpr h9)]
        simp
      · refine ⟨trivial, go _ _ _ ?_ (by rw [if_neg hne])⟩
        rw [nrU, ← key2, decide_eq_true (Int32.not_lt.mp h9), if_pos]
        by_cases z : nrU M m x p = -1
        · simp [z]
        · rw [hb, if_neg z] at hl
          subst hl
          simp [Int32.not_le.mp h8]
theorem c_nearer (R : rel1 S M n k) {m x w : Int32} : zRuns gB_nearer (d + 5) [.ref 0, .int m, .int x, .int w] (encC S) (fun v σ' => v = some (.int (pNearer M n k m x w)) ∧ σ' = encC S) := by
  have h7 := R.1.1; have h4 := R.1.2.1
  refine m_B_nearer [] rfl (Nat.le_of_ble_eq_true rfl) ?_
  refine z_call (c_isMan R) ?_
  refine z_b (fun h => ?_) (fun h => ?_)
  · exact ⟨by simp [pNearer, h], rfl⟩
  refine z_call (c_isMishap R) ?_
  refine z_b (fun h1 => ?_) (fun h1 => ?_)
  · exact ⟨by simp [pNearer, h, h1], rfl⟩
  obtain ⟨i, hi, rfl⟩ := ixB_t (by omega) h
  obtain ⟨y, hy, rfl⟩ := ixB_t (by omega) h1
  have ei : (nI i).toNatClampNeg = i := nI_clamp (by omega)
  have ey : (nI y).toNatClampNeg = y := nI_clamp (by omega)
  have e0 : 0 ≤ w ∧ w ≤ 1 → pNearer M n k (nI i) (nI y) w = if nrF M i y = -1 then -1 else if w = 1 then nrF M i y else offF (nrF M i y) (wh M i y) := by
    intro h2
    unfold pNearer; rw [h, h1, if_neg (by decide), if_neg (by decide), if_neg (fun z => z h2), ei, ey]
  have step : (w = 0 ∨ w = 1) → ∀ (b : Bool), b = true → (0 ≤ w ∧ w ≤ 1) := by
    rintro (rfl | rfl) _ _ <;> exact ⟨by decide, by decide⟩
  refine ⟨fun h2 => ?_, fun h2 => ?_⟩
  · rw [e0 (step (Or.inl h2) true rfl)]
    refine z_call (c_atv (n := 4) (f := S 20) rfl (by decide) rfl (by omega) (R_x R hy).2.1) ?_
    refine z_call (c_Ct_where R hi hy) ?_
    refine z_call (c_Ct_nearestFit R hi hy) ?_
    refine ⟨fun h5 => ?_, fun h5 => ?_⟩
    · exact ⟨by rw [if_pos h5, h5], rfl⟩
    refine ⟨fun h6 => ?_, fun h6 => ?_⟩
    · exact ⟨by rw [if_neg h5, if_pos h6], rfl⟩
    refine z_call c_abs ?_
    refine ⟨?_, rfl⟩
    rw [if_neg h5, if_neg h6]
    have hwh : ¬ wh M i y = -1 := fun z => h5 (by unfold nrF; rw [if_pos z])
    obtain ⟨q, hq, eq⟩ := (where_P R hi hy).resolve_left hwh
    have hcan : canB M i y = true := eq_true_of_ne_false fun z => h5 (by unfold nrF; rw [if_neg hwh, if_pos z])
    have en : nrF M i y = nrU M i y 6 := by unfold nrF; rw [if_neg hwh, hcan, if_neg (by decide)]
    rw [en] at h5 ⊢
    obtain ⟨p, hp, ep⟩ := (nrU_n (M := M) i y 6).resolve_left h5
    rw [ep, eq, b_abs p hp q hq]
  · refine ⟨fun h3 => ?_, fun h3 => ?_⟩
    · rw [e0 (step (Or.inr h3) true rfl)]
      refine z_call (c_atv (n := 4) (f := S 20) rfl (by decide) rfl (by omega) (R_x R hy).2.1) ?_
      refine z_call (c_Ct_where R hi hy) ?_
      refine z_call (c_Ct_nearestFit R hi hy) ?_
      refine ⟨fun h5 => ?_, fun h5 => ?_⟩
      · exact ⟨by rw [if_pos h5, h5], rfl⟩
      refine ⟨fun h6 => ?_, fun h6 => absurd h3 h6⟩
      exact ⟨by rw [if_neg h5, if_pos h6], rfl⟩
    · refine ⟨?_, rfl⟩
      unfold pNearer
      rw [h, h1, if_neg (by decide), if_neg (by decide), if_pos]
      intro z
      obtain ⟨j, hj, rfl⟩ := z_rng (N := 1) (by decide) z
      have : j = 0 ∨ j = 1 := by omega
      rcases this with e | e <;> subst e
      · exact h2 rfl
      · exact h3 rfl
end C3
