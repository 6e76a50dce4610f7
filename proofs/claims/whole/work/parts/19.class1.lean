/-! the class, its questions, over the reference's numbers -/
def okW (M : zS) (n : Nat) : Prop := (∀ m, m < n → ∃ w, w ≤ 9 ∧ M 8 m = nI w) ∧ ∀ m, m < n → ∀ h, h < 6 → M 8 (13 + 6 * m + h) = -1 ∨ ∃ p, p < 6 ∧ M 8 (13 + 6 * m + h) = nI p
def relF (S M : zS) (n k : Nat) : Prop := S 14 3 = nI n ∧ S 14 4 = nI k ∧ S 14 0 = M 0 3 ∧ S 14 1 = M 0 4 ∧ S 14 2 = M 0 5 ∧
  (∀ m, m < n → S 15 m = M 2 (3 * m) ∧ S 16 m = M 2 (3 * m + 1) ∧ S 17 m = M 2 (3 * m + 2) ∧ ∀ h, h < 6 → S 18 (6 * m + h) = M 3 (6 * m + h)) ∧
  (∀ x, x < k → S 19 x = M 4 (6 * x) ∧ S 20 x = M 4 (6 * x + 1) ∧ S 21 x = M 4 (6 * x + 2) ∧ S 22 x = M 4 (6 * x + 3) ∧ S 23 x = M 4 (6 * x + 4) ∧ S 24 x = M 4 (6 * x + 5))
def rowEq (n k : Nat) (c N : Nat → Int32) : Prop := (∀ m, m < n → ∀ h, h < 6 → c (6 * m + h) = N (13 + 6 * m + h)) ∧ (∀ m, m < n → c (42 + m) = N m) ∧ (∀ x, x < k → c (49 + x) = N (7 + x)) ∧ c 53 = N 11 ∧ c 54 = N 12
def rel1 (S M : zS) (n k : Nat) : Prop := okM M n k ∧ okB M k ∧ okW M n ∧ relF S M n k ∧ rowEq n k (S 26) (M 8)
theorem c_atv {d : Nat} {σ : List va_E} {r n j : Nat} {f : Nat → Int32} {i v : Int32} (h : σ[r]? = some (.inl (0, n, .inl f))) (hn : n < 2 ^ 31) (hi : i = nI j) (hj : j < n) (hv : f j = v) : zRuns gB_at (d + 1) [.ref r, .int i] σ (fun v' σ' => v' = some (.int v) ∧ σ' = σ) := by
  subst hv
  exact c_at h hn hi hj
theorem b_abs : ∀ a, a < 6 → ∀ b, b < 6 → (if 0 ≤ nI a - nI b then nI a - nI b else -(nI a - nI b)) = offF (nI a) (nI b) := by decide +kernel
theorem b_off : ∀ a, a < 6 → ∀ b, b < 6 → (1 < offF (nI a) (nI b) ↔ ¬ offF (nI a) (nI b) < 2) := by decide +kernel
theorem b_pop : ∀ s, s < 128 → zPop32 (nI s) = onesU (nI s) 7 := by decide +kernel
section C1
variable {d : Nat} {S M : zS} {n k : Nat}
theorem okM_L (I : okM M n k) {x : Nat} (hx : x < k) : ∃ t, t < 6 ∧ M 4 (6 * x) = nI t := (I.2.2.2.2.2.2 x hx).1
theorem c_St_placeOf (R : rel1 S M n k) {m h : Nat} {i : Int32} (hm : m < n) (hh : h < 6) (hi : i = nI h) : zRuns gSt_placeOf (d + 2) [.ref 25, .int (nI m), .int i] (encC S) (fun v σ' => v = some (.int (M 8 (13 + 6 * m + h))) ∧ σ' = encC S) := by
  have h7 := R.1.1
  refine m_St_placeOf [] rfl (Nat.le_of_ble_eq_true rfl) ?_
  refine z_call (c_atv (n := 55) (f := S 26) (v := M 8 (13 + 6 * m + h)) rfl (by decide) (z_ad (z_mu rfl q6) hi) (by omega) (by rw [Nat.mul_comm m 6]; exact R.2.2.2.2.1 m hm h hh)) ?_
  exact ⟨rfl, rfl⟩
theorem c_St_wornOf (R : rel1 S M n k) {m : Nat} (hm : m < n) : zRuns gSt_wornOf (d + 2) [.ref 25, .int (nI m)] (encC S) (fun v σ' => v = some (.int (M 8 m)) ∧ σ' = encC S) := by
  have h7 := R.1.1
  refine m_St_wornOf [] rfl (Nat.le_of_ble_eq_true rfl) ?_
  refine z_call (c_atv (n := 55) (f := S 26) rfl (by decide) (z_ad q42 rfl) (by omega) (R.2.2.2.2.2.1 m hm)) ?_
  exact ⟨rfl, rfl⟩
theorem c_St_blamedFor (R : rel1 S M n k) {x : Nat} (hx : x < k) : zRuns gSt_blamedFor (d + 2) [.ref 25, .int (nI x)] (encC S) (fun v σ' => v = some (.int (M 8 (7 + x))) ∧ σ' = encC S) := by
  have h7 := R.1.2.1
  refine m_St_blamedFor [] rfl (Nat.le_of_ble_eq_true rfl) ?_
  refine z_call (c_atv (n := 55) (f := S 26) rfl (by decide) (z_ad q49 rfl) (by omega) (R.2.2.2.2.2.2.1 x hx)) ?_
  exact ⟨rfl, rfl⟩
theorem c_St_spent (R : rel1 S M n k) : zRuns gSt_spent (d + 2) [.ref 25] (encC S) (fun v σ' => v = some (.int (M 8 11)) ∧ σ' = encC S) := by
  refine m_St_spent [] rfl (Nat.le_of_ble_eq_true rfl) ?_
  refine z_call (c_atv (n := 55) (f := S 26) rfl (by decide) (j := 53) q53 (by omega) R.2.2.2.2.2.2.2.1) ?_
  exact ⟨rfl, rfl⟩
theorem c_St_days (R : rel1 S M n k) : zRuns gSt_days (d + 2) [.ref 25] (encC S) (fun v σ' => v = some (.int (M 8 12)) ∧ σ' = encC S) := by
  refine m_St_days [] rfl (Nat.le_of_ble_eq_true rfl) ?_
  refine z_call (c_atv (n := 55) (f := S 26) rfl (by decide) (j := 54) q54 (by omega) R.2.2.2.2.2.2.2.2) ?_
  exact ⟨rfl, rfl⟩
theorem R_men (R : rel1 S M n k) : S 14 3 = nI n := R.2.2.2.1.1
theorem R_mis (R : rel1 S M n k) : S 14 4 = nI k := R.2.2.2.1.2.1
theorem R_man (R : rel1 S M n k) {m : Nat} (hm : m < n) : S 15 m = M 2 (3 * m) ∧ S 16 m = M 2 (3 * m + 1) ∧ S 17 m = M 2 (3 * m + 2) ∧ ∀ h, h < 6 → S 18 (6 * m + h) = M 3 (6 * m + h) := R.2.2.2.1.2.2.2.2.2.1 m hm
theorem R_x (R : rel1 S M n k) {x : Nat} (hx : x < k) : S 19 x = M 4 (6 * x) ∧ S 20 x = M 4 (6 * x + 1) ∧ S 21 x = M 4 (6 * x + 2) ∧ S 22 x = M 4 (6 * x + 3) ∧ S 23 x = M 4 (6 * x + 4) ∧ S 24 x = M 4 (6 * x + 5) := R.2.2.2.1.2.2.2.2.2.2 x hx
theorem c_Fa_areFar (R : rel1 S M n k) {x y : Nat} (hx : x < k) (hy : y < k) : zRuns gFa_areFar (d + 2) [.ref 14, .int (nI x), .int (nI y)] (encC S) (fun v σ' => v = some (.int (bI (farB M x y))) ∧ σ' = encC S) := by
  have h4 := R.1.2.1
  obtain ⟨a, ha, ea⟩ := okM_L R.1 hx
  obtain ⟨b, hb, eb⟩ := okM_L R.1 hy
  obtain ⟨s, hs, es⟩ := okM_T R.1 hx
  obtain ⟨t, ht, et⟩ := okM_T R.1 hy
  refine m_Fa_areFar [] rfl (Nat.le_of_ble_eq_true rfl) ?_
  refine z_call (c_atv (n := 4) (f := S 19) rfl (by decide) rfl (by omega) ((R_x R hx).1.trans ea)) ?_
  refine z_call (c_atv (n := 4) (f := S 19) rfl (by decide) rfl (by omega) ((R_x R hy).1.trans eb)) ?_
  refine z_call c_abs ?_
  refine z_call (c_atv (n := 4) (f := S 20) rfl (by decide) rfl (by omega) ((R_x R hx).2.1.trans es)) ?_
  refine z_call (c_atv (n := 4) (f := S 20) rfl (by decide) rfl (by omega) ((R_x R hy).2.1.trans et)) ?_
  refine z_call c_abs ?_
  rw [b_abs a ha b hb, b_abs s hs t ht, ← ea, ← eb, ← es, ← et]
  refine ⟨fun h3 => ?_, fun h3 => ?_⟩
  · exact ⟨rfl, by unfold farB; rw [bI_ndec (fun q => q h3)], rfl⟩
  · exact ⟨rfl, by unfold farB; rw [bI_dec h3], rfl⟩
def isP (p : Int32) : Prop := p = -1 ∨ ∃ q, q < 6 ∧ p = nI q
theorem c_Ct_isNear (R : rel1 S M n k) {x : Nat} {p : Int32} (hx : x < k) (hp : isP p) : zRuns gCt_isNear (d + 2) [.ref 27, .int p, .int (nI x)] (encC S) (fun v σ' => v = some (.int (bI (decide (p ≠ -1) && decide (offF p (M 4 (6 * x)) < 2)))) ∧ σ' = encC S) := by
  have h4 := R.1.2.1
  obtain ⟨a, ha, ea⟩ := okM_L R.1 hx
  refine m_Ct_isNear [] rfl (Nat.le_of_ble_eq_true rfl) ?_
  refine ⟨fun h => ?_, fun h => ?_⟩
  · exact ⟨rfl, by simp [h, bI], rfl⟩
  obtain ⟨q, hq, rfl⟩ := hp.resolve_left h
  refine z_call (c_atv (n := 4) (f := S 19) rfl (by decide) rfl (by omega) ((R_x R hx).1.trans ea)) ?_
  refine z_call c_abs ?_
  rw [b_abs q hq a ha]
  refine ⟨fun h2 => ?_, fun h2 => ?_⟩
  · exact ⟨rfl, by rw [ea]; simp [(b_off q hq a ha).mp h2, bI], rfl⟩
  · have h3 : offF (nI q) (nI a) < 2 := by
      by_cases z : offF (nI q) (nI a) < 2
      · exact z
      · exact absurd ((b_off q hq a ha).mpr z) h2
    exact ⟨rfl, by rw [ea]; simp [h, h3, bI], rfl⟩
theorem c_Ct_hasPowers (R : rel1 S M n k) {m x : Nat} (hm : m < n) (hx : x < k) : zRuns gCt_hasPowers (d + 2) [.ref 27, .int (nI m), .int (nI x)] (encC S) (fun v σ' => v = some (.int (bI (canB M m x))) ∧ σ' = encC S) := by
  have h7 := R.1.1; have h4 := R.1.2.1
  refine m_Ct_hasPowers [] rfl (Nat.le_of_ble_eq_true rfl) ?_
  refine z_call (c_atv (n := 4) (f := S 21) rfl (by decide) rfl (by omega) (R_x R hx).2.2.1) ?_
  refine z_call (c_atv (n := 7) (f := S 15) rfl (by decide) rfl (by omega) (R_man R hm).1) ?_
  refine ⟨fun h => ?_, fun h => ?_⟩
  · exact ⟨rfl, by unfold canB; rw [bI_dec h], rfl⟩
  · exact ⟨rfl, by unfold canB; rw [bI_ndec h], rfl⟩
def frF (M : zS) (m x : Nat) (p : Int32) : Int32 := 1 + (if hasB (M 2 (3 * m + 1)) (M 4 (6 * x + 3)) then 2 else 0) + (if p = M 4 (6 * x) then 2 else 0)
theorem c_Ct_freshBelief (R : rel1 S M n k) {m x : Nat} {p : Int32} (hm : m < n) (hx : x < k) : zRuns gCt_freshBelief (d + 2) [.ref 27, .int (nI m), .int (nI x), .int p] (encC S) (fun v σ' => v = some (.int (frF M m x p)) ∧ σ' = encC S) := by
  have h7 := R.1.1; have h4 := R.1.2.1
  obtain ⟨v, hv, ev⟩ := (R.1.2.2.2.2.2.2 x hx).2.2.2.1
  refine m_Ct_freshBelief [] rfl (Nat.le_of_ble_eq_true rfl) ?_
  refine z_call (c_atv (n := 7) (f := S 16) rfl (by decide) rfl (by omega) (R_man R hm).2.1) ?_
  refine z_call (c_atv (n := 4) (f := S 22) rfl (by decide) rfl (by omega) (R_x R hx).2.2.2.1) ?_
  refine z_call (c_isIn (j := v) ev (by omega)) ?_
  refine z_b (fun h => ?_) (fun h => ?_)
  · have hB : hasB (M 2 (3 * m + 1)) (M 4 (6 * x + 3)) = false := h
    refine z_call (c_atv (n := 4) (f := S 19) rfl (by decide) rfl (by omega) (R_x R hx).1) ?_
    refine ⟨fun h2 => ?_, fun h2 => ?_⟩
    · exact ⟨by simp [frF, hB, h2], rfl⟩
    · exact ⟨by simp [frF, hB, h2], rfl⟩
  · have hB : hasB (M 2 (3 * m + 1)) (M 4 (6 * x + 3)) = true := h
    refine z_call (c_atv (n := 4) (f := S 19) rfl (by decide) rfl (by omega) (R_x R hx).1) ?_
    refine ⟨fun h2 => ?_, fun h2 => ?_⟩
    · exact ⟨by simp [frF, hB, h2], rfl⟩
    · exact ⟨by simp [frF, hB, h2], rfl⟩
def wlF (M : zS) (m x : Nat) (p : Int32) : Int32 := if (decide (p ≠ -1) && decide (offF p (M 4 (6 * x)) < 2)) = false then -1 else if canB M m x = false then -1 else frF M m x p - M 0 4
theorem c_Ct_wornLimit (R : rel1 S M n k) {m x : Nat} {p : Int32} (hm : m < n) (hx : x < k) (hp : isP p) : zRuns gCt_wornLimit (d + 3) [.ref 27, .int (nI m), .int (nI x), .int p] (encC S) (fun v σ' => v = some (.int (wlF M m x p)) ∧ σ' = encC S) := by
  refine m_Ct_wornLimit [] rfl (Nat.le_of_ble_eq_true rfl) ?_
  refine z_call (c_Ct_isNear R hx hp) ?_
  refine z_b (fun h => ?_) (fun h => ?_)
  · exact ⟨by unfold wlF; rw [if_pos h], rfl⟩
  refine z_call (c_Ct_hasPowers R hm hx) ?_
  refine z_b (fun h2 => ?_) (fun h2 => ?_)
  · exact ⟨by unfold wlF; rw [if_neg (by rw [h]; decide), if_pos h2], rfl⟩
  refine z_call (c_Ct_freshBelief R hm hx) ?_
  refine ⟨?_, rfl⟩
  unfold wlF
  rw [if_neg (by rw [h]; decide), if_neg (by rw [h2]; decide), ← R.2.2.2.1.2.2.2.1]
theorem c_Ct_freeOf (R : rel1 S M n k) {x : Nat} (hx : x < k) : zRuns gCt_freeOf (d + 3) [.ref 27, .int (nI x)] (encC S) (fun v σ' => v = some (.int (freeF M x)) ∧ σ' = encC S) := by
  have h4 := R.1.2.1
  obtain ⟨f, hf⟩ := R.2.1 x hx
  have ef := freeAt_f hf
  obtain ⟨s, c, z, hs, a1, a2, a3, a4, a5⟩ := hf
  refine m_Ct_freeOf [] rfl (Nat.le_of_ble_eq_true rfl) ?_
  refine z_call (c_atv (n := 4) (f := S 23) rfl (by decide) rfl (by omega) (R_x R hx).2.2.2.2.1) ?_
  refine z_call (c_St_blamedFor R hx) ?_
  refine z_call c_bitCount ?_
  refine z_call c_max ?_
  have e9 : M 4 (6 * x + 4) - zPop32 (M 8 (7 + x)) = freeF M x := by rw [a1, b_pop s hs, ← a1]; rfl
  rw [e9, ef]
  refine ⟨?_, rfl⟩
  by_cases hz : (0 : Int32) < nI f
  · rw [if_pos hz]
  · rw [if_neg hz]
    have : f = 0 := Nat.eq_zero_of_not_pos fun z => hz (nI_lt (a := 0) z (by omega))
    rw [this]
    rfl
theorem c_Ct_freeInAll (R : rel1 S M n k) : zRuns gCt_freeInAll (d + 4) [.ref 27] (encC S) (fun v σ' => v = some (.int (allFreeU M k)) ∧ σ' = encC S) := by
  have h4 := R.1.2.1
  refine m_Ct_freeInAll [4] rfl (Nat.le_of_ble_eq_true rfl) ?_
  refine ⟨trivial, ?_⟩
  refine z_up (P := fun j => ∀ i a, i = nI j → a = allFreeU M j → zGood gCt_freeInAll (d + 4) (fun v σ' => v = some (.int (allFreeU M k)) ∧ σ' = encC S) 4 [some (.ref 27), some (.int a), some (.int i)] [] (encC S) 0 0) k (fun j hj ih i a hi ha => ?_) 0 (Nat.zero_le _) 0 0 nI_0.symm rfl
  subst hi; subst ha
  refine w_Ct_freeInAll [4] ?_
  refine ⟨fun q => ?_, fun q => ?_⟩
  · have e := z_end (R_mis R) hj (by omega) q
    subst e
    exact ⟨rfl, rfl⟩
  · have hlt := z_go (R_mis R) hj (by omega) q
    refine z_call (c_Ct_freeOf R hlt) ?_
    exact ⟨trivial, ih hlt _ _ (nI_1 j) rfl⟩
theorem c_Ct_blamesOf (R : rel1 S M n k) {m : Nat} (hm : m < 31) : zRuns gCt_blamesOf (d + 3) [.ref 27, .int (nI m)] (encC S) (fun v σ' => v = some (.int (blamesF M k m)) ∧ σ' = encC S) := by
  have h4 := R.1.2.1
  refine m_Ct_blamesOf [4] rfl (Nat.le_of_ble_eq_true rfl) ?_
  refine ⟨trivial, ?_⟩
  refine z_up (P := fun j => ∀ i a, i = nI j → a = blamesF M j m → zGood gCt_blamesOf (d + 3) (fun v σ' => v = some (.int (blamesF M k m)) ∧ σ' = encC S) 4 [some (.ref 27), some (.int (nI m)), some (.int a), some (.int i)] [] (encC S) 0 0) k (fun j hj ih i a hi ha => ?_) 0 (Nat.zero_le _) 0 0 nI_0.symm rfl
  subst hi; subst ha
  refine w_Ct_blamesOf [4] ?_
  refine ⟨fun q => ?_, fun q => ?_⟩
  · have e := z_end (R_mis R) hj (by omega) q
    subst e
    exact ⟨rfl, rfl⟩
  · have hlt := z_go (R_mis R) hj (by omega) q
    refine z_call (c_St_blamedFor R hlt) ?_
    refine z_call (c_isIn rfl hm) ?_
    refine z_b (fun h => ?_) (fun h => ?_)
    · refine ⟨trivial, ih hlt _ _ (nI_1 j) ?_⟩
      exact bits_c (p := fun x => hasB (M 8 (7 + x)) (nI m)) h
    · refine ⟨trivial, ih hlt _ _ (nI_1 j) ?_⟩
      exact bits_t (p := fun x => hasB (M 8 (7 + x)) (nI m)) h
theorem where_P (R : rel1 S M n k) {m x : Nat} (hm : m < n) (hx : x < k) : isP (wh M m x) := by
  obtain ⟨t, ht, et⟩ := okM_T R.1 hx
  unfold wh
  rw [et, nI_clamp (by omega)]
  exact R.2.2.1.2 m hm t ht
theorem c_Ct_where (R : rel1 S M n k) {m x : Nat} (hm : m < n) (hx : x < k) : zRuns gSt_placeOf (d + 2) [.ref 25, .int (nI m), .int (M 4 (6 * x + 1))] (encC S) (fun v σ' => v = some (.int (wh M m x)) ∧ σ' = encC S) := by
  obtain ⟨t, ht, et⟩ := okM_T R.1 hx
  have := c_St_placeOf (d := d) R hm ht et
  unfold wh
  rw [et, nI_clamp (by omega), ← et]
  exact this
theorem b_fit : ∀ a, a < 2 → ∀ b, b < 2 → ∀ w, w < 10 → ∀ j, j < 7 → decide (nI w ≤ 1 + nI (2 * a) + nI (2 * b) - nI j) = decide (nI j ≤ 1 + nI (2 * a) + nI (2 * b) - nI w) := by decide +kernel
theorem b_fitN : ∀ w, w < 10 → ¬ nI w ≤ -1 := by decide +kernel
theorem wl_fits (R : rel1 S M n k) {m x : Nat} {p : Int32} (hm : m < n) (hx : x < k) {w : Nat} (hw : w ≤ 9) : decide (nI w ≤ wlF M m x p) = ((decide (p ≠ -1) && decide (offF p (M 4 (6 * x)) < 2)) && (canB M m x && decide (M 0 4 ≤ belF M m x p (nI w)))) := by
  obtain ⟨j, hj, ej⟩ := R.1.2.2.2.2.1
  unfold wlF
  by_cases h : (decide (p ≠ -1) && decide (offF p (M 4 (6 * x)) < 2)) = false
  · rw [if_pos h, h, decide_eq_false (b_fitN w (by omega))]
    rfl
  rw [if_neg h]
  by_cases h2 : canB M m x = false
  · rw [if_pos h2, h2, decide_eq_false (b_fitN w (by omega))]
    simp
  rw [if_neg h2]
  have h' := eq_true_of_ne_false h
  have h2' := eq_true_of_ne_false h2
  rw [h', h2', ej]
  unfold frF belF
  have key : ∀ (A B : Bool), decide (nI w ≤ 1 + (if A = true then 2 else 0) + (if B = true then 2 else 0) - nI j) = decide (nI j ≤ 1 + (if A = true then 2 else 0) + (if B = true then 2 else 0) - nI w) := by
    intro A B
    cases A <;> cases B
    · exact b_fit 0 (by decide) 0 (by decide) w (by omega) j (by omega)
    · exact b_fit 0 (by decide) 1 (by decide) w (by omega) j (by omega)
    · exact b_fit 1 (by decide) 0 (by decide) w (by omega) j (by omega)
    · exact b_fit 1 (by decide) 1 (by decide) w (by omega) j (by omega)
  have := key (hasB (M 2 (3 * m + 1)) (M 4 (6 * x + 3))) (decide (p = M 4 (6 * x)))
  simpa using this
theorem c_Ct_mayTake (R : rel1 S M n k) {m x : Nat} (hm : m < n) (hx : x < k) : zRuns gCt_mayTake (d + 4) [.ref 27, .int (nI m), .int (nI x)] (encC S) (fun v σ' => v = some (.int (bI (mayB M k m x))) ∧ σ' = encC S) := by
  have h7 := R.1.1; have h4 := R.1.2.1
  obtain ⟨f, hf⟩ := R.2.1 x hx
  have ef := freeAt_f hf
  obtain ⟨w, hw, ew⟩ := R.2.2.1.1 m hm
  refine m_Ct_mayTake [27] rfl (Nat.le_of_ble_eq_true rfl) ?_
  refine z_call (c_Ct_freeOf R hx) ?_
  refine ⟨fun h => ?_, fun h => ?_⟩
  · exact ⟨rfl, by unfold mayB; rw [h]; simp [bI], rfl⟩
  have hpos : (0 : Int32) < freeF M x := by
    rw [ef] at h ⊢
    exact nI_lt (a := 0) (Nat.pos_of_ne_zero fun z => h (by rw [z]; rfl)) (by have := hf; obtain ⟨_, _, _, _, _, _, _, h8, h9⟩ := hf; omega)
  refine z_call (c_St_blamedFor R hx) ?_
  refine z_call (c_isIn rfl (by omega)) ?_
  refine z_b (fun h2 => ?_) (fun h2 => ?_)
  · have hB : hasB (M 8 (7 + x)) (nI m) = false := h2
    refine ⟨trivial, ?_⟩
    refine z_up (P := fun j => ∀ i, i = nI j → allU (fun y => !(hasB (M 8 (7 + y)) (nI m) && farB M x y)) j = true → zGood gCt_mayTake (d + 4) (fun v σ' => v = some (.int (bI (mayB M k m x))) ∧ σ' = encC S) 27 [some (.ref 27), some (.int (nI m)), some (.int (nI x)), some (.int i)] [] (encC S) 0 0) k (fun j hj ih i hi ha => ?_) 0 (Nat.zero_le _) 0 nI_0.symm rfl
    subst hi
    refine w_Ct_mayTake [27] ?_
    refine ⟨fun q => ?_, fun q => ?_⟩
    · have e := z_end (R_mis R) hj (by omega) q
      subst e
      refine z_call (c_atv (n := 4) (f := S 20) rfl (by decide) rfl (by omega) (R_x R hx).2.1) ?_
      refine z_call (c_Ct_where R hm hx) ?_
      refine z_call (c_St_wornOf R hm) ?_
      refine z_call (c_Ct_wornLimit R hm hx (where_P R hm hx)) ?_
      have e1 : mayB M j m x = decide (M 8 m ≤ wlF M m x (wh M m x)) := by
        unfold mayB fitsB nearB
        rw [ha, hB, decide_eq_true hpos, ew, wl_fits R hm hx hw]
        simp
      rw [e1]
      refine ⟨fun h5 => ?_, fun h5 => ?_⟩
      · exact ⟨rfl, by rw [bI_ndec (fun z => Int32.lt_irrefl (Int32.lt_of_lt_of_le h5 z))], rfl⟩
      · exact ⟨rfl, by rw [bI_dec (Int32.not_lt.mp h5)], rfl⟩
    · have hlt := z_go (R_mis R) hj (by omega) q
      have hfal : ∀ j', j' ≤ k → allU (fun y => !(hasB (M 8 (7 + y)) (nI m) && farB M x y)) (j + 1) = false → j + 1 ≤ j' → allU (fun y => !(hasB (M 8 (7 + y)) (nI m) && farB M x y)) j' = false := by
        intro j' _ hz
        induction j' with
        | zero => intro hle; omega
        | succ t iht =>
          intro hle
          by_cases e : t = j
          · subst e; exact hz
          · simp only [allU] at iht ⊢
            rw [iht (by omega) (by omega)]
            rfl
      refine z_call (c_St_blamedFor R hlt) ?_
      refine z_call (c_isIn rfl (by omega)) ?_
      refine z_b (fun h5 => ?_) (fun h5 => ?_)
      · refine ⟨trivial, ih hlt _ (nI_1 j) ?_⟩
        have h5' : hasB (M 8 (7 + j)) (nI m) = false := h5
        simp only [allU]
        rw [ha, h5']
        rfl
      · have h5' : hasB (M 8 (7 + j)) (nI m) = true := h5
        refine z_call (c_Fa_areFar R hx hlt) ?_
        refine z_b (fun h6 => ?_) (fun h6 => ?_)
        · refine ⟨trivial, ih hlt _ (nI_1 j) ?_⟩
          simp only [allU]
          rw [ha, h5', h6]
          rfl
        · have hz : allU (fun y => !(hasB (M 8 (7 + y)) (nI m) && farB M x y)) k = false := hfal k (Nat.le_refl k) (by simp only [allU]; rw [ha, h5', h6]; rfl) (by omega)
          exact ⟨rfl, by unfold mayB; rw [hz]; simp [bI], rfl⟩
  · have hB : hasB (M 8 (7 + x)) (nI m) = true := h2
    exact ⟨rfl, by unfold mayB; rw [hB]; simp [bI], rfl⟩
theorem c_Ct_takers (R : rel1 S M n k) {x : Nat} (hx : x < k) : zRuns gCt_takers (d + 5) [.ref 27, .int (nI x)] (encC S) (fun v σ' => v = some (.int (mayForF M n k x)) ∧ σ' = encC S) := by
  have h7 := R.1.1
  refine m_Ct_takers [4] rfl (Nat.le_of_ble_eq_true rfl) ?_
  refine ⟨trivial, ?_⟩
  refine z_up (P := fun j => ∀ i a, i = nI j → a = bits (fun m => mayB M k m x) j → zGood gCt_takers (d + 5) (fun v σ' => v = some (.int (mayForF M n k x)) ∧ σ' = encC S) 4 [some (.ref 27), some (.int (nI x)), some (.int a), some (.int i)] [] (encC S) 0 0) n (fun j hj ih i a hi ha => ?_) 0 (Nat.zero_le _) 0 0 nI_0.symm rfl
  subst hi; subst ha
  refine w_Ct_takers [4] ?_
  refine ⟨fun q => ?_, fun q => ?_⟩
  · have e := z_end (R_men R) hj (by omega) q
    subst e
    exact ⟨rfl, rfl⟩
  · have hlt := z_go (R_men R) hj (by omega) q
    refine z_call (c_Ct_mayTake R hlt hx) ?_
    refine z_b (fun h => ?_) (fun h => ?_)
    · refine ⟨trivial, ih hlt _ _ (nI_1 j) ?_⟩
      exact bits_c (p := fun m => mayB M k m x) h
    · refine ⟨trivial, ih hlt _ _ (nI_1 j) ?_⟩
      exact bits_t (p := fun m => mayB M k m x) h
end C1
