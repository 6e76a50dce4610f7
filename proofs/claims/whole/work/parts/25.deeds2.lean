/-! the class's deeds: blame, clear, walk -/
theorem b_clr : ∀ s, s < 128 → ∀ m, m < 7 → hasB (nI s) (nI m) = true → (nI s &&& (((1 : Int32) <<< (nI m &&& 31)) ^^^ (-1 : Int32)) = nI (nI s &&& (((1 : Int32) <<< (nI m &&& 31)) ^^^ (-1 : Int32))).toNatClampNeg ∧ (nI s &&& (((1 : Int32) <<< (nI m &&& 31)) ^^^ (-1 : Int32))).toNatClampNeg < 128 ∧ onesU (nI (nI s &&& (((1 : Int32) <<< (nI m &&& 31)) ^^^ (-1 : Int32))).toNatClampNeg) 7 = nI ((onesU (nI s) 7).toNatClampNeg - 1) ∧ 0 < (onesU (nI s) 7).toNatClampNeg) := by decide +kernel
theorem b_wu : ∀ w, w < 10 → clW (nI w + 1) = nI w + (if nI w < 9 then 1 else 0) ∧ clW (nI w + 1) = nI (clW (nI w + 1)).toNatClampNeg ∧ (clW (nI w + 1)).toNatClampNeg < 10 := by decide +kernel
theorem b_wd : ∀ w, w < 10 → clW (nI w + -1) = nI w - (if 0 < nI w then 1 else 0) ∧ clW (nI w + -1) = nI (clW (nI w + -1)).toNatClampNeg ∧ (clW (nI w + -1)).toNatClampNeg < 10 := by decide +kernel
section D2
variable {d : Nat} {S M : zS} {n k : Nat}
theorem relC_S (C : relC S M n k) (e : ∀ c, c ≠ 26 → zUr S 26 (S 26) c = S c) : relC (zUr S 26 (S 26)) M n k := by
  have : zUr S 26 (S 26) = S := by
    funext c
    by_cases z : c = 26
    · subst z; exact zUr_s
    · exact e c z
  rw [this]
  exact C
theorem s_setPlace {c : Nat → Int32} {m h : Nat} {p : Int32} (hm : m < 7) (hh : h < 6) : zRuns gSt_setPlace (d + 2) [.ref 25, .int (nI m), .int (nI h), .int p] (encC (zUr S 26 c)) (fun v σ' => v = none ∧ σ' = encC (zUr S 26 (upd c (6 * m + h) p))) := by
  refine m_St_setPlace [] rfl (Nat.le_of_ble_eq_true rfl) ?_
  refine z_call (c_put (n := 55) (f := c) (j := 6 * m + h) rfl (by decide) (by rw [Nat.mul_comm 6 m]; exact z_ad (z_mu rfl q6) rfl) (by omega)) ?_
  exact ⟨rfl, rfl⟩
theorem s_setBlamed {c : Nat → Int32} {x : Nat} {p : Int32} (hx : x < 4) : zRuns gSt_setBlamed (d + 2) [.ref 25, .int (nI x), .int p] (encC (zUr S 26 c)) (fun v σ' => v = none ∧ σ' = encC (zUr S 26 (upd c (49 + x) p))) := by
  refine m_St_setBlamed [] rfl (Nat.le_of_ble_eq_true rfl) ?_
  refine z_call (c_put (n := 55) (f := c) (j := 49 + x) rfl (by decide) (z_ad q49 rfl) (by omega)) ?_
  exact ⟨rfl, rfl⟩
theorem s_wornOf {c : Nat → Int32} {m : Nat} (hm : m < 7) : zRuns gSt_wornOf (d + 2) [.ref 25, .int (nI m)] (encC (zUr S 26 c)) (fun v σ' => v = some (.int (c (42 + m))) ∧ σ' = encC (zUr S 26 c)) := by
  refine m_St_wornOf [] rfl (Nat.le_of_ble_eq_true rfl) ?_
  refine z_call (c_at (n := 55) (f := c) (j := 42 + m) rfl (by decide) (z_ad q42 rfl) (by omega)) ?_
  exact ⟨rfl, rfl⟩
theorem s_spent {c : Nat → Int32} : zRuns gSt_spent (d + 2) [.ref 25] (encC (zUr S 26 c)) (fun v σ' => v = some (.int (c 53)) ∧ σ' = encC (zUr S 26 c)) := by
  refine m_St_spent [] rfl (Nat.le_of_ble_eq_true rfl) ?_
  refine z_call (c_at (n := 55) (f := c) (j := 53) rfl (by decide) q53 (by omega)) ?_
  exact ⟨rfl, rfl⟩
theorem s_days {c : Nat → Int32} : zRuns gSt_days (d + 2) [.ref 25] (encC (zUr S 26 c)) (fun v σ' => v = some (.int (c 54)) ∧ σ' = encC (zUr S 26 c)) := by
  refine m_St_days [] rfl (Nat.le_of_ble_eq_true rfl) ?_
  refine z_call (c_at (n := 55) (f := c) (j := 54) rfl (by decide) q54 (by omega)) ?_
  exact ⟨rfl, rfl⟩
theorem s_wear {c : Nat → Int32} {m : Nat} {v : Int32} (hm : m < 7) : zRuns gSt_wear (d + 3) [.ref 25, .int (nI m), .int v] (encC (zUr S 26 c)) (fun r σ' => r = none ∧ σ' = encC (zUr S 26 (upd c (42 + m) (clW (c (42 + m) + v))))) := by
  refine m_St_wear [] rfl (Nat.le_of_ble_eq_true rfl) ?_
  refine z_call (s_wornOf hm) ?_
  refine z_call c_min ?_
  refine z_call c_max ?_
  refine z_call (c_put (n := 55) (f := c) (j := 42 + m) rfl (by decide) (z_ad q42 rfl) (by omega)) ?_
  exact ⟨rfl, rfl⟩
theorem s_spend {c : Nat → Int32} {v : Int32} : zRuns gSt_spend (d + 3) [.ref 25, .int v] (encC (zUr S 26 c)) (fun r σ' => r = none ∧ σ' = encC (zUr S 26 (upd c 53 (c 53 + v)))) := by
  refine m_St_spend [] rfl (Nat.le_of_ble_eq_true rfl) ?_
  refine z_call s_spent ?_
  refine z_call (c_put (n := 55) (f := c) (j := 53) rfl (by decide) q53 (by omega)) ?_
  exact ⟨rfl, rfl⟩
theorem s_countDay {c : Nat → Int32} : zRuns gSt_countDay (d + 3) [.ref 25] (encC (zUr S 26 c)) (fun r σ' => r = none ∧ σ' = encC (zUr S 26 (upd c 54 (c 54 + 1)))) := by
  refine m_St_countDay [] rfl (Nat.le_of_ble_eq_true rfl) ?_
  refine z_call s_days ?_
  refine z_call (c_put (n := 55) (f := c) (j := 54) rfl (by decide) q54 (by omega)) ?_
  exact ⟨rfl, rfl⟩
theorem s_takeRows {c : Nat → Int32} : zRuns gSt_takeRows (d + 2) [.ref 25, .ref 14] (encC (zUr S 26 c)) (fun r σ' => r = none ∧ σ' = encC (zUr S 26 (fun j => if j < 42 then S 18 j else c j))) := by
  refine m_St_takeRows [] rfl (Nat.le_of_ble_eq_true rfl) ?_
  refine z_call (c_copyRow (r1 := 18) (r2 := 26) (n1 := 42) (n2 := 55) (f1 := S 18) (f2 := c) rfl rfl (by decide) (by decide) (by decide)) ?_
  exact ⟨rfl, rfl⟩
def putC (c : Nat → Int32) (r : Int32) (m x : Nat) : Nat → Int32 := upd (upd (upd c (49 + x) (c (49 + x) ||| (1 <<< (nI m &&& 31)))) (42 + m) (clW (c (42 + m) + 1))) 53 (c 53 + r)
theorem c_putBlame (R : rel1 S M n k) {m x : Nat} (hm : m < n) (hx : x < k) : zRuns gB_putBlame (d + 4) [.ref 0, .int (nI m), .int (nI x)] (encC S) (fun v σ' => v = none ∧ σ' = encC (zUr S 26 (putC (S 26) (M 2 (3 * m + 2)) m x))) := by
  have h7 := R.1.1; have h4 := R.1.2.1
  refine m_B_putBlame [] rfl (Nat.le_of_ble_eq_true rfl) ?_
  refine z_call (c_St_blamedFor R hx) ?_
  refine z_call (s_setBlamed (S := S) (c := S 26) (by omega)) ?_
  refine z_call (s_wear (by omega)) ?_
  refine z_call (c_atv (n := 7) (f := S 17) rfl (by decide) rfl (by omega) (R_man R hm).2.2.1) ?_
  refine z_call s_spend ?_
  refine ⟨rfl, ?_⟩
  unfold putC
  rw [upd_n (show 42 + m ≠ 49 + x by omega), upd_n (show 53 ≠ 42 + m by omega), upd_n (show 53 ≠ 49 + x by omega), R.2.2.2.2.2.2.1 x hx]
theorem okRow_blame {F N : Nat → Int32} {m x f s c z : Nat} (hn : n ≤ 7) (hk : k ≤ 4) (hx : x < k) (hm : m < 7) (hs : s < 128) (a1 : N (7 + x) = nI s) (a2 : onesU (nI s) 7 = nI c) (a3 : F (6 * x + 4) = nI z) (a4 : z = c + f) (a5 : z ≤ 2) (hf : f ≠ 0) (hb : hasB (N (7 + x)) (nI m) = false) (o : okRow F n k N) : okRow F n k (upd N (7 + x) (N (7 + x) ||| (1 <<< (nI m &&& 31)))) := by
  obtain ⟨o1, o2, o3⟩ := o
  rw [a1] at hb ⊢
  obtain ⟨b1, b2, b3⟩ := b_put s hs m hm hb
  refine ⟨fun y hy => ?_, fun a ha => ?_, fun a ha b hb => ?_⟩
  · by_cases e : y = x
    · subst e
      rw [upd_s]
      exact ⟨f - 1, s + 2 ^ m, c + 1, z, b2, b1, by rw [b3, a2, nI_1], a3, by omega, a5⟩
    · rw [upd_n (by omega)]; exact o1 y hy
  · rw [upd_n (by omega)]; exact o2 a ha
  · rw [upd_n (by omega)]; exact o3 a ha b hb
theorem okRow_clear {F N : Nat → Int32} {m x : Nat} (hn : n ≤ 7) (hk : k ≤ 4) (hx : x < k) (hm : m < 7) (hb : hasB (N (7 + x)) (nI m) = true) (o : okRow F n k N) : okRow F n k (upd N (7 + x) (N (7 + x) &&& ((1 <<< (nI m &&& 31)) ^^^ (-1)))) := by
  obtain ⟨o1, o2, o3⟩ := o
  obtain ⟨f, s, c, z, hs, a1, a2, a3, a4, a5⟩ := o1 x hx
  rw [a1] at hb ⊢
  obtain ⟨b1, b2, b3, b4⟩ := b_clr s hs m hm hb
  rw [a2, nI_clamp (by omega)] at b3 b4
  refine ⟨fun y hy => ?_, fun a ha => ?_, fun a ha b hb => ?_⟩
  · by_cases e : y = x
    · subst e
      rw [upd_s]
      exact ⟨f + 1, _, c - 1, z, b2, b1, b3, a3, by omega, a5⟩
    · rw [upd_n (by omega)]; exact o1 y hy
  · rw [upd_n (by omega)]; exact o2 a ha
  · rw [upd_n (by omega)]; exact o3 a ha b hb
theorem row_put (R : rel1 S M n k) {m x : Nat} (hm : m < n) (hx : x < k) (h : mayB M k m x = true) : rowEq n k (putC (S 26) (M 2 (3 * m + 2)) m x) (blamesNow M m x) ∧ okRow (M 4) n k (blamesNow M m x) := by
  have h7 := R.1.1; have h4 := R.1.2.1
  obtain ⟨w, hw, ew⟩ := R.2.2.1.1 m hm
  obtain ⟨w1, w2, w3⟩ := b_wu w (by omega)
  obtain ⟨f, hf⟩ := R.2.1 x hx
  have e3 : hasB (M 8 (7 + x)) (nI m) = false := by
    unfold mayB at h
    simp only [Bool.and_eq_true, Bool.not_eq_true'] at h
    exact h.1.2.1
  have e4 : 0 < freeF M x := by
    unfold mayB at h
    simp only [Bool.and_eq_true, Bool.not_eq_true'] at h
    exact of_decide_eq_true h.1.1
  have ef := freeAt_f hf
  have hf0 : f ≠ 0 := by
    intro z
    rw [ef, z] at e4
    exact absurd e4 (by decide)
  obtain ⟨s, c, z, hs, a1, a2, a3, a4, a5⟩ := hf
  unfold putC blamesNow
  rw [R.2.2.2.2.2.2.1 x hx, R.2.2.2.2.2.1 m hm, R.2.2.2.2.2.2.2.1]
  refine ⟨rowEq_spent h7 h4 rfl (rowEq_worn h7 h4 hm (by rw [ew]; exact w1) (rowEq_blamed h7 h4 hx rfl R.2.2.2.2)), ?_⟩
  refine okRow_sums h7 h4 (by decide) (okRow_worn h7 (by omega) (w := (clW (nI w + 1)).toNatClampNeg) (by omega) (by rw [ew, ← w1]; exact w2) (okRow_blame h7 h4 hx (by omega) hs a1 a2 a3 a4 a5 hf0 e3 (okRow_of R.2.1 R.2.2.1)))
theorem blamesNow_notes {de m x : Nat} : blamesNow (notesF M de) m x = blamesNow M m x := by
  unfold blamesNow
  rw [notesF_k (by decide) (by decide), notesF_k (by decide) (by decide)]
theorem clearNow_notes {de m x : Nat} : clearNow (notesF M de) m x = clearNow M m x := by
  unfold clearNow
  rw [notesF_k (by decide) (by decide)]
theorem mayB_notes {de m x : Nat} : mayB (notesF M de) k m x = mayB M k m x := by
  unfold mayB fitsB nearB canB wh belF farB freeF
  simp only [notesF_k (M := M) (de := de) (c := 8) (by decide) (by decide), notesF_k (M := M) (de := de) (c := 4) (by decide) (by decide), notesF_k (M := M) (de := de) (c := 2) (by decide) (by decide), notesF_0 (M := M) (de := de) (j := 4) (by decide)]
theorem c_blame (C : relC S M n k) {m x : Int32} : zRuns gB_blame (d + 6) [.ref 0, .int m, .int x] (encC S) (fun v σ' => v = some (.int (pBlame M n k m x)) ∧ ∃ S', σ' = encC S' ∧ relC S' (gBlame M n k m x) n k) := by
  have R := C.1
  have h7 := R.1.1; have h4 := R.1.2.1
  refine m_B_blame [] rfl (Nat.le_of_ble_eq_true rfl) ?_
  refine z_call (c_isMan R) ?_
  refine z_b (fun h => ?_) (fun h => ?_)
  · exact ⟨by simp [pBlame, h], S, rfl, by unfold gBlame; rw [if_pos h]; exact C⟩
  refine z_call (c_isMishap R) ?_
  refine z_b (fun h2 => ?_) (fun h2 => ?_)
  · exact ⟨by simp [pBlame, h, h2], S, rfl, by unfold gBlame; rw [h, h2, if_neg (by decide), if_pos rfl]; exact C⟩
  obtain ⟨i, hi, rfl⟩ := ixB_t (by omega) h
  obtain ⟨y, hy, rfl⟩ := ixB_t (by omega) h2
  have ei : (nI i).toNatClampNeg = i := nI_clamp (by omega)
  have ey : (nI y).toNatClampNeg = y := nI_clamp (by omega)
  have p0 : pBlame M n k (nI i) (nI y) = if mayB M k i y = false then kNOT else M 2 (3 * i + 2) := by unfold pBlame; rw [h, h2, if_neg (by decide), if_neg (by decide), ei, ey]
  have g0 : gBlame M n k (nI i) (nI y) = if mayB M k i y = false then M else zUr (notesF M (M 0 20).toNatClampNeg) 8 (blamesNow M i y) := by unfold gBlame; rw [h, h2, if_neg (by decide), if_neg (by decide), ei, ey]
  rw [p0, g0]
  refine z_call (c_Ct_mayTake R hi hy) ?_
  refine z_b (fun h5 => ?_) (fun h5 => ?_)
  · exact ⟨by rw [if_pos h5], S, rfl, by rw [if_pos h5]; exact C⟩
  rw [h5, if_neg (by decide), if_neg (by decide)]
  refine z_callE (c_remember C) ?_
  rintro v σ' ⟨rfl, S1, rfl, C1⟩
  refine z_call (c_putBlame C1.1 hi hy) ?_
  obtain ⟨r1, r2⟩ := row_put C1.1 hi hy (by rw [mayB_notes]; exact h5)
  have C2 := relC_row C1 r1 r2
  refine z_call (c_atv (n := 7) (f := S1 17) rfl (by decide) rfl (by omega) (R_man C1.1 hi).2.2.1) ?_
  refine ⟨by rw [notesF_k (by decide) (by decide)], _, rfl, ?_⟩
  rw [← blamesNow_notes (M := M) (de := (M 0 20).toNatClampNeg)]
  exact C2
theorem c_clear (C : relC S M n k) {m x : Int32} : zRuns gB_clear (d + 6) [.ref 0, .int m, .int x] (encC S) (fun v σ' => v = some (.int (pClear M n k m x)) ∧ ∃ S', σ' = encC S' ∧ relC S' (gClear M n k m x) n k) := by
  have R := C.1
  have h7 := R.1.1; have h4 := R.1.2.1
  refine m_B_clear [] rfl (Nat.le_of_ble_eq_true rfl) ?_
  refine z_call (c_isMan R) ?_
  refine z_b (fun h => ?_) (fun h => ?_)
  · exact ⟨by simp [pClear, h], S, rfl, by unfold gClear; rw [if_pos h]; exact C⟩
  refine z_call (c_isMishap R) ?_
  refine z_b (fun h2 => ?_) (fun h2 => ?_)
  · exact ⟨by simp [pClear, h, h2], S, rfl, by unfold gClear; rw [h, h2, if_neg (by decide), if_pos rfl]; exact C⟩
  obtain ⟨i, hi, rfl⟩ := ixB_t (by omega) h
  obtain ⟨y, hy, rfl⟩ := ixB_t (by omega) h2
  have ei : (nI i).toNatClampNeg = i := nI_clamp (by omega)
  have ey : (nI y).toNatClampNeg = y := nI_clamp (by omega)
  have p0 : pClear M n k (nI i) (nI y) = if hasB (M 8 (7 + y)) (nI i) = false then kNOT else M 8 i - (if 0 < M 8 i then 1 else 0) := by unfold pClear; rw [h, h2, if_neg (by decide), if_neg (by decide), ei, ey]
  have g0 : gClear M n k (nI i) (nI y) = if hasB (M 8 (7 + y)) (nI i) = false then M else zUr (notesF M (M 0 20).toNatClampNeg) 8 (clearNow M i y) := by unfold gClear; rw [h, h2, if_neg (by decide), if_neg (by decide), ei, ey]
  rw [p0, g0]
  refine z_call (c_St_blamedFor R hy) ?_
  refine z_call (c_isIn rfl (by omega)) ?_
  refine z_b (fun h5 => ?_) (fun h5 => ?_)
  · have h5' : hasB (M 8 (7 + y)) (nI i) = false := h5
    exact ⟨by rw [if_pos h5'], S, rfl, by rw [if_pos h5']; exact C⟩
  have h5' : hasB (M 8 (7 + y)) (nI i) = true := h5
  rw [h5', if_neg (show ¬ (true = false) by decide), if_neg (show ¬ (true = false) by decide)]
  refine z_callE (c_remember C) ?_
  rintro v σ' ⟨rfl, S1, rfl, C1⟩
  have R1 := C1.1
  rw [← clearNow_notes (M := M) (de := (M 0 20).toNatClampNeg)]
  have e8 : notesF M (M 0 20).toNatClampNeg 8 = M 8 := notesF_k (by decide) (by decide)
  rw [← e8] at h5' ⊢
  generalize notesF M (M 0 20).toNatClampNeg = N at *
  obtain ⟨w, hw, ew⟩ := R1.2.2.1.1 i hi
  obtain ⟨w1, w2, w3⟩ := b_wd w (by omega)
  refine z_call (c_St_blamedFor R1 hy) ?_
  refine z_call (s_setBlamed (S := S1) (c := S1 26) (by omega)) ?_
  refine z_call (s_wear (by omega)) ?_
  refine z_call (s_wornOf (by omega)) ?_
  rw [upd_s, upd_n (show 42 + i ≠ 49 + y by omega), R1.2.2.2.2.2.1 i hi, ew]
  refine ⟨by rw [w1], _, rfl, ?_⟩
  refine relC_row C1 (rowEq_worn h7 h4 hi (by rw [ew]; exact w1) (rowEq_blamed h7 h4 hy rfl R1.2.2.2.2)) ?_
  exact okRow_worn h7 (by omega) (w := (clW (nI w + -1)).toNatClampNeg) (by omega) (by rw [ew, ← w1]; exact w2) (okRow_clear h7 h4 hy (by omega) h5' (okRow_of R1.2.1 R1.2.2.1))
theorem c_isHour {σ : List va_E} {h : Int32} : zRuns gB_isHour (d + 1) [.int h] σ (fun v σ' => v = some (.int (bI (decide (0 ≤ h ∧ h ≤ 5)))) ∧ σ' = σ) := by
  refine m_B_isHour [] rfl (Nat.le_of_ble_eq_true rfl) ?_
  refine ⟨fun q => ?_, fun q => ?_⟩
  · exact ⟨rfl, by rw [bI_ndec (fun z => Int32.lt_irrefl (Int32.lt_of_lt_of_le q z.1))], rfl⟩
  obtain ⟨j, hj, rfl⟩ := nI_of q
  refine z_le (a := 6) (b := j) rfl rfl (by decide) (by omega) (fun q2 => ?_) (fun q2 => ?_)
  · exact ⟨rfl, by rw [bI_ndec (fun z => nI_ge (a := 5) (b := j) (by omega) (by omega) z.2)], rfl⟩
  · exact ⟨rfl, by rw [bI_dec ⟨Int32.not_lt.mp q, by rw [q5]; exact nI_le (by omega) (by omega)⟩], rfl⟩
theorem c_isPlace {σ : List va_E} {h : Int32} : zRuns gB_isPlace (d + 1) [.int h] σ (fun v σ' => v = some (.int (bI (decide (0 ≤ h ∧ h ≤ 5)))) ∧ σ' = σ) := by
  refine m_B_isPlace [] rfl (Nat.le_of_ble_eq_true rfl) ?_
  refine ⟨fun q => ?_, fun q => ?_⟩
  · exact ⟨rfl, by rw [bI_ndec (fun z => Int32.lt_irrefl (Int32.lt_of_lt_of_le q z.1))], rfl⟩
  obtain ⟨j, hj, rfl⟩ := nI_of q
  refine z_le (a := 6) (b := j) rfl rfl (by decide) (by omega) (fun q2 => ?_) (fun q2 => ?_)
  · exact ⟨rfl, by rw [bI_ndec (fun z => nI_ge (a := 5) (b := j) (by omega) (by omega) z.2)], rfl⟩
  · exact ⟨rfl, by rw [bI_dec ⟨Int32.not_lt.mp q, by rw [q5]; exact nI_le (by omega) (by omega)⟩], rfl⟩
theorem c_walk (C : relC S M n k) {m h p : Int32} : zRuns gB_walk (d + 6) [.ref 0, .int m, .int h, .int p] (encC S) (fun v σ' => v = some (.int (pWalk M n m h p)) ∧ ∃ S', σ' = encC S' ∧ relC S' (gWalk M n m h p) n k) := by
  have R := C.1
  have h7 := R.1.1; have h4 := R.1.2.1
  refine m_B_walk [] rfl (Nat.le_of_ble_eq_true rfl) ?_
  refine z_call (c_isMan R) ?_
  refine z_b (fun h1 => ?_) (fun h1 => ?_)
  · exact ⟨by unfold pWalk; rw [if_pos h1], S, rfl, by unfold gWalk; rw [if_pos h1]; exact C⟩
  refine z_call c_isHour ?_
  refine z_dec (fun h2 => ?_) (fun h2 => ?_)
  · exact ⟨by unfold pWalk; rw [h1, if_neg (by decide), if_pos h2], S, rfl, by unfold gWalk; rw [h1, if_neg (by decide), if_pos h2]; exact C⟩
  refine z_call c_isPlace ?_
  refine z_dec (fun h3 => ?_) (fun h3 => ?_)
  · exact ⟨by unfold pWalk; rw [h1, if_neg (by decide), if_neg (fun z => z h2), if_pos h3], S, rfl, by unfold gWalk; rw [h1, if_neg (by decide), if_neg (fun z => z h2), if_pos h3]; exact C⟩
  obtain ⟨i, hi, rfl⟩ := ixB_t (by omega) h1
  obtain ⟨a, ha, rfl⟩ := z_rng (N := 5) (by decide) h2
  obtain ⟨b, hb, rfl⟩ := z_rng (N := 5) (by decide) h3
  have ei : (nI i).toNatClampNeg = i := nI_clamp (by omega)
  have ea : (nI a).toNatClampNeg = a := nI_clamp (by omega)
  have p0 : pWalk M n (nI i) (nI a) (nI b) = M 8 (13 + 6 * i + a) := by unfold pWalk; rw [h1, if_neg (by decide), if_neg (fun z => z h2), if_neg (fun z => z h3), ei, ea]
  have g0 : gWalk M n (nI i) (nI a) (nI b) = zUr (notesF M (M 0 20).toNatClampNeg) 8 (upd (M 8) (13 + 6 * i + a) (nI b)) := by unfold gWalk; rw [h1, if_neg (by decide), if_neg (fun z => z h2), if_neg (fun z => z h3), ei, ea]
  rw [p0, g0]
  refine z_callE (c_remember C) ?_
  rintro v σ' ⟨rfl, S1, rfl, C1⟩
  have R1 := C1.1
  have e8 : notesF M (M 0 20).toNatClampNeg 8 = M 8 := notesF_k (by decide) (by decide)
  rw [← e8]
  generalize notesF M (M 0 20).toNatClampNeg = N at *
  refine z_call (c_St_placeOf R1 hi (show a < 6 by omega) rfl) ?_
  refine z_call (s_setPlace (S := S1) (c := S1 26) (by omega) (by omega)) ?_
  refine ⟨rfl, _, rfl, ?_⟩
  exact relC_row C1 (rowEq_place h7 h4 hi (by omega) R1.2.2.2.2) (okRow_place h7 h4 (by omega) (by omega) (okRow_of R1.2.1 R1.2.2.1))
end D2
