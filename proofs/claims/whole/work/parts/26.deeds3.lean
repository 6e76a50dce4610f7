/-! the class's deeds: the day's end, the drift, undoing -/
theorem b_mem2 : ∀ s, s < 128 → ∀ q, q < 7 → q < (onesU (nI s) 7).toNatClampNeg → memU (nI s) (nI q) (-1) 7 0 0 = memF (nI s) (nI q) := by decide +kernel
theorem pick2 {M : zS} {n k x : Nat} (hn : n ≤ 7) (h : mayForF M n k x ≠ 0) : zPop32 (mayForF M n k x) = onesU (mayForF M n k x) 7 ∧ (0 : Int32) < onesU (mayForF M n k x) 7 ∧ memU (mayForF M n k x) (drawF (M 0 24) (onesU (mayForF M n k x) 7)) (-1) 7 0 0 = memF (mayForF M n k x) (drawF (M 0 24) (onesU (mayForF M n k x) 7)) := by
  obtain ⟨s, hs, e, hm⟩ := bits_n (fun m => mayB M k m x) n hn
  have e2 : mayForF M n k x = nI s := e
  have hs7 : s < 128 := Nat.lt_of_lt_of_le hs (Nat.pow_le_pow_right (by decide) hn)
  have hs0 : s ≠ 0 := fun z => h (by rw [e2, z]; rfl)
  obtain ⟨c1, c2, c3⟩ := b_ones s hs7 hs0
  rw [e2]
  refine ⟨b_pop s hs7, by rw [c1]; exact nI_lt (a := 0) c2 (by omega), ?_⟩
  generalize hc : (onesU (nI s) 7).toNatClampNeg = c at c1 c2 c3
  obtain ⟨q, hq, eq⟩ := draw_n (M 0 24) c2 (by omega)
  rw [c1, eq]
  exact b_mem2 s hs7 q (by omega) (by rw [hc]; exact hq)
section D3
variable {d : Nat} {S M : zS} {n k : Nat}
def base1 (M : zS) (k : Nat) : Nat → Int32 := upd (M 8) 11 (M 8 11 + paidF M k)
def N1 (M : zS) (k j : Nat) : Nat → Int32 := fun i => if i < j then decF M k i else base1 M k i
def N2 (M : zS) (n k j : Nat) : Nat → Int32 := fun i => if 7 ≤ i ∧ i < 7 + j then 0 else N1 M k n i
theorem N1_s {j : Nat} : N1 M k (j + 1) = upd (N1 M k j) j (decF M k j) := by
  funext i
  unfold N1 upd
  by_cases e : i = j
  · subst e; simp
  · by_cases e2 : i < j
    · simp [e, e2, show i < j + 1 by omega]
    · simp [e, e2, show ¬ i < j + 1 by omega]
theorem N2_s {j : Nat} : N2 M n k (j + 1) = upd (N2 M n k j) (7 + j) 0 := by
  funext i
  unfold N2 upd
  by_cases e : i = 7 + j
  · subst e; simp
  · by_cases e2 : 7 ≤ i ∧ i < 7 + j
    · rw [if_pos (by omega), if_neg e]; exact (if_pos e2).symm
    · rw [if_neg (by omega), if_neg e]; exact (if_neg e2).symm
theorem dec_w (W : okW M n) {m : Nat} (hm : m < n) : ∃ w, w ≤ 9 ∧ decF M k m = nI w := by
  obtain ⟨w, hw, ew⟩ := W.1 m hm
  obtain ⟨w1, w2, w3⟩ := b_wd w (by omega)
  unfold decF
  rw [ew]
  by_cases h : blamesF M k m = 0
  · simp only [h, true_and]
    exact ⟨(clW (nI w + -1)).toNatClampNeg, Nat.le_of_lt_succ w3, w1.symm.trans w2⟩
  · rw [if_neg (fun z => h z.1)]
    exact ⟨w, hw, by simp⟩
theorem okRow_N1 (h7 : n ≤ 7) (h4 : k ≤ 4) (W : okW M n) (o : okRow (M 4) n k (M 8)) : ∀ j, j ≤ n → okRow (M 4) n k (N1 M k j)
  | 0, _ => by
    have : N1 M k 0 = base1 M k := by funext i; unfold N1; rw [if_neg (by omega)]
    rw [this]
    exact okRow_sums h7 h4 (by decide) o
  | j + 1, hj => by
    rw [N1_s]
    obtain ⟨w, hw, ew⟩ := dec_w (k := k) W (m := j) (by omega)
    exact okRow_worn h7 (by omega) hw ew (okRow_N1 h7 h4 W o j (by omega))
theorem N1_b {j x : Nat} (hj : j ≤ 7) (hx : x < 4) : N1 M k j (7 + x) = M 8 (7 + x) := by
  unfold N1 base1
  rw [if_neg (by omega), upd_n (by omega)]
theorem okRow_setsNow (I : okM M n k) (W : okW M n) (r : okR M n) : okRow (M 4) n k (setsNow M n k) := by
  have h7 := I.1; have h4 := I.2.1
  refine ⟨okB_sets I, fun m hm => ?_, fun m hm h hh => ?_⟩
  · have e : setsNow M n k m = decF M k m := by
      unfold setsNow
      rw [upd_n (by omega), upd_n (by omega)]
      unfold sets3 sets2 sets1
      rw [if_neg (by omega), if_neg (by omega), if_pos hm]
    rw [e]
    exact dec_w W hm
  · have e : setsNow M n k (13 + 6 * m + h) = M 3 (6 * m + h) := by
      unfold setsNow
      rw [upd_n (by omega), upd_n (by omega)]
      unfold sets3
      rw [if_pos (by omega)]
      congr 1
      omega
    rw [e]
    exact r m hm h hh
theorem rowEq_setsNow (R : rel1 S M n k) {c : Nat → Int32} (e : rowEq n k c (N2 M n k k)) : rowEq n k (upd (fun j => if j < 42 then S 18 j else c j) 54 (c 54 + 1)) (setsNow M n k) := by
  have h7 := R.1.1; have h4 := R.1.2.1
  obtain ⟨e1, e2, e3, e4, e5⟩ := e
  refine ⟨fun m hm h hh => ?_, fun m hm => ?_, fun x hx => ?_, ?_, ?_⟩
  · rw [upd_n (by omega)]
    show (if 6 * m + h < 42 then _ else _) = _
    rw [if_pos (by omega), (R_man R hm).2.2.2 h hh]
    unfold setsNow
    rw [upd_n (by omega), upd_n (by omega)]
    unfold sets3
    rw [if_pos (by omega)]
    congr 1
    omega
  · rw [upd_n (by omega)]
    show (if 42 + m < 42 then _ else _) = _
    rw [if_neg (by omega), e2 m hm]
    unfold setsNow
    rw [upd_n (by omega), upd_n (by omega)]
    unfold sets3 sets2 sets1 N2 N1
    rw [if_neg (by omega), if_pos hm, if_neg (by omega), if_neg (by omega), if_pos hm]
  · rw [upd_n (by omega)]
    show (if 49 + x < 42 then _ else _) = _
    rw [if_neg (by omega), e3 x hx]
    unfold setsNow
    rw [upd_n (by omega), upd_n (by omega)]
    unfold sets3 sets2 N2
    rw [if_pos (by omega), if_neg (by omega), if_pos (by omega)]
  · rw [upd_n (by omega)]
    show (if 53 < 42 then _ else _) = _
    rw [if_neg (by omega), e4]
    unfold setsNow
    rw [upd_n (by omega), upd_s]
    unfold N2 N1 base1
    rw [if_neg (by omega), if_neg (by omega), upd_s]
  · rw [upd_s, e5]
    unfold setsNow
    rw [upd_s]
    unfold N2 N1 base1
    rw [if_neg (by omega), if_neg (by omega), upd_n (by decide)]
theorem c_endDay (R : rel1 S M n k) : zRuns gB_endDay (d + 5) [.ref 0] (encC S) (fun v σ' => v = some (.int (paidF M k)) ∧ ∃ c, σ' = encC (zUr S 26 c) ∧ rowEq n k c (setsNow M n k)) := by
  have h7 := R.1.1; have h4 := R.1.2.1
  have o := okRow_of R.2.1 R.2.2.1
  refine m_B_endDay [26, 65] rfl (Nat.le_of_ble_eq_true rfl) ?_
  refine z_call (c_Ct_freeInAll R) ?_
  have ep : S 14 2 * allFreeU M k = paidF M k := by rw [R.2.2.2.1.2.2.2.2.1]; rfl
  refine z_call (s_spend (S := S) (c := S 26)) ?_
  refine ⟨trivial, ?_⟩
  rw [ep]
  have r0 : rowEq n k (upd (S 26) 53 (S 26 53 + paidF M k)) (N1 M k 0) := by
    have : N1 M k 0 = base1 M k := by funext i; unfold N1; rw [if_neg (by omega)]
    rw [this]
    exact rowEq_spent h7 h4 (by rw [R.2.2.2.2.2.2.2.1]) R.2.2.2.2
  generalize upd (S 26) 53 (S 26 53 + paidF M k) = c0 at r0
  refine z_up (P := fun j => ∀ i c, i = nI j → rowEq n k c (N1 M k j) → zGood gB_endDay (d + 5) (fun v σ' => v = some (.int (paidF M k)) ∧ ∃ c, σ' = encC (zUr S 26 c) ∧ rowEq n k c (setsNow M n k)) 26 [some (.ref 0), some (.int (paidF M k)), some (.int i)] [] (encC (zUr S 26 c)) 0 0) n (fun j hj ih i c hi hc => ?_) 0 (Nat.zero_le _) 0 c0 nI_0.symm r0
  subst hi
  refine w_B_endDay [26, 65] ?_
  refine ⟨fun q => ?_, fun q => ?_⟩
  · have e := z_end (R_men R) hj (by omega) q
    subst e
    refine ⟨trivial, ?_⟩
    have r1 : rowEq j k c (N2 M j k 0) := by
      have : N2 M j k 0 = N1 M k j := by funext i; unfold N2; rw [if_neg (by omega)]
      rw [this]
      exact hc
    refine z_up (P := fun x => ∀ i c, i = nI x → rowEq j k c (N2 M j k x) → zGood gB_endDay (d + 5) (fun v σ' => v = some (.int (paidF M k)) ∧ ∃ c, σ' = encC (zUr S 26 c) ∧ rowEq j k c (setsNow M j k)) 65 [some (.ref 0), some (.int (paidF M k)), some (.int i)] [] (encC (zUr S 26 c)) 0 0) k (fun x hx ihx i c hi hc => ?_) 0 (Nat.zero_le _) 0 c nI_0.symm r1
    subst hi
    refine w_B_endDay [26, 65] ?_
    refine ⟨fun q2 => ?_, fun q2 => ?_⟩
    · have e := z_end (R_mis R) hx (by omega) q2
      subst e
      refine z_call s_takeRows ?_
      refine z_call s_countDay ?_
      exact ⟨rfl, _, rfl, rowEq_setsNow R hc⟩
    · have hlt := z_go (R_mis R) hx (by omega) q2
      refine z_call (s_setBlamed (by omega)) ?_
      refine ⟨trivial, ihx hlt _ _ (nI_1 x) ?_⟩
      rw [N2_s]
      exact rowEq_blamed h7 h4 hlt rfl hc
  · have hlt := z_go (R_men R) hj (by omega) q
    have R1 : rel1 (zUr S 26 c) (zUr M 8 (N1 M k j)) n k := rel1_row R hc (okRow_N1 h7 h4 R.2.2.1 o j hj)
    refine z_call (c_Ct_blamesOf R1 (by omega)) ?_
    have eb : blamesF (zUr M 8 (N1 M k j)) k j = blamesF M k j := blamesF_congr fun x hx => by rw [zUr_s]; exact N1_b (by omega) (by omega)
    rw [eb]
    have ej : N1 M k j j = M 8 j := by unfold N1 base1; rw [if_neg (by omega), upd_n (by omega)]
    refine ⟨fun h => ?_, fun h => ?_⟩
    · refine z_call (s_wear (by omega)) ?_
      refine ⟨trivial, ih hlt _ _ (nI_1 j) ?_⟩
      rw [N1_s]
      refine rowEq_worn h7 h4 hlt ?_ hc
      obtain ⟨w, hw, ew⟩ := R.2.2.1.1 j hlt
      rw [hc.2.1 j hlt, ej, ew, (b_wd w (by omega)).1]
      unfold decF
      rw [ew]
      simp [h]
    · refine ⟨trivial, ih hlt _ _ (nI_1 j) ?_⟩
      rw [N1_s]
      have : upd (N1 M k j) j (decF M k j) = N1 M k j := by
        funext i
        by_cases z : i = j
        · subst z
          rw [upd_s, ej]
          unfold decF
          rw [if_neg (fun z => h z.1)]
          simp
        · rw [upd_n z]
      rw [this]
      exact hc
theorem c_sunset (C : relC S M n k) : zRuns gB_sunset (d + 6) [.ref 0] (encC S) (fun v σ' => v = some (.int (pSunset M k)) ∧ ∃ S', σ' = encC S' ∧ relC S' (gSunset M n k) n k) := by
  have R := C.1
  refine m_B_sunset [] rfl (Nat.le_of_ble_eq_true rfl) ?_
  show (S 14 0 = 0 → _) ∧ (¬ S 14 0 = 0 → _)
  rw [R.2.2.2.1.2.2.1]
  refine ⟨fun h => ?_, fun h => ?_⟩
  · exact ⟨by unfold pSunset; rw [if_pos h], S, rfl, by unfold gSunset; rw [if_pos h]; exact C⟩
  refine z_call (c_St_days R) ?_
  refine ⟨fun h2 => ?_, fun h2 => ?_⟩
  · have h2' := Int32.not_lt.mpr h2
    refine z_callE (c_remember C) ?_
    rintro v σ' ⟨rfl, S1, rfl, C1⟩
    refine z_callE (c_endDay C1.1) ?_
    rintro v σ' ⟨rfl, c, rfl, e⟩
    rw [paidF_notes]
    refine ⟨by unfold pSunset; rw [if_neg h, if_neg h2'], _, rfl, ?_⟩
    unfold gSunset
    rw [if_neg h, if_neg h2', ← setsNow_notes (de := (M 0 20).toNatClampNeg)]
    exact relC_row C1 e (okRow_setsNow C1.1.1 C1.1.2.2.1 C1.2.2.2.2.2.2.2)
  · have h2' := Int32.not_le.mp h2
    exact ⟨by unfold pSunset; rw [if_neg h, if_pos h2'], S, rfl, by unfold gSunset; rw [if_neg h, if_pos h2']; exact C⟩
theorem relC_seed {v : Int32} (C : relC S M n k) : relC (zU S 0 11 v) (zU M 0 24 v) n k := by
  obtain ⟨R, P, T, I, ⟨de, nx, h1, h2, h3, h4, h5, h6⟩, f, s, r⟩ := C
  refine ⟨⟨okM_seed R.1, R.2.1, R.2.2.1, R.2.2.2.1, R.2.2.2.2⟩, P, T, I, ⟨de, nx, h1, h2, h3, h4, h5, fun t ht => ?_⟩, f, rfl, r⟩
  rw [zU_k (by omega)]
  exact h6 t ht
theorem c_draw {x : Int32} (hx : 0 < x) : zRuns gB_draw (d + 1) [.ref 0, .int x] (encC S) (fun v σ' => v = some (.int (drawF (S 0 11) x)) ∧ σ' = encC (zU S 0 11 (lcgM (S 0 11)))) := by
  refine m_B_draw [] rfl (Nat.le_of_ble_eq_true rfl) ?_
  refine ⟨fun h => absurd (Int32.lt_of_lt_of_le hx h) Int32.lt_irrefl, fun _ => ?_⟩
  have hx0 : ¬ x = 0 := fun z => by rw [z] at hx; exact absurd hx (by decide)
  refine ⟨by decide, ?_⟩
  refine ⟨hx0, ?_⟩
  rw [drawF, lcg_eq]
  exact ⟨rfl, rfl⟩
theorem c_memberOf {σ : List va_E} {s kk : Int32} : zRuns gB_memberOf (d + 2) [.int s, .int kk] σ (fun v σ' => v = some (.int (memU s kk (-1) 7 0 0)) ∧ σ' = σ) := by
  generalize hG : memU s kk (-1) 7 0 0 = G
  refine m_B_memberOf [4] rfl (Nat.le_of_ble_eq_true rfl) ?_
  refine ⟨trivial, ?_⟩
  refine z_up (P := fun j => ∀ i c, i = nI j → G = memU s kk (-1) (7 - j) j c → zGood gB_memberOf (d + 2) (fun v σ' => v = some (.int (G)) ∧ σ' = σ) 4 [some (.int s), some (.int kk), some (.int c), some (.int i)] [] σ 0 0) 7 (fun j hj ih i c hi hc => ?_) 0 (Nat.zero_le _) 0 0 nI_0.symm hG.symm
  subst hi
  refine w_B_memberOf [4] ?_
  refine z_le (a := 7) (b := j) rfl rfl (by decide) (by omega) (fun q => ?_) (fun q => ?_)
  · have : j = 7 := by omega
    subst this
    exact ⟨by rw [hc]; rfl, rfl⟩
  rw [show 7 - j = (7 - (j + 1)) + 1 by omega, memU] at hc
  refine z_call (c_isIn rfl (by omega)) ?_
  refine z_b (fun h => ?_) (fun h => ?_)
  · have h' : hasB s (nI j) = false := h
    rw [h', if_neg (by decide)] at hc
    exact ⟨trivial, ih q _ _ (nI_1 j) hc⟩
  · have h' : hasB s (nI j) = true := h
    rw [h', if_pos rfl] at hc
    refine ⟨fun h2 => ?_, fun h2 => ?_⟩
    · rw [if_pos h2] at hc
      exact ⟨by rw [hc], rfl⟩
    · rw [if_neg h2] at hc
      exact ⟨trivial, ih q _ _ (nI_1 j) hc⟩
end D3
