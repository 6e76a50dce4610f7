theorem notesF_k {M : zS} {de c : Nat} (h0 : c ≠ 0) (h9 : c ≠ 9) : notesF M de c = M c := by
  unfold notesF
  by_cases e : de = 30
  · rw [if_pos e, zU_k h0, zUr_k h9]
  · rw [if_neg e, zU_k h0, zUr_k h9]
theorem notesF_0 {M : zS} {de j : Nat} (h : j ≠ 20) : notesF M de 0 j = M 0 j := by
  unfold notesF
  by_cases e : de = 30
  · rw [if_pos e, zU_s, upd_n h, zUr_k (by decide)]
  · rw [if_neg e, zU_s, upd_n h, zUr_k (by decide)]
theorem okM_of {M N : zS} {n k : Nat} (I : okM M n k) (h4 : N 0 4 = M 0 4) (h6 : N 0 6 = M 0 6) (h7 : N 0 7 = M 0 7) (h2 : N 2 = M 2) (hh : N 4 = M 4) : okM N n k := by
  unfold okM
  rw [h4, h6, h7, h2, hh]
  exact I
theorem okM_notes {M : zS} {n k de : Nat} (I : okM M n k) : okM (notesF M de) n k := okM_of I (notesF_0 (by decide)) (notesF_0 (by decide)) (notesF_0 (by decide)) (notesF_k (by decide) (by decide)) (notesF_k (by decide) (by decide))
theorem okM_now {M : zS} {n k : Nat} {f : Nat → Int32} (I : okM M n k) : okM (zUr M 8 f) n k := I
theorem okM_seed {M : zS} {n k : Nat} {v : Int32} (I : okM M n k) : okM (zU M 0 24 v) n k := okM_of I rfl rfl rfl rfl rfl
def pBlame (M : zS) (n k : Nat) (m x : Int32) : Int32 := if ixB n m = false then kUNK else if ixB k x = false then kUNK else if mayB M k m.toNatClampNeg x.toNatClampNeg = false then kNOT else M 2 (3 * m.toNatClampNeg + 2)
def gBlame (M : zS) (n k : Nat) (m x : Int32) : zS := if ixB n m = false then M else if ixB k x = false then M else if mayB M k m.toNatClampNeg x.toNatClampNeg = false then M else
  zUr (notesF M (M 0 20).toNatClampNeg) 8 (blamesNow M m.toNatClampNeg x.toNatClampNeg)
def clearNow (M : zS) (m x : Nat) : Nat → Int32 := upd (upd (M 8) (7 + x) (M 8 (7 + x) &&& ((1 <<< (nI m &&& 31)) ^^^ (-1)))) m (M 8 m - (if 0 < M 8 m then 1 else 0))
def pClear (M : zS) (n k : Nat) (m x : Int32) : Int32 := if ixB n m = false then kUNK else if ixB k x = false then kUNK else if hasB (M 8 (7 + x.toNatClampNeg)) m = false then kNOT else M 8 m.toNatClampNeg - (if 0 < M 8 m.toNatClampNeg then 1 else 0)
def gClear (M : zS) (n k : Nat) (m x : Int32) : zS := if ixB n m = false then M else if ixB k x = false then M else if hasB (M 8 (7 + x.toNatClampNeg)) m = false then M else zUr (notesF M (M 0 20).toNatClampNeg) 8 (clearNow M m.toNatClampNeg x.toNatClampNeg)
def pWalk (M : zS) (n : Nat) (m h p : Int32) : Int32 := if ixB n m = false then kUNK else if ¬ (0 ≤ h ∧ h ≤ 5) then kOUT else if ¬ (0 ≤ p ∧ p ≤ 5) then kOUT else M 8 (13 + 6 * m.toNatClampNeg + h.toNatClampNeg)
def gWalk (M : zS) (n : Nat) (m h p : Int32) : zS := if ixB n m = false then M else if ¬ (0 ≤ h ∧ h ≤ 5) then M else if ¬ (0 ≤ p ∧ p ≤ 5) then M else zUr (notesF M (M 0 20).toNatClampNeg) 8 (upd (M 8) (13 + 6 * m.toNatClampNeg + h.toNatClampNeg) p)
def decF (M : zS) (k i : Nat) : Int32 := M 8 i - (if blamesF M k i = 0 ∧ 0 < M 8 i then 1 else 0)
def sets1 (M : zS) (n k : Nat) : Nat → Int32 := fun i => if i < n then decF M k i else M 8 i
def sets2 (M : zS) (n k j : Nat) : Nat → Int32 := fun i => if 7 ≤ i ∧ i < 7 + j then 0 else sets1 M n k i
def sets3 (M : zS) (n k j : Nat) : Nat → Int32 := fun i => if 13 ≤ i ∧ i < 13 + j then M 3 (i - 13) else sets2 M n k 4 i
def paidF (M : zS) (k : Nat) : Int32 := M 0 5 * allFreeU M k
def setsNow (M : zS) (n k : Nat) : Nat → Int32 := upd (upd (sets3 M n k 42) 11 (M 8 11 + paidF M k)) 12 (M 8 12 + 1)
theorem blamesF_congr {M N : zS} {k m : Nat} (h : ∀ x, x < k → N 8 (7 + x) = M 8 (7 + x)) : blamesF N k m = blamesF M k m := bits_congr fun j hj => by rw [h j hj]
section M5
variable {d : Nat} {M : zS} {n k : Nat} {σ : List va_E}
theorem c_M_blame (I : okM M n k) {m x : Int32} {de : Nat} (hd : M 0 20 = nI de) (hde : de ≤ 30) : zRuns gM_blame (d + 4) [.ref 0, .int m, .int x] (encM M) (fun v σ' => v = some (.int (pBlame M n k m x)) ∧ σ' = encM (gBlame M n k m x)) := by
  have h7 := I.1; have h4 := I.2.1
  refine m_M_blame [] rfl (Nat.le_of_ble_eq_true rfl) ?_
  refine z_call (c_M_isMan I) ?_
  refine z_b (fun h => ?_) (fun h => ?_)
  · exact ⟨by simp [pBlame, h], by simp [gBlame, h]⟩
  refine z_call (c_M_isMishap I) ?_
  refine z_b (fun h1 => ?_) (fun h1 => ?_)
  · exact ⟨by simp [pBlame, h, h1], by simp [gBlame, h, h1]⟩
  obtain ⟨i, hi, rfl⟩ := ixB_t (by omega) h
  obtain ⟨j, hj, rfl⟩ := ixB_t (by omega) h1
  have ei : (nI i).toNatClampNeg = i := nI_clamp (by omega)
  have ej : (nI j).toNatClampNeg = j := nI_clamp (by omega)
  have ed : (M 0 20).toNatClampNeg = de := by rw [hd, nI_clamp (by omega)]
  have e0 : pBlame M n k (nI i) (nI j) = if mayB M k i j = false then kNOT else M 2 (3 * i + 2) := by
    unfold pBlame; rw [h, h1, if_neg (by decide), if_neg (by decide), ei, ej]
  have e1 : gBlame M n k (nI i) (nI j) = if mayB M k i j = false then M else zUr (notesF M de) 8 (blamesNow M i j) := by
    unfold gBlame; rw [h, h1, if_neg (by decide), if_neg (by decide), ei, ej, ed]
  rw [e0, e1]
  refine z_call (c_M_mayBe I hi hj) ?_
  refine z_b (fun h2 => ?_) (fun h2 => ?_)
  · exact ⟨by rw [if_pos h2], by rw [if_pos h2]⟩
  rw [if_neg (by rw [h2]; decide), if_neg (by rw [h2]; decide)]
  refine z_call (c_M_notes hd hde) ?_
  refine z_call (c_M_blames (by omega) (by omega)) ?_
  refine z_ld (z_ad (z_mu q3 rfl) q2) (by omega) (by decide) ?_
  have e2 : notesF M de 2 = M 2 := notesF_k (by decide) (by decide)
  have e8 : notesF M de 8 = M 8 := notesF_k (by decide) (by decide)
  refine ⟨?_, ?_⟩
  · show some (Value.int (notesF M de 2 (3 * i + 2))) = _
    rw [e2]
  · have e9 : blamesNow (notesF M de) i j = blamesNow M i j := by unfold blamesNow; rw [e8, e2]
    rw [e9]
theorem c_M_clear (I : okM M n k) {m x : Int32} {de : Nat} (hd : M 0 20 = nI de) (hde : de ≤ 30) : zRuns gM_clear (d + 4) [.ref 0, .int m, .int x] (encM M) (fun v σ' => v = some (.int (pClear M n k m x)) ∧ σ' = encM (gClear M n k m x)) := by
  have h7 := I.1; have h4 := I.2.1
  refine m_M_clear [] rfl (Nat.le_of_ble_eq_true rfl) ?_
  refine z_call (c_M_isMan I) ?_
  refine z_b (fun h => ?_) (fun h => ?_)
  · exact ⟨by simp [pClear, h], by simp [gClear, h]⟩
  refine z_call (c_M_isMishap I) ?_
  refine z_b (fun h1 => ?_) (fun h1 => ?_)
  · exact ⟨by simp [pClear, h, h1], by simp [gClear, h, h1]⟩
  obtain ⟨i, hi, rfl⟩ := ixB_t (by omega) h
  obtain ⟨j, hj, rfl⟩ := ixB_t (by omega) h1
  have ei : (nI i).toNatClampNeg = i := nI_clamp (by omega)
  have ej : (nI j).toNatClampNeg = j := nI_clamp (by omega)
  have ed : (M 0 20).toNatClampNeg = de := by rw [hd, nI_clamp (by omega)]
  have e0 : pClear M n k (nI i) (nI j) = if hasB (M 8 (7 + j)) (nI i) = false then kNOT else M 8 i - (if 0 < M 8 i then 1 else 0) := by
    unfold pClear; rw [h, h1, if_neg (by decide), if_neg (by decide), ei, ej]
  have e1 : gClear M n k (nI i) (nI j) = if hasB (M 8 (7 + j)) (nI i) = false then M else zUr (notesF M de) 8 (clearNow M i j) := by
    unfold gClear; rw [h, h1, if_neg (by decide), if_neg (by decide), ei, ej, ed]
  rw [e0, e1]
  refine z_call (c_M_blamedFor I hj) ?_
  refine z_call c_M_has ?_
  refine z_b (fun h2 => ?_) (fun h2 => ?_)
  · exact ⟨by rw [if_pos h2], by rw [if_pos h2]⟩
  rw [if_neg (show ¬ hasB (M 8 (7 + j)) (nI i) = false by rw [h2]; decide), if_neg (show ¬ hasB (M 8 (7 + j)) (nI i) = false by rw [h2]; decide)]
  refine z_call (c_M_notes hd hde) ?_
  have e8 : notesF M de 8 = M 8 := notesF_k (by decide) (by decide)
  have f1 : ∀ v, upd (notesF M de 8) (7 + j) v i = M 8 i := fun v => by rw [e8]; exact upd_n (by omega)
  refine z_ld (z_ad q7 rfl) (by omega) (by decide) ?_
  refine z_st (z_ad q7 rfl) (by omega) (by decide) ?_
  refine z_ld (z0a i) (by omega) (by decide) ?_
  refine z_ld (z0a i) (by omega) (by decide) ?_
  rw [f1]
  refine ⟨fun h3 => ?_, fun h3 => ?_⟩
  · refine z_st (z0a i) (by omega) (by decide) ?_
    refine z_ld (z0a i) (by omega) (by decide) ?_
    refine ⟨?_, ?_⟩
    · rw [upd_s, if_neg (fun z => Int32.lt_irrefl (Int32.lt_of_lt_of_le z h3))]
    · unfold clearNow
      rw [if_neg (fun z => Int32.lt_irrefl (Int32.lt_of_lt_of_le z h3)), ← e8]
      rfl
  · refine z_st (z0a i) (by omega) (by decide) ?_
    refine z_ld (z0a i) (by omega) (by decide) ?_
    refine ⟨?_, ?_⟩
    · rw [upd_s, if_pos (Int32.not_le.mp h3)]
    · unfold clearNow
      rw [if_pos (Int32.not_le.mp h3), ← e8]
      rfl
theorem c_M_walk (I : okM M n k) {m h p : Int32} {de : Nat} (hd : M 0 20 = nI de) (hde : de ≤ 30) : zRuns gM_walk (d + 4) [.ref 0, .int m, .int h, .int p] (encM M) (fun v σ' => v = some (.int (pWalk M n m h p)) ∧ σ' = encM (gWalk M n m h p)) := by
  have h7 := I.1; have h4 := I.2.1
  refine m_M_walk [] rfl (Nat.le_of_ble_eq_true rfl) ?_
  refine z_call (c_M_isMan I) ?_
  refine z_b (fun h0 => ?_) (fun h0 => ?_)
  · exact ⟨by simp [pWalk, h0], by simp [gWalk, h0]⟩
  refine z_call c_M_in ?_
  refine z_dec (fun h1 => ?_) (fun h1 => ?_)
  · exact ⟨by unfold pWalk; rw [h0, if_neg (by decide), if_pos h1], by unfold gWalk; rw [h0, if_neg (by decide), if_pos h1]⟩
  refine z_call c_M_in ?_
  refine z_dec (fun h2 => ?_) (fun h2 => ?_)
  · exact ⟨by unfold pWalk; rw [h0, if_neg (by decide), if_neg (fun z => z h1), if_pos h2], by unfold gWalk; rw [h0, if_neg (by decide), if_neg (fun z => z h1), if_pos h2]⟩
  obtain ⟨i, hi, rfl⟩ := ixB_t (by omega) h0
  obtain ⟨j, hj, rfl⟩ := z_rng (N := 5) (by decide) h1
  have ei : (nI i).toNatClampNeg = i := nI_clamp (by omega)
  have ej : (nI j).toNatClampNeg = j := nI_clamp (by omega)
  have ed : (M 0 20).toNatClampNeg = de := by rw [hd, nI_clamp (by omega)]
  have e0 : pWalk M n (nI i) (nI j) p = M 8 (13 + 6 * i + j) := by
    unfold pWalk; rw [h0, if_neg (by decide), if_neg (fun z => z h1), if_neg (fun z => z h2), ei, ej]
  have e1 : gWalk M n (nI i) (nI j) p = zUr (notesF M de) 8 (upd (M 8) (13 + 6 * i + j) p) := by
    unfold gWalk; rw [h0, if_neg (by decide), if_neg (fun z => z h1), if_neg (fun z => z h2), ei, ej, ed]
  rw [e0, e1]
  refine z_call (c_M_notes hd hde) ?_
  have e8 : notesF M de 8 = M 8 := notesF_k (by decide) (by decide)
  refine z_ld (z_ad (z_ad q13 (z_mu q6 rfl)) rfl) (by omega) (by decide) ?_
  refine z_st (z_ad (z_ad q13 (z_mu q6 rfl)) rfl) (by omega) (by decide) ?_
  rw [e8]
  exact ⟨rfl, rfl⟩
theorem c_M_sets (I : okM M n k) : zRuns gM_sets (d + 3) [.ref 0] (encM M) (fun v σ' => v = some (.int (paidF M k)) ∧ σ' = encM (zUr M 8 (setsNow M n k))) := by
  have h7 := I.1; have h4 := I.2.1
  refine m_M_sets [12, 63, 86] rfl (Nat.le_of_ble_eq_true rfl) ?_
  refine z_call (c_M_allFree I) ?_
  refine ⟨trivial, ?_⟩
  have s0 : M = zUr M 8 (fun i => if i < 0 then decF M k i else M 8 i) := by
    funext c
    by_cases e : c = 8
    · subst e; rw [zUr_s]; funext j; simp
    · rw [zUr_k e]
  have l3 := z_up (P := fun j => ∀ x, x = nI j → zGood gM_sets (d + 3) (fun v σ' => v = some (.int (paidF M k)) ∧ σ' = encM (zUr M 8 (setsNow M n k))) 86 [some (.ref 0), some (.int (paidF M k)), some (.int x)] [] (encM (zUr M 8 (sets3 M n k j))) 0 0) 42 (fun j hj ih x hx => by
    subst hx
    refine w_M_sets [86] ?_
    refine z_le (a := 42) (b := j) rfl rfl (by decide) (by omega) (fun q => ?_) (fun q => ?_)
    · have : j = 42 := by omega
      subst this
      have g1 : sets3 M n k 42 11 = M 8 11 := by
        unfold sets3 sets2 sets1
        rw [if_neg (by omega), if_neg (by omega), if_neg (by omega)]
      have g2 : sets3 M n k 42 12 = M 8 12 := by
        unfold sets3 sets2 sets1
        rw [if_neg (by omega), if_neg (by omega), if_neg (by omega)]
      refine z_ld (k := 11) q11 (by decide) (by decide) ?_
      refine z_st (k := 11) q11 (by decide) (by decide) ?_
      refine z_ld (k := 12) q12 (by decide) (by decide) ?_
      refine z_st (k := 12) q12 (by decide) (by decide) ?_
      refine ⟨rfl, ?_⟩
      unfold setsNow
      rw [← g1, ← g2]
      rfl
    · refine z_ld (k := j) rfl (by omega) (by decide) ?_
      refine z_st (z_ad q13 rfl) (by omega) (by decide) ?_
      refine ⟨trivial, ?_⟩
      have h9 := ih q (nI j + 1) (nI_1 j)
      have e3 : sets3 M n k (j + 1) = upd (sets3 M n k j) (13 + j) (M 3 j) := by
        funext i
        unfold upd
        by_cases e : i = 13 + j
        · subst e
          rw [if_pos rfl]
          unfold sets3
          rw [if_pos (by omega)]
          congr 1
          omega
        · rw [if_neg e]
          unfold sets3
          by_cases e2 : 13 ≤ i ∧ i < 13 + j
          · rw [if_pos e2, if_pos (by omega)]
          · rw [if_neg e2, if_neg (by omega)]
      rw [e3] at h9
      exact h9) 0 (Nat.zero_le _) 0 nI_0.symm
  have t3 : sets3 M n k 0 = sets2 M n k 4 := by
    funext i
    unfold sets3
    rw [if_neg (by omega)]
  rw [t3] at l3
  have l2 := z_up (P := fun j => ∀ x, x = nI j → zGood gM_sets (d + 3) (fun v σ' => v = some (.int (paidF M k)) ∧ σ' = encM (zUr M 8 (setsNow M n k))) 63 [some (.ref 0), some (.int (paidF M k)), some (.int x)] [] (encM (zUr M 8 (sets2 M n k j))) 0 0) 4 (fun j hj ih x hx => by
    subst hx
    refine w_M_sets [63, 86] ?_
    refine z_le (a := 4) (b := j) rfl rfl (by decide) (by omega) (fun q => ?_) (fun q => ?_)
    · have : j = 4 := by omega
      subst this
      exact ⟨trivial, l3⟩
    · refine z_st (z_ad q7 rfl) (by omega) (by decide) ?_
      refine ⟨trivial, ?_⟩
      have h9 := ih q (nI j + 1) (nI_1 j)
      have e3 : sets2 M n k (j + 1) = upd (sets2 M n k j) (7 + j) 0 := by
        funext i
        unfold upd
        by_cases e : i = 7 + j
        · subst e
          rw [if_pos rfl]
          unfold sets2
          rw [if_pos (by omega)]
        · rw [if_neg e]
          unfold sets2
          by_cases e2 : 7 ≤ i ∧ i < 7 + j
          · rw [if_pos e2, if_pos (by omega)]
          · rw [if_neg e2, if_neg (by omega)]
      rw [e3] at h9
      exact h9) 0 (Nat.zero_le _) 0 nI_0.symm
  have t2 : sets2 M n k 0 = sets1 M n k := by
    funext i
    unfold sets2
    rw [if_neg (by omega)]
  rw [t2] at l2
  have l1 := z_up (P := fun j => ∀ x, x = nI j → zGood gM_sets (d + 3) (fun v σ' => v = some (.int (paidF M k)) ∧ σ' = encM (zUr M 8 (setsNow M n k))) 12 [some (.ref 0), some (.int (paidF M k)), some (.int x)] [] (encM (zUr M 8 (fun i => if i < j then decF M k i else M 8 i))) 0 0) n (fun j hj ih x hx => by
    subst hx
    refine w_M_sets [12, 63] ?_
    refine ⟨fun q => ?_, fun q => ?_⟩
    · have e := z_end I.2.2.1 hj (by omega) q
      subst e
      exact ⟨trivial, l2⟩
    · have hlt := z_go I.2.2.1 hj (by omega) q
      have g1 : (fun i => if i < j then decF M k i else M 8 i) j = M 8 j := if_neg (Nat.lt_irrefl j)
      have g2 : blamesF (zUr M 8 (fun i => if i < j then decF M k i else M 8 i)) k j = blamesF M k j := blamesF_congr fun x hx => by
        rw [zUr_s]
        exact if_neg (by omega)
      have h9 := ih hlt (nI j + 1) (nI_1 j)
      have e3 : (fun i => if i < j + 1 then decF M k i else M 8 i) = upd (fun i => if i < j then decF M k i else M 8 i) j (decF M k j) := by
        funext i
        unfold upd
        by_cases e : i = j
        · subst e; simp
        · by_cases e2 : i < j
          · simp [e, e2, Nat.lt_succ_of_lt e2]
          · simp [e, e2, show ¬ i < j + 1 by omega]
      rw [e3] at h9
      refine z_ld (z0a j) (by omega) (by decide) ?_
      refine z_call (c_M_blamesOf (okM_now I)) ?_
      rw [g2, zUr_s, if_neg (Nat.lt_irrefl j)]
      refine ⟨fun h5 => ?_, fun h5 => ?_⟩
      · refine z_ld (z0a j) (by omega) (by decide) ?_
        rw [zUr_s, if_neg (Nat.lt_irrefl j)]
        refine ⟨fun h6 => ?_, fun h6 => ?_⟩
        · refine z_st (z0a j) (by omega) (by decide) ?_
          refine ⟨trivial, ?_⟩
          have e4 : decF M k j = M 8 j - 0 := by unfold decF; rw [if_neg (fun z => Int32.lt_irrefl (Int32.lt_of_lt_of_le z.2 h6))]
          rw [e4] at h9
          exact h9
        · refine z_st (z0a j) (by omega) (by decide) ?_
          refine ⟨trivial, ?_⟩
          have e4 : decF M k j = M 8 j - 1 := by unfold decF; rw [if_pos ⟨h5, Int32.not_le.mp h6⟩]
          rw [e4] at h9
          exact h9
      · refine z_st (z0a j) (by omega) (by decide) ?_
        refine ⟨trivial, ?_⟩
        have e4 : decF M k j = M 8 j - 0 := by unfold decF; rw [if_neg (fun z => h5 z.1)]
        rw [e4] at h9
        exact h9) 0 (Nat.zero_le _) 0 nI_0.symm
  rw [← s0] at l1
  exact l1
def pSunset (M : zS) (k : Nat) : Int32 := if M 0 3 = 0 then kNOT else if 9000 < M 8 12 then kFUL else paidF M k
def gSunset (M : zS) (n k : Nat) : zS := if M 0 3 = 0 then M else if 9000 < M 8 12 then M else zUr (notesF M (M 0 20).toNatClampNeg) 8 (setsNow M n k)
theorem paidF_notes {de : Nat} : paidF (notesF M de) k = paidF M k := by
  have e8 : notesF M de 8 = M 8 := notesF_k (by decide) (by decide)
  have e4 : notesF M de 4 = M 4 := notesF_k (by decide) (by decide)
  have : ∀ j, allFreeU (notesF M de) j = allFreeU M j := by
    intro j
    induction j with
    | zero => rfl
    | succ j ih => unfold allFreeU freeF; rw [ih, e8, e4]
  unfold paidF
  rw [this, notesF_0 (by decide)]
theorem setsNow_notes {de : Nat} : setsNow (notesF M de) n k = setsNow M n k := by
  have e8 : notesF M de 8 = M 8 := notesF_k (by decide) (by decide)
  have e3 : notesF M de 3 = M 3 := notesF_k (by decide) (by decide)
  unfold setsNow sets3 sets2 sets1 decF blamesF
  rw [e8, e3, paidF_notes]
theorem c_M_sunset (I : okM M n k) {de : Nat} (hd : M 0 20 = nI de) (hde : de ≤ 30) : zRuns gM_sunset (d + 4) [.ref 0] (encM M) (fun v σ' => v = some (.int (pSunset M k)) ∧ σ' = encM (gSunset M n k)) := by
  refine m_M_sunset [] rfl (Nat.le_of_ble_eq_true rfl) ?_
  have ed : (M 0 20).toNatClampNeg = de := by rw [hd, nI_clamp (by omega)]
  refine ⟨fun h => ?_, fun h => ?_⟩
  · exact ⟨by unfold pSunset; rw [if_pos h], by unfold gSunset; rw [if_pos h]⟩
  refine z_ld (k := 12) q12 (by decide) (by decide) ?_
  refine ⟨fun h2 => ?_, fun h2 => ?_⟩
  · refine z_call (c_M_notes hd hde) ?_
    refine z_call (c_M_sets (okM_notes I)) ?_
    have h3 : ¬ 9000 < M 8 12 := Int32.not_lt.mpr h2
    refine ⟨?_, ?_⟩
    · unfold pSunset; rw [if_neg h, if_neg h3, paidF_notes]
    · unfold gSunset; rw [if_neg h, if_neg h3, ed, setsNow_notes]
  · have h3 : 9000 < M 8 12 := Int32.not_le.mp h2
    exact ⟨by unfold pSunset; rw [if_neg h, if_pos h3], by unfold gSunset; rw [if_neg h, if_pos h3]⟩
end M5
