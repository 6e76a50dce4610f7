/-! the reference, its deeds -/
def cpyF (f g : Nat → Int32) (a b : Nat) : Nat → Int32 := fun j => if b ≤ j ∧ j < b + 55 then f (a + (j - b)) else g j
section M4
variable {d : Nat} {M : zS} {n k : Nat} {σ : List va_E}
theorem c_M_copies {r1 r2 n1 n2 a b : Nat} {f g : Nat → Int32} {ia ib : Int32} (ea : ia = nI a) (eb : ib = nI b) (h1 : σ[r1]? = some (.inl (0, n1, .inl f))) (h2 : σ[r2]? = some (.inl (0, n2, .inl g))) (hne : r1 ≠ r2) (ha : a + 55 ≤ n1) (hb : b + 55 ≤ n2) (hn1 : n1 < 2 ^ 31) (hn2 : n2 < 2 ^ 31) :
    zRuns gM_copies d [.ref r1, .int ia, .ref r2, .int ib] σ (fun v σ' => v = none ∧ σ' = σ.set r2 (.inl (0, n2, .inl (cpyF f g a b)))) := by
  subst ea; subst eb
  refine m_M_copies [3] rfl (Nat.le_of_ble_eq_true rfl) ?_
  refine ⟨trivial, ?_⟩
  have hlen : r2 < σ.length := (List.getElem?_eq_some_iff.mp h2).1
  have loop := z_up (P := fun j => ∀ (x : Int32), x = nI j → zGood gM_copies d (fun v σ' => v = none ∧ σ' = σ.set r2 (.inl (0, n2, .inl (cpyF f g a b)))) 3 [some (.ref r1), some (.int (nI a)), some (.ref r2), some (.int (nI b)), some (.int x)] [] (σ.set r2 (.inl (0, n2, .inl (fun i => if b ≤ i ∧ i < b + j then f (a + (i - b)) else g i)))) 0 0) 55 (fun j hj ih x hx => ?_) 0 (Nat.zero_le _) 0 nI_0.symm
  · have e0 : σ.set r2 (.inl (0, n2, .inl (fun i => if b ≤ i ∧ i < b + 0 then f (a + (i - b)) else g i))) = σ := by
      apply List.ext_getElem?
      intro j
      rw [List.getElem?_set]
      by_cases e : r2 = j
      · subst e
        rw [if_pos rfl, if_pos hlen, h2]
        have : (fun i => if b ≤ i ∧ i < b + 0 then f (a + (i - b)) else g i) = g := funext fun i => if_neg (by omega)
        rw [this]
      · simp [e]
    rw [e0] at loop
    exact loop
  · subst hx
    generalize hσ : σ.set r2 (.inl (0, n2, .inl (fun i => if b ≤ i ∧ i < b + j then f (a + (i - b)) else g i))) = τ
    have e1 : zNth τ r1 = some (.inl (0, n1, .inl f)) := by rw [← hσ, zNth_eq, List.getElem?_set, if_neg (Ne.symm hne)]; exact h1
    have e2 : zNth τ r2 = some (.inl (0, n2, .inl (fun i => if b ≤ i ∧ i < b + j then f (a + (i - b)) else g i))) := by rw [← hσ, zNth_eq, List.getElem?_set, if_pos rfl, if_pos hlen]
    refine w_M_copies [3] ?_
    refine z_le (a := 55) (b := j) rfl rfl (by decide) (by omega) (fun q => ?_) (fun q => ?_)
    · have : j = 55 := by omega
      subst this
      exact ⟨rfl, hσ.symm⟩
    · show zArr τ r1 0 _
      unfold zArr
      rw [e1]
      refine z_ld (z_ad rfl rfl) (by omega) hn1 ?_
      show zArr τ r2 0 _
      unfold zArr
      rw [e2]
      refine z_st (z_ad rfl rfl) (by omega) hn2 ?_
      refine ⟨trivial, ?_⟩
      have h9 := ih q (nI j + 1) (nI_1 j)
      rw [← hσ, List.set_set]
      have e3 : upd (fun i => if b ≤ i ∧ i < b + j then f (a + (i - b)) else g i) (b + j) (f (a + j)) = (fun i => if b ≤ i ∧ i < b + (j + 1) then f (a + (i - b)) else g i) := by
        funext i
        unfold upd
        by_cases e : i = b + j
        · subst e
          rw [if_pos rfl, if_pos (by omega)]
          congr 1
          omega
        · rw [if_neg e]
          show (if b ≤ i ∧ i < b + j then f (a + (i - b)) else g i) = _
          by_cases e2 : b ≤ i ∧ i < b + j
          · rw [if_pos e2, if_pos (by omega)]
          · rw [if_neg e2, if_neg (by omega)]
      rw [e3]
      exact h9
def shfF (f : Nat → Int32) : Nat → Int32 := fun j => if j < 1595 then f (j + 55) else f j
def notesF (M : zS) (de : Nat) : zS := if de = 30 then zU (zUr M 9 (cpyF (M 8) (shfF (M 9)) 0 1595)) 0 20 (nI 30) else zU (zUr M 9 (cpyF (M 8) (M 9) 0 (55 * de))) 0 20 (nI (de + 1))
theorem c_M_notes {de : Nat} (hd : M 0 20 = nI de) (hde : de ≤ 30) : zRuns gM_notes (d + 1) [.ref 0] (encM M) (fun v σ' => v = none ∧ σ' = encM (notesF M de)) := by
  refine m_M_notes [11] rfl (Nat.le_of_ble_eq_true rfl) ?_
  refine z_eq (b := 30) hd q30 (by omega) (by decide) (fun q => ?_) (fun q => ?_)
  · refine ⟨trivial, ?_⟩
    have e0 : M = zUr M 9 (fun j => if j < 0 then M 9 (j + 55) else M 9 j) := by
      funext c
      by_cases e : c = 9
      · subst e; rw [zUr_s]; funext j; simp
      · rw [zUr_k e]
    have loop := z_up (P := fun j => ∀ (x : Int32), x = nI j → zGood gM_notes (d + 1) (fun v σ' => v = none ∧ σ' = encM (notesF M de)) 11 [some (.ref 0), some (.int x)] [] (encM (zUr M 9 (fun i => if i < j then M 9 (i + 55) else M 9 i))) 0 0) 1595 (fun j hj ih x hx => ?_) 0 (Nat.zero_le _) 0 nI_0.symm
    · rw [← e0] at loop
      exact loop
    · subst hx
      refine w_M_notes [11] ?_
      refine z_le (a := 1595) (b := j) rfl rfl (by decide) (by omega) (fun q1 => ?_) (fun q1 => ?_)
      · have : j = 1595 := by omega
        subst this
        have hd2 : M 0 20 - 1 = nI 29 := by rw [hd, q]; decide
        refine z_call (c_M_copies (a := 0) (b := 1595) (r1 := 8) (r2 := 9) q0 (by show (55 : Int32) * (M 0 20 - 1) = _; rw [hd2]; decide) rfl rfl (by decide) (by decide) (by decide) (by decide) (by decide)) ?_
        refine ⟨rfl, ?_⟩
        have hd3 : M 0 20 - 1 + 1 = nI 30 := by rw [hd2]; decide
        unfold notesF
        rw [if_pos q, ← hd3]
        rfl
      · refine z_ld (k := j + 55) (by show nI j + 55 = _; rw [show (55 : Int32) = nI 55 from rfl, nI_add]) (by omega) (by decide) ?_
        refine z_st (k := j) rfl (by omega) (by decide) ?_
        refine ⟨trivial, ?_⟩
        have h9 := ih q1 (nI j + 1) (nI_1 j)
        have e3 : (fun i => if i < j + 1 then M 9 (i + 55) else M 9 i) = upd (fun i => if i < j then M 9 (i + 55) else M 9 i) j ((fun i => if i < j then M 9 (i + 55) else M 9 i) (j + 55)) := by
          funext i
          unfold upd
          by_cases e : i = j
          · subst e; simp; intro z; omega
          · by_cases e2 : i < j
            · simp [e, e2, Nat.lt_succ_of_lt e2]
            · simp [e, e2, show ¬ i < j + 1 by omega]
        rw [e3] at h9
        exact h9
  · refine z_call (c_M_copies (a := 0) (b := 55 * de) (r1 := 8) (r2 := 9) q0 (by show (55 : Int32) * M 0 20 = _; rw [hd]; exact z_mu q55 rfl) rfl rfl (by decide) (by decide) (by omega) (by decide) (by decide)) ?_
    refine ⟨rfl, ?_⟩
    unfold notesF
    rw [if_neg q, ← nI_1, ← hd]
    rfl
def pFeed (M : zS) (l : Int32) : Int32 := if ¬ (0 ≤ l ∧ l ≤ 255) then kOUT else if M 0 1 = 230 then kFUL else M 0 1 + 1
def gFeed (M : zS) (l : Int32) : zS := if ¬ (0 ≤ l ∧ l ≤ 255) then M else if M 0 1 = 230 then M else zU (zU M 1 (M 0 1).toNatClampNeg l) 0 1 (M 0 1 + 1)
theorem c_M_feed {l : Int32} {t : Nat} (ht : t ≤ 230) (h : M 0 1 = nI t) : zRuns gM_feed (d + 1) [.ref 0, .int l] (encM M) (fun v σ' => v = some (.int (pFeed M l)) ∧ σ' = encM (gFeed M l)) := by
  refine m_M_feed [] rfl (Nat.le_of_ble_eq_true rfl) ?_
  refine z_call c_M_in ?_
  refine z_dec (fun h2 => ?_) (fun h2 => ?_)
  · exact ⟨by unfold pFeed; rw [if_pos h2], by unfold gFeed; rw [if_pos h2]⟩
  refine ⟨fun h3 => ?_, fun h3 => ?_⟩
  · exact ⟨by unfold pFeed; rw [if_neg (fun z => z h2), if_pos h3], by unfold gFeed; rw [if_neg (fun z => z h2), if_pos h3]⟩
  have hlt : t < 230 := by
    have : t ≠ 230 := fun z => h3 (by rw [h, z]; rfl)
    omega
  refine z_st h hlt (by decide) ?_
  refine ⟨by unfold pFeed; rw [if_neg (fun z => z h2), if_neg h3], ?_⟩
  unfold gFeed
  rw [if_neg (fun z => z h2), if_neg h3, h, nI_clamp (by omega), ← h]
  rfl
def blamesNow (M : zS) (m x : Nat) : Nat → Int32 := upd (upd (upd (M 8) (7 + x) (M 8 (7 + x) ||| (1 <<< (nI m &&& 31)))) m (M 8 m + (if M 8 m < 9 then 1 else 0))) 11 (M 8 11 + M 2 (3 * m + 2))
theorem c_M_blames {m x : Nat} (hm : m < 7) (hx : x < 4) : zRuns gM_blames d [.ref 0, .int (nI m), .int (nI x)] (encM M) (fun v σ' => v = none ∧ σ' = encM (zUr M 8 (blamesNow M m x))) := by
  have e1 : ∀ v, upd (M 8) (7 + x) v m = M 8 m := fun v => upd_n (by omega)
  have e2 : ∀ v w, upd (upd (M 8) (7 + x) v) m w 11 = M 8 11 := fun v w => by rw [upd_n (by omega), upd_n (by omega)]
  refine m_M_blames [] rfl (Nat.le_of_ble_eq_true rfl) ?_
  refine z_ld (z_ad q7 rfl) (by omega) (by decide) ?_
  refine z_st (z_ad q7 rfl) (by omega) (by decide) ?_
  refine z_ld (z0a m) (by omega) (by decide) ?_
  refine z_ld (z0a m) (by omega) (by decide) ?_
  rw [e1]
  refine ⟨fun h => ?_, fun h => ?_⟩
  · refine z_st (z0a m) (by omega) (by decide) ?_
    refine z_ld (k := 11) q11 (by decide) (by decide) ?_
    refine z_ld (z_ad (z_mu q3 rfl) q2) (by omega) (by decide) ?_
    refine z_st (k := 11) q11 (by decide) (by decide) ?_
    rw [e2]
    refine ⟨rfl, ?_⟩
    unfold blamesNow
    rw [if_neg (fun z => Int32.lt_irrefl (Int32.lt_of_lt_of_le z h))]
    rfl
  · refine z_st (z0a m) (by omega) (by decide) ?_
    refine z_ld (k := 11) q11 (by decide) (by decide) ?_
    refine z_ld (z_ad (z_mu q3 rfl) q2) (by omega) (by decide) ?_
    refine z_st (k := 11) q11 (by decide) (by decide) ?_
    rw [e2]
    refine ⟨rfl, ?_⟩
    unfold blamesNow
    rw [if_pos (Int32.not_le.mp h)]
    rfl
end M4
