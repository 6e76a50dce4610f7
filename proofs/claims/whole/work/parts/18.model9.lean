def rateU (M : zS) (set : Nat) : Nat → Int32
  | 0 => 0
  | m + 1 => rateU M set m + (if hasB (nI set) (nI m) then M 2 (3 * m + 2) else 0)
/-- the first and its cost, among the sets 1 .. j: -1, none -/
def chp (p : Nat → Bool) (c : Nat → Int32) : Nat → Int32 × Int32
  | 0 => (-1, 0)
  | j + 1 => if p (j + 1) && (decide ((chp p c j).1 = -1) || decide (c (j + 1) < (chp p c j).2)) then (nI (j + 1), c (j + 1)) else chp p c j
def fillB (M : zS) (n k x set : Nat) : Bool := decide (nI set &&& (mayForF M n k x ^^^ -1) = 0) && decide (onesU (nI set) 7 = freeF M x)
def pCheap (M : zS) (n k : Nat) (x : Int32) : Int32 := if ixB k x = false then kUNK else (chp (fillB M n k x.toNatClampNeg) (fun s => rateU M s n) (2 ^ n - 1)).1
def nrB (M : zS) (m x p : Nat) : Bool := decide (offF (nI p) (M 4 (6 * x)) < 2) && decide (M 0 4 ≤ belF M m x (nI p) (M 8 m))
def nrU (M : zS) (m x : Nat) : Nat → Int32
  | 0 => -1
  | p + 1 => if nrB M m x p && (decide (nrU M m x p = -1) || decide (offF (nI p) (wh M m x) < offF (nrU M m x p) (wh M m x))) then nI p else nrU M m x p
def nrF (M : zS) (m x : Nat) : Int32 := if wh M m x = -1 then -1 else if canB M m x = false then -1 else nrU M m x 6
def pNearer (M : zS) (n k : Nat) (m x w : Int32) : Int32 := if ixB n m = false then kUNK else if ixB k x = false then kUNK else if ¬ (0 ≤ w ∧ w ≤ 1) then kOUT else
  if nrF M m.toNatClampNeg x.toNatClampNeg = -1 then -1 else if w = 1 then nrF M m.toNatClampNeg x.toNatClampNeg else offF (nrF M m.toNatClampNeg x.toNatClampNeg) (wh M m.toNatClampNeg x.toNatClampNeg)
theorem b_shl : ∀ n, n ≤ 7 → (1 : Int32) <<< (nI n &&& 31) = nI (2 ^ n) := by decide +kernel
section M9
variable {d : Nat} {M : zS} {n k : Nat} {σ : List va_E}
theorem c_M_chain (I : okM M n k) {x w : Int32} : zRuns gM_chain (d + 3) [.ref 0, .int x, .int w] (encM M) (fun v σ' => v = some (.int (pChain M k x w)) ∧ σ' = encM M) := by
  have h4 := I.2.1
  refine m_M_chain [39, 81] rfl (Nat.le_of_ble_eq_true rfl) ?_
  refine z_call (c_M_isMishap I) ?_
  refine z_b (fun h => ?_) (fun h => ?_)
  · exact ⟨by simp [pChain, h], rfl⟩
  obtain ⟨i, hi, rfl⟩ := ixB_t (by omega) h
  refine z_call c_M_in ?_
  refine z_dec (fun h2 => ?_) (fun h2 => ?_)
  · exact ⟨by unfold pChain; rw [h, if_neg (by decide), if_pos h2], rfl⟩
  have ei : (nI i).toNatClampNeg = i := nI_clamp (by omega)
  have e0 : pChain M k (nI i) w = if w = 1 then nI (rootU M 4 i) else if w = 0 then nI (chnU M 4 i) else bits (fun y => decide (rootU M 4 y = rootU M 4 i)) k := by
    unfold pChain; rw [h, if_neg (by decide), if_neg (fun z => z h2), ei]
  rw [e0]
  refine ⟨fun h3 => ?_, fun h3 => ?_⟩
  · refine z_call (c_M_root I hi) ?_
    exact ⟨by rw [if_pos h3]; rfl, rfl⟩
  refine ⟨trivial, ?_⟩
  have l2 := z_up (P := fun j => ∀ y a, y = nI j → a = bits (fun y => decide (rootU M 4 y = rootU M 4 i)) j → zGood gM_chain (d + 3) (fun v σ' => v = some (.int (if w = 1 then nI (rootU M 4 i) else if w = 0 then nI (chnU M 4 i) else bits (fun y => decide (rootU M 4 y = rootU M 4 i)) k)) ∧ σ' = encM M) 81 [some (.ref 0), some (.int (nI i)), some (.int w), some (.int (nI (chnU M 4 i))), some (.int a), some (.int y)] [] (encM M) 0 0) k (fun j hj ih y a hy ha => by
    subst hy; subst ha
    refine w_M_chain [81] ?_
    refine ⟨fun q => ?_, fun q => ?_⟩
    · have e := z_end I.2.2.2.1 hj (by omega) q
      subst e
      refine ⟨fun h5 => ?_, fun h5 => ?_⟩
      · exact ⟨by rw [if_neg h3, if_pos h5], rfl⟩
      · exact ⟨by rw [if_neg h3, if_neg h5], rfl⟩
    · have hlt := z_go I.2.2.2.1 hj (by omega) q
      refine z_call (c_M_root I hlt) ?_
      refine z_call (c_M_root I hi) ?_
      have r1 := root_le I 4 j hlt
      have r2 := root_le I 4 i hi
      refine z_eq rfl rfl (by omega) (by omega) (fun h5 => ?_) (fun h5 => ?_)
      · refine ⟨trivial, ih hlt _ _ (nI_1 j) ?_⟩
        exact bits_t (p := fun y => decide (rootU M 4 y = rootU M 4 i)) (by simp [h5])
      · refine ⟨trivial, ih hlt _ _ (nI_1 j) ?_⟩
        exact bits_f (p := fun y => decide (rootU M 4 y = rootU M 4 i)) (by simp [h5])) 0 (Nat.zero_le _) 0 0 nI_0.symm rfl
  have lp : ∀ y, y < k → ∀ a u, a + chnU M 4 y = chnU M 4 i → zGood gM_chain (d + 3) (fun v σ' => v = some (.int (if w = 1 then nI (rootU M 4 i) else if w = 0 then nI (chnU M 4 i) else bits (fun y => decide (rootU M 4 y = rootU M 4 i)) k)) ∧ σ' = encM M) 39 [some (.ref 0), some (.int (nI i)), some (.int w), some (.int (nI a)), some (.int (nI y)), u] [] (encM M) 0 0 := by
    intro y
    induction y using Nat.strongRecOn with
    | _ y ih =>
      intro hy a u hr
      refine w_M_chain [39, 81] ?_
      refine z_ld (z_ad (z_mu q6 rfl) q5) (by omega) (by decide) ?_
      rw [chnU] at hr
      refine ⟨fun h5 => ?_, fun h5 => ?_⟩
      · rw [if_pos h5] at hr
        rw [show a = chnU M 4 i by omega]
        exact ⟨trivial, l2⟩
      · rw [if_neg h5] at hr
        rcases (I.2.2.2.2.2.2 y hy).2.2.2.2.2 with h9 | ⟨p, hp, e⟩
        · exact absurd h9 h5
        · rw [e, nI_clamp (by omega), chn_fuel I p (by omega) 3 4 (by omega) (by omega)] at hr
          refine z_ld (z_ad (z_mu q6 rfl) q5) (by omega) (by decide) ?_
          rw [e]
          have h9 := ih p hp (by omega) (a + 1) u (by omega)
          rw [← nI_1] at h9
          exact ⟨trivial, h9⟩
  exact lp i hi 0 none (by omega)
theorem c_M_alibi (I : okM M n k) {m : Int32} {s : Nat} (hs : M 0 26 = nI s) (hs6 : s ≤ 6) : zRuns gM_alibi (d + 2) [.ref 0, .int m] (encM M) (fun v σ' => v = some (.int (pAlibi M n k m)) ∧ σ' = encM M) := by
  have h7 := I.1; have h4 := I.2.1
  refine m_M_alibi [15, 26] rfl (Nat.le_of_ble_eq_true rfl) ?_
  refine z_call (c_M_isMan I) ?_
  refine z_b (fun h => ?_) (fun h => ?_)
  · exact ⟨by simp [pAlibi, h], rfl⟩
  have es : (M 0 26).toNatClampNeg = s := by rw [hs, nI_clamp (by omega)]
  have e0 : pAlibi M n k m = alU M k m s := by unfold pAlibi; rw [h, if_neg (by decide), es]
  rw [e0]
  refine ⟨trivial, ?_⟩
  refine z_up (P := fun j => ∀ i a u w, i = nI j → a = alU M k m j → zGood gM_alibi (d + 2) (fun v σ' => v = some (.int (alU M k m s)) ∧ σ' = encM M) 15 [some (.ref 0), some (.int m), some (.int a), some (.int i), u, w] [] (encM M) 0 0) s (fun j hj ih i a u w hi ha => ?_) 0 (Nat.zero_le _) 0 0 none none nI_0.symm rfl
  subst hi; subst ha
  refine w_M_alibi [15, 26] ?_
  refine z_le (a := s) (b := j) hs rfl (by omega) (by omega) (fun q => ?_) (fun q => ?_)
  · have : j = s := by omega
    subst this
    exact ⟨rfl, rfl⟩
  refine ⟨trivial, ?_⟩
  refine z_up (P := fun x => ∀ i a w, i = nI x → a = orU (alB M m j) (alU M k m j) x → zGood gM_alibi (d + 2) (fun v σ' => v = some (.int (alU M k m s)) ∧ σ' = encM M) 26 [some (.ref 0), some (.int m), some (.int a), some (.int (nI j)), some (.int i), w] [] (encM M) 0 0) k (fun x hx ihx i a w hi ha => ?_) 0 (Nat.zero_le _) 0 _ w nI_0.symm rfl
  subst hi; subst ha
  refine w_M_alibi [15, 26] ?_
  refine ⟨fun q2 => ?_, fun q2 => ?_⟩
  · have e := z_end I.2.2.2.1 hx (by omega) q2
    subst e
    exact ⟨trivial, ih q _ _ _ _ (nI_1 j) rfl⟩
  · have hlt := z_go I.2.2.2.1 hx (by omega) q2
    refine z_ld (z_mu q3 rfl) (by omega) (by decide) ?_
    refine ⟨fun h5 => ?_, fun h5 => ?_⟩
    · refine z_ld (z_ad (z_mu q3 rfl) (show (2 : Int32) = nI 2 from rfl)) (by omega) (by decide) ?_
      refine z_ld (z_mu q6 rfl) (by omega) (by decide) ?_
      refine z_call c_M_off ?_
      refine z_ld (z_ad (z_mu q3 rfl) q1) (by omega) (by decide) ?_
      refine z_ld (z_ad (z_mu q6 rfl) q1) (by omega) (by decide) ?_
      refine z_call c_M_off ?_
      refine ⟨fun h6 => ?_, fun h6 => ?_⟩
      · refine br_t rfl ?_
        refine ⟨trivial, ihx hlt _ _ _ (nI_1 x) ?_⟩
        exact orU_f (p := alB M m j) (by unfold alB; simp [h5, h6])
      · refine br_f (by decide) ?_
        refine ⟨trivial, ihx hlt _ _ _ (nI_1 x) ?_⟩
        exact orU_t (p := alB M m j) (by unfold alB; simp [h5]; exact Int32.not_le.mp h6)
    · refine br_t rfl ?_
      refine ⟨trivial, ihx hlt _ _ _ (nI_1 x) ?_⟩
      exact orU_f (p := alB M m j) (by unfold alB; simp [h5])
end M9
