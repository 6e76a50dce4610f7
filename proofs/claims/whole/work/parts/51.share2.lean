/-! shared, the reference: costs, canBe, counts -/
def opP (M : zS) (x s : Nat) : Bool := decide (s = 0) || decide (onesU (nI s) 7 = M 4 (6 * x + 4))
def opL (M : zS) (n x : Nat) : List Nat := (List.range (2 ^ n)).filter (opP M x)
def prF (M : zS) (n x s : Nat) : Nat := if s = 0 then (M 0 5).toNatClampNeg * (M 4 (6 * x + 4)).toNatClampNeg else (rateU M s n).toNatClampNeg
def cntU (s : Nat → Nat) (m : Nat) : Nat → Nat
  | 0 => 0
  | x + 1 => cntU s m x + if hasB (nI (s x)) (nI m) = true then 1 else 0
def okm (M : zS) (W : Nat → Nat) (s : Nat → Nat) (m x : Nat) : Bool := !hasB (nI (s x)) (nI m) || (fitsB M m x (nI (min 9 (W m + cntU s m x))) && allU (fun y => !(hasB (nI (s y)) (nI m) && farB M x y)) x)
def okS (M : zS) (n : Nat) (W : Nat → Nat) (s : Nat → Nat) (x : Nat) : Bool := allU (fun m => okm M W s m x) n
def w0I (M : zS) (k m : Nat) : Int32 := if M 8 m - onesU (blamesF M k m) 7 ≤ 0 then 0 else M 8 m - onesU (blamesF M k m) 7
def encS (M : zS) (k : Nat) (s : Nat → Nat) : Prop := ∀ x, x < k → ∃ p, p < 23 ∧ M 17 x = nI p ∧ M 15 (23 * x + p) = nI (s x) ∧ s x < 128
theorem allU_f {p : Nat → Bool} {n : Nat} : ∀ {x : Nat}, allU p x = false → x ≤ n → allU p n = false := by
  intro x h hx
  cases h2 : allU p n with
  | false => rfl
  | true =>
    have : allU p x = true := allU_i (fun j hj => allU_t h2 j (by omega))
    rw [this] at h; cases h
theorem allU_sw {p : Nat → Nat → Bool} {n k : Nat} : allU (fun m => allU (fun x => p m x) k) n = allU (fun x => allU (fun m => p m x) n) k := by
  cases h : allU (fun x => allU (fun m => p m x) n) k with
  | true => exact allU_i (fun m hm => allU_i (fun x hx => allU_t (allU_t h x hx) m hm))
  | false =>
    cases h2 : allU (fun m => allU (fun x => p m x) k) n with
    | false => rfl
    | true =>
      have : allU (fun x => allU (fun m => p m x) n) k = true := allU_i (fun x hx => allU_i (fun m hm => allU_t (allU_t h2 m hm) x hx))
      rw [this] at h; cases h
theorem has_0 {m : Nat} (hm : m < 7) : hasB (nI 0) (nI m) = false := by
  have : ∀ m, m < 7 → hasB (nI 0) (nI m) = false := by decide +kernel
  exact this m hm
section S1
variable {d : Nat} {M : zS} {n k : Nat}
theorem rate_0 : ∀ m, m ≤ 7 → rateU M 0 m = 0
  | 0, _ => rfl
  | m + 1, h => by rw [rateU, rate_0 m (by omega), has_0 (by omega)]; rfl
theorem prF_n (I : okM M n k) (Y : okY M) {x s : Nat} (hx : x < k) (hs : s < 128) : (if nI s = 0 then M 0 5 * M 4 (6 * x + 4) else 0) + rateU M s n = nI (prF M n x s) ∧ prF M n x s ≤ 1000 := by
  have h7 := I.1
  obtain ⟨y, hy, ey⟩ := Y
  obtain ⟨z, hz1, hz2, ez⟩ := (I.2.2.2.2.2.2 x hx).2.2.2.2.1
  unfold prF
  by_cases h0 : s = 0
  · subst h0
    rw [if_pos nI_0, if_pos rfl, rate_0 n h7, ey, ez, nI_clamp (by omega), nI_clamp (by omega), pk_mul]
    have : y * z ≤ 500 * 2 := Nat.mul_le_mul hy hz2
    exact ⟨by rw [q0, nI_add, Nat.add_zero], by omega⟩
  · obtain ⟨r, hr, er⟩ := rateU_n I s n (Nat.le_refl n)
    rw [if_neg (nI_ne0 (by omega) (by omega)), if_neg h0, er, nI_clamp (by omega)]
    exact ⟨by rw [q0, nI_add, Nat.zero_add], by omega⟩
theorem costU_le (I : okM M n k) (Y : okY M) {s : Nat → Nat} (hs : ∀ x, x < k → s x < 128) : ∀ x, x ≤ k → costU (prF M n) s x ≤ 1000 * x
  | 0, _ => Nat.le_refl 0
  | x + 1, h => by
    have := costU_le I Y hs x (by omega)
    have := (prF_n I Y (show x < k by omega) (hs x (by omega))).2
    rw [costU]
    omega
theorem c_M_costs (I : okM M n k) (Y : okY M) {s : Nat → Nat} (hs : encS M k s) : zRuns gM_costs (d + 1) [.ref 0] (encM M) (fun v σ' => v = some (.int (nI (costU (prF M n) s k))) ∧ σ' = encM M) := by
  have h7 := I.1; have h4 := I.2.1
  refine m_M_costs [4, 59] rfl (Nat.le_of_ble_eq_true rfl) ?_
  refine ⟨trivial, ?_⟩
  refine z_up (P := fun x => ∀ a i u w, a = nI (costU (prF M n) s x) → i = nI x → zGood gM_costs (d + 1) (fun v σ' => v = some (.int (nI (costU (prF M n) s k))) ∧ σ' = encM M) 4 [some (.ref 0), some (.int a), some (.int i), u, w] [] (encM M) 0 0) k (fun x hx ih a i u w ha hi => ?_) 0 (Nat.zero_le _) 0 0 none none rfl nI_0.symm
  subst ha; subst hi
  refine w_M_costs [4, 59] ?_
  refine ⟨fun q => ?_, fun q => ?_⟩
  · have e := z_end I.2.2.2.1 hx (by omega) q
    subst e
    exact ⟨rfl, rfl⟩
  · have hlt := z_go I.2.2.2.1 hx (by omega) q
    obtain ⟨p, hp, ep, es, h128⟩ := hs x hlt
    have pn := (prF_n I Y hlt h128).1
    refine z_ld (k := x) rfl (by omega) (by decide) ?_
    refine z_ld (k := 23 * x + p) (z_ad (z_mu q23 rfl) ep) (by omega) (by decide) ?_
    rw [es]
    have inner : ∀ z, z + rateU M (s x) n = nI (prF M n x (s x)) → zGood gM_costs (d + 1) (fun v σ' => v = some (.int (nI (costU (prF M n) s k))) ∧ σ' = encM M) 59 [some (.ref 0), some (.int (nI (costU (prF M n) s x) + z)), some (.int (nI x)), some (.int (nI (s x))), some (.int 0)] [] (encM M) 0 0 := by
      intro z hz
      refine z_up (P := fun m => ∀ a i, a = nI (costU (prF M n) s x) + z + rateU M (s x) m → i = nI m → zGood gM_costs (d + 1) (fun v σ' => v = some (.int (nI (costU (prF M n) s k))) ∧ σ' = encM M) 59 [some (.ref 0), some (.int a), some (.int (nI x)), some (.int (nI (s x))), some (.int i)] [] (encM M) 0 0) n (fun m hm ihm a i ha hi => ?_) 0 (Nat.zero_le _) _ 0 ?_ nI_0.symm
      · subst ha; subst hi
        refine w_M_costs [4, 59] ?_
        refine ⟨fun q2 => ?_, fun q2 => ?_⟩
        · have e := z_end I.2.2.1 hm (by omega) q2
          subst e
          refine ⟨trivial, ih hlt _ _ _ _ ?_ (nI_1 x)⟩
          rw [Int32.add_assoc, hz, nI_add]; rfl
        · have hlm := z_go I.2.2.1 hm (by omega) q2
          refine z_call c_M_has ?_
          refine z_b (fun h5 => ?_) (fun h5 => ?_)
          · refine ⟨trivial, ihm hlm _ _ ?_ (nI_1 m)⟩
            simp [rateU, h5]
          · refine z_ld (k := 3 * m + 2) (z_ad (z_mu q3 rfl) (show (2 : Int32) = nI 2 from rfl)) (by omega) (by decide) ?_
            refine ⟨trivial, ihm hlm _ _ ?_ (nI_1 m)⟩
            simp [rateU, h5, Int32.add_assoc]
      · show _ = _ + 0
        rw [Int32.add_zero]
    refine ⟨fun h0 => ?_, fun h0 => ?_⟩
    · refine z_ld (k := 6 * x + 4) (z_ad (z_mu q6 rfl) q4) (by omega) (by decide) ?_
      refine ⟨trivial, inner _ ?_⟩
      rw [if_pos h0] at pn
      exact pn
    · refine ⟨trivial, inner 0 ?_⟩
      rw [if_neg h0] at pn
      exact pn
theorem c_M_counts (I : okM M n k) {p c : Nat → Nat} (hp : ∀ x, x < k → M 17 x = nI (p x) ∧ M 16 x = nI (c x) ∧ p x < c x ∧ c x ≤ 22) : zRuns gM_counts d [.ref 0] (encM M) (fun v σ' => ∃ F, σ' = encM (zUr M 17 F) ∧ ((v = some (.int 1) ∧ ∃ x, x < k ∧ p x + 1 < c x ∧ (∀ y, x < y → y < k → p y + 1 = c y) ∧ ∀ y, y < k → F y = nI (nxP k p x y)) ∨ (v = some (.int 0) ∧ ∀ y, y < k → p y + 1 = c y))) := by
  have h4 := I.2.1
  have loop : ∀ j F i, j ≤ k → i = nI j - 1 → (∀ y, y < j → F y = nI (p y)) → (∀ y, j ≤ y → y < k → p y + 1 = c y ∧ F y = 0) → zGood gM_counts d (fun v σ' => ∃ F, σ' = encM (zUr M 17 F) ∧ ((v = some (.int 1) ∧ ∃ x, x < k ∧ p x + 1 < c x ∧ (∀ y, x < y → y < k → p y + 1 = c y) ∧ ∀ y, y < k → F y = nI (nxP k p x y)) ∨ (v = some (.int 0) ∧ ∀ y, y < k → p y + 1 = c y))) 7 [some (.ref 0), some (.int i)] [] (encM (zUr M 17 F)) 0 0 := by
    intro j
    induction j with
    | zero =>
      intro F i _ hi _ h2
      subst hi
      refine w_M_counts [7] ?_
      refine ⟨fun _ => ?_, fun h => absurd (by decide) h⟩
      exact ⟨rfl, F, rfl, Or.inr ⟨rfl, fun y hy => (h2 y (Nat.zero_le y) hy).1⟩⟩
    | succ j ih =>
      intro F i hj hi h1 h2
      rw [nI_pred] at hi
      subst hi
      obtain ⟨p1, c1, pc, c22⟩ := hp j (by omega)
      refine w_M_counts [7] ?_
      refine ⟨fun h => absurd h (nI_pos (by omega)), fun _ => ?_⟩
      refine z_ld (k := j) rfl (by omega) (by decide) ?_
      refine z_st (k := j) rfl (by omega) (by decide) ?_
      rw [show ((encM (zUr M 17 F)).set 17 (Sum.inl (0, 4, Sum.inl (upd (zUr M 17 F 17) j (zUr M 17 F 17 j + 1))))) = encM (zUr M 17 (upd F j (nI (p j + 1)))) from by rw [← nI_1, ← h1 j (by omega)]; rfl]
      refine z_ld (k := j) rfl (by omega) (by decide) ?_
      refine z_ld (k := j) rfl (by omega) (by decide) ?_
      refine z_le (a := c j) (b := p j + 1) c1 upd_s (by omega) (by omega) (fun q => ?_) (fun q => ?_)
      · refine z_st (k := j) rfl (by omega) (by decide) ?_
        refine ⟨trivial, ih (upd (upd F j (nI (p j + 1))) j 0) _ (by omega) (by rw [Int32.sub_eq_add_neg]) (fun y hy => ?_) (fun y hy hk => ?_)⟩
        · rw [upd_n (by omega), upd_n (by omega)]; exact h1 y (by omega)
        · by_cases z : y = j
          · subst z; exact ⟨by omega, upd_s⟩
          · rw [upd_n z, upd_n z]; exact h2 y (by omega) hk
      · refine ⟨rfl, upd F j (nI (p j + 1)), rfl, Or.inl ⟨rfl, j, by omega, q, fun y h3 h4 => (h2 y (by omega) h4).1, fun y hy => ?_⟩⟩
        unfold nxP
        by_cases z : y = j
        · subst z; rw [upd_s, if_pos rfl]
        · rw [upd_n z, if_neg z]
          by_cases w : j < y ∧ y < k
          · rw [if_pos w, (h2 y (by omega) hy).2]; rfl
          · rw [if_neg w]; exact h1 y (by omega)
  refine m_M_counts [7] rfl (Nat.le_of_ble_eq_true rfl) ?_
  refine ⟨trivial, loop k (M 17) _ (Nat.le_refl k) (by rw [← I.2.2.2.1]) (fun y hy => (hp y hy).1) (fun y h1 h2 => absurd h2 (by omega))⟩
end S1
