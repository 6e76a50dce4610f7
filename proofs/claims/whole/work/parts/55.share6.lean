/-! shared, the class: takes, allTake, give -/
def cntB (p : Nat → Bool) : Nat → Nat
  | 0 => 0
  | x + 1 => cntB p x + if p x = true then 1 else 0
theorem b_bit : ∀ s, s < 128 → ∀ j, j < 7 → (nI s >>> (nI j &&& 31)) &&& 1 = if hasB (nI s) (nI j) = true then 1 else 0 := by decide +kernel
theorem b_and : ∀ a, a < 16 → ∀ b, b < 16 → decide (nI a &&& nI b = 0) = allU (fun y => !(hasB (nI a) (nI y) && hasB (nI b) (nI y))) 4 := by decide +kernel
theorem b_xor : ∀ x, x < 4 → ∀ v, v < 2 ^ x → nI v ^^^ ((1 : Int32) <<< (nI x &&& 31)) = nI v ||| ((1 : Int32) <<< (nI x &&& 31)) ∧ (nI v ||| ((1 : Int32) <<< (nI x &&& 31))) ^^^ ((1 : Int32) <<< (nI x &&& 31)) = nI v := by decide +kernel
theorem ones_cnt {s : Nat} (hs : s < 128) : ∀ j, j ≤ 7 → onesU (nI s) j = nI (cntB (fun y => hasB (nI s) (nI y)) j)
  | 0, _ => rfl
  | j + 1, h => by
    rw [onesU, ones_cnt hs j (by omega), b_bit s hs j (by omega), cntB]
    by_cases z : hasB (nI s) (nI j) = true
    · rw [if_pos z, if_pos z, nI_1]
    · rw [if_neg z, if_neg z, q0, nI_add]
theorem cntB_c {p q : Nat → Bool} : ∀ {x : Nat}, (∀ y, y < x → p y = q y) → cntB p x = cntB q x
  | 0, _ => rfl
  | x + 1, h => by rw [cntB, cntB, cntB_c (fun y hy => h y (by omega)), h x (by omega)]
theorem cntB_t {p : Nat → Bool} {x : Nat} : ∀ d, cntB (fun y => decide (y < x) && p y) (x + d) = cntB p x
  | 0 => cntB_c (fun y hy => by rw [decide_eq_true (show y < x from hy), Bool.true_and])
  | d + 1 => by
    rw [← Nat.add_assoc, cntB, cntB_t d, decide_eq_false (by omega)]; rfl
theorem cntB_le {p : Nat → Bool} : ∀ x, cntB p x ≤ x
  | 0 => Nat.le_refl 0
  | x + 1 => by
    have := cntB_le (p := p) x
    rw [cntB]
    split <;> omega
theorem bits_pop {p : Nat → Bool} {x : Nat} (hx : x ≤ 7) : zPop32 (bits p x) = nI (cntB p x) := by
  obtain ⟨s, hs, es, hb⟩ := bits_n p x hx
  have h7 : 2 ^ x ≤ 128 := Nat.pow_le_pow_right (n := 2) (by decide) hx
  rw [es, b_pop s (by omega), ones_cnt (by omega) 7 (by decide), cntB_c hb]
  obtain ⟨d, hd⟩ : ∃ d, 7 = x + d := ⟨7 - x, by omega⟩
  rw [hd, cntB_t]
theorem bits_and {p q : Nat → Bool} {x k : Nat} (hx : x ≤ k) (hk : k ≤ 4) : decide (bits p x &&& bits q k = 0) = allU (fun y => !(p y && q y)) x := by
  obtain ⟨a, ha, ea, hpa⟩ := bits_n p x (by omega)
  obtain ⟨b, hb, eb, hqb⟩ := bits_n q k (by omega)
  have h1 : 2 ^ x ≤ 16 := Nat.pow_le_pow_right (n := 2) (by decide) (show x ≤ 4 by omega)
  have h2 : 2 ^ k ≤ 16 := Nat.pow_le_pow_right (n := 2) (by decide) hk
  rw [ea, eb, b_and a (by omega) b (by omega)]
  cases h : allU (fun y => !(p y && q y)) x with
  | true =>
    refine allU_i (fun y hy => ?_)
    rw [hpa y (by omega), hqb y (by omega)]
    by_cases z : y < x
    · have := allU_t h y z
      cases hp : p y <;> cases hq : q y <;> simp_all
    · rw [decide_eq_false z]; rfl
  | false =>
    cases h3 : allU (fun y => !(hasB (nI a) (nI y) && hasB (nI b) (nI y))) 4 with
    | false => rfl
    | true =>
      have : allU (fun y => !(p y && q y)) x = true := allU_i (fun y hy => by
        have := allU_t h3 y (by omega)
        rw [hpa y (by omega), hqb y (by omega), decide_eq_true hy, decide_eq_true (show y < k by omega), Bool.true_and, Bool.true_and] at this
        exact this)
      rw [this] at h; cases h
theorem bits_x {p : Nat → Bool} {x : Nat} (hx : x < 4) (h : p x = true) : bits p x ^^^ ((1 : Int32) <<< (nI x &&& 31)) = bits p (x + 1) ∧ bits p (x + 1) ^^^ ((1 : Int32) <<< (nI x &&& 31)) = bits p x := by
  obtain ⟨v, hv, ev, -⟩ := bits_n p x (by omega)
  have e := bits_t h
  rw [← e, ev]
  exact b_xor x hx v hv
theorem cntU_B {s : Nat → Nat} {m : Nat} : ∀ x, cntU s m x = cntB (fun y => hasB (nI (s y)) (nI m)) x
  | 0 => rfl
  | x + 1 => by rw [cntU, cntB, cntU_B x]
section S5
variable {d : Nat} {S M : zS} {n k : Nat}
theorem rel1_fr {S' : zS} (h : ∀ c, 14 ≤ c → c ≤ 26 → S' c = S c) (R : rel1 S M n k) : rel1 S' M n k := by
  obtain ⟨R1, R2, R3, R4, R5⟩ := R
  refine ⟨R1, R2, R3, ?_, ?_⟩
  · unfold relF at R4 ⊢
    rw [h 14 (by decide) (by decide), h 15 (by decide) (by decide), h 16 (by decide) (by decide), h 17 (by decide) (by decide), h 18 (by decide) (by decide), h 19 (by decide) (by decide), h 20 (by decide) (by decide), h 21 (by decide) (by decide), h 22 (by decide) (by decide), h 23 (by decide) (by decide), h 24 (by decide) (by decide)]
    exact R4
  · rw [h 26 (by decide) (by decide)]; exact R5
/-- what a man may still take: by what he has been given -/
def tkB (M : zS) (W c : Nat → Nat) (g : Nat → Int32) (f : Int32) (m x : Nat) : Bool := fitsB M m x (nI (min 9 (W m + c m))) && decide (g m &&& f = 0)
theorem c_Sh_takes (R : rel1 S M n k) {W c : Nat → Nat} {g : Nat → Int32} {f : Int32} {m x : Nat} (hm : m < n) (hx : x < k) (h29 : S 29 m = nI (W m)) (hW : W m ≤ 9) (h36 : S 36 m = g m) (hc : zPop32 (g m) = nI (c m)) (hc4 : c m ≤ 7) (h30 : S 30 (x * 7 + m) = wlF M m x (wh M m x)) (h31 : S 31 x = f) : zRuns gSh_takes (d + 2) [.ref 28, .int (nI m), .int (nI x)] (encC S) (fun v σ' => v = some (.int (bI (tkB M W c g f m x))) ∧ σ' = encC S) := by
  have h7 := R.1.1; have h4 := R.1.2.1
  refine m_Sh_takes [] rfl (Nat.le_of_ble_eq_true rfl) ?_
  refine z_call (c_atv (n := 7) (f := S 36) rfl (by decide) rfl (by omega) h36) ?_
  refine z_call (c_atv (n := 7) (f := S 29) rfl (by decide) rfl (by omega) h29) ?_
  refine z_call c_bitCount ?_
  refine z_call c_min ?_
  rw [hc, nI_add]
  have em : (if nI (W m + c m) < 9 then nI (W m + c m) else 9) = nI (min 9 (W m + c m)) := by
    by_cases z : W m + c m < 9
    · rw [if_pos (show nI (W m + c m) < 9 from (nI_ltI (b := 9) (by omega) (by decide)).mpr z)]; congr 1; omega
    · rw [if_neg (show ¬ nI (W m + c m) < 9 from fun q => z ((nI_ltI (b := 9) (by omega) (by decide)).mp q)), show min 9 (W m + c m) = 9 by omega]; rfl
  rw [em]
  refine z_call (c_atv (n := 28) (f := S 30) rfl (by decide) (z_ad (z_mu rfl q7) rfl) (by omega) h30) ?_
  have wf := wl_fits R hm hx (p := wh M m x) (w := min 9 (W m + c m)) (by omega)
  have wf2 : decide (nI (min 9 (W m + c m)) ≤ wlF M m x (wh M m x)) = fitsB M m x (nI (min 9 (W m + c m))) := wf
  unfold tkB
  rw [← wf2]
  refine ⟨fun h => ?_, fun h => ?_⟩
  · exact ⟨rfl, by rw [decide_eq_false (Int32.not_le.mpr h)]; rfl, rfl⟩
  · rw [decide_eq_true (Int32.not_lt.mp h), Bool.true_and]
    refine z_call (c_atv (n := 4) (f := S 31) rfl (by decide) rfl (by omega) h31) ?_
    refine ⟨fun h2 => ?_, fun h2 => ?_⟩
    · exact ⟨rfl, by rw [decide_eq_true h2]; rfl, rfl⟩
    · exact ⟨rfl, by rw [decide_eq_false h2]; rfl, rfl⟩
/-- the numbers that takes reads -/
def tkI (S M : zS) (n : Nat) (W c : Nat → Nat) (g : Nat → Int32) (f : Int32) (x : Nat) : Prop := (∀ m, m < n → S 29 m = nI (W m) ∧ W m ≤ 9 ∧ S 36 m = g m ∧ zPop32 (g m) = nI (c m) ∧ c m ≤ 7 ∧ S 30 (x * 7 + m) = wlF M m x (wh M m x)) ∧ S 31 x = f
theorem c_Sh_allTake (R : rel1 S M n k) {W c : Nat → Nat} {g : Nat → Int32} {f : Int32} {s x : Nat} (hx : x < k) (I : tkI S M n W c g f x) : zRuns gSh_allTake (d + 3) [.ref 28, .int (nI s), .int (nI x)] (encC S) (fun v σ' => v = some (.int (bI (allU (fun m => !hasB (nI s) (nI m) || tkB M W c g f m x) n))) ∧ σ' = encC S) := by
  have h7 := R.1.1; have h4 := R.1.2.1
  refine m_Sh_allTake [2] rfl (Nat.le_of_ble_eq_true rfl) ?_
  refine ⟨trivial, ?_⟩
  refine z_up (P := fun m => ∀ i, i = nI m → allU (fun m => !hasB (nI s) (nI m) || tkB M W c g f m x) m = true → zGood gSh_allTake (d + 3) (fun v σ' => v = some (.int (bI (allU (fun m => !hasB (nI s) (nI m) || tkB M W c g f m x) n))) ∧ σ' = encC S) 2 [some (.ref 28), some (.int (nI s)), some (.int (nI x)), some (.int i)] [] (encC S) 0 0) n (fun m hm ih i hi ha => ?_) 0 (Nat.zero_le _) 0 nI_0.symm rfl
  subst hi
  refine w_Sh_allTake [2] ?_
  refine ⟨fun q => ?_, fun q => ?_⟩
  · have e := z_end (R_men R) hm (by omega) q
    subst e
    exact ⟨rfl, by rw [ha]; rfl, rfl⟩
  · have hlt := z_go (R_men R) hm (by omega) q
    refine z_call (c_isIn (d := d + 1) rfl (by omega)) ?_
    have eh : decide ((nI s >>> (nI m &&& 31)) &&& 1 = 1) = hasB (nI s) (nI m) := rfl
    rw [eh]
    refine z_b (fun h => ?_) (fun h => ?_)
    · refine ⟨trivial, ih hlt _ (nI_1 m) ?_⟩
      rw [allU, ha, h]; rfl
    · obtain ⟨i1, i2, i3, i4, i5, i6⟩ := I.1 m hlt
      refine z_call (c_Sh_takes (d := d) R hlt hx i1 i2 i3 i4 i5 i6 I.2) ?_
      refine z_b (fun h2 => ?_) (fun h2 => ?_)
      · refine ⟨rfl, ?_, rfl⟩
        have f1 : allU (fun m => !hasB (nI s) (nI m) || tkB M W c g f m x) (m + 1) = false := by rw [allU, h, h2, Bool.not_true, Bool.or_false, Bool.and_false]
        rw [allU_f f1 hlt]; rfl
      · refine ⟨trivial, ih hlt _ (nI_1 m) ?_⟩
        rw [allU, ha, h2, Bool.or_true]; rfl
theorem c_Sh_give (R : rel1 S M n k) {s : Nat} {b : Int32} : zRuns gSh_give (d + 2) [.ref 28, .int (nI s), .int b] (encC S) (fun v σ' => v = none ∧ ∃ F, σ' = encC (zUr S 36 F) ∧ ∀ m, m < n → F m = if hasB (nI s) (nI m) = true then S 36 m ^^^ b else S 36 m) := by
  have h7 := R.1.1
  refine m_Sh_give [2] rfl (Nat.le_of_ble_eq_true rfl) ?_
  refine ⟨trivial, ?_⟩
  refine z_up (P := fun m => ∀ i F, i = nI m → (∀ j, j < m → F j = if hasB (nI s) (nI j) = true then S 36 j ^^^ b else S 36 j) → (∀ j, m ≤ j → j < n → F j = S 36 j) → zGood gSh_give (d + 2) (fun v σ' => v = none ∧ ∃ F, σ' = encC (zUr S 36 F) ∧ ∀ m, m < n → F m = if hasB (nI s) (nI m) = true then S 36 m ^^^ b else S 36 m) 2 [some (.ref 28), some (.int (nI s)), some (.int b), some (.int i)] [] (encC (zUr S 36 F)) 0 0) n (fun m hm ih i F hi h1 h2 => ?_) 0 (Nat.zero_le _) 0 (S 36) nI_0.symm (fun j hj => absurd hj (Nat.not_lt_zero j)) (fun _ _ _ => rfl)
  subst hi
  refine w_Sh_give [2] ?_
  refine ⟨fun q => ?_, fun q => ?_⟩
  · have e := z_end (R_men R) hm (by omega) q
    subst e
    exact ⟨rfl, F, rfl, h1⟩
  · have hlt := z_go (R_men R) hm (by omega) q
    refine z_call (c_isIn (d := d) rfl (by omega)) ?_
    have eh : decide ((nI s >>> (nI m &&& 31)) &&& 1 = 1) = hasB (nI s) (nI m) := rfl
    rw [eh]
    refine z_b (fun h => ?_) (fun h => ?_)
    · refine ⟨trivial, ih hlt _ F (nI_1 m) (fun j hj => ?_) (fun j hj hn => h2 j (by omega) hn)⟩
      by_cases z : j = m
      · subst z; rw [h, if_neg (by decide)]; exact h2 j (Nat.le_refl j) hlt
      · exact h1 j (by omega)
    · refine z_call (c_atv (n := 7) (f := F) rfl (by decide) rfl (by omega) (h2 m (Nat.le_refl m) hlt)) ?_
      refine z_call (σ1 := encC (zUr S 36 (upd F m (S 36 m ^^^ b)))) (c_put (r := 36) (n := 7) (f := F) (j := m) rfl (by decide) rfl (by omega)) ?_
      refine ⟨trivial, ih hlt _ _ (nI_1 m) (fun j hj => ?_) (fun j hj hn => ?_)⟩
      · by_cases z : j = m
        · subst z; rw [upd_s, if_pos h]
        · rw [upd_n z]; exact h1 j (by omega)
      · rw [upd_n (by omega)]; exact h2 j (by omega) hn
end S5
