/-! reading, the class: a row, an end -/
theorem rwU_st {T : Nat → Int32} {t : Nat} {q : zCur} {p : Nat × Nat} {j : Nat} (h : rwU T t j q = .inr p) : ∀ k, rwU T t (j + k) q = .inr p
  | 0 => h
  | k + 1 => by
    rw [show j + (k + 1) = (j + k) + 1 by omega, rwU, rwU_st h k]
    rfl
section T3
variable {d : Nat} {S : zS} {T : Nat → Int32} {t : Nat}
theorem skF_300 {b : Nat} (ht : t ≤ 230) (hb : b ≤ 300) : skF T t b ≤ 300 := by
  by_cases z : b ≤ t
  · have := (skF_r (T := T) z).2; omega
  · rw [skF_f (T := T) (t := t) (a := b) (by unfold lkF; rw [if_neg (by omega)]; decide)]; exact hb
theorem cP_in {a a' : Nat} {nx na : Int32} : cP S (.inl a) nx na = cP S (.inl a') nx na := rfl
theorem c_readEnd {q : zCur} {b : Nat} {na : Int32} (hT : eqT t (S 2) T) (ht : t ≤ 230) (h1 : S 1 1 = nI t) (hq : okQ t q) (hb : b ≤ 300) (hc : cOk q b) : zRuns gTe_readEnd (d + 2) [.ref 1] (encC (cP S q (nI b) na)) (fun v σ' => v = none ∧ ∃ b', σ' = encC (cP S (wdQ T t 59 q) (nI b') na) ∧ b' ≤ 301 ∧ cOk (wdQ T t 59 q) b') := by
  have hs := skF_300 (T := T) ht hb
  refine m_Te_readEnd [] rfl (Nat.le_of_ble_eq_true rfl) ?_
  refine z_call (c_skipBlanks (q := q) (na := na) hT ht h1 (by omega)) ?_
  refine z_call (c_here (q := q) (na := na) hT ht h1 (by omega)) ?_
  refine ⟨fun h => ?_, fun h => ?_⟩
  · refine ⟨rfl, skF T t b + 1, ?_, by omega, ?_⟩
    · rw [← nI_1]
      cases q with
      | inl a =>
        have := hc a rfl
        subst this
        rw [wdQ_i, if_pos h]
        rfl
      | inr p => rfl
    · intro a ha
      cases q with
      | inl a' =>
        have := hc a' rfl
        subst this
        rw [wdQ_i, if_pos h] at ha
        cases ha; rfl
      | inr p => cases ha
  · refine z_call (c_mark (c := 1) (s := skF T t b) (nx := nI (skF T t b)) (na := na) hq) ?_
    refine ⟨rfl, skF T t b + 1, ?_, by omega, ?_⟩
    · rw [← nI_1]
      cases q with
      | inl a =>
        have := hc a rfl
        subst this
        rw [wdQ_i, if_neg h]
        rfl
      | inr p => rfl
    · intro a ha
      cases q with
      | inl a' =>
        have := hc a' rfl
        subst this
        rw [wdQ_i, if_neg h] at ha
        cases ha
      | inr p => cases ha
theorem c_readRow {q : zCur} {b m : Nat} {na : Int32} (hT : eqT t (S 2) T) (ht : t ≤ 230) (h1 : S 1 1 = nI t) (hq : okQ t q) (hb : b ≤ 300) (hc : cOk q b) (hm : m < 7) : zRuns gTe_readRow (d + 2) [.ref 1, .ref 3, .int (nI m)] (encC (cP S q (nI b) na)) (fun v σ' => v = none ∧ ∃ F b', σ' = encC (cP (zUr S 7 F) (rwU T t 6 (skQ T t q)) (nI b') na) ∧ b' ≤ 300 ∧ cOk (rwU T t 6 (skQ T t q)) b' ∧ (∀ j, j < 6 * m → F j = S 7 j) ∧ ((∃ e, rwU T t 6 (skQ T t q) = .inl e) → ∀ h, h < 6 → F (6 * m + h) = rwV (lkF T t (qn (skQ T t q) + h)))) := by
  have hs := skF_300 (T := T) ht hb
  have k5 : okQ t (skQ T t q) := skQ_ok hq
  refine m_Te_readRow [6] rfl (Nat.le_of_ble_eq_true rfl) ?_
  have sk : zRuns gTe_skipBlanks (d + 1) [.ref 1] (encC (cP S q (nI b) na)) (fun v σ' => v = none ∧ σ' = encC (cP S (skQ T t q) (nI (skF T t b)) na)) := by
    have := c_skipBlanks (d := d) (q := q) (na := na) hT ht h1 (show b ≤ 1000 by omega)
    cases q with
    | inl a => exact this
    | inr p => exact this
  have hc5 : cOk (skQ T t q) (skF T t b) := by
    intro a ha
    cases q with
    | inl a' =>
      have := hc a' rfl
      subst this
      cases ha; rfl
    | inr p => cases ha
  refine z_call sk ?_
  generalize skQ T t q = q5 at k5 hc5
  generalize skF T t b = s at hs hc5
  refine ⟨trivial, ?_⟩
  refine z_up (P := fun j => ∀ F c i u, i = nI j → c ≤ 300 → cOk (rwU T t j q5) c → (∀ x, x < 6 * m → F x = S 7 x) → ((∃ e, rwU T t j q5 = .inl e) → ∀ h, h < j → F (6 * m + h) = rwV (lkF T t (qn q5 + h))) → zGood gTe_readRow (d + 2) (fun v σ' => v = none ∧ ∃ F b', σ' = encC (cP (zUr S 7 F) (rwU T t 6 q5) (nI b') na) ∧ b' ≤ 300 ∧ cOk (rwU T t 6 q5) b' ∧ (∀ j, j < 6 * m → F j = S 7 j) ∧ ((∃ e, rwU T t 6 q5 = .inl e) → ∀ h, h < 6 → F (6 * m + h) = rwV (lkF T t (qn q5 + h)))) 6 [some (.ref 1), some (.ref 3), some (.int (nI m)), some (.int i), u] [] (encC (cP (zUr S 7 F) (rwU T t j q5) (nI c) na)) 0 0) 6 (fun j hj ih F c i u hi hc3 hcc hF hV => ?_) 0 (Nat.zero_le _) (S 7) s 0 none nI_0.symm hs hc5 (fun _ _ => rfl) (fun _ h hh => absurd hh (by omega))
  subst hi
  have kj : okQ t (rwU T t j q5) := rwU_ok k5 j
  refine w_Te_readRow [6] ?_
  refine z_le (a := 6) (b := j) rfl rfl (by decide) (by omega) (fun h => ?_) (fun h => ?_)
  · have : j = 6 := by omega
    subst this
    exact ⟨rfl, F, c, rfl, hc3, hcc, hF, hV⟩
  refine z_call (c_here (S := zUr S 7 F) (q := rwU T t j q5) (na := na) hT ht h1 (show c ≤ 1000 by omega)) ?_
  have st := fun p (hp : rwU T t j q5 = .inr p) => by
    have := rwU_st hp (6 - j)
    rw [show j + (6 - j) = 6 by omega] at this
    exact this
  have good : isR (lkF T t c) = true → ∀ v, v = rwV (lkF T t c) → ∀ u, zGood gTe_readRow (d + 2) (fun v σ' => v = none ∧ ∃ F b', σ' = encC (cP (zUr S 7 F) (rwU T t 6 q5) (nI b') na) ∧ b' ≤ 300 ∧ cOk (rwU T t 6 q5) b' ∧ (∀ j, j < 6 * m → F j = S 7 j) ∧ ((∃ e, rwU T t 6 q5 = .inl e) → ∀ h, h < 6 → F (6 * m + h) = rwV (lkF T t (qn q5 + h)))) 6 [some (.ref 1), some (.ref 3), some (.int (nI m)), some (.int (nI j + 1)), u] [] (encC (cP (zUr S 7 (upd F (6 * m + j) v)) (rwU T t j q5) (nI c + 1) na)) 0 0 := by
    intro hR v hv u
    have hct : c < t := lk_lt (T := T) (by intro z; rw [z] at hR; exact absurd hR (by decide))
    have er : ∀ F', encC (cP (zUr S 7 F') (rwU T t j q5) (nI c + 1) na) = encC (cP (zUr S 7 F') (rwU T t (j + 1) q5) (nI (c + 1)) na) := by
      intro F'
      rw [nI_1, rwU]
      cases hq : rwU T t j q5 with
      | inr p => rfl
      | inl a =>
        have := hcc a hq
        subst this
        rw [rwQ_i, if_pos hR]
        rfl
    rw [er]
    refine ih h _ _ _ u (nI_1 j) (by omega) ?_ (fun x hx => by rw [upd_n (by omega)]; exact hF x hx) ?_
    · intro a ha
      obtain ⟨a', h1, h2, -⟩ := rwQ_good (q := rwU T t j q5) ha
      have := hcc a' h1
      omega
    · rintro ⟨e, he⟩ h' hh'
      obtain ⟨a', g1, g2, -⟩ := rwQ_good (q := rwU T t j q5) he
      obtain ⟨a5, f1, f2, -⟩ := rwU_good j a' g1
      have := hcc a' g1
      by_cases z : h' = j
      · subst z
        rw [upd_s, hv, f1, show c = a5 + h' by omega]
        rfl
      · rw [upd_n (by omega)]
        exact hV ⟨a', g1⟩ h' (by omega)
  have put : ∀ v, zRuns gB_put (d + 1) [.ref 7, .int (nI m * 6 + nI j), .int v] (encC (cP (zUr S 7 F) (rwU T t j q5) (nI c) na)) (fun v' σ' => v' = none ∧ σ' = encC (cP (zUr S 7 (upd F (6 * m + j) v)) (rwU T t j q5) (nI c) na)) := fun v => c_put (n := 42) (f := F) (j := 6 * m + j) rfl (by decide) (by rw [Nat.mul_comm 6 m]; exact z_ad (z_mu rfl q6) rfl) (by omega)
  refine ⟨fun h2 => ?_, fun h2 => ?_⟩
  · have hR : isR (lkF T t c) = true := by unfold isR; rw [h2]; rfl
    refine ⟨fun h3 => ?_, fun h3 => absurd h2 h3⟩
    refine z_call (put (-1)) ?_
    exact ⟨trivial, good hR (-1) (by unfold rwV; rw [if_pos h2]) _⟩
  · refine z_call c_isWithin ?_
    refine z_b (fun h3 => ?_) (fun h3 => ?_)
    · have hR : isR (lkF T t c) = false := by unfold isR; rw [h3, decide_eq_false h2]; rfl
      refine z_call (c_mark (c := 1) (s := c) (nx := nI c) (na := na) (S := zUr S 7 F) kj) ?_
      have em : mkQ 1 c (rwU T t j q5) = rwU T t 6 q5 := by
        cases hq : rwU T t j q5 with
        | inr p => exact (st p hq).symm
        | inl a =>
          have := hcc a hq
          subst this
          have h7 : rwU T t (j + 1) q5 = .inr (1, a) := by rw [rwU, hq, rwQ_i, if_neg (by rw [hR]; decide)]
          have := rwU_st h7 (6 - (j + 1))
          rw [show j + 1 + (6 - (j + 1)) = 6 by omega] at this
          exact this.symm
      rw [em]
      refine ⟨rfl, F, c, rfl, hc3, ?_, hF, ?_⟩
      · rw [← em]
        intro a ha
        cases hq : rwU T t j q5 with
        | inr p => rw [hq] at ha; cases ha
        | inl a' => rw [hq] at ha; cases ha
      · rw [← em]
        rintro ⟨a, ha⟩
        cases hq : rwU T t j q5 with
        | inr p => rw [hq] at ha; cases ha
        | inl a' => rw [hq] at ha; cases ha
    · have hR : isR (lkF T t c) = true := by unfold isR; rw [h3]; rfl
      refine ⟨fun h4 => absurd h4 h2, fun h4 => ?_⟩
      refine z_call (put (lkF T t c - 97)) ?_
      exact ⟨trivial, good hR _ (by unfold rwV; rw [if_neg h2]) _⟩
end T3
