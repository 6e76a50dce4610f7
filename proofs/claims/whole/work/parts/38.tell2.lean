/-! reading, the class: a number -/
def vcU (T : Nat → Int32) (s : Nat) : Nat → Int32
  | 0 => 0
  | j + 1 => if (10000000 : Int32) < vcU T s j * 10 + T (s + j) - 48 then 10000000 else vcU T s j * 10 + T (s + j) - 48
theorem isD_n {x : Int32} (h : isD x = true) : ∃ c, 48 ≤ c ∧ c ≤ 57 ∧ x = nI c := by
  obtain ⟨h1, h2⟩ := of_decide_eq_true h
  obtain ⟨j, hj, e⟩ := z_rng (x := x) (N := 57) (by decide) ⟨Int32.le_trans (by decide) h1, h2⟩
  refine ⟨j, ?_, hj, e⟩
  rw [e] at h1
  exact Nat.not_lt.mp fun z => nI_ge (a := j) (b := 48) z (by decide) h1
theorem vc_val {T : Nat → Int32} {t s : Nat} : ∀ j, j ≤ 3 → (∀ i, i < j → isD (lkF T t (s + i)) = true) → ∃ w, w < 10 ^ j ∧ valU T s j = nI w ∧ vcU T s j = nI w
  | 0, _, _ => ⟨0, by decide, rfl, rfl⟩
  | j + 1, hj, hd => by
    obtain ⟨w, hw, e1, e2⟩ := vc_val j (by omega) (fun i hi => hd i (by omega))
    have hj' := hd j (by omega)
    have hl : s + j < t := lk_lt (T := T) (by intro z; rw [z] at hj'; exact absurd hj' (by decide))
    have el : lkF T t (s + j) = T (s + j) := if_pos hl
    rw [el] at hj'
    obtain ⟨c, c1, c2, ec⟩ := isD_n hj'
    have hp : 10 ^ j ≤ 100 := Nat.pow_le_pow_right (n := 10) (i := j) (j := 2) (by decide) (by omega)
    have hp2 : 10 ^ (j + 1) = 10 * 10 ^ j := by rw [Nat.pow_succ, Nat.mul_comm]
    refine ⟨10 * w + c - 48, by omega, ?_, ?_⟩
    · rw [valU, if_pos (by omega), e1, ec, q10, pk_mul, nI_add, show (48 : Int32) = nI 48 from rfl, pk_sub (by omega)]
    · have e3 : vcU T s j * 10 + T (s + j) - 48 = nI (10 * w + c - 48) := by
        rw [e2, ec, q10, pk_mul, nI_add, show (48 : Int32) = nI 48 from rfl, pk_sub (by omega), Nat.mul_comm]
      rw [vcU, e3]
      exact if_neg (nI_nlt (a := 10000000) (b := 10 * w + c - 48) (by omega) (by omega))
def rnQ (S : zS) (T : Nat → Int32) (t : Nat) (lo hi : Int32) (q : zCur) (s : Nat) (v : Option Value) (σ' : List va_E) : Prop := ∃ x b', v = some (.int x) ∧ σ' = encC (cP S (nmQ T t lo hi q) (nI b') (nI s)) ∧ b' ≤ 300 ∧ cOk (nmQ T t lo hi q) b' ∧ ((∃ e, nmQ T t lo hi q = .inl e) → x = nmV T t q)
theorem nmQ_bad {T : Nat → Int32} {t b : Nat} {lo hi x : Int32} {p : Nat × Nat} : cOk (nmQ T t lo hi (.inr p)) b ∧ ((∃ e, nmQ T t lo hi (.inr p) = .inl e) → x = nmV T t (.inr p)) := by
  refine ⟨fun a h => ?_, ?_⟩
  · have h' : (Sum.inr p : zCur) = .inl a := h
    cases h'
  · rintro ⟨a, h⟩
    have h' : (Sum.inr p : zCur) = .inl a := h
    cases h'
section T2
variable {d : Nat} {S : zS} {T : Nat → Int32} {t : Nat}
theorem c_readNumber {q : zCur} {b : Nat} {na lo hi : Int32} (hT : eqT t (S 2) T) (ht : t ≤ 230) (h1 : S 1 1 = nI t) (hq : okQ t q) (hb : b ≤ 300) (hc : cOk q b) : zRuns gTe_readNumber (d + 2) [.ref 1, .int lo, .int hi] (encC (cP S q (nI b) na)) (rnQ S T t lo hi q (skF T t b)) := by
  have hs : skF T t b ≤ 300 := by
    by_cases z : b ≤ t
    · have := (skF_r (T := T) z).2; omega
    · rw [skF_f (T := T) (t := t) (a := b) (by unfold lkF; rw [if_neg (by omega)]; decide)]; exact hb
  refine m_Te_readNumber [14, 70] rfl (Nat.le_of_ble_eq_true rfl) ?_
  refine z_call (c_skipBlanks (q := q) (na := na) hT ht h1 (by omega)) ?_
  have hqs : ∀ a, q = .inl a → nmQ T t lo hi q = (if isD (lkF T t (skF T t b)) = false then .inr (1, skF T t b) else
      if dgF T t (skF T t b) - skF T t b ≤ 3 ∧ (lo ≤ valU T (skF T t b) (dgF T t (skF T t b) - skF T t b) ∧ valU T (skF T t b) (dgF T t (skF T t b) - skF T t b) ≤ hi) then .inl (dgF T t (skF T t b)) else .inr (2, skF T t b)) ∧ nmV T t q = valU T (skF T t b) (dgF T t (skF T t b) - skF T t b) := by
    intro a ha
    have := hc a ha
    subst this
    subst ha
    exact ⟨nmQ_i, nmV_i⟩
  generalize skF T t b = s at hs hqs
  have fin : ∀ c, c ≤ 300 → s ≤ c → dgF T t s = c → (∀ i, i < c - s → isD (lkF T t (s + i)) = true) → isD (lkF T t c) = false → zGood gTe_readNumber (d + 2) (rnQ S T t lo hi q s) 70 [some (.ref 1), some (.int lo), some (.int hi), some (.int (vcU T s (c - s)))] [] (encC (cP S q (nI c) (nI s))) 0 0 := by
    intro c hc3 hsc hdg hD hE
    rw [hdg] at hqs
    refine w_Te_readNumber [14, 70] ?_
    refine z_eq (a := c) (b := s) rfl rfl (by omega) (by omega) (fun h => ?_) (fun h => ?_)
    · subst h
      refine z_call (c_mark (c := 1) (s := c) hq) ?_
      cases q with
      | inl a =>
        have e := (hqs a rfl).1
        rw [if_pos hE] at e
        refine ⟨_, c, rfl, ?_, hc3, ?_, ?_⟩
        · rw [e]; rfl
        · rw [e]; intro a h; cases h
        · rw [e]; rintro ⟨a, h⟩; cases h
      | inr p => exact ⟨_, c, rfl, rfl, hc3, nmQ_bad⟩
    have hS : ¬ isD (lkF T t s) = false := by
      have := hD 0 (by omega)
      rw [Nat.add_zero] at this
      rw [this]; decide
    refine z_lt (x := 3) (y := nI c - nI s) (a := 3) (b := c - s) q3 (pk_sub hsc) (by decide) (by omega) (fun h3 => ?_) (fun h3 => ?_)
    · refine z_call (c_mark (c := 2) (s := s) hq) ?_
      cases q with
      | inl a =>
        have e := (hqs a rfl).1
        rw [if_neg hS, if_neg (fun z => Nat.not_le.mpr h3 z.1)] at e
        refine ⟨_, c, rfl, ?_, hc3, ?_, ?_⟩
        · rw [e]; rfl
        · rw [e]; intro a h; cases h
        · rw [e]; rintro ⟨a, h⟩; cases h
      | inr p => exact ⟨_, c, rfl, rfl, hc3, nmQ_bad⟩
    · obtain ⟨w, -, ew1, ew2⟩ := vc_val (c - s) h3 hD
      rw [ew2]
      rw [ew1] at hqs
      refine z_call c_isWithin ?_
      refine z_dec (fun h4 => ?_) (fun h4 => ?_)
      · refine z_call (c_mark (c := 2) (s := s) hq) ?_
        cases q with
        | inl a =>
          have e := (hqs a rfl).1
          rw [if_neg hS, if_neg (fun z => h4 z.2)] at e
          refine ⟨_, c, rfl, ?_, hc3, ?_, ?_⟩
          · rw [e]; rfl
          · rw [e]; intro a h; cases h
          · rw [e]; rintro ⟨a, h⟩; cases h
        | inr p => exact ⟨_, c, rfl, rfl, hc3, nmQ_bad⟩
      · cases q with
        | inl a =>
          obtain ⟨e, e2⟩ := hqs a rfl
          rw [if_neg hS, if_pos ⟨h3, h4⟩] at e
          refine ⟨_, c, rfl, ?_, hc3, ?_, ?_⟩
          · rw [e]; rfl
          · rw [e]; intro a h; cases h; rfl
          · intro _; rw [e2]
        | inr p => exact ⟨_, c, rfl, rfl, hc3, nmQ_bad⟩
  refine ⟨trivial, ?_⟩
  have key : ∀ f c y, c ≤ 300 → s ≤ c → t - c = f → dgF T t s = dgF T t c → y = vcU T s (c - s) → (∀ i, i < c - s → isD (lkF T t (s + i)) = true) → zGood gTe_readNumber (d + 2) (rnQ S T t lo hi q s) 14 [some (.ref 1), some (.int lo), some (.int hi), some (.int y)] [] (encC (cP S q (nI c) (nI s))) 0 0 := by
    intro f
    induction f with
    | zero =>
      intro c y hc3 hsc hf hdg hy hD
      subst hy
      have hE : isD (lkF T t c) = false := by unfold lkF; rw [if_neg (by omega)]; rfl
      refine w_Te_readNumber [14, 70] ?_
      refine z_le (a := t) (b := c) h1 rfl (by omega) (by omega) (fun h => ?_) (fun h => absurd h (by omega))
      exact ⟨trivial, fin c hc3 hsc (hdg.trans (dgF_f hE)) hD hE⟩
    | succ f ih =>
      intro c y hc3 hsc hf hdg hy hD
      subst hy
      refine w_Te_readNumber [14, 70] ?_
      refine z_le (a := t) (b := c) h1 rfl (by omega) (by omega) (fun h => absurd h (by omega)) (fun h => ?_)
      refine z_call (c_here (q := q) (na := nI s) hT ht h1 (by omega)) ?_
      refine z_call c_isWithin ?_
      refine z_b (fun h2 => ?_) (fun h2 => ?_)
      · have hE : isD (lkF T t c) = false := h2
        exact ⟨trivial, fin c hc3 hsc (hdg.trans (dgF_f hE)) hD hE⟩
      · have hE : isD (lkF T t c) = true := h2
        refine z_call (c_here (q := q) (na := nI s) hT ht h1 (by omega)) ?_
        refine z_call c_min ?_
        have el : lkF T t c = T (s + (c - s)) := by
          unfold lkF
          rw [if_pos h, show s + (c - s) = c by omega]
        refine ⟨trivial, ?_⟩
        have := ih (c + 1) _ (by omega) (by omega) (by omega) (hdg.trans (dgF_t hE)) rfl (fun i hi => by
          by_cases z : i = c - s
          · subst z
            rw [show s + (c - s) = c by omega]
            exact hE
          · exact hD i (by omega))
        rw [show c + 1 - s = (c - s) + 1 by omega, vcU, ← el, ← nI_1] at this
        exact this
  exact key _ s 0 hs (Nat.le_refl s) rfl rfl (by rw [Nat.sub_self]; rfl) (fun i hi => absurd hi (by omega))
end T2
