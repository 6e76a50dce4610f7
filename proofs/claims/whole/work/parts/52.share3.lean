/-! shared, the reference: canBe -/
def canF (M : zS) (n k : Nat) (W : Nat → Nat) (s : Nat → Nat) : Bool := allU (fun m => allU (fun x => okm M W s m x) k) n
theorem canF_ok {M : zS} {n k : Nat} {W : Nat → Nat} {s : Nat → Nat} : canF M n k W s = allU (okS M n W s) k := allU_sw
section S2
variable {d : Nat} {M : zS} {n k : Nat}
theorem c_M_canBe (I : okM M n k) {W s : Nat → Nat} (hW : ∀ m, m < n → w0I M k m = nI (W m) ∧ W m ≤ 9) (hs : encS M k s) : zRuns gM_canBe (d + 3) [.ref 0] (encM M) (fun v σ' => v = some (.int (bI (canF M n k W s))) ∧ σ' = encM M) := by
  have h7 := I.1; have h4 := I.2.1
  refine m_M_canBe [4, 43, 93, 172] rfl (Nat.le_of_ble_eq_true rfl) ?_
  refine ⟨trivial, ?_⟩
  refine z_up (P := fun m => ∀ i b l3 l4 l5, i = nI m → b = bI (allU (fun m => allU (fun x => okm M W s m x) k) m) → zGood gM_canBe (d + 3) (fun v σ' => v = some (.int (bI (canF M n k W s))) ∧ σ' = encM M) 4 [some (.ref 0), some (.int b), some (.int i), l3, l4, l5] [] (encM M) 0 0) n (fun m hm ih i b l3 l4 l5 hi hb => ?_) 0 (Nat.zero_le _) 0 1 none none none nI_0.symm rfl
  subst hi; subst hb
  refine w_M_canBe [4, 43, 93, 172] ?_
  refine ⟨fun q => ?_, fun q => ?_⟩
  · have e := z_end I.2.2.1 hm (by omega) q
    subst e
    exact ⟨by cases allU (fun m => allU (fun x => okm M W s m x) k) m <;> rfl, rfl, rfl⟩
  have hlt := z_go I.2.2.1 hm (by omega) q
  generalize hA : allU (fun m => allU (fun x => okm M W s m x) k) m = A at *
  obtain ⟨w1, w2⟩ := hW m hlt
  have nxt : ∀ b, b = (A && allU (fun x => okm M W s m x) k) → ∀ l3 l4 l5, zGood gM_canBe (d + 3) (fun v σ' => v = some (.int (bI (canF M n k W s))) ∧ σ' = encM M) 172 [some (.ref 0), some (.int (bI b)), some (.int (nI m)), l3, l4, l5] [] (encM M) 0 0 := by
    intro b hb l3 l4 l5
    refine w_M_canBe [4, 43, 93] ?_
    refine ⟨trivial, ih hlt _ _ _ _ _ (nI_1 m) ?_⟩
    rw [allU, hA, hb]
  have inner : ∀ l5, zGood gM_canBe (d + 3) (fun v σ' => v = some (.int (bI (canF M n k W s))) ∧ σ' = encM M) 43 [some (.ref 0), some (.int (bI A)), some (.int (nI m)), some (.int (nI (W m))), some (.int 0), l5] [] (encM M) 0 0 := by
    intro l5
    refine z_up (P := fun x => ∀ i b w l5, i = nI x → b = (A && allU (fun x => okm M W s m x) x) → w = nI (min 9 (W m + cntU s m x)) → zGood gM_canBe (d + 3) (fun v σ' => v = some (.int (bI (canF M n k W s))) ∧ σ' = encM M) 43 [some (.ref 0), some (.int (bI b)), some (.int (nI m)), some (.int w), some (.int i), l5] [] (encM M) 0 0) k (fun x hx ihx i b w l5 hi hb hw => ?_) 0 (Nat.zero_le _) 0 A (nI (W m)) l5 nI_0.symm (by cases A <;> rfl) (by rw [cntU]; congr 1; omega)
    subst hi; subst hw
    refine w_M_canBe [4, 43, 93, 172] ?_
    refine ⟨fun q2 => ?_, fun q2 => ?_⟩
    · have e := z_end I.2.2.2.1 hx (by omega) q2
      subst e
      exact ⟨trivial, nxt b hb _ _ _⟩
    have hlx := z_go I.2.2.2.1 hx (by omega) q2
    refine z_b (fun hbf => ?_) (fun hbt => ?_)
    · refine ⟨trivial, nxt b ?_ _ _ _⟩
      rw [hb] at hbf ⊢
      cases hA2 : A with
      | false => rfl
      | true =>
        rw [hA2] at hbf
        have f : allU (fun x => okm M W s m x) x = false := hbf
        rw [f, allU_f f (Nat.le_of_lt hlx)]
    obtain ⟨p, hp, ep, es, h128⟩ := hs x hlx
    refine z_ld (k := x) rfl (by omega) (by decide) ?_
    refine z_ld (k := 23 * x + p) (z_ad (z_mu q23 rfl) ep) (by omega) (by decide) ?_
    rw [es]
    refine z_call c_M_has ?_
    have step : ∀ b', b' = (A && allU (fun x => okm M W s m x) (x + 1)) → ∀ w l5, w = nI (min 9 (W m + cntU s m (x + 1))) → zGood gM_canBe (d + 3) (fun v σ' => v = some (.int (bI (canF M n k W s))) ∧ σ' = encM M) 43 [some (.ref 0), some (.int (bI b')), some (.int (nI m)), some (.int w), some (.int (nI x + 1)), l5] [] (encM M) 0 0 := fun b' hb' w l5 hw => ihx hlx _ b' w l5 (nI_1 x) hb' hw
    rw [hbt] at hb
    refine z_b (fun h5 => ?_) (fun h5 => ?_)
    · refine ⟨trivial, step b ?_ _ _ ?_⟩
      · rw [hbt, allU]
        have : okm M W s m x = true := by unfold okm; rw [h5]; rfl
        rw [this, Bool.and_true]
        exact hb
      · rw [cntU, h5]; rfl
    · refine z_call (c_M_fits (d := d) I hlt hlx) ?_
      refine ⟨trivial, ?_⟩
      generalize hf : fitsB M m x (nI (min 9 (W m + cntU s m x))) = f at *
      refine z_up (P := fun y => ∀ i b, i = nI y → b = (f && allU (fun y => !(hasB (nI (s y)) (nI m) && farB M x y)) y) → zGood gM_canBe (d + 3) (fun v σ' => v = some (.int (bI (canF M n k W s))) ∧ σ' = encM M) 93 [some (.ref 0), some (.int (bI b)), some (.int (nI m)), some (.int (nI (min 9 (W m + cntU s m x)))), some (.int (nI x)), some (.int i)] [] (encM M) 0 0) x (fun y hy ihy i b' hi hb' => ?_) 0 (Nat.zero_le _) 0 f nI_0.symm (by cases f <;> rfl)
      subst hi
      refine w_M_canBe [4, 43, 93, 172] ?_
      refine z_le (a := x) (b := y) rfl rfl (by omega) (by omega) (fun q3 => ?_) (fun q3 => ?_)
      · have : y = x := by omega
        subst this
        have eb : b' = (A && allU (fun x => okm M W s m x) (y + 1)) := by
          rw [allU, ← Bool.and_assoc, ← hb, Bool.true_and]
          unfold okm
          rw [h5, hf, hb']; rfl
        refine z_le (a := 9) (b := min 9 (W m + cntU s m y)) rfl rfl (by decide) (by omega) (fun q4 => ?_) (fun q4 => ?_)
        · refine ⟨trivial, step b' eb _ _ ?_⟩
          rw [cntU, if_pos h5]
          rw [q0, nI_add]; congr 1; omega
        · refine ⟨trivial, step b' eb _ _ ?_⟩
          rw [cntU, if_pos h5]
          rw [nI_1]; congr 1; omega
      · refine z_b (fun hbf => ?_) (fun hbt' => ?_)
        · refine ⟨trivial, ihy q3 _ false (nI_1 y) ?_⟩
          rw [allU, ← Bool.and_assoc, ← hb', hbf, Bool.false_and]
        · obtain ⟨p', hp', ep', es', h128'⟩ := hs y (by omega)
          refine z_ld (k := y) rfl (by omega) (by decide) ?_
          refine z_ld (k := 23 * y + p') (z_ad (z_mu q23 rfl) ep') (by omega) (by decide) ?_
          rw [es']
          refine z_call c_M_has ?_
          refine z_b (fun h6 => ?_) (fun h6 => ?_)
          · refine ⟨trivial, ihy q3 _ true (nI_1 y) ?_⟩
            rw [allU, ← Bool.and_assoc, ← hb', hbt', h6]; rfl
          · refine z_call (c_M_areFar (d := d + 1) I hlx (show y < k by omega)) ?_
            refine z_b (fun h8 => ?_) (fun h8 => ?_)
            · refine ⟨trivial, ihy q3 _ true (nI_1 y) ?_⟩
              rw [allU, ← Bool.and_assoc, ← hb', hbt', h6, h8]; rfl
            · refine ⟨trivial, ihy q3 _ false (nI_1 y) ?_⟩
              rw [allU, ← Bool.and_assoc, ← hb', hbt', h6, h8]; rfl
  refine z_ld (k := m) (z0a m) (by omega) (by decide) ?_
  refine z_call (c_M_blamesOf (d := d) I) ?_
  refine z_call c_M_ones ?_
  refine ⟨fun h0 => ?_, fun h0 => ?_⟩
  · have : w0I M k m = 0 := if_pos h0
    rw [this] at w1
    refine ⟨trivial, ?_⟩
    rw [← w1] at inner
    exact inner _
  · have : w0I M k m = M 8 m - onesU (blamesF M k m) 7 := if_neg h0
    refine ⟨trivial, ?_⟩
    rw [this] at w1
    rw [← w1] at inner
    exact inner _
end S2
