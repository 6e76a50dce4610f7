/-! shared, the reference: the lists of sets; shared -/
def fillS (M : zS) (n x : Nat) (O C P : Nat → Int32) : Prop := C x = nI (opL M n x).length ∧ P x = 0 ∧ ∀ i, i < (opL M n x).length → O (23 * x + i) = nI ((opL M n x).getD i 0)
section S4
variable {d : Nat} {M : zS} {n k : Nat}
theorem b_shl7 : ∀ n, n ≤ 7 → (1 : Int32) <<< (nI n &&& 31) = nI (2 ^ n) := by decide +kernel
theorem c_M_shares (I : okM M n k) (Y : okY M) {W : Nat → Nat} (hW : ∀ m, m < n → w0I M k m = nI (W m) ∧ W m ≤ 9) : zRuns gM_shares (d + 4) [.ref 0] (encM M) (shQ M n k W) := by
  have h7 := I.1; have h4 := I.2.1
  have hp2 : 2 ^ n ≤ 128 := Nat.pow_le_pow_right (n := 2) (by decide) h7
  refine m_M_shares [2, 26, 104, 143] rfl (Nat.le_of_ble_eq_true rfl) ?_
  refine ⟨trivial, ?_⟩
  refine z_up (P := fun x => ∀ i l2 l3 O C P, i = nI x → (∀ x', x' < x → fillS M n x' O C P) → zGood gM_shares (d + 4) (shQ M n k W) 2 [some (.ref 0), some (.int i), l2, l3] [] (encM (zUr (zUr (zUr M 15 O) 16 C) 17 P)) 0 0) k (fun x hx ih i l2 l3 O C P hi hf => ?_) 0 (Nat.zero_le _) 0 none none (M 15) (M 16) (M 17) nI_0.symm (fun x' hx' => absurd hx' (Nat.not_lt_zero _))
  subst hi
  refine w_M_shares [2, 26, 104, 143] ?_
  refine ⟨fun q => ?_, fun q => ?_⟩
  · have e := z_end I.2.2.2.1 hx (by omega) q
    subst e
    refine ⟨trivial, ?_⟩
    exact shares_main (O := O) (C := C) (F := P) (B := M 18) I Y hW (fun y hy => ⟨(hf y hy).1, (hf y hy).2.2⟩) (fun y hy => (hf y hy).2.1)
  · have hlt := z_go I.2.2.2.1 hx (by omega) q
    refine z_st (k := x) rfl (by omega) (by decide) ?_
    refine z_st (k := x) rfl (by omega) (by decide) ?_
    refine ⟨trivial, ?_⟩
    refine z_up (P := fun s => ∀ i O C P, i = nI s → (∀ x', x' < x → fillS M n x' O C P) → P x = 0 → C x = nI (opN M x s).length → (∀ i, i < (opN M x s).length → O (23 * x + i) = nI ((opN M x s).getD i 0)) → zGood gM_shares (d + 4) (shQ M n k W) 26 [some (.ref 0), some (.int (nI x)), some (.int i), l3] [] (encM (zUr (zUr (zUr M 15 O) 16 C) 17 P)) 0 0) (2 ^ n) (fun s hs ihs i O C P hi hf hP hC hO => ?_) 0 (Nat.zero_le _) 0 O (upd C x 0) (upd P x 0) nI_0.symm (fun x' hx' => ⟨by rw [upd_n (by omega)]; exact (hf x' hx').1, by rw [upd_n (by omega)]; exact (hf x' hx').2.1, (hf x' hx').2.2⟩) upd_s upd_s (fun i hi => absurd hi (Nat.not_lt_zero _))
    subst hi
    have hl := opN_len I hlt (show s ≤ 128 by omega)
    refine w_M_shares [2, 26, 104, 143] ?_
    refine z_le (a := 2 ^ n) (b := s) (by show (1 : Int32) <<< (M 0 6 &&& 31) = _; rw [I.2.2.1]; exact b_shl7 n h7) rfl (by omega) (by omega) (fun q2 => ?_) (fun q2 => ?_)
    · have : s = 2 ^ n := by omega
      subst this
      refine ⟨trivial, ih hlt _ _ _ O C P (nI_1 x) (fun x' hx' => ?_)⟩
      by_cases z : x' = x
      · subst z; exact ⟨hC, hP, hO⟩
      · exact hf x' (by omega)
    · have stepY : opP M x s = true → zGood gM_shares (d + 4) (shQ M n k W) 26 [some (.ref 0), some (.int (nI x)), some (.int (nI s + 1)), l3] [] (encM (zUr (zUr (zUr M 15 (upd O (23 * x + (opN M x s).length) (nI s))) 16 (upd C x (C x + 1))) 17 P)) 0 0 := by
        intro h
        have e := opN_s M x s
        rw [if_pos h] at e
        refine ihs q2 _ _ _ _ (nI_1 s) (fun x' hx' => ⟨by rw [upd_n (by omega)]; exact (hf x' hx').1, (hf x' hx').2.1, fun i hi => ?_⟩) hP ?_ (fun i hi => ?_)
        · have := opN_len I (show x' < k by omega) hp2
          have e2 : opN M x' (2 ^ n) = opL M n x' := rfl
          rw [e2] at this
          rw [upd_n (by omega)]; exact (hf x' hx').2.2 i hi
        · rw [upd_s, hC, nI_1, e, List.length_append]; rfl
        · rw [e] at hi ⊢
          rw [List.length_append] at hi
          by_cases z : i = (opN M x s).length
          · subst z; rw [upd_s, getD_r]
          · have hi' : i < (opN M x s).length := by
              have : [s].length = 1 := rfl
              omega
            rw [upd_n (by omega), getD_l hi']; exact hO i hi'
      have stepN : opP M x s = false → zGood gM_shares (d + 4) (shQ M n k W) 26 [some (.ref 0), some (.int (nI x)), some (.int (nI s + 1)), l3] [] (encM (zUr (zUr (zUr M 15 O) 16 C) 17 P)) 0 0 := by
        intro h
        have e := opN_s M x s
        rw [if_neg (by rw [h]; decide)] at e
        exact ihs q2 _ _ _ _ (nI_1 s) hf hP (by rw [e]; exact hC) (by rw [e]; exact hO)
      refine ⟨fun h0 => ?_, fun h0 => ?_⟩
      · have s0 : s = 0 := (nI_eq (b := 0) (by omega) (by decide)).mp h0
        have op : opP M x s = true := by subst s0; rfl
        refine z_ld (k := x) rfl (by omega) (by decide) ?_
        refine z_st (k := 23 * x + (opN M x s).length) (z_ad (z_mu q23 rfl) hC) (by omega) (by decide) ?_
        refine z_ld (k := x) rfl (by omega) (by decide) ?_
        refine z_st (k := x) rfl (by omega) (by decide) ?_
        exact ⟨trivial, stepY op⟩
      · refine z_call c_M_ones ?_
        refine z_ld (k := 6 * x + 4) (z_ad (z_mu q6 rfl) q4) (by omega) (by decide) ?_
        refine ⟨fun h1 => ?_, fun h1 => ?_⟩
        · have op : opP M x s = true := by
            unfold opP
            rw [decide_eq_true (show onesU (nI s) 7 = M 4 (6 * x + 4) from h1), Bool.or_true]
          refine z_ld (k := x) rfl (by omega) (by decide) ?_
          refine z_st (k := 23 * x + (opN M x s).length) (z_ad (z_mu q23 rfl) hC) (by omega) (by decide) ?_
          refine z_ld (k := x) rfl (by omega) (by decide) ?_
          refine z_st (k := x) rfl (by omega) (by decide) ?_
          exact ⟨trivial, stepY op⟩
        · have op : opP M x s = false := by
            unfold opP
            rw [decide_eq_false (show ¬ onesU (nI s) 7 = M 4 (6 * x + 4) from h1), decide_eq_false (fun z => h0 (by rw [z]; rfl))]; rfl
          exact ⟨trivial, stepN op⟩
theorem shR_some (I : okM M n k) (W : Nat → Nat) : ∃ c t, shR M n k W = some (c, t) := by
  have h : shR M n k W ≠ none := by
    refine sr_first (fun x hx => opL_pos M n x) (fun s hs => allU_i (fun x hx => allU_i (fun m hm => ?_))) k _ (Nat.le_refl k) (fun y hy => absurd hy (by omega))
    unfold okm
    have := I.1
    rw [hs x hx, has_0 (by omega)]; rfl
  cases e : shR M n k W with
  | none => exact absurd e h
  | some p => exact ⟨p.1, p.2, rfl⟩
def shV (k : Nat) (r : zAcc) (x : Int32) : Int32 := match r with
  | none => 0
  | some p => if x = -1 then nI p.1 else nI (p.2 x.toNatClampNeg)
theorem c_M_shared (I : okM M n k) (Y : okY M) {W : Nat → Nat} (hW : ∀ m, m < n → w0I M k m = nI (W m) ∧ W m ≤ 9) {x : Int32} : zRuns gM_shared (d + 5) [.ref 0, .int x] (encM M) (fun v σ' => v = some (.int (if x ≠ -1 ∧ ixB k x = false then kUNK else shV k (shR M n k W) x)) ∧ ∃ N, σ' = encM N ∧ shM M N) := by
  have h4 := I.2.1
  obtain ⟨c, t, e⟩ := shR_some I W
  have nop : shM M M := ⟨fun _ _ _ => rfl, fun _ _ => rfl⟩
  refine m_M_shared [] rfl (Nat.le_of_ble_eq_true rfl) ?_
  refine ⟨fun h => ?_, fun h => ?_⟩
  · refine z_callE (c_M_shares (d := d) I Y hW) ?_
    rintro v σ' ⟨rfl, N, rfl, sh, hA⟩
    rw [e] at hA ⊢
    obtain ⟨a1, a2, a3⟩ := hA
    refine ⟨fun _ => ?_, fun h2 => absurd h h2⟩
    refine ⟨?_, N, rfl, sh⟩
    rw [if_neg (fun z => z.1 h), a1]
    show _ = some (Value.int (if x = -1 then nI c else nI (t x.toNatClampNeg)))
    rw [if_pos h]
  · refine z_call (c_M_isMishap (d := d + 3) I) ?_
    refine z_b (fun h2 => ?_) (fun h2 => ?_)
    · refine ⟨?_, M, rfl, nop⟩
      rw [if_pos ⟨h, h2⟩]
    · refine z_callE (c_M_shares (d := d) I Y hW) ?_
      rintro v σ' ⟨rfl, N, rfl, sh, hA⟩
      rw [e] at hA ⊢
      obtain ⟨a1, a2, a3⟩ := hA
      refine ⟨fun h3 => absurd h3 h, fun _ => ?_⟩
      obtain ⟨y, hy, rfl⟩ := ixB_t (by omega) h2
      refine z_ld (k := y) rfl (by omega) (by decide) ?_
      refine ⟨?_, N, rfl, sh⟩
      rw [if_neg (fun z => by rw [h2] at z; exact absurd z.2 (by decide)), a3 y hy]
      show _ = some (Value.int (if nI y = -1 then nI c else nI (t (nI y).toNatClampNeg)))
      rw [if_neg h, nI_clamp (by omega)]
end S4
