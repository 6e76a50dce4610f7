def blStep (n k x : Nat) (M : zS) : zS := zUr (zU M 0 24 (lcgM (M 0 24))) 8 (blamesNow M (memF (mayForF M n k x) (drawF (M 0 24) (onesU (mayForF M n k x) 7))).toNatClampNeg x)
def dxU (n k x : Nat) : Nat → zS → zS
  | 0, M => M
  | f + 1, M => if mayForF M n k x = 0 then M else dxU n k x f (blStep n k x M)
def dxAll (n k : Nat) : Nat → zS → zS
  | 0, M => M
  | j + 1, M => dxU n k j 7 (dxAll n k j M)
def dayF (n k : Nat) (M : zS) : zS := zUr (dxAll n k k (notesF M (M 0 20).toNatClampNeg)) 8 (setsNow (dxAll n k k (notesF M (M 0 20).toNatClampNeg)) n k)
def driftU (n k : Nat) : Nat → zS → zS
  | 0, M => M
  | t + 1, M => dayF n k (driftU n k t M)
def freeAt (M : zS) (x f : Nat) : Prop := ∃ s c z, s < 128 ∧ M 8 (7 + x) = nI s ∧ onesU (nI s) 7 = nI c ∧ M 4 (6 * x + 4) = nI z ∧ z = c + f ∧ z ≤ 2
def okB (M : zS) (k : Nat) : Prop := ∀ x, x < k → ∃ f, freeAt M x f
theorem bits_false (n : Nat) : bits (fun _ => false) n = 0 := by
  induction n with
  | zero => rfl
  | succ n ih => simp [bits, ih]
theorem freeAt_f {M : zS} {x f : Nat} (h : freeAt M x f) : freeF M x = nI f := by
  obtain ⟨s, c, z, -, h2, h3, h4, h5, h6⟩ := h
  unfold freeF
  rw [h2, h3, h4, pk_sub (by omega)]
  congr 1
  omega
theorem free0 {M : zS} {n k x : Nat} (h : freeAt M x 0) : mayForF M n k x = 0 := by
  have e : freeF M x = nI 0 := freeAt_f h
  unfold mayForF
  rw [← bits_false n]
  exact bits_congr fun j _ => by
    unfold mayB
    rw [e]
    simp [nI_0]
theorem pick {M : zS} {n k x : Nat} (hn : n ≤ 7) (h : mayForF M n k x ≠ 0) : ∃ m, m < n ∧ memF (mayForF M n k x) (drawF (M 0 24) (onesU (mayForF M n k x) 7)) = nI m ∧ mayB M k m x = true ∧ ¬ onesU (mayForF M n k x) 7 = 0 := by
  obtain ⟨s, hs, e, hm⟩ := bits_n (fun m => mayB M k m x) n hn
  have e2 : mayForF M n k x = nI s := e
  have hs7 : s < 128 := Nat.lt_of_lt_of_le hs (Nat.pow_le_pow_right (by decide) hn)
  have hs0 : s ≠ 0 := fun z => h (by rw [e2, z]; rfl)
  obtain ⟨c1, c2, c3⟩ := b_ones s hs7 hs0
  rw [e2]
  generalize hc : (onesU (nI s) 7).toNatClampNeg = c at c1 c2 c3
  obtain ⟨q, hq, eq⟩ := draw_n (M 0 24) c2 (by omega)
  obtain ⟨d1, d2, d3⟩ := b_mem s hs7 q (by omega) (by rw [hc]; exact hq)
  rw [c1, eq]
  generalize (memF (nI s) (nI q)).toNatClampNeg = m at d1 d2 d3
  rw [hm m d2] at d3
  obtain ⟨d4, d5⟩ := Bool.and_eq_true_iff.mp d3
  exact ⟨m, of_decide_eq_true d4, d1, d5, nI_ne0 c2 (by omega)⟩
theorem blStep_ok {M : zS} {n k x f : Nat} (I : okM M n k) (B : okB M k) (hx : x < k) (h : mayForF M n k x ≠ 0) (hf : freeAt M x f) : ∃ g, f = g + 1 ∧ okB (blStep n k x M) k ∧ freeAt (blStep n k x M) x g := by
  have h7 := I.1; have h4 := I.2.1
  obtain ⟨m, hm, e1, e2, -⟩ := pick I.1 h
  have e3 : hasB (M 8 (7 + x)) (nI m) = false := by
    unfold mayB at e2
    simp only [Bool.and_eq_true, Bool.not_eq_true'] at e2
    exact e2.1.2.1
  have ey : ∀ y, y < 4 → y ≠ x → (blStep n k x M) 8 (7 + y) = M 8 (7 + y) := fun y hy hne => by
    unfold blStep
    rw [zUr_s, e1, nI_clamp (by omega)]
    unfold blamesNow
    rw [upd_n (by omega), upd_n (by omega), upd_n (by omega)]
  obtain ⟨s, c, z, hs, a1, a2, a3, a4, a5⟩ := hf
  rw [a1] at e3
  obtain ⟨b1, b2, b3⟩ := b_put s hs m (by omega) e3
  have ex : (blStep n k x M) 8 (7 + x) = nI (s + 2 ^ m) := by
    unfold blStep
    rw [zUr_s, e1, nI_clamp (by omega)]
    unfold blamesNow
    rw [upd_n (by omega), upd_n (by omega), upd_s, a1, b1]
  have hfree : f ≠ 0 := fun z0 => h (free0 ⟨s, c, z, hs, a1, a2, a3, by omega, a5⟩)
  have e4 : (blStep n k x M) 4 = M 4 := rfl
  have hg : freeAt (blStep n k x M) x (f - 1) := ⟨s + 2 ^ m, c + 1, z, b2, ex, by rw [b3, a2, nI_1], by rw [e4]; exact a3, by omega, a5⟩
  refine ⟨f - 1, by omega, fun y hy => ?_, hg⟩
  by_cases e : y = x
  · subst e; exact ⟨_, hg⟩
  · obtain ⟨f', s', c', z', d1, d2, d3, d4, d5, d6⟩ := B y hy
    exact ⟨f', s', c', z', d1, by rw [ey y (by omega) e]; exact d2, d3, by rw [e4]; exact d4, d5, d6⟩
section M7
variable {d : Nat} {M : zS} {n k : Nat} {σ : List va_E}
theorem c_M_draw {x : Int32} (hx : ¬ x = 0) : zRuns gM_draw d [.ref 0, .int x] (encM M) (fun v σ' => v = some (.int (drawF (M 0 24) x)) ∧ σ' = encM (zU M 0 24 (lcgM (M 0 24)))) := by
  refine m_M_draw [] rfl (Nat.le_of_ble_eq_true rfl) ?_
  refine ⟨by decide, ?_⟩
  refine ⟨hx, ?_⟩
  exact ⟨rfl, rfl⟩
theorem c_M_member {s kk : Int32} : zRuns gM_member (d + 1) [.int s, .int kk] σ (fun v σ' => v = some (.int (memF s kk)) ∧ σ' = σ) := by
  refine m_M_member [4] rfl (Nat.le_of_ble_eq_true rfl) ?_
  refine ⟨trivial, ?_⟩
  refine z_up (P := fun j => ∀ i c, i = nI j → memU s kk 0 (7 - j) j c = memF s kk → zGood gM_member (d + 1) (fun v σ' => v = some (.int (memF s kk)) ∧ σ' = σ) 4 [some (.int s), some (.int kk), some (.int c), some (.int i)] [] σ 0 0) 7 (fun j hj ih i c hi hc => ?_) 0 (Nat.zero_le _) 0 0 nI_0.symm rfl
  subst hi
  refine w_M_member [4] ?_
  refine z_le (a := 7) (b := j) rfl rfl (by decide) (by omega) (fun q => ?_) (fun q => ?_)
  · have : j = 7 := by omega
    subst this
    exact ⟨by rw [← hc]; rfl, rfl⟩
  · rw [show 7 - j = (7 - (j + 1)) + 1 by omega] at hc
    unfold memU at hc
    refine z_call c_M_has ?_
    refine z_b (fun h => ?_) (fun h => ?_)
    · rw [h, if_neg (by decide)] at hc
      exact ⟨trivial, ih q _ _ (nI_1 j) hc⟩
    · rw [if_pos h] at hc
      refine ⟨fun h2 => ?_, fun h2 => ?_⟩
      · rw [if_pos h2] at hc
        exact ⟨by rw [← hc], rfl⟩
      · rw [if_neg h2] at hc
        exact ⟨trivial, ih q _ _ (nI_1 j) hc⟩
def pUndo (M : zS) (u : Int32) : Int32 := if ¬ (1 ≤ u ∧ u ≤ 30) then kOUT else if ¬ u ≤ M 0 20 then kNOT else M 9 (55 * ((M 0 20).toNatClampNeg - u.toNatClampNeg) + 12)
def gUndo (M : zS) (u : Int32) : zS := if ¬ (1 ≤ u ∧ u ≤ 30) then M else if ¬ u ≤ M 0 20 then M else
  zUr (zU M 0 20 (nI ((M 0 20).toNatClampNeg - u.toNatClampNeg))) 8 (cpyF (M 9) (M 8) (55 * ((M 0 20).toNatClampNeg - u.toNatClampNeg)) 0)
theorem c_M_undo {u : Int32} {de : Nat} (hd : M 0 20 = nI de) (hde : de ≤ 30) : zRuns gM_undo (d + 1) [.ref 0, .int u] (encM M) (fun v σ' => v = some (.int (pUndo M u)) ∧ σ' = encM (gUndo M u)) := by
  refine m_M_undo [] rfl (Nat.le_of_ble_eq_true rfl) ?_
  refine z_call c_M_in ?_
  refine z_dec (fun h => ?_) (fun h => ?_)
  · exact ⟨by unfold pUndo; rw [if_pos h], by unfold gUndo; rw [if_pos h]⟩
  obtain ⟨j, hj, rfl⟩ := z_rng (N := 30) (by decide) ⟨Int32.le_trans (by decide) h.1, h.2⟩
  have hj1 : 1 ≤ j := (nI_leI (a := 1) (by decide) (by omega)).mp h.1
  refine ⟨fun h2 => ?_, fun h2 => ?_⟩
  · have hle : j ≤ de := by rw [hd] at h2; exact (nI_leI (by omega) (by omega)).mp h2
    have e1 : M 0 20 - nI j = nI (de - j) := by rw [hd, pk_sub hle]
    have ed : (M 0 20).toNatClampNeg = de := by rw [hd, nI_clamp (by omega)]
    have ej : (nI j).toNatClampNeg = j := nI_clamp (by omega)
    have p0 : pUndo M (nI j) = M 9 (55 * (de - j) + 12) := by unfold pUndo; rw [if_neg (fun z => z h), if_neg (fun z => z h2), ed, ej]
    have g0 : gUndo M (nI j) = zUr (zU M 0 20 (nI (de - j))) 8 (cpyF (M 9) (M 8) (55 * (de - j)) 0) := by unfold gUndo; rw [if_neg (fun z => z h), if_neg (fun z => z h2), ed, ej]
    rw [p0, g0]
    refine z_call (c_M_copies (a := 55 * (de - j)) (b := 0) (r1 := 9) (r2 := 8) (by show (55 : Int32) * (M 0 20 - nI j) = _; rw [e1]; exact z_mu q55 rfl) q0 rfl rfl (by decide) (by omega) (by decide) (by decide) (by decide)) ?_
    refine z_ld (k := 12) q12 (by decide) (by decide) ?_
    refine ⟨?_, ?_⟩
    · show some (Value.int (if 0 ≤ 12 ∧ 12 < 0 + 55 then M 9 (55 * (de - j) + (12 - 0)) else M 8 12)) = _
      rw [if_pos (by omega)]
    · rw [← e1]
      rfl
  · exact ⟨by unfold pUndo; rw [if_neg (fun z => z h), if_pos h2], by unfold gUndo; rw [if_neg (fun z => z h), if_pos h2]⟩
theorem drift_while {Q : Option Value → List va_E → Prop} {a y : Value} {x : Nat} (hx : x < k) : ∀ (g : Nat) (M : zS) (f : Nat), okM M n k → okB M k → freeAt M x f → f ≤ g →
    (okB (dxU n k x g M) k → zGood gM_drift (d + 6) Q 101 [some (.ref 0), some a, some y, some (.int (nI x)), some (.int 0)] [] (encM (dxU n k x g M)) 0 0) →
    zGood gM_drift (d + 6) Q 67 [some (.ref 0), some a, some y, some (.int (nI x)), some (.int (mayForF M n k x))] [] (encM M) 0 0
  | g, M, f, I, B, hf, hle, hk => by
    have h7 := I.1; have h4 := I.2.1
    refine w_M_drift [67, 101] ?_
    refine ⟨fun h => ?_, fun h => ?_⟩
    · refine ⟨trivial, ?_⟩
      have e : dxU n k x g M = M := by
        cases g with
        | zero => rfl
        | succ g => unfold dxU; rw [if_pos h]
      rw [e] at hk
      rw [h]
      exact hk B
    · obtain ⟨m, hm, e1, e2, e3⟩ := pick I.1 h
      obtain ⟨f', rfl, B', hf'⟩ := blStep_ok I B hx h hf
      cases g with
      | zero => omega
      | succ g =>
        refine z_call c_M_ones ?_
        refine z_call (c_M_draw e3) ?_
        refine z_call c_M_member ?_
        rw [e1]
        refine z_call (c_M_blames (by omega) (by omega)) ?_
        have es : zUr (zU M 0 24 (lcgM (M 0 24))) 8 (blamesNow (zU M 0 24 (lcgM (M 0 24))) m x) = blStep n k x M := by
          unfold blStep
          rw [e1, nI_clamp (by omega)]
          rfl
        rw [es]
        have I' : okM (blStep n k x M) n k := okM_now (okM_seed I)
        refine z_call (c_M_mayFor I' hx) ?_
        refine ⟨trivial, ?_⟩
        have e : dxU n k x (g + 1) M = dxU n k x g (blStep n k x M) := by rw [dxU, if_neg h]
        rw [e] at hk
        exact drift_while hx g (blStep n k x M) f' I' B' hf' (by omega) hk
theorem okM_dx {x : Nat} : ∀ (g : Nat) {M : zS}, okM M n k → okM (dxU n k x g M) n k
  | 0, M, I => I
  | g + 1, M, I => by
    unfold dxU
    by_cases h : mayForF M n k x = 0
    · rw [if_pos h]; exact I
    · rw [if_neg h]; exact okM_dx g (okM_now (okM_seed I))
theorem dx_k {x c : Nat} (h0 : c ≠ 0) (h8 : c ≠ 8) : ∀ (g : Nat) {M : zS}, dxU n k x g M c = M c
  | 0, M => rfl
  | g + 1, M => by
    unfold dxU
    by_cases h : mayForF M n k x = 0
    · rw [if_pos h]
    · rw [if_neg h, dx_k h0 h8 g]
      unfold blStep
      rw [zUr_k h8, zU_k h0]
theorem dx_0 {x j : Nat} (hj : j ≠ 24) : ∀ (g : Nat) {M : zS}, dxU n k x g M 0 j = M 0 j
  | 0, M => rfl
  | g + 1, M => by
    unfold dxU
    by_cases h : mayForF M n k x = 0
    · rw [if_pos h]
    · rw [if_neg h, dx_0 hj g]
      unfold blStep
      rw [zUr_k (by decide), zU_s, upd_n hj]
theorem okM_dxAll {M : zS} (I : okM M n k) : ∀ j, okM (dxAll n k j M) n k
  | 0 => I
  | j + 1 => okM_dx 7 (okM_dxAll I j)
theorem dxAll_0 {M : zS} {i : Nat} (hi : i ≠ 24) : ∀ j, dxAll n k j M 0 i = M 0 i
  | 0 => rfl
  | j + 1 => by unfold dxAll; rw [dx_0 hi 7, dxAll_0 hi j]
theorem dxAll_k {M : zS} {c : Nat} (h0 : c ≠ 0) (h8 : c ≠ 8) : ∀ j, dxAll n k j M c = M c
  | 0 => rfl
  | j + 1 => by unfold dxAll; rw [dx_k h0 h8 7, dxAll_k h0 h8 j]
theorem okB_notes {M : zS} {de : Nat} (B : okB M k) : okB (notesF M de) k := by
  intro x hx
  obtain ⟨f, s, c, z, h1, h2, h3, h4, h5⟩ := B x hx
  exact ⟨f, s, c, z, h1, by rw [notesF_k (by decide) (by decide)]; exact h2, h3, by rw [notesF_k (by decide) (by decide)]; exact h4, h5⟩
theorem okB_sets {M : zS} (I : okM M n k) : okB (zUr M 8 (setsNow M n k)) k := by
  have h4 := I.2.1
  intro x hx
  obtain ⟨z, z1, z2, hz⟩ := (I.2.2.2.2.2.2 x hx).2.2.2.2.1
  refine ⟨z, 0, 0, z, by decide, ?_, by decide, hz, by omega, z2⟩
  rw [zUr_s]
  unfold setsNow
  rw [upd_n (by omega), upd_n (by omega)]
  unfold sets3 sets2
  rw [if_neg (by omega), if_pos (by omega)]
  rfl
theorem notesF_de {M : zS} {de : Nat} (hde : de ≤ 30) : ∃ e, e ≤ 30 ∧ notesF M de 0 20 = nI e := by
  unfold notesF
  by_cases e : de = 30
  · rw [if_pos e, zU_s, upd_s]; exact ⟨30, by decide, rfl⟩
  · rw [if_neg e, zU_s, upd_s]; exact ⟨de + 1, by omega, rfl⟩
def okD (M : zS) (n k : Nat) : Prop := okM M n k ∧ okB M k ∧ ∃ de, de ≤ 30 ∧ M 0 20 = nI de
theorem okD_day {M : zS} (D : okD M n k) : okD (dayF n k M) n k := by
  obtain ⟨I, B, de, hde, hd⟩ := D
  have ed : (M 0 20).toNatClampNeg = de := by rw [hd, nI_clamp (by omega)]
  have I2 : okM (dxAll n k k (notesF M de)) n k := okM_dxAll (okM_notes I) k
  obtain ⟨e, he1, he2⟩ := notesF_de (M := M) hde
  unfold dayF
  rw [ed]
  exact ⟨okM_now I2, okB_sets I2, e, he1, by rw [zUr_k (by decide), dxAll_0 (by decide)]; exact he2⟩
theorem okD_drift {M : zS} (D : okD M n k) : ∀ t, okD (driftU n k t M) n k
  | 0 => D
  | t + 1 => okD_day (okD_drift D t)
def pDrift (M : zS) (n k : Nat) (a : Int32) : Int32 := if ¬ (1 ≤ a ∧ a ≤ 20) then kOUT else if M 0 3 = 0 then kNOT else if 9000 < M 8 12 then kFUL else driftU n k a.toNatClampNeg M 8 11
def gDrift (M : zS) (n k : Nat) (a : Int32) : zS := if ¬ (1 ≤ a ∧ a ≤ 20) then M else if M 0 3 = 0 then M else if 9000 < M 8 12 then M else driftU n k a.toNatClampNeg M
theorem c_M_drift (D : okD M n k) {a : Int32} : zRuns gM_drift (d + 6) [.ref 0, .int a] (encM M) (fun v σ' => v = some (.int (pDrift M n k a)) ∧ σ' = encM (gDrift M n k a)) := by
  have h7 := D.1.1; have h4 := D.1.2.1
  refine m_M_drift [41, 52, 67, 101] rfl (Nat.le_of_ble_eq_true rfl) ?_
  refine z_call c_M_in ?_
  refine z_dec (fun h => ?_) (fun h => ?_)
  · exact ⟨by unfold pDrift; rw [if_pos h], by unfold gDrift; rw [if_pos h]⟩
  refine ⟨fun h2 => ?_, fun h2 => ?_⟩
  · exact ⟨by unfold pDrift; rw [if_neg (fun z => z h), if_pos h2], by unfold gDrift; rw [if_neg (fun z => z h), if_pos h2]⟩
  refine z_ld (k := 12) q12 (by decide) (by decide) ?_
  refine ⟨fun h3 => ?_, fun h3 => ?_⟩
  · have h3' : ¬ 9000 < M 8 12 := Int32.not_lt.mpr h3
    obtain ⟨t, ht, rfl⟩ := z_rng (N := 20) (by decide) ⟨Int32.le_trans (by decide) h.1, h.2⟩
    have et : (nI t).toNatClampNeg = t := nI_clamp (by omega)
    have p0 : pDrift M n k (nI t) = driftU n k t M 8 11 := by unfold pDrift; rw [if_neg (fun z => z h), if_neg h2, if_neg h3', et]
    have g0 : gDrift M n k (nI t) = driftU n k t M := by unfold gDrift; rw [if_neg (fun z => z h), if_neg h2, if_neg h3', et]
    rw [p0, g0]
    refine ⟨trivial, ?_⟩
    refine z_up (P := fun j => ∀ i u w, i = nI j → zGood gM_drift (d + 6) (fun v σ' => v = some (.int (driftU n k t M 8 11)) ∧ σ' = encM (driftU n k t M)) 41 [some (.ref 0), some (.int (nI t)), some (.int i), u, w] [] (encM (driftU n k j M)) 0 0) t (fun j hj ih i u w hi => ?_) 0 (Nat.zero_le _) 0 none none nI_0.symm
    subst hi
    refine w_M_drift [41, 52, 67, 101] ?_
    refine z_le (a := t) (b := j) rfl rfl (by omega) (by omega) (fun q => ?_) (fun q => ?_)
    · have : j = t := by omega
      subst this
      refine z_ld (k := 11) q11 (by decide) (by decide) ?_
      exact ⟨rfl, rfl⟩
    · obtain ⟨I, B, de, hde, hd⟩ := okD_drift D j
      have ed : (driftU n k j M 0 20).toNatClampNeg = de := by rw [hd, nI_clamp (by omega)]
      refine z_call (c_M_notes hd hde) ?_
      refine ⟨trivial, ?_⟩
      have I2 : okM (notesF (driftU n k j M) de) n k := okM_notes I
      have lp := z_up (P := fun x => ∀ i u, i = nI x → okB (dxAll n k x (notesF (driftU n k j M) de)) k → zGood gM_drift (d + 6) (fun v σ' => v = some (.int (driftU n k t M 8 11)) ∧ σ' = encM (driftU n k t M)) 52 [some (.ref 0), some (.int (nI t)), some (.int (nI j)), some (.int i), u] [] (encM (dxAll n k x (notesF (driftU n k j M) de))) 0 0) k (fun x hx ihx i u hi B2 => by
        subst hi
        have I3 : okM (dxAll n k x (notesF (driftU n k j M) de)) n k := okM_dxAll I2 x
        refine w_M_drift [41, 52, 67, 101] ?_
        refine ⟨fun q2 => ?_, fun q2 => ?_⟩
        · have e := z_end I3.2.2.2.1 hx (by omega) q2
          subst e
          refine z_call (c_M_sets I3) ?_
          refine ⟨trivial, ?_⟩
          have h9 := ih q (nI j + 1) (some (.int (nI x))) u (nI_1 j)
          have e5 : driftU n x (j + 1) M = zUr (dxAll n x x (notesF (driftU n x j M) de)) 8 (setsNow (dxAll n x x (notesF (driftU n x j M) de)) n x) := by
            show dayF n x (driftU n x j M) = _
            unfold dayF
            rw [ed]
          rw [e5] at h9
          exact h9
        · have hlt := z_go I3.2.2.2.1 hx (by omega) q2
          refine z_call (c_M_mayFor I3 hlt) ?_
          refine ⟨trivial, ?_⟩
          obtain ⟨f, hf⟩ := B2 x hlt
          have hf7 : f ≤ 7 := by obtain ⟨_, _, _, _, _, _, _, h8, h9⟩ := hf; omega
          refine drift_while hlt 7 _ f I3 B2 hf hf7 (fun B3 => ?_)
          refine w_M_drift [41, 52, 67] ?_
          exact ⟨trivial, ihx hlt _ _ (nI_1 x) B3⟩) 0 (Nat.zero_le _) 0 w nI_0.symm (okB_notes B)
      exact lp
  · have h3' : 9000 < M 8 12 := Int32.not_le.mp h3
    exact ⟨by unfold pDrift; rw [if_neg (fun z => z h), if_neg h2, if_pos h3'], by unfold gDrift; rw [if_neg (fun z => z h), if_neg h2, if_pos h3']⟩
end M7
