/-! shared, the class: lookAt, solve, shared -/
section S8
variable {d : Nat} {S M : zS} {n k : Nat} {W : Nat → Nat}
def lookI (S M : zS) (n k : Nat) (W : Nat → Nat) (x r : Nat) : Prop := S 31 x = bits (fun y => farB M x y) k ∧ (∀ m, m < n → S 30 (x * 7 + m) = wlF M m x (wh M m x)) ∧ listI S M n W x (2 ^ n) ∧ S 35 x = nI r
theorem c_Sh_lookAt (R : rel1 S M n k) (Y : okY M) {x r : Nat} (hx : x < k) (hr : S 35 (x + 1) = nI r) (h29 : ∀ m, m < n → S 29 m = nI (W m) ∧ W m ≤ 9) (h36 : ∀ m, m < n → S 36 m = 0) : zRuns gSh_lookAt (d + 5) [.ref 28, .int (nI x)] (encC S) (fun v σ' => v = none ∧ ∃ S', σ' = encC S' ∧ keepF S S' x ∧ lookI S' M n k W x (r + lowN M n W x (2 ^ n))) := by
  have h7 := R.1.1; have h4 := R.1.2.1
  refine m_Sh_lookAt [4, 50] rfl (Nat.le_of_ble_eq_true rfl) ?_
  refine ⟨trivial, ?_⟩
  refine z_up (P := fun y => ∀ i f l4, i = nI y → f = bits (fun y => farB M x y) y → zGood gSh_lookAt (d + 5) (fun v σ' => v = none ∧ ∃ S', σ' = encC S' ∧ keepF S S' x ∧ lookI S' M n k W x (r + lowN M n W x (2 ^ n))) 4 [some (.ref 28), some (.int (nI x)), some (.int f), some (.int i), l4] [] (encC S) 0 0) k (fun y hy ih i f l4 hi hf => ?_) 0 (Nat.zero_le _) 0 0 none nI_0.symm rfl
  subst hi; subst hf
  refine w_Sh_lookAt [4, 50] ?_
  refine ⟨fun q => ?_, fun q => ?_⟩
  · have e := z_end (R_mis R) hy (by omega) q
    subst e
    generalize hf : bits (fun z => farB M x z) y = f at *
    refine z_call (σ1 := encC (zU S 31 x f)) (c_put (r := 31) (n := 4) (f := S 31) (j := x) rfl (by decide) rfl (by omega)) ?_
    refine ⟨trivial, ?_⟩
    refine z_up (P := fun m => ∀ i l4 F, i = nI m → (∀ j, j < m → F (x * 7 + j) = wlF M j x (wh M j x)) → (∀ j, (j < x * 7 ∨ x * 7 + 7 ≤ j) → F j = S 30 j) → zGood gSh_lookAt (d + 5) (fun v σ' => v = none ∧ ∃ S', σ' = encC S' ∧ keepF S S' x ∧ lookI S' M n y W x (r + lowN M n W x (2 ^ n))) 50 [some (.ref 28), some (.int (nI x)), some (.int f), some (.int i), l4] [] (encC (zUr (zU S 31 x f) 30 F)) 0 0) n (fun m hm ihm i l4 F hi h1 h2 => ?_) 0 (Nat.zero_le _) 0 l4 (S 30) nI_0.symm (fun j hj => absurd hj (Nat.not_lt_zero j)) (fun _ _ => rfl)
    subst hi
    have kp : keepF S (zUr (zU S 31 x f) 30 F) x := ⟨fun c hc => by rw [zUr_k (by omega), zU_k (by omega)], fun w hw => ⟨upd_n hw, fun m' hm' => h2 _ (by omega), rfl, rfl, fun _ _ => ⟨rfl, rfl⟩⟩⟩
    have R' := rel1_kp kp R
    refine w_Sh_lookAt [4, 50] ?_
    refine ⟨fun q2 => ?_, fun q2 => ?_⟩
    · have e := z_end (R_men R) hm (by omega) q2
      subst e
      have T : tkI (zUr (zU S 31 x f) 30 F) M m W (fun _ => 0) (fun _ => 0) f x := ⟨fun j hj => ⟨(h29 j hj).1, (h29 j hj).2, h36 j hj, show zPop32 0 = nI 0 by decide, Nat.zero_le _, h1 j hj⟩, upd_s⟩
      refine z_callE (c_Sh_listSets (d := d) (S := zUr (zU S 31 x f) 30 F) R' Y hx (r := r) hr T) ?_
      rintro v σ' ⟨rfl, S', rfl, g1, g2, g3, g4, g5⟩
      refine ⟨rfl, S', rfl, keepF_tr kp g1, ?_, fun j hj => ?_, g4, g5⟩
      · rw [g2, hf]; exact upd_s
      · rw [g3]; exact h1 j hj
    · have hlt := z_go (R_men R) hm (by omega) q2
      refine z_call (c_atv (n := 4) (f := S 20) rfl (by decide) rfl (by omega) (R_x R hx).2.1) ?_
      refine z_call (c_Ct_where (d := d + 2) R' hlt hx) ?_
      refine z_call (c_Ct_wornLimit (d := d + 1) R' hlt hx (where_P R hlt hx)) ?_
      refine z_call (σ1 := encC (zUr (zU S 31 x f) 30 (upd F (x * 7 + m) (wlF M m x (wh M m x))))) (c_put (r := 30) (n := 28) (f := F) (j := x * 7 + m) rfl (by decide) (z_ad (z_mu rfl q7) rfl) (by omega)) ?_
      refine ⟨trivial, ihm hlt _ _ _ (nI_1 m) (fun j hj => ?_) (fun j hj => ?_)⟩
      · by_cases z : j = m
        · subst z; exact upd_s
        · rw [upd_n (by omega)]; exact h1 j (by omega)
      · rw [upd_n (by omega)]; exact h2 j hj
  · have hlt := z_go (R_mis R) hy (by omega) q
    refine z_call (c_Fa_areFar (d := d + 2) R hx hlt) ?_
    refine z_b (fun h => ?_) (fun h => ?_)
    · exact ⟨trivial, ih hlt _ _ _ (nI_1 y) (bits_c (p := fun y => farB M x y) h)⟩
    · exact ⟨trivial, ih hlt _ _ _ (nI_1 y) (bits_t (p := fun y => farB M x y) h)⟩
theorem blames_pop {m : Nat} (h4 : k ≤ 4) : zPop32 (blamesF M k m) = onesU (blamesF M k m) 7 := by
  unfold blamesF
  obtain ⟨s, hs, es, -⟩ := bits_n (fun x => hasB (M 8 (7 + x)) (nI m)) k (by omega)
  have : 2 ^ k ≤ 16 := Nat.pow_le_pow_right (n := 2) (by decide) h4
  rw [es, b_pop s (by omega)]
def restD (M : zS) (n k : Nat) (W : Nat → Nat) : Nat → Nat
  | 0 => 0
  | i + 1 => restD M n k W i + lowN M n W (k - (i + 1)) (2 ^ n)
def restF (M : zS) (n k : Nat) (W : Nat → Nat) (x : Nat) : Nat := restD M n k W (k - x)
theorem restF_k : restF M n k W k = 0 := by unfold restF; rw [Nat.sub_self]; rfl
theorem restF_s {x : Nat} (hx : x < k) : restF M n k W x = restF M n k W (x + 1) + lowN M n W x (2 ^ n) := by
  unfold restF
  rw [show k - x = (k - (x + 1)) + 1 by omega, restD, show k - (k - (x + 1) + 1) = x by omega]
theorem restD_le (I : okM M n k) (Y : okY M) : ∀ i, i ≤ k → restD M n k W i ≤ 1000 * i
  | 0, _ => Nat.le_refl 0
  | i + 1, h => by
    have := restD_le I Y i (by omega)
    have := lowN_le (W := W) (x := k - (i + 1)) (s := 2 ^ n) I Y (by omega)
    rw [restD]; omega
theorem fits_mono (R : rel1 S M n k) {m x w w' : Nat} (hm : m < n) (hx : x < k) (hw : w ≤ 9) (h : w' ≤ w) (f : fitsB M m x (nI w) = true) : fitsB M m x (nI w') = true := by
  have e1 : decide (nI w ≤ wlF M m x (wh M m x)) = fitsB M m x (nI w) := wl_fits R hm hx hw
  have e2 : decide (nI w' ≤ wlF M m x (wh M m x)) = fitsB M m x (nI w') := wl_fits R hm hx (by omega)
  rw [← e2]
  rw [← e1] at f
  exact decide_eq_true (Int32.le_trans (nI_le h (by omega)) (of_decide_eq_true f))
theorem cs_is_sr (R : rel1 S M n k) (hW : ∀ m, m < n → W m ≤ 9) : csU (clL M n W) (prF M n) (okS M n W) (restF M n k W) k k (plS (opL M n) (fun _ => 0)) 0 none = shR M n k W := by
  have h := cs_sr (opts := opL M n) (pr := prF M n) (ok := okS M n W) (k := k) (pre := preF M n W) (rest := restF M n k W) (low := fun x => lowN M n W x (2 ^ n)) ?_ ?_ restF_k (fun x hx => restF_s hx) ?_ k (plS (opL M n) (fun _ => 0)) 0 none (Nat.le_refl k) (by rw [Nat.sub_self]; rfl) (fun y hy => absurd hy (by omega)) (fun _ => rfl)
  · exact h
  · intro s t x hst
    unfold okS
    refine allU_c (fun m _ => ?_)
    rw [okm_e, okm_e, hst x (Nat.le_refl x), cntU_B, cntU_B, cntB_c (q := fun y => hasB (nI (t y)) (nI m)) (fun y hy => by rw [hst y (by omega)]), allU_c (q := fun y => !(hasB (nI (t y)) (nI m) && farB M x y)) (fun y hy => by rw [hst y (by omega)])]
  · intro t x hx ht
    refine allU_i (fun m hm => ?_)
    have o := allU_t (show allU (fun m => okm M W t m x) n = true from ht) m hm
    rw [okm_e] at o
    cases hh : hasB (nI (t x)) (nI m) with
    | false => rfl
    | true =>
      rw [hh, Bool.not_true, Bool.false_or, Bool.and_eq_true] at o
      rw [Bool.not_true, Bool.false_or]
      exact fits_mono R hm hx (by omega) (by omega) o.1
  · intro y hy o ho hp
    exact (min_le (p := prF M n y) _ _).2 o (List.mem_filter.mpr ⟨ho, hp⟩)
theorem lookI_kp {S' : zS} {x y r : Nat} (kp : keepF S S' x) (hy : y ≠ x) (h7 : n ≤ 7) (hl : (clN M n W y (2 ^ n)).length ≤ 22) (h : lookI S M n k W y r) : lookI S' M n k W y r := by
  obtain ⟨k1, k2, k3, k4, k5⟩ := kp.2 y hy
  obtain ⟨a1, a2, ⟨a3, a4⟩, a5⟩ := h
  exact ⟨k1.trans a1, fun m hm => (k2 m (by omega)).trans (a2 m hm), ⟨k3.trans a3, fun i hi => ⟨(k5 i (by omega)).1.trans (a4 i hi).1, (k5 i (by omega)).2.trans (a4 i hi).2⟩⟩, k4.trans a5⟩
theorem max_w0 (h4 : k ≤ 4) {m : Nat} : (if 0 < M 8 m - zPop32 (blamesF M k m) then M 8 m - zPop32 (blamesF M k m) else 0) = w0I M k m := by
  rw [blames_pop h4]
  unfold w0I
  by_cases z : M 8 m - onesU (blamesF M k m) 7 ≤ 0
  · rw [if_pos z, if_neg (Int32.not_lt.mpr z)]
  · rw [if_neg z, if_pos (Int32.not_le.mp z)]
theorem c_Sh_solve (R : rel1 S M n k) (Y : okY M) (hW : ∀ m, m < n → w0I M k m = nI (W m) ∧ W m ≤ 9) : zRuns gSh_solve (d + 13) [.ref 28] (encC S) (fun v σ' => v = none ∧ ∃ S', σ' = encC S' ∧ (∀ c, (c < 28 ∨ 38 < c) → S' c = S c) ∧ accC k (shR M n k W) S') := by
  have h7 := R.1.1; have h4 := R.1.2.1
  have hp2 : 2 ^ n ≤ 128 := Nat.pow_le_pow_right (n := 2) (by decide) h7
  refine m_Sh_solve [2, 87] rfl (Nat.le_of_ble_eq_true rfl) ?_
  refine ⟨trivial, ?_⟩
  refine z_up (P := fun m => ∀ i l2 F G, i = nI m → (∀ j, j < m → F j = nI (W j) ∧ G j = 0) → zGood gSh_solve (d + 13) (fun v σ' => v = none ∧ ∃ S', σ' = encC S' ∧ (∀ c, (c < 28 ∨ 38 < c) → S' c = S c) ∧ accC k (shR M n k W) S') 2 [some (.ref 28), some (.int i), l2] [] (encC (zUr (zUr S 29 F) 36 G)) 0 0) n (fun m hm ih i l2 F G hi hFG => ?_) 0 (Nat.zero_le _) 0 none (S 29) (S 36) nI_0.symm (fun j hj => absurd hj (Nat.not_lt_zero j))
  subst hi
  have R' : rel1 (zUr (zUr S 29 F) 36 G) M n k := rel1_fr (fun c h1 h2 => by rw [zUr_k (by omega), zUr_k (by omega)]) R
  refine w_Sh_solve [2, 87] ?_
  refine ⟨fun q => ?_, fun q => ?_⟩
  · have e := z_end (R_men R) hm (by omega) q
    subst e
    have e35 : S 14 4 = nI k := R_mis R
    refine z_call (σ1 := encC (zU (zUr (zUr S 29 F) 36 G) 35 k 0)) (c_put (σ := encC (zUr (zUr S 29 F) 36 G)) (r := 35) (n := 5) (f := S 35) (j := k) rfl (by decide) e35 (by omega)) ?_
    refine ⟨trivial, ?_⟩
    have loop : ∀ j i S', j ≤ k → i = nI j - 1 → (∀ c, (c < 28 ∨ 38 < c) → S' c = S c) → (∀ a, a < m → S' 29 a = nI (W a) ∧ W a ≤ 9) → (∀ a, a < m → S' 36 a = 0) → S' 35 k = nI (restF M m k W k) → (∀ y, j ≤ y → y < k → lookI S' M m k W y (restF M m k W y)) → zGood gSh_solve (d + 13) (fun v σ' => v = none ∧ ∃ S', σ' = encC S' ∧ (∀ c, (c < 28 ∨ 38 < c) → S' c = S c) ∧ accC k (shR M m k W) S') 87 [some (.ref 28), some (.int i), l2] [] (encC S') 0 0 := by
      intro j
      induction j with
      | zero =>
        intro i S' _ hi fr h29 h36 hk hl
        subst hi
        have RS : rel1 S' M m k := rel1_fr (fun c h1 h2 => fr c (by omega)) R
        refine w_Sh_solve [2, 87] ?_
        refine ⟨fun _ => ?_, fun h => absurd (by decide) h⟩
        have sh : shF S' (zU S' 28 13 2147483647) := fun c h1 _ _ _ => zU_k h1
        have st : staI (zU S' 28 13 2147483647) M m k W (restF M m k W) := by
          refine staI_fr sh ⟨h29, fun x hx => ?_, hk, fun x hx => ?_⟩
          · obtain ⟨a1, a2, ⟨a3, a4⟩, a5⟩ := hl x (Nat.zero_le x) hx
            exact ⟨a1, a2, a3, a4, a5⟩
          · have := restD_le (W := W) R.1 Y (k - x) (by omega)
            unfold restF
            omega
        have se := c_Sh_search (n := m) (k := k) (W := W) (rest := restF M m k W) Y R.1 k (Nat.le_refl k) (d + 12) (by omega) (zU S' 28 13 2147483647) (plS (opL M m) (fun _ => 0)) 0 none (rel1_sh sh RS) st ⟨fun a ha => by rw [Nat.sub_self]; exact h36 a ha, fun y hy => absurd hy (by omega)⟩ rfl (by rw [Nat.sub_self]; rfl) (fun y hy => absurd hy (by omega))
        rw [Nat.sub_self, nI_0, cs_is_sr R (fun a ha => (hW a ha).2)] at se
        refine z_callE se ?_
        rintro v σ' ⟨rfl, S2, rfl, fr2, -, -, A⟩
        refine ⟨rfl, S2, rfl, fun c hc => ?_, A⟩
        rw [fr2 c (by omega) (by omega) (by omega) (by omega), zU_k (by omega)]
        exact fr c hc
      | succ j ih =>
        intro i S' hj hi fr h29 h36 hk hl
        rw [nI_pred] at hi
        subst hi
        have RS : rel1 S' M m k := rel1_fr (fun c h1 h2 => fr c (by omega)) R
        refine w_Sh_solve [2, 87] ?_
        refine ⟨fun h => absurd h (nI_pos (by omega)), fun _ => ?_⟩
        have hr : S' 35 (j + 1) = nI (restF M m k W (j + 1)) := by
          by_cases z : j + 1 < k
          · exact (hl (j + 1) (Nat.le_refl _) z).2.2.2
          · rw [show j + 1 = k by omega]; exact hk
        refine z_callE (c_Sh_lookAt (d := d + 7) RS Y (x := j) (r := restF M m k W (j + 1)) (by omega) hr h29 h36) ?_
        rintro v σ' ⟨rfl, S2, rfl, kp, lk⟩
        rw [← restF_s (by omega)] at lk
        refine ⟨trivial, ih _ S2 (by omega) (by rw [Int32.sub_eq_add_neg]) (fun c hc => (kp.1 c (by omega)).trans (fr c hc)) (fun a ha => ?_) (fun a ha => ?_) ?_ (fun y h1 h2 => ?_)⟩
        · rw [kp.1 29 (by decide)]; exact h29 a ha
        · rw [kp.1 36 (by decide)]; exact h36 a ha
        · rw [(kp.2 k (by omega)).2.2.2.1]; exact hk
        · by_cases z : y = j
          · subst z; exact lk
          · refine lookI_kp kp z h7 ?_ (hl y (by omega) h2)
            exact Nat.le_trans (List.length_filter_le _ _) (opN_len R.1 h2 hp2)
    refine loop k _ (zU (zUr (zUr S 29 F) 36 G) 35 k 0) (Nat.le_refl k) (by rw [← e35]; rfl) (fun c hc => by rw [zU_k (by omega), zUr_k (by omega), zUr_k (by omega)]) (fun a ha => ⟨(hFG a ha).1, (hW a ha).2⟩) (fun a ha => (hFG a ha).2) (by rw [restF_k]; exact upd_s) (fun y h1 h2 => absurd h2 (by omega))
  · have hlt := z_go (R_men R) hm (by omega) q
    obtain ⟨w1, w2⟩ := hW m hlt
    refine z_call (c_Ct_blamesOf (d := d + 9) R' (by omega)) ?_
    refine z_call c_bitCount ?_
    refine z_call (c_St_wornOf (d := d + 10) R' hlt) ?_
    refine z_call c_max ?_
    rw [max_w0 h4, w1]
    refine z_call (σ1 := encC (zUr (zUr S 29 (upd F m (nI (W m)))) 36 G)) (c_put (σ := encC (zUr (zUr S 29 F) 36 G)) (r := 29) (n := 7) (f := F) (j := m) rfl (by decide) rfl (by omega)) ?_
    refine z_call (σ1 := encC (zUr (zUr S 29 (upd F m (nI (W m)))) 36 (upd G m 0))) (c_put (σ := encC (zUr (zUr S 29 (upd F m (nI (W m)))) 36 G)) (r := 36) (n := 7) (f := G) (j := m) rfl (by decide) rfl (by omega)) ?_
    refine ⟨trivial, ih hlt _ _ _ _ (nI_1 m) (fun j hj => ?_)⟩
    by_cases z : j = m
    · subst z; exact ⟨upd_s, upd_s⟩
    · rw [upd_n z, upd_n z]; exact hFG j (by omega)
theorem c_shared (R : rel1 S M n k) (Y : okY M) (hW : ∀ m, m < n → w0I M k m = nI (W m) ∧ W m ≤ 9) {x : Int32} : zRuns gB_shared (d + 14) [.ref 0, .int x] (encC S) (fun v σ' => v = some (.int (if x ≠ -1 ∧ ixB k x = false then kUNK else shV k (shR M n k W) x)) ∧ ∃ S', σ' = encC S' ∧ ∀ c, (c < 28 ∨ 38 < c) → S' c = S c) := by
  have h4 := R.1.2.1
  obtain ⟨c, t, e⟩ := shR_some R.1 W
  refine m_B_shared [] rfl (Nat.le_of_ble_eq_true rfl) ?_
  refine ⟨fun h => ?_, fun h => ?_⟩
  · refine z_callE (c_Sh_solve (d := d) R Y hW) ?_
    rintro v σ' ⟨rfl, S', rfl, fr, A⟩
    rw [e] at A ⊢
    obtain ⟨a1, a2, a3⟩ := A
    refine ⟨fun _ => ?_, fun h2 => absurd h h2⟩
    refine ⟨?_, S', rfl, fr⟩
    rw [if_neg (fun z => z.1 h), a1]
    show _ = some (Value.int (if x = -1 then nI c else nI (t x.toNatClampNeg)))
    rw [if_pos h]
  · refine z_call (c_isMishap (d := d + 12) R) ?_
    refine z_b (fun h2 => ?_) (fun h2 => ?_)
    · refine ⟨?_, S, rfl, fun _ _ => rfl⟩
      rw [if_pos ⟨h, h2⟩]
    · refine z_callE (c_Sh_solve (d := d) R Y hW) ?_
      rintro v σ' ⟨rfl, S', rfl, fr, A⟩
      rw [e] at A ⊢
      obtain ⟨a1, a2, a3⟩ := A
      refine ⟨fun h3 => absurd h3 h, fun _ => ?_⟩
      obtain ⟨y, hy, rfl⟩ := ixB_t (by omega) h2
      refine z_call (c_atv (σ := encC S') (n := 4) (f := S' 38) rfl (by decide) rfl (by omega) (a3 y hy)) ?_
      refine ⟨?_, S', rfl, fr⟩
      rw [if_neg (fun z => by rw [h2] at z; exact absurd z.2 (by decide))]
      show _ = some (Value.int (if nI y = -1 then nI c else nI (t (nI y).toNatClampNeg)))
      rw [if_neg h, nI_clamp (by omega)]
theorem w0_n (R : rel1 S M n k) : ∀ m, m < n → w0I M k m = nI (w0I M k m).toNatClampNeg ∧ (w0I M k m).toNatClampNeg ≤ 9 := by
  intro m hm
  have h4 := R.1.2.1
  obtain ⟨w, hw, ew⟩ := R.2.2.1.1 m hm
  obtain ⟨s, hs, es, -⟩ := bits_n (fun x => hasB (M 8 (7 + x)) (nI m)) k (by omega)
  have h16 : 2 ^ k ≤ 16 := Nat.pow_le_pow_right (n := 2) (by decide) h4
  have hc := ones_cnt (show s < 128 by omega) 7 (by decide)
  have hcl := cntB_le (p := fun y => hasB (nI s) (nI y)) 7
  have eb : onesU (blamesF M k m) 7 = nI (cntB (fun y => hasB (nI s) (nI y)) 7) := by
    unfold blamesF; rw [es]; exact hc
  unfold w0I
  rw [ew, eb]
  generalize cntB (fun y => hasB (nI s) (nI y)) 7 = c at *
  by_cases z : c < w
  · rw [pk_sub (by omega), if_neg (nI_nle (by omega) (by omega)), nI_clamp (by omega)]
    exact ⟨rfl, by omega⟩
  · have : nI w - nI c ≤ 0 := by
      by_cases y : w = c
      · subst y; rw [pk_sub (Nat.le_refl w), Nat.sub_self]; exact Int32.le_refl _
      · exact Int32.le_of_lt (pk_sneg (by omega) (by omega))
    rw [if_pos this]
    exact ⟨rfl, by decide⟩
/-- shared, on both sides -/
theorem shared_rel {S' N : zS} (C : relC S M n k) (fr : ∀ c, (c < 28 ∨ 38 < c) → S' c = S c) (sh : shM M N) : relC S' N n k := by
  refine relC_fr C (fun c _ hc => fr c hc) (fun c h0 _ _ _ h15 => sh.1 c h15 h0) (fun j _ _ _ _ _ _ _ _ h35 => sh.2 j h35) ?_ ?_ ?_
  · obtain ⟨t, t1, t2, t3, t4⟩ := C.2.2.1
    refine ⟨t, t1, ?_, ?_, ?_⟩
    · rw [fr 1 (by decide)]; exact t2
    · rw [sh.2 1 (by decide)]; exact t3
    · rw [fr 2 (by decide), sh.1 1 (by decide) (by decide)]; exact t4
  · rw [fr 0 (by decide), sh.2 2 (by decide)]; exact C.2.2.2.2.2.1
  · rw [fr 0 (by decide), sh.2 24 (by decide)]; exact C.2.2.2.2.2.2.1
end S8
