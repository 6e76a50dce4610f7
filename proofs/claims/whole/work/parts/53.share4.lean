/-! shared, the reference: shares -/
def opN (M : zS) (x s : Nat) : List Nat := (List.range s).filter (opP M x)
theorem opN_s (M : zS) (x s : Nat) : opN M x (s + 1) = if opP M x s = true then opN M x s ++ [s] else opN M x s := by
  unfold opN
  rw [List.range_succ, List.filter_append]
  by_cases z : opP M x s = true
  · rw [if_pos z, List.filter_cons_of_pos z]; rfl
  · rw [if_neg z, List.filter_cons_of_neg z, List.filter_nil, List.append_nil]
theorem opN_22 : ∀ z, z < 3 → 1 ≤ z → ((List.range 128).filter (fun s => decide (s = 0) || decide (onesU (nI s) 7 = nI z))).length ≤ 22 := by decide +kernel
def shM (M N : zS) : Prop := (∀ c, c < 15 → c ≠ 0 → N c = M c) ∧ ∀ j, j ≠ 35 → N 0 j = M 0 j
theorem rateU_c {M N : zS} (h : N 2 = M 2) {s : Nat} : ∀ m, rateU N s m = rateU M s m
  | 0 => rfl
  | m + 1 => by rw [rateU, rateU, rateU_c h m, h]
theorem fitsB_c {M N : zS} (h : shM M N) {m x : Nat} {w : Int32} : fitsB N m x w = fitsB M m x w := by
  unfold fitsB nearB canB belF wh
  rw [h.1 8 (by decide) (by decide), h.1 4 (by decide) (by decide), h.1 2 (by decide) (by decide), h.2 4 (by decide)]
theorem farB_c {M N : zS} (h : shM M N) {x y : Nat} : farB N x y = farB M x y := by
  unfold farB
  rw [h.1 4 (by decide) (by decide)]
theorem okm_c {M N : zS} (h : shM M N) {W s : Nat → Nat} {m x : Nat} : okm N W s m x = okm M W s m x := by
  unfold okm
  rw [fitsB_c h]
  simp only [farB_c h]
theorem prF_c {M N : zS} (h : shM M N) {n x s : Nat} : prF N n x s = prF M n x s := by
  unfold prF
  rw [rateU_c (h.1 2 (by decide) (by decide)), h.2 5 (by decide), h.1 4 (by decide) (by decide)]
theorem okM_c {M N : zS} {n k : Nat} (h : shM M N) (I : okM M n k) : okM N n k := by
  unfold okM at I ⊢
  rw [h.2 4 (by decide), h.2 6 (by decide), h.2 7 (by decide), h.1 2 (by decide) (by decide), h.1 4 (by decide) (by decide)]
  exact I
theorem w0I_c {M N : zS} {k m : Nat} (h : shM M N) : w0I N k m = w0I M k m := by
  unfold w0I
  rw [h.1 8 (by decide) (by decide), blamesF_congr (M := M) (N := N) (fun x hx => by rw [h.1 8 (by decide) (by decide)])]
def accR (k : Nat) (a : zAcc) (L : Int32) (B : Nat → Int32) : Prop :=
  match a with
  | none => L = -1
  | some p => L = nI p.1 ∧ p.1 ≤ 4000 ∧ ∀ y, y < k → B y = nI (p.2 y)
def shR (M : zS) (n k : Nat) (W : Nat → Nat) : zAcc := srU (opL M n) (prF M n) (okS M n W) k k (plS (opL M n) (fun _ => 0)) none
section S3
variable {d : Nat} {M : zS} {n k : Nat}
theorem opN_len (I : okM M n k) {x s : Nat} (hx : x < k) (hs : s ≤ 128) : (opN M x s).length ≤ 22 := by
  obtain ⟨z, hz1, hz2, ez⟩ := (I.2.2.2.2.2.2 x hx).2.2.2.2.1
  have h := opN_22 z (by omega) hz1
  refine Nat.le_trans ?_ h
  unfold opN opP
  rw [ez]
  exact List.Sublist.length_le (List.Sublist.filter _ (List.range_sublist.mpr hs))
theorem opL_lt (I : okM M n k) {x i : Nat} (hi : i < (opL M n x).length) : (opL M n x).getD i 0 < 2 ^ n := by
  have : (opL M n x).getD i 0 ∈ opL M n x := by
    rw [List.getD, List.getElem?_eq_getElem hi]
    exact List.getElem_mem hi
  exact List.mem_range.mp (List.mem_filter.mp this).1
theorem opL_pos (M : zS) (n x : Nat) : ∃ l, opL M n x = 0 :: l := by
  have hp : 0 < 2 ^ n := Nat.two_pow_pos n
  unfold opL
  obtain ⟨q, hq⟩ : ∃ q, 2 ^ n = q + 1 := ⟨2 ^ n - 1, by omega⟩
  rw [hq, List.range_succ_eq_map, List.filter_cons_of_pos (by rfl)]
  exact ⟨_, rfl⟩
def shQ (M : zS) (n k : Nat) (W : Nat → Nat) (v : Option Value) (σ' : List va_E) : Prop := v = none ∧ ∃ N, σ' = encM N ∧ shM M N ∧ accR k (shR M n k W) (N 0 35) (N 18)
theorem shares_main (I : okM M n k) (Y : okY M) {W : Nat → Nat} (hW : ∀ m, m < n → w0I M k m = nI (W m) ∧ W m ≤ 9) {O C : Nat → Int32} (hO : ∀ x, x < k → C x = nI (opL M n x).length ∧ ∀ i, i < (opL M n x).length → O (23 * x + i) = nI ((opL M n x).getD i 0)) {F B : Nat → Int32} {l2 l3 : Option Value} (hF : ∀ y, y < k → F y = 0) : zGood gM_shares (d + 4) (shQ M n k W) 104 [some (.ref 0), some (.int 1), l2, l3] [] (encM (zUr (zUr (zU (zUr (zUr M 15 O) 16 C) 0 35 (-1)) 17 F) 18 B)) 0 0 := by
  have h7 := I.1; have h4 := I.2.1
  have hp2 : 2 ^ n ≤ 128 := Nat.pow_le_pow_right (n := 2) (by decide) h7
  have sh : ∀ L F B, shM M (zUr (zUr (zU (zUr (zUr M 15 O) 16 C) 0 35 L) 17 F) 18 B) := fun L F B =>
    ⟨fun c hc h0 => by rw [zUr_k (by omega), zUr_k (by omega), zU_k h0, zUr_k (by omega), zUr_k (by omega)], fun j hj => upd_n hj⟩
  have key := count_go (opts := opL M n) (pr := prF M n) (ok := okS M n W) (k := k)
    (H := fun p a => ∀ L F B l2 l3, (∀ y, y < k → F y = nI (p y)) → accR k a L B → zGood gM_shares (d + 4) (shQ M n k W) 104 [some (.ref 0), some (.int 1), l2, l3] [] (encM (zUr (zUr (zU (zUr (zUr M 15 O) 16 C) 0 35 L) 17 F) 18 B)) 0 0)
    (X := fun a => ∀ L F B l2 l3, accR k a L B → zGood gM_shares (d + 4) (shQ M n k W) 104 [some (.ref 0), some (.int 0), l2, l3] [] (encM (zUr (zUr (zU (zUr (zUr M 15 O) 16 C) 0 35 L) 17 F) 18 B)) 0 0)
    ?_ ?_ ?_
  · exact key (-1) F B l2 l3 (fun y hy => by rw [hF y hy]; rfl) rfl
  · intro p a hp hE L F B l2 l3 hFp hA
    have len : ∀ x, x < k → (opL M n x).length ≤ 22 := fun x hx => opN_len I hx hp2
    have fin : ∀ a', ctE (opL M n) k (fun p a => ∀ L F B l2 l3, (∀ y, y < k → F y = nI (p y)) → accR k a L B → zGood gM_shares (d + 4) (shQ M n k W) 104 [some (.ref 0), some (.int 1), l2, l3] [] (encM (zUr (zUr (zU (zUr (zUr M 15 O) 16 C) 0 35 L) 17 F) 18 B)) 0 0) (fun a => ∀ L F B l2 l3, accR k a L B → zGood gM_shares (d + 4) (shQ M n k W) 104 [some (.ref 0), some (.int 0), l2, l3] [] (encM (zUr (zUr (zU (zUr (zUr M 15 O) 16 C) 0 35 L) 17 F) 18 B)) 0 0) p a' →
        ∀ L B l2 l3, accR k a' L B → zGood gM_shares (d + 4) (shQ M n k W) 179 [some (.ref 0), some (.int 1), l2, l3] [] (encM (zUr (zUr (zU (zUr (zUr M 15 O) 16 C) 0 35 L) 17 F) 18 B)) 0 0 := by
      intro a' hE L B l2 l3 hA
      refine w_M_shares [2, 26, 104, 143] ?_
      refine z_callE (c_M_counts (M := zUr (zUr (zU (zUr (zUr M 15 O) 16 C) 0 35 L) 17 F) 18 B) (p := p) (c := fun x => (opL M n x).length) (okM_c (sh L F B) I) (fun x hx => ⟨hFp x hx, (hO x hx).1, hp x hx, len x hx⟩)) ?_
      rintro v σ' ⟨F', rfl, h⟩
      rcases h with ⟨rfl, x, h1, h2, h3, h4⟩ | ⟨rfl, h1⟩
      · exact ⟨trivial, hE.1 x h1 h2 h3 L F' B l2 l3 h4 hA⟩
      · exact ⟨trivial, hE.2 h1 L F' B l2 l3 hA⟩
    have hs : encS (zUr (zUr (zU (zUr (zUr M 15 O) 16 C) 0 35 L) 17 F) 18 B) k (plS (opL M n) p) := fun x hx => ⟨p x, by have := hp x hx; have := len x hx; omega, hFp x hx, (hO x hx).2 (p x) (hp x hx), Nat.lt_of_lt_of_le (opL_lt I (hp x hx)) hp2⟩
    generalize hS : plS (opL M n) p = s at *
    have hc4 := costU_le I Y (s := s) (fun x hx => (hs x hx).choose_spec.2.2.2) k (Nat.le_refl k)
    have ec : ∀ N, shM M N → costU (prF N n) s k = costU (prF M n) s k := by
      intro N h
      have : prF N n = prF M n := by funext x y; exact prF_c h
      rw [this]
    have ecan : ∀ N, shM M N → canF N n k W s = allU (okS M n W s) k := by
      intro N h
      rw [← canF_ok]
      unfold canF
      simp only [okm_c h]
    refine w_M_shares [2, 26, 104, 143, 179] ?_
    refine br_f (by decide) ?_
    refine z_call (c_M_costs (d := d + 2) (M := zUr (zUr (zU (zUr (zUr M 15 O) 16 C) 0 35 L) 17 F) 18 B) (okM_c (sh L F B) I) (by obtain ⟨y, y1, y2⟩ := Y; exact ⟨y, y1, y2⟩) hs) ?_
    rw [ec _ (sh L F B)]
    have can : zRuns gM_canBe (d + 3) [.ref 0] (encM (zUr (zUr (zU (zUr (zUr M 15 O) 16 C) 0 35 L) 17 F) 18 B)) (fun v σ' => v = some (.int (bI (allU (okS M n W s) k))) ∧ σ' = encM (zUr (zUr (zU (zUr (zUr M 15 O) 16 C) 0 35 L) 17 F) 18 B)) := by
      have := c_M_canBe (d := d) (M := zUr (zUr (zU (zUr (zUr M 15 O) 16 C) 0 35 L) 17 F) 18 B) (okM_c (sh L F B) I) (W := W) (s := s) (fun m hm => by rw [w0I_c (sh L F B)]; exact hW m hm) hs
      rw [ecan _ (sh L F B)] at this
      exact this
    generalize hC : costU (prF M n) s k = c at *
    have no : ¬ (ltA c a = true ∧ allU (okS M n W s) k = true) → zGood gM_shares (d + 4) (shQ M n k W) 179 [some (.ref 0), some (.int 1), some (.int (nI c)), l3] [] (encM (zUr (zUr (zU (zUr (zUr M 15 O) 16 C) 0 35 L) 17 F) 18 B)) 0 0 := by
      intro h
      refine fin a ?_ L B _ _ hA
      have e : leafA (prF M n) (okS M n W) k s a = a := by unfold leafA; rw [hC]; exact if_neg h
      rw [e] at hE
      exact hE
    have yes : ltA c a = true → allU (okS M n W s) k = true → zGood gM_shares (d + 4) (shQ M n k W) 143 [some (.ref 0), some (.int 1), some (.int (nI c)), some (.int 0)] [] (encM (zUr (zUr (zU (zUr (zUr M 15 O) 16 C) 0 35 (nI c)) 17 F) 18 B)) 0 0 := by
      intro g1 g2
      have e : leafA (prF M n) (okS M n W) k s a = some (c, s) := by unfold leafA; rw [hC]; exact if_pos ⟨g1, g2⟩
      rw [e] at hE
      refine z_up (P := fun x => ∀ i B, i = nI x → (∀ y, y < x → B y = nI (s y)) → zGood gM_shares (d + 4) (shQ M n k W) 143 [some (.ref 0), some (.int 1), some (.int (nI c)), some (.int i)] [] (encM (zUr (zUr (zU (zUr (zUr M 15 O) 16 C) 0 35 (nI c)) 17 F) 18 B)) 0 0) k (fun x hx ih i B hi hB => ?_) 0 (Nat.zero_le _) 0 B nI_0.symm (fun y hy => absurd hy (Nat.not_lt_zero y))
      subst hi
      refine w_M_shares [2, 26, 104, 143, 179] ?_
      refine ⟨fun q => ?_, fun q => ?_⟩
      · have e := z_end I.2.2.2.1 hx (by omega) q
        subst e
        exact ⟨trivial, fin _ hE (nI c) B _ _ ⟨rfl, by show c ≤ 4000; omega, hB⟩⟩
      · have hlt := z_go I.2.2.2.1 hx (by omega) q
        obtain ⟨p', hp', ep', es', h128'⟩ := hs x hlt
        refine z_ld (k := x) rfl (by omega) (by decide) ?_
        refine z_ld (k := 23 * x + p') (z_ad (z_mu q23 rfl) ep') (by omega) (by decide) ?_
        refine z_st (k := x) rfl (by omega) (by decide) ?_
        refine ⟨trivial, ih hlt _ (upd B x (O (23 * x + p'))) (nI_1 x) (fun y hy => ?_)⟩
        by_cases z : y = x
        · rw [z, upd_s]; exact es'
        · rw [upd_n z]; exact hB y (by omega)
    cases a with
    | none =>
      have hL : L = -1 := hA
      refine ⟨fun _ => ?_, fun h => absurd hL h⟩
      refine z_call can ?_
      refine z_b (fun h => ?_) (fun h => ?_)
      · exact ⟨trivial, no (fun z => by rw [h] at z; exact absurd z.2 (by decide))⟩
      · exact ⟨trivial, yes rfl h⟩
    | some a0 =>
      obtain ⟨a1, a2, a3⟩ := hA
      refine ⟨fun h => absurd (a1.symm.trans h) (nI_ne (by omega)), fun _ => ?_⟩
      refine z_le (a := a0.1) (b := c) a1 rfl (by omega) (by omega) (fun q => ?_) (fun q => ?_)
      · refine ⟨trivial, no (fun z => ?_)⟩
        have := of_decide_eq_true z.1
        omega
      · refine z_call can ?_
        refine z_b (fun h => ?_) (fun h => ?_)
        · exact ⟨trivial, no (fun z => by rw [h] at z; exact absurd z.2 (by decide))⟩
        · exact ⟨trivial, yes (decide_eq_true q) h⟩
  · intro y hy
    obtain ⟨l, hl⟩ := opL_pos M n y
    rw [hl]; exact Nat.succ_pos _
  · intro L F B l2 l3 hA
    refine w_M_shares [2, 26, 104, 143, 179] ?_
    refine br_t rfl ?_
    exact ⟨rfl, _, rfl, sh L F B, hA⟩
end S3
