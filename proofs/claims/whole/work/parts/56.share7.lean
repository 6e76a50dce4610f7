/-! shared, the class: search and pick -/
def preF (M : zS) (n : Nat) (W : Nat → Nat) (x s : Nat) : Bool := allU (fun m => !hasB (nI s) (nI m) || fitsB M m x (nI (min 9 (W m)))) n
def clL (M : zS) (n : Nat) (W : Nat → Nat) (x : Nat) : List Nat := (opL M n x).filter (preF M n W x)
def lookOk (S M : zS) (n k : Nat) (W rest : Nat → Nat) (x : Nat) : Prop := S 31 x = bits (fun y => farB M x y) k ∧ (∀ m, m < n → S 30 (x * 7 + m) = wlF M m x (wh M m x)) ∧ S 34 x = nI (clL M n W x).length ∧ (∀ i, i < (clL M n W x).length → S 32 (x * 22 + i) = nI ((clL M n W x).getD i 0) ∧ S 33 (x * 22 + i) = nI (prF M n x ((clL M n W x).getD i 0))) ∧ S 35 x = nI (rest x)
def staI (S M : zS) (n k : Nat) (W rest : Nat → Nat) : Prop := (∀ m, m < n → S 29 m = nI (W m) ∧ W m ≤ 9) ∧ (∀ x, x < k → lookOk S M n k W rest x) ∧ S 35 k = nI (rest k) ∧ ∀ x, x ≤ k → rest x ≤ 4000
def accC (k : Nat) (a : zAcc) (S : zS) : Prop :=
  match a with
  | none => S 28 13 = 2147483647
  | some p => S 28 13 = nI p.1 ∧ p.1 ≤ 4000 ∧ ∀ y, y < k → S 38 y = nI (p.2 y)
def srchI (S : zS) (n : Nat) (s : Nat → Nat) (x : Nat) : Prop := (∀ m, m < n → S 36 m = bits (fun y => hasB (nI (s y)) (nI m)) x) ∧ ∀ y, y < x → S 37 y = nI (s y)
def shF (S S' : zS) : Prop := ∀ c, c ≠ 28 → c ≠ 36 → c ≠ 37 → c ≠ 38 → S' c = S c
def srQ (n k x : Nat) (S : zS) (r : zAcc) (v : Option Value) (σ' : List va_E) : Prop := v = none ∧ ∃ S', σ' = encC S' ∧ shF S S' ∧ (∀ m, m < n → S' 36 m = S 36 m) ∧ (∀ y, y < x → S' 37 y = S 37 y) ∧ accC k r S'
theorem shF_tr {S S' S'' : zS} (a : shF S S') (b : shF S' S'') : shF S S'' := fun c h1 h2 h3 h4 => (b c h1 h2 h3 h4).trans (a c h1 h2 h3 h4)
theorem staI_fr {S S' M : zS} {n k : Nat} {W rest : Nat → Nat} (h : shF S S') (I : staI S M n k W rest) : staI S' M n k W rest := by
  unfold staI lookOk at I ⊢
  rw [h 29 (by decide) (by decide) (by decide) (by decide), h 30 (by decide) (by decide) (by decide) (by decide), h 31 (by decide) (by decide) (by decide) (by decide), h 32 (by decide) (by decide) (by decide) (by decide), h 33 (by decide) (by decide) (by decide) (by decide), h 34 (by decide) (by decide) (by decide) (by decide), h 35 (by decide) (by decide) (by decide) (by decide)]
  exact I
theorem rel1_sh {S S' M : zS} {n k : Nat} (h : shF S S') (R : rel1 S M n k) : rel1 S' M n k := rel1_fr (fun c h1 h2 => h c (by omega) (by omega) (by omega) (by omega)) R
theorem opL_mem {M : zS} {n x o : Nat} (hn : n ≤ 7) (h : o ∈ opL M n x) : o < 128 := by
  have h1 := List.mem_range.mp (List.mem_filter.mp h).1
  have : 2 ^ n ≤ 128 := Nat.pow_le_pow_right (n := 2) (by decide) hn
  omega
theorem getD_mem {l : List Nat} {i : Nat} (h : i < l.length) : l.getD i 0 ∈ l := by
  rw [List.getD, List.getElem?_eq_getElem h]
  exact List.getElem_mem h
section S6
variable {d : Nat} {S M : zS} {n k : Nat} {W rest : Nat → Nat}
theorem tkB_e {c : Nat → Nat} {g : Nat → Int32} {f : Int32} {m x : Nat} : tkB M W c g f m x = (fitsB M m x (nI (min 9 (W m + c m))) && decide (g m &&& f = 0)) := rfl
theorem okm_e {s : Nat → Nat} {m x : Nat} : okm M W s m x = (!hasB (nI (s x)) (nI m) || (fitsB M m x (nI (min 9 (W m + cntU s m x))) && allU (fun y => !(hasB (nI (s y)) (nI m) && farB M x y)) x)) := rfl
theorem cntU_u {s : Nat → Nat} {x o m : Nat} : cntU (updN s x o) m x = cntU s m x := by
  rw [cntU_B, cntU_B]
  exact cntB_c (fun y hy => by rw [updN_n (by omega)])
theorem allU_c {p q : Nat → Bool} : ∀ {n : Nat}, (∀ m, m < n → p m = q m) → allU p n = allU q n
  | 0, _ => rfl
  | n + 1, h => by rw [allU, allU, allU_c (fun m hm => h m (by omega)), h n (by omega)]
theorem allU_u {s : Nat → Nat} {x o m : Nat} : allU (fun y => !(hasB (nI (updN s x o y)) (nI m) && farB M x y)) x = allU (fun y => !(hasB (nI (s y)) (nI m) && farB M x y)) x := allU_c (fun y hy => by rw [updN_n (show y ≠ x by omega)])
theorem tk_ok1 {s : Nat → Nat} {x o m : Nat} (hx : x < k) (hk : k ≤ 4) : (!hasB (nI o) (nI m) || tkB M W (fun m => cntU s m x) (fun m => bits (fun y => hasB (nI (s y)) (nI m)) x) (bits (fun y => farB M x y) k) m x) = okm M W (updN s x o) m x := by
  rw [tkB_e, okm_e, updN_s, cntU_u, allU_u, bits_and (Nat.le_of_lt hx) hk]
theorem tk_ok {s : Nat → Nat} {x o : Nat} (hx : x < k) (hk : k ≤ 4) : allU (fun m => !hasB (nI o) (nI m) || tkB M W (fun m => cntU s m x) (fun m => bits (fun y => hasB (nI (s y)) (nI m)) x) (bits (fun y => farB M x y) k) m x) n = okS M n W (updN s x o) x := allU_c (fun m _ => tk_ok1 hx hk)
/-- what search does, from one mishap on -/
def srP (M : zS) (n k : Nat) (W rest : Nat → Nat) (j e : Nat) : Prop := ∀ S s c a, rel1 S M n k → staI S M n k W rest → srchI S n s (k - j) → accC k a S → c = costU (prF M n) s (k - j) → (∀ x, x < k - j → s x < 128) →
  zRuns gSh_search e [.ref 28, .int (nI (k - j)), .int (nI c)] (encC S) (srQ n k (k - j) S (csU (clL M n W) (prF M n) (okS M n W) rest k j s c a))
theorem c_Sh_pick {j f x : Nat} (hx : x = k - (j + 1)) (hj : j + 1 ≤ k) (hs : srP M n k W rest j (f + 4)) {s : Nat → Nat} {c o : Nat} {a : zAcc} (R : rel1 S M n k) (I : staI S M n k W rest) (J : srchI S n s x) (A : accC k a S) (hc : c = costU (prF M n) s x + prF M n x o) (h128 : ∀ y, y < x → s y < 128) (ho : o < 128) :
    zRuns gSh_pick (f + 5) [.ref 28, .int (nI x), .int (nI o), .int (nI c)] (encC S) (srQ n k x S (if okS M n W (updN s x o) x = true then csU (clL M n W) (prF M n) (okS M n W) rest k j (updN s x o) c a else a)) := by
  have h7 := R.1.1; have h4 := R.1.2.1
  have xk : x < k := by omega
  have xj : k - j = x + 1 := by omega
  refine m_Sh_pick [] rfl (Nat.le_of_ble_eq_true rfl) ?_
  have tI : tkI S M n W (fun m => cntU s m x) (fun m => bits (fun y => hasB (nI (s y)) (nI m)) x) (bits (fun y => farB M x y) k) x := by
    refine ⟨fun m hm => ⟨(I.1 m hm).1, (I.1 m hm).2, J.1 m hm, ?_, ?_, (I.2.1 x xk).2.1 m hm⟩, (I.2.1 x xk).1⟩
    · show zPop32 (bits (fun y => hasB (nI (s y)) (nI m)) x) = nI (cntU s m x)
      rw [cntU_B]; exact bits_pop (by omega)
    · show cntU s m x ≤ 7
      have := cntB_le (p := fun y => hasB (nI (s y)) (nI m)) x
      rw [cntU_B]; omega
  have at0 := c_Sh_allTake (d := f + 1) (s := o) R xk tI
  rw [tk_ok xk h4] at at0
  refine z_call at0 ?_
  refine z_b (fun h => ?_) (fun h => ?_)
  · rw [h, if_neg (by decide)]
    exact ⟨rfl, S, rfl, fun _ _ _ _ _ => rfl, fun _ _ => rfl, fun _ _ => rfl, A⟩
  · rw [if_pos h]
    refine z_callE (c_Sh_give (d := f + 2) (s := o) (b := (1 : Int32) <<< (nI x &&& 31)) R) ?_
    rintro v σ' ⟨rfl, F, rfl, hF⟩
    refine z_call (σ1 := encC (zU (zUr S 36 F) 37 x (nI o))) (c_put (r := 37) (n := 4) (f := S 37) (j := x) rfl (by decide) rfl (by omega)) ?_
    have fr1 : shF S (zU (zUr S 36 F) 37 x (nI o)) := fun c _ h2 h3 _ => by rw [zU_k h3, zUr_k h2]
    have bp : ∀ m, bits (fun y => hasB (nI (updN s x o y)) (nI m)) x = bits (fun y => hasB (nI (s y)) (nI m)) x := fun m => bits_congr (fun y hy => by rw [updN_n (by omega)])
    have sv := hs (zU (zUr S 36 F) 37 x (nI o)) (updN s x o) c a (rel1_sh fr1 R) (staI_fr fr1 I) (by
      rw [xj]
      refine ⟨fun m hm => ?_, fun y hy => ?_⟩
      · show F m = _
        rw [hF m hm, J.1 m hm, ← bp m]
        by_cases z : hasB (nI o) (nI m) = true
        · rw [if_pos z]
          exact (bits_x (p := fun y => hasB (nI (updN s x o y)) (nI m)) (by omega) (by show hasB (nI (updN s x o x)) (nI m) = true; rw [updN_s]; exact z)).1
        · rw [if_neg z]
          exact bits_c (p := fun y => hasB (nI (updN s x o y)) (nI m)) (by show hasB (nI (updN s x o x)) (nI m) = false; rw [updN_s]; exact eq_false_of_ne_true z)
      · show upd (S 37) x (nI o) y = _
        by_cases z : y = x
        · rw [z, upd_s, updN_s]
        · rw [upd_n z, updN_n z]; exact J.2 y (by omega)) (by cases a <;> exact A) (by
      rw [xj, costU, updN_s, hc, costU_c (s := updN s x o) (t := s) (fun y hy => updN_n (by omega))]) (fun y hy => by
      by_cases z : y = x
      · rw [z, updN_s]; exact ho
      · rw [updN_n z]; exact h128 y (by omega))
    rw [xj, ← nI_1] at sv
    refine z_callE sv ?_
    rintro v σ' ⟨rfl, S2, rfl, fr2, g1, g2, A2⟩
    refine z_callE (c_Sh_give (d := f + 2) (s := o) (b := (1 : Int32) <<< (nI x &&& 31)) (rel1_sh (shF_tr fr1 fr2) R)) ?_
    rintro v σ' ⟨rfl, F2, rfl, hF2⟩
    refine ⟨rfl, zUr S2 36 F2, rfl, fun c h1 h2 h3 h4 => ?_, fun m hm => ?_, fun y hy => ?_, ?_⟩
    · rw [zUr_k h2]; exact shF_tr fr1 fr2 c h1 h2 h3 h4
    · show F2 m = _
      rw [hF2 m hm, g1 m hm]
      show (if _ then F m ^^^ _ else F m) = _
      rw [hF m hm]
      by_cases z : hasB (nI o) (nI m) = true
      · rw [if_pos z, if_pos z, J.1 m hm, ← bp m]
        have b2 := bits_x (p := fun y => hasB (nI (updN s x o y)) (nI m)) (show x < 4 by omega) (by show hasB (nI (updN s x o x)) (nI m) = true; rw [updN_s]; exact z)
        rw [b2.1]; exact b2.2
      · rw [if_neg z, if_neg z]
    · show S2 37 y = _
      rw [g2 y (by omega)]
      exact upd_n (by omega)
    · revert A2
      cases csU (clL M n W) (prF M n) (okS M n W) rest k j (updN s x o) c a <;> exact fun h => h
def accL : zAcc → Nat
  | none => 2147483647
  | some p => p.1
theorem accL_lt {c : Nat} {a : zAcc} (hc : c < 2147483647) : ltA c a = decide (c < accL a) := by
  cases a with
  | none => exact (decide_eq_true hc).symm
  | some p => rfl
theorem accC_L {a : zAcc} (A : accC k a S) : S 28 13 = nI (accL a) ∧ accL a < 2 ^ 31 := by
  cases a with
  | none => exact ⟨A, by decide⟩
  | some p => exact ⟨A.1, by have := A.2.1; show p.1 < _; omega⟩
theorem costU_le2 (I : okM M n k) (Y : okY M) {s : Nat → Nat} : ∀ x, x ≤ k → (∀ y, y < x → s y < 128) → costU (prF M n) s x ≤ 1000 * x
  | 0, _, _ => Nat.le_refl 0
  | x + 1, h, hs => by
    have := costU_le2 I Y (s := s) x (by omega) (fun y hy => hs y (by omega))
    have := (prF_n I Y (show x < k by omega) (hs x (by omega))).2
    rw [costU]
    omega
theorem c_Sh_search (Y : okY M) (I0 : okM M n k) : ∀ j, j ≤ k → ∀ e, 2 * j + 4 ≤ e → srP M n k W rest j e := by
  intro j
  induction j with
  | zero =>
    intro _ e he S s c a R I J A hc h128
    have h7 := R.1.1; have h4 := R.1.2.1
    obtain ⟨f, rfl⟩ : ∃ f, e = f + 4 := ⟨e - 4, by omega⟩
    have hc4 := costU_le I0 Y h128 k (Nat.le_refl k)
    have hcc : c = costU (prF M n) s k := hc
    refine m_Sh_search [57] rfl (Nat.le_of_ble_eq_true rfl) ?_
    refine z_le (a := k) (b := k - 0) (R_mis R) rfl (by omega) (by omega) (fun q => ?_) (fun q => absurd q (by omega))
    refine z_call (c_copyRow (r1 := 37) (r2 := 38) (n1 := 4) (n2 := 4) (f1 := S 37) (f2 := S 38) rfl rfl (by decide) (by decide) (by decide)) ?_
    refine ⟨rfl, zUr (zU S 28 13 (nI c)) 38 (cpR 4 (S 37) (S 38)), rfl, fun c h1 h2 h3 h4 => ?_, fun _ _ => rfl, fun _ _ => rfl, ?_⟩
    · rw [zUr_k h4, zU_k h1]
    · refine ⟨rfl, by show c ≤ 4000; omega, fun y hy => ?_⟩
      show cpR 4 (S 37) (S 38) y = nI (s y)
      unfold cpR
      rw [if_pos (by omega)]
      exact J.2 y hy
  | succ j ih =>
    intro hj e he S s c a R I J A hc h128
    have h7 := R.1.1; have h4 := R.1.2.1
    obtain ⟨f, rfl⟩ : ∃ f, e = f + 6 := ⟨e - 6, by omega⟩
    have hs := ih (by omega) (f + 4) (by omega)
    have hcs : csU (clL M n W) (prF M n) (okS M n W) rest k (j + 1) s c a = (clL M n W (k - (j + 1))).foldl (fun a o => if ltA (c + prF M n (k - (j + 1)) o + rest (k - (j + 1) + 1)) a = true then (if okS M n W (updN s (k - (j + 1)) o) (k - (j + 1)) = true then csU (clL M n W) (prF M n) (okS M n W) rest k j (updN s (k - (j + 1)) o) (c + prF M n (k - (j + 1)) o) a else a) else a) a := rfl
    rw [hcs]
    clear hcs
    generalize hx : k - (j + 1) = x at *
    have xk : x < k := by omega
    have hc4 := costU_le2 I0 Y (s := s) x (by omega) h128
    obtain ⟨l1, l2, l3, l4, l5⟩ := I.2.1 x xk
    have hr : S 35 (x + 1) = nI (rest (x + 1)) := by
      by_cases z : x + 1 < k
      · exact (I.2.1 (x + 1) z).2.2.2.2
      · rw [show x + 1 = k by omega]; exact I.2.2.1
    have hr4 := I.2.2.2 (x + 1) (by omega)
    have hmem : ∀ o, o ∈ clL M n W x → o < 128 := fun o ho => opL_mem h7 (List.mem_filter.mp ho).1
    have hlen : (clL M n W x).length ≤ 22 := Nat.le_trans (List.length_filter_le _ _) (opN_len I0 xk (Nat.pow_le_pow_right (n := 2) (by decide) h7))
    refine m_Sh_search [57] rfl (Nat.le_of_ble_eq_true rfl) ?_
    refine z_le (a := k) (b := x) (R_mis R) rfl (by omega) (by omega) (fun q => absurd q (by omega)) (fun _ => ?_)
    refine z_lt (a := x) (b := 4) rfl rfl (by omega) (by decide) (fun _ => ?_) (fun q => absurd q (by omega))
    refine z_call (c_atv (n := 5) (f := S 35) rfl (by decide) (nI_1 x) (by omega) hr) ?_
    refine z_call (c_atv (n := 4) (f := S 34) rfl (by decide) rfl (by omega) l3) ?_
    refine ⟨trivial, ?_⟩
    generalize hfn : (fun (a : zAcc) (o : Nat) => if ltA (c + prF M n x o + rest (x + 1)) a = true then (if okS M n W (updN s x o) x = true then csU (clL M n W) (prF M n) (okS M n W) rest k j (updN s x o) (c + prF M n x o) a else a) else a) = fn at *
    generalize hR0 : (clL M n W x).foldl fn a = R0 at *
    refine z_up (P := fun i => ∀ ii S' a' l6, ii = nI i → shF S S' → (∀ m, m < n → S' 36 m = S 36 m) → (∀ y, y < x → S' 37 y = S 37 y) → accC k a' S' → ((clL M n W x).drop i).foldl fn a' = R0 → zGood gSh_search (f + 6) (srQ n k x S R0) 57 [some (.ref 28), some (.int (nI x)), some (.int (nI c)), some (.int (nI (rest (x + 1)))), some (.int (nI (clL M n W x).length)), some (.int ii), l6] [] (encC S') 0 0) (clL M n W x).length (fun i hi ihi ii S' a' l6 hii fr g1 g2 A' hd => ?_) 0 (Nat.zero_le _) 0 S a none nI_0.symm (fun _ _ _ _ _ => rfl) (fun _ _ => rfl) (fun _ _ => rfl) A hR0
    subst hii
    refine w_Sh_search [57] ?_
    refine z_le (a := (clL M n W x).length) (b := i) rfl rfl (by omega) (by omega) (fun q => ?_) (fun q => ?_)
    · rw [List.drop_of_length_le q] at hd
      have hd' : a' = R0 := hd
      subst hd'
      exact ⟨rfl, S', rfl, fr, g1, g2, A'⟩
    · have I' := staI_fr fr I
      obtain ⟨m1, m2, m3, m4, m5⟩ := I'.2.1 x xk
      generalize ho : (clL M n W x).getD i 0 = o at *
      have o128 : o < 128 := hmem o (by rw [← ho]; exact getD_mem q)
      have pn := (prF_n I0 Y xk o128).2
      have e4 := m4 i q
      rw [ho] at e4
      refine z_call (c_atv (n := 88) (f := S' 33) rfl (by decide) (z_ad (z_mu rfl q22) rfl) (by omega) e4.2) ?_
      obtain ⟨aL, aB⟩ := accC_L A'
      have hdr : (clL M n W x).drop i = o :: (clL M n W x).drop (i + 1) := by
        rw [List.drop_eq_getElem_cons q]
        congr 1
        rw [← ho, List.getD, List.getElem?_eq_getElem q]; rfl
      rw [hdr, List.foldl_cons] at hd
      have efn : fn a' o = if ltA (c + prF M n x o + rest (x + 1)) a' = true then (if okS M n W (updN s x o) x = true then csU (clL M n W) (prF M n) (okS M n W) rest k j (updN s x o) (c + prF M n x o) a' else a') else a' := by rw [← hfn]
      refine z_le (a := accL a') (b := c + prF M n x o + rest (x + 1)) aL (z_ad (z_ad rfl rfl) rfl) aB (by omega) (fun q2 => ?_) (fun q2 => ?_)
      · have hlt : ltA (c + prF M n x o + rest (x + 1)) a' = false := by
          rw [accL_lt (by omega)]; exact decide_eq_false (by omega)
        rw [efn, hlt, if_neg (by decide)] at hd
        exact ⟨trivial, ihi q _ S' a' _ (nI_1 i) fr g1 g2 A' hd⟩
      · have hlt : ltA (c + prF M n x o + rest (x + 1)) a' = true := by
          rw [accL_lt (by omega)]; exact decide_eq_true q2
        rw [efn, hlt, if_pos rfl] at hd
        refine z_call (c_atv (n := 88) (f := S' 32) rfl (by decide) (z_ad (z_mu rfl q22) rfl) (by omega) e4.1) ?_
        have pk := c_Sh_pick (f := f) (S := S') (s := s) (c := c + prF M n x o) (o := o) (a := a') hx.symm hj hs (rel1_sh fr R) I' ⟨fun m hm => (g1 m hm).trans (J.1 m hm), fun y hy => (g2 y hy).trans (J.2 y hy)⟩ A' (by rw [hc]) h128 o128
        rw [← nI_add] at pk
        refine z_callE pk ?_
        rintro v σ' ⟨rfl, S2, rfl, fr2, k1, k2, A2⟩
        exact ⟨trivial, ihi q _ S2 _ _ (nI_1 i) (shF_tr fr fr2) (fun m hm => (k1 m hm).trans (g1 m hm)) (fun y hy => (k2 y hy).trans (g2 y hy)) A2 hd⟩
end S6
