/-! shared, the class: the lists of sets -/
def clN (M : zS) (n : Nat) (W : Nat → Nat) (x s : Nat) : List Nat := (opN M x s).filter (preF M n W x)
def lowN (M : zS) (n : Nat) (W : Nat → Nat) (x s : Nat) : Nat := (clN M n W x s).foldl (fun a o => min a (prF M n x o)) (prF M n x 0)
theorem min_le {p : Nat → Nat} : ∀ (l : List Nat) (a : Nat), l.foldl (fun a o => min a (p o)) a ≤ a ∧ ∀ o, o ∈ l → l.foldl (fun a o => min a (p o)) a ≤ p o
  | [], a => ⟨Nat.le_refl a, fun o ho => absurd ho List.not_mem_nil⟩
  | x :: l, a => by
    obtain ⟨h1, h2⟩ := min_le (p := p) l (min a (p x))
    rw [List.foldl_cons]
    refine ⟨by omega, fun o ho => ?_⟩
    rcases List.mem_cons.mp ho with rfl | h
    · omega
    · exact h2 o h
theorem clN_s (M : zS) (n : Nat) (W : Nat → Nat) (x s : Nat) : clN M n W x (s + 1) = if opP M x s = true ∧ preF M n W x s = true then clN M n W x s ++ [s] else clN M n W x s := by
  unfold clN
  rw [opN_s]
  by_cases z : opP M x s = true
  · rw [if_pos z, List.filter_append]
    by_cases y : preF M n W x s = true
    · rw [if_pos ⟨z, y⟩, List.filter_cons_of_pos y]; rfl
    · rw [if_neg (fun q => y q.2), List.filter_cons_of_neg y, List.filter_nil, List.append_nil]
  · rw [if_neg z, if_neg (fun q => z q.1)]
section S7
variable {d : Nat} {S M : zS} {n k : Nat} {W : Nat → Nat}
theorem pre_ok {f : Int32} {x s : Nat} : allU (fun m => !hasB (nI s) (nI m) || tkB M W (fun _ => 0) (fun _ => 0) f m x) n = preF M n W x s := allU_c (fun m _ => by
  rw [tkB_e, Nat.add_zero, Int32.zero_and, decide_eq_true (rfl : (0 : Int32) = 0), Bool.and_true])
theorem c_Sh_addSet {x c : Nat} {a b : Int32} (hx : x < 4) (hc : S 34 x = nI c) (c22 : c < 22) : zRuns gSh_addSet (d + 2) [.ref 28, .int (nI x), .int a, .int b] (encC S) (fun v σ' => v = none ∧ σ' = encC (zU (zU (zU S 32 (x * 22 + c) a) 33 (x * 22 + c) b) 34 x (nI (c + 1)))) := by
  refine m_Sh_addSet [] rfl (Nat.le_of_ble_eq_true rfl) ?_
  refine z_call (c_atv (n := 4) (f := S 34) rfl (by decide) rfl (by omega) hc) ?_
  refine z_le (a := 22) (b := c) (x := 22) (y := nI c) rfl rfl (by decide) (by omega) (fun q => absurd q (by omega)) (fun _ => ?_)
  refine z_call (σ1 := encC (zU S 32 (x * 22 + c) a)) (c_put (r := 32) (n := 88) (f := S 32) (j := x * 22 + c) rfl (by decide) (z_ad (z_mu rfl q22) rfl) (by omega)) ?_
  refine z_call (σ1 := encC (zU (zU S 32 (x * 22 + c) a) 33 (x * 22 + c) b)) (c_put (r := 33) (n := 88) (f := S 33) (j := x * 22 + c) rfl (by decide) (z_ad (z_mu rfl q22) rfl) (by omega)) ?_
  refine z_call (σ1 := encC (zU (zU (zU S 32 (x * 22 + c) a) 33 (x * 22 + c) b) 34 x (nI (c + 1)))) (by rw [nI_1]; exact c_put (r := 34) (n := 4) (f := S 34) (j := x) rfl (by decide) rfl (by omega)) ?_
  exact ⟨rfl, rfl⟩
/-- only the numbers of one mishap changed -/
def keepF (S S' : zS) (x : Nat) : Prop := (∀ c, (c < 30 ∨ 35 < c) → S' c = S c) ∧ ∀ y, y ≠ x → S' 31 y = S 31 y ∧ (∀ m, m < 7 → S' 30 (y * 7 + m) = S 30 (y * 7 + m)) ∧ S' 34 y = S 34 y ∧ S' 35 y = S 35 y ∧ ∀ i, i < 22 → S' 32 (y * 22 + i) = S 32 (y * 22 + i) ∧ S' 33 (y * 22 + i) = S 33 (y * 22 + i)
theorem keepF_id {x : Nat} : keepF S S x := ⟨fun _ _ => rfl, fun _ _ => ⟨rfl, fun _ _ => rfl, rfl, rfl, fun _ _ => ⟨rfl, rfl⟩⟩⟩
theorem keepF_tr {A B C : zS} {x : Nat} (h : keepF A B x) (g : keepF B C x) : keepF A C x := by
  refine ⟨fun c hc => (g.1 c hc).trans (h.1 c hc), fun y hy => ?_⟩
  obtain ⟨h1, h2, h3, h4, h5⟩ := h.2 y hy
  obtain ⟨g1, g2, g3, g4, g5⟩ := g.2 y hy
  exact ⟨g1.trans h1, fun m hm => (g2 m hm).trans (h2 m hm), g3.trans h3, g4.trans h4, fun i hi => ⟨(g5 i hi).1.trans (h5 i hi).1, (g5 i hi).2.trans (h5 i hi).2⟩⟩
theorem keepF_add {x c : Nat} {a b e : Int32} (hc : c < 22) : keepF S (zU (zU (zU S 32 (x * 22 + c) a) 33 (x * 22 + c) b) 34 x e) x := by
  refine ⟨fun c' hc' => by rw [zU_k (by omega), zU_k (by omega), zU_k (by omega)], fun y hy => ⟨rfl, fun _ _ => rfl, upd_n hy, rfl, fun i hi => ⟨upd_n (by omega), upd_n (by omega)⟩⟩⟩
theorem rel1_kp {S' : zS} {x : Nat} (h : keepF S S' x) (R : rel1 S M n k) : rel1 S' M n k := rel1_fr (fun c h1 h2 => h.1 c (by omega)) R
/-- the list of sets so far -/
def listI (S M : zS) (n : Nat) (W : Nat → Nat) (x s : Nat) : Prop := S 34 x = nI (clN M n W x s).length ∧ ∀ i, i < (clN M n W x s).length → S 32 (x * 22 + i) = nI ((clN M n W x s).getD i 0) ∧ S 33 (x * 22 + i) = nI (prF M n x ((clN M n W x s).getD i 0))
theorem tkI_kp {S' : zS} {x : Nat} {c : Nat → Nat} {g : Nat → Int32} {f : Int32} (h : keepF S S' x) (h1 : S' 31 = S 31) (h0 : S' 30 = S 30) (T : tkI S M n W c g f x) : tkI S' M n W c g f x := by
  unfold tkI at T ⊢
  rw [h.1 29 (by decide), h.1 36 (by decide), h1, h0]
  exact T
theorem clN_1 (h7 : n ≤ 7) (x : Nat) : clN M n W x 1 = [0] := by
  have e : preF M n W x 0 = true := allU_i (fun m hm => by rw [has_0 (by omega)]; rfl)
  have o : opP M x 0 = true := rfl
  have c0 : clN M n W x 0 = [] := rfl
  rw [clN_s, if_pos ⟨o, e⟩, c0]; rfl
theorem lowN_le {x s : Nat} (R : okM M n k) (Y : okY M) (hx : x < k) : lowN M n W x s ≤ 1000 := Nat.le_trans (min_le _ _).1 (prF_n R Y hx (show 0 < 128 by decide)).2
theorem c_Sh_listSets (R : rel1 S M n k) (Y : okY M) {x r : Nat} {f : Int32} (hx : x < k) (hr : S 35 (x + 1) = nI r) (T : tkI S M n W (fun _ => 0) (fun _ => 0) f x) : zRuns gSh_listSets (d + 4) [.ref 28, .int (nI x)] (encC S) (fun v σ' => v = none ∧ ∃ S', σ' = encC S' ∧ keepF S S' x ∧ S' 31 = S 31 ∧ S' 30 = S 30 ∧ listI S' M n W x (2 ^ n) ∧ S' 35 x = nI (r + lowN M n W x (2 ^ n))) := by
  have h7 := R.1.1; have h4 := R.1.2.1
  have hp2 : 2 ^ n ≤ 128 := Nat.pow_le_pow_right (n := 2) (by decide) h7
  have hp1 : 1 ≤ 2 ^ n := Nat.one_le_two_pow
  have p0 := (prF_n R.1 Y hx (show 0 < 128 by decide)).1
  rw [if_pos nI_0, rate_0 n h7, Int32.add_zero] at p0
  have eprod : S 14 2 * M 4 (6 * x + 4) = nI (prF M n x 0) := by rw [R.2.2.2.1.2.2.2.2.1]; exact p0
  refine m_Sh_listSets [44] rfl (Nat.le_of_ble_eq_true rfl) ?_
  refine z_call (c_atv (n := 4) (f := S 23) rfl (by decide) rfl (by omega) (R_x R hx).2.2.2.2.1) ?_
  refine z_call (σ1 := encC (zU S 34 x 0)) (c_put (r := 34) (n := 4) (f := S 34) (j := x) rfl (by decide) rfl (by omega)) ?_
  refine z_call (c_Sh_addSet (d := d + 1) (S := zU S 34 x 0) (x := x) (c := 0) (by omega) upd_s (by decide)) ?_
  rw [eprod]
  have k1 : keepF S (zU (zU (zU (zU S 34 x 0) 32 (x * 22 + 0) 0) 33 (x * 22 + 0) (nI (prF M n x 0))) 34 x (nI (0 + 1))) x := keepF_tr (⟨fun c hc => zU_k (by omega), fun y hy => ⟨rfl, fun _ _ => rfl, upd_n hy, rfl, fun _ _ => ⟨rfl, rfl⟩⟩⟩ : keepF S (zU S 34 x 0) x) (keepF_add (by decide))
  have l1 : listI (zU (zU (zU (zU S 34 x 0) 32 (x * 22 + 0) 0) 33 (x * 22 + 0) (nI (prF M n x 0))) 34 x (nI (0 + 1))) M n W x 1 := by
    unfold listI
    rw [clN_1 h7]
    refine ⟨upd_s, fun i hi => ?_⟩
    have : i = 0 := by
      have : ([0] : List Nat).length = 1 := rfl
      omega
    subst this
    exact ⟨upd_s, upd_s⟩
  have lo1 : lowN M n W x 1 = prF M n x 0 := by
    unfold lowN
    rw [clN_1 h7]
    exact Nat.min_self _
  have t31 : (zU (zU (zU (zU S 34 x 0) 32 (x * 22 + 0) 0) 33 (x * 22 + 0) (nI (prF M n x 0))) 34 x (nI (0 + 1))) 31 = S 31 := rfl
  have t30 : (zU (zU (zU (zU S 34 x 0) 32 (x * 22 + 0) 0) 33 (x * 22 + 0) (nI (prF M n x 0))) 34 x (nI (0 + 1))) 30 = S 30 := rfl
  have t35 : (zU (zU (zU (zU S 34 x 0) 32 (x * 22 + 0) 0) 33 (x * 22 + 0) (nI (prF M n x 0))) 34 x (nI (0 + 1))) 35 = S 35 := rfl
  generalize (zU (zU (zU (zU S 34 x 0) 32 (x * 22 + 0) 0) 33 (x * 22 + 0) (nI (prF M n x 0))) 34 x (nI (0 + 1))) = S1 at *
  refine ⟨trivial, ?_⟩
  refine z_up (P := fun j => ∀ i low l6 S', i = nI (j + 1) → low = nI (lowN M n W x (j + 1)) → keepF S S' x → S' 31 = S 31 → S' 30 = S 30 → S' 35 = S 35 → listI S' M n W x (j + 1) → zGood gSh_listSets (d + 4) (fun v σ' => v = none ∧ ∃ S', σ' = encC S' ∧ keepF S S' x ∧ S' 31 = S 31 ∧ S' 30 = S 30 ∧ listI S' M n W x (2 ^ n) ∧ S' 35 x = nI (r + lowN M n W x (2 ^ n))) 44 [some (.ref 28), some (.int (nI x)), some (.int (M 4 (6 * x + 4))), some (.int (nI (prF M n x 0))), some (.int low), some (.int i), l6] [] (encC S') 0 0) (2 ^ n - 1) (fun j hj ih i low l6 S' hi hlo kp e31 e30 e35 lst => ?_) 0 (Nat.zero_le _) 1 (nI (prF M n x 0)) none S1 rfl (by rw [lo1]) k1 t31 t30 t35 l1
  subst hi; subst hlo
  have R' := rel1_kp kp R
  have T' := tkI_kp kp e31 e30 T
  refine w_Sh_listSets [44] ?_
  refine z_le (a := 2 ^ n) (b := j + 1) (by show (1 : Int32) <<< (S' 14 3 &&& 31) = _; rw [R_men R']; exact b_shl7 n h7) rfl (by omega) (by omega) (fun q => ?_) (fun q => ?_)
  · have e : j + 1 = 2 ^ n := by omega
    rw [e] at lst ⊢
    refine z_call (c_atv (n := 5) (f := S' 35) rfl (by decide) (nI_1 x) (by omega) (v := nI r) (by rw [e35]; exact hr)) ?_
    refine z_call (σ1 := encC (zU S' 35 x (nI (r + lowN M n W x (2 ^ n))))) (by rw [← nI_add]; exact c_put (σ := encC S') (v := nI r + nI (lowN M n W x (2 ^ n))) (r := 35) (n := 5) (f := S' 35) (j := x) rfl (by decide) rfl (by omega)) ?_
    refine ⟨rfl, _, rfl, keepF_tr kp ⟨fun c hc => zU_k (by omega), fun y hy => ⟨rfl, fun _ _ => rfl, rfl, upd_n hy, fun _ _ => ⟨rfl, rfl⟩⟩⟩, e31, e30, lst, upd_s⟩
  · have j128 : j + 1 < 128 := by omega
    refine z_call c_bitCount ?_
    rw [b_pop (j + 1) j128]
    have skip : ¬ (opP M x (j + 1) = true ∧ preF M n W x (j + 1) = true) → zGood gSh_listSets (d + 4) (fun v σ' => v = none ∧ ∃ S', σ' = encC S' ∧ keepF S S' x ∧ S' 31 = S 31 ∧ S' 30 = S 30 ∧ listI S' M n W x (2 ^ n) ∧ S' 35 x = nI (r + lowN M n W x (2 ^ n))) 44 [some (.ref 28), some (.int (nI x)), some (.int (M 4 (6 * x + 4))), some (.int (nI (prF M n x 0))), some (.int (nI (lowN M n W x (j + 1)))), some (.int (nI (j + 1) + 1)), l6] [] (encC S') 0 0 := by
      intro h
      have e := clN_s M n W x (j + 1)
      rw [if_neg h] at e
      refine ih (by omega) _ _ _ S' (nI_1 (j + 1)) ?_ kp e31 e30 e35 ?_
      · unfold lowN; rw [e]
      · unfold listI at lst ⊢; rw [e]; exact lst
    refine ⟨fun h => ?_, fun h => ?_⟩
    · have op : opP M x (j + 1) = true := by
        unfold opP
        rw [decide_eq_true (show onesU (nI (j + 1)) 7 = M 4 (6 * x + 4) from h), Bool.or_true]
      have at0 := c_Sh_allTake (d := d) (s := j + 1) R' hx T'
      rw [pre_ok] at at0
      refine z_call at0 ?_
      refine z_b (fun h2 => ?_) (fun h2 => ?_)
      · exact ⟨trivial, skip (fun z => by rw [h2] at z; exact absurd z.2 (by decide))⟩
      · have pn := (prF_n R.1 Y hx j128).1
        rw [if_neg (nI_ne0 (by omega) (by omega)), Int32.zero_add] at pn
        have e := clN_s M n W x (j + 1)
        rw [if_pos ⟨op, h2⟩] at e
        have hl : (clN M n W x (j + 1)).length < 22 := by
          have h1 := opN_len R.1 hx (show j + 1 + 1 ≤ 128 by omega)
          rw [opN_s, if_pos op, List.length_append] at h1
          have h3 : (clN M n W x (j + 1)).length ≤ (opN M x (j + 1)).length := List.length_filter_le _ _
          have h5 : [j + 1].length = 1 := rfl
          omega
        refine z_call (c_Fa_ratesOf (d := d + 1) R') ?_
        rw [pn]
        refine z_call (c_Sh_addSet (d := d + 1) (S := S') (x := x) (c := (clN M n W x (j + 1)).length) (by omega) lst.1 hl) ?_
        refine z_call c_min ?_
        have em : (if nI (prF M n x (j + 1)) < nI (lowN M n W x (j + 1)) then nI (prF M n x (j + 1)) else nI (lowN M n W x (j + 1))) = nI (lowN M n W x (j + 1 + 1)) := by
          have el : lowN M n W x (j + 1 + 1) = min (lowN M n W x (j + 1)) (prF M n x (j + 1)) := by
            unfold lowN
            rw [e, List.foldl_append]; rfl
          have b1 := lowN_le (W := W) (s := j + 1) R.1 Y hx
          have b2 := (prF_n R.1 Y hx j128).2
          rw [el]
          by_cases z : prF M n x (j + 1) < lowN M n W x (j + 1)
          · rw [if_pos ((nI_ltI (by omega) (by omega)).mpr z)]; congr 1; omega
          · rw [if_neg (fun q => z ((nI_ltI (by omega) (by omega)).mp q))]; congr 1; omega
        rw [em]
        refine ⟨trivial, ih (by omega) _ _ _ _ (nI_1 (j + 1)) rfl (keepF_tr kp (keepF_add hl)) e31 e30 e35 ?_⟩
        unfold listI
        rw [e, List.length_append]
        refine ⟨upd_s, fun i hi => ?_⟩
        by_cases z : i = (clN M n W x (j + 1)).length
        · subst z
          rw [getD_r]
          exact ⟨upd_s, upd_s⟩
        · have hi' : i < (clN M n W x (j + 1)).length := by
            have h5 : [j + 1].length = 1 := rfl
            omega
          rw [getD_l hi']
          obtain ⟨g1, g2⟩ := lst.2 i hi'
          exact ⟨(upd_n (by omega)).trans g1, (upd_n (by omega)).trans g2⟩
    · have op : opP M x (j + 1) = false := by
        unfold opP
        rw [decide_eq_false (show ¬ onesU (nI (j + 1)) 7 = M 4 (6 * x + 4) from h), decide_eq_false (by omega)]; rfl
      exact ⟨trivial, skip (fun z => by rw [op] at z; exact absurd z.1 (by decide))⟩
end S7
