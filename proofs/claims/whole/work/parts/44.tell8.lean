/-! the class: facts taken over -/
def cpR (n : Nat) (f g : Nat → Int32) : Nat → Int32 := fun j => if j < n then f j else g j
def bc0 (S : zS) : zS := zU (zU (zU (zU (zU S 14 0 (S 3 0)) 14 1 (S 3 1)) 14 2 (S 3 2)) 14 3 (S 3 3)) 14 4 (S 3 4)
def bcF (S : zS) : zS := zUr (zUr (zUr (zUr (zUr (zUr (zUr (zUr (zUr (zUr (bc0 S) 15 (cpR 7 (S 4) (S 15))) 16 (cpR 7 (S 5) (S 16))) 17 (cpR 7 (S 6) (S 17))) 18 (cpR 42 (S 7) (S 18))) 19 (cpR 4 (S 8) (S 19))) 20 (cpR 4 (S 9) (S 20))) 21 (cpR 4 (S 10) (S 21))) 22 (cpR 4 (S 11) (S 22))) 23 (cpR 4 (S 12) (S 23))) 24 (cpR 4 (S 13) (S 24))
section T8
variable {d : Nat} {S : zS}
theorem c_become (h : S 3 0 = 0 ∨ S 3 0 = 1) : zRuns gFa_become (d + 2) [.ref 14, .ref 3] (encC S) (fun v σ' => v = none ∧ σ' = encC (bcF S)) := by
  refine m_Fa_become [] rfl (Nat.le_of_ble_eq_true rfl) ?_
  refine ⟨h, ?_⟩
  refine z_call (σ1 := encC (zUr (bc0 S) 15 (cpR 7 (S 4) (S 15)))) (c_copyRow (r1 := 4) (r2 := 15) (n1 := 7) (n2 := 7) (f1 := S 4) (f2 := S 15) rfl rfl (by decide) (by decide) (by decide)) ?_
  refine z_call (c_copyRow (r1 := 5) (r2 := 16) (n1 := 7) (n2 := 7) (f1 := S 5) (f2 := S 16) rfl rfl (by decide) (by decide) (by decide)) ?_
  refine z_call (c_copyRow (r1 := 6) (r2 := 17) (n1 := 7) (n2 := 7) (f1 := S 6) (f2 := S 17) rfl rfl (by decide) (by decide) (by decide)) ?_
  refine z_call (c_copyRow (r1 := 7) (r2 := 18) (n1 := 42) (n2 := 42) (f1 := S 7) (f2 := S 18) rfl rfl (by decide) (by decide) (by decide)) ?_
  refine z_call (c_copyRow (r1 := 8) (r2 := 19) (n1 := 4) (n2 := 4) (f1 := S 8) (f2 := S 19) rfl rfl (by decide) (by decide) (by decide)) ?_
  refine z_call (c_copyRow (r1 := 9) (r2 := 20) (n1 := 4) (n2 := 4) (f1 := S 9) (f2 := S 20) rfl rfl (by decide) (by decide) (by decide)) ?_
  refine z_call (c_copyRow (r1 := 10) (r2 := 21) (n1 := 4) (n2 := 4) (f1 := S 10) (f2 := S 21) rfl rfl (by decide) (by decide) (by decide)) ?_
  refine z_call (c_copyRow (r1 := 11) (r2 := 22) (n1 := 4) (n2 := 4) (f1 := S 11) (f2 := S 22) rfl rfl (by decide) (by decide) (by decide)) ?_
  refine z_call (c_copyRow (r1 := 12) (r2 := 23) (n1 := 4) (n2 := 4) (f1 := S 12) (f2 := S 23) rfl rfl (by decide) (by decide) (by decide)) ?_
  refine z_call (c_copyRow (r1 := 13) (r2 := 24) (n1 := 4) (n2 := 4) (f1 := S 13) (f2 := S 24) rfl rfl (by decide) (by decide) (by decide)) ?_
  exact ⟨rfl, rfl⟩
end T8
section T9
variable {d : Nat} {S : zS}
def bgF (S : zS) : Nat → Int32 := fun j => if j < 42 then S 18 j else updU (S 26) (fun _ => 0) 55 j
theorem c_begin : zRuns gSt_begin (d + 3) [.ref 25, .ref 14] (encC S) (fun v σ' => v = none ∧ σ' = encC (zUr S 26 (bgF S))) := by
  refine m_St_begin [2] rfl (Nat.le_of_ble_eq_true rfl) ?_
  refine ⟨trivial, ?_⟩
  refine z_up (P := fun j => ∀ i, i = nI j → zGood gSt_begin (d + 3) (fun v σ' => v = none ∧ σ' = encC (zUr S 26 (bgF S))) 2 [some (.ref 25), some (.ref 14), some (.int i)] [] (encC (zUr S 26 (updU (S 26) (fun _ => 0) j))) 0 0) 55 (fun j hj ih i hi => ?_) 0 (Nat.zero_le _) 0 nI_0.symm
  subst hi
  refine w_St_begin [2] ?_
  refine z_le (a := 55) (b := j) rfl rfl (by decide) (by omega) (fun q => ?_) (fun q => ?_)
  · have : j = 55 := by omega
    subst this
    refine z_call (s_takeRows (S := S) (c := updU (S 26) (fun _ => 0) 55)) ?_
    exact ⟨rfl, rfl⟩
  · refine z_st (k := j) rfl (by omega) (by decide) ?_
    exact ⟨trivial, ih q _ (nI_1 j)⟩
end T9
