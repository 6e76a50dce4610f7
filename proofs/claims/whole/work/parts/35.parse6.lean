/-! reading, the reference: takes, town -/
def updU (f g : Nat → Int32) : Nat → Nat → Int32
  | 0 => f
  | j + 1 => upd (updU f g j) j (g j)
theorem updU_s {f g : Nat → Int32} {j : Nat} : updU f g (j + 1) = upd (updU f g j) j (g j) := rfl
theorem updU_v {f g : Nat → Int32} : ∀ n x, updU f g n x = if x < n then g x else f x
  | 0, x => by rw [if_neg (by omega)]; rfl
  | n + 1, x => by
    rw [updU_s]
    by_cases z : x = n
    · subst z; rw [upd_s, if_pos (by omega)]
    · rw [upd_n z, updU_v n x]
      by_cases y : x < n
      · rw [if_pos y, if_pos (by omega)]
      · rw [if_neg y, if_neg (by omega)]
def tak0 (M : zS) : zS := zU (zU (zU (zU M 0 4 (M 0 11)) 0 5 (M 0 12)) 0 6 (M 0 13)) 0 7 (M 0 14)
def takF (M : zS) : zS := zUr (zUr (zUr (tak0 M) 2 (updU (M 2) (M 5) 21)) 4 (updU (M 4) (M 7) 24)) 3 (updU (M 3) (M 6) 42)
section P6
variable {d : Nat} {M : zS} {t : Nat}
theorem c_M_takes : zRuns gM_takes d [.ref 0] (encM M) (fun v σ' => v = none ∧ σ' = encM (takF M)) := by
  refine m_M_takes [34, 60, 86] rfl (Nat.le_of_ble_eq_true rfl) ?_
  refine ⟨trivial, ?_⟩
  refine z_up (P := fun j => ∀ i, i = nI j → zGood gM_takes d (fun v σ' => v = none ∧ σ' = encM (takF M)) 34 [some (.ref 0), some (.int i)] [] (encM (zUr (tak0 M) 2 (updU (M 2) (M 5) j))) 0 0) 21 (fun j hj ih i hi => ?_) 0 (Nat.zero_le _) 0 nI_0.symm
  subst hi
  refine w_M_takes [34, 60, 86] ?_
  refine z_le (a := 21) (b := j) rfl rfl (by decide) (by omega) (fun q => ?_) (fun q => ?_)
  · have : j = 21 := by omega
    subst this
    refine ⟨trivial, ?_⟩
    refine z_up (P := fun j => ∀ i, i = nI j → zGood gM_takes d (fun v σ' => v = none ∧ σ' = encM (takF M)) 60 [some (.ref 0), some (.int i)] [] (encM (zUr (zUr (tak0 M) 2 (updU (M 2) (M 5) 21)) 4 (updU (M 4) (M 7) j))) 0 0) 24 (fun j hj ih i hi => ?_) 0 (Nat.zero_le _) 0 nI_0.symm
    subst hi
    refine w_M_takes [34, 60, 86] ?_
    refine z_le (a := 24) (b := j) rfl rfl (by decide) (by omega) (fun q => ?_) (fun q => ?_)
    · have : j = 24 := by omega
      subst this
      refine ⟨trivial, ?_⟩
      refine z_up (P := fun j => ∀ i, i = nI j → zGood gM_takes d (fun v σ' => v = none ∧ σ' = encM (takF M)) 86 [some (.ref 0), some (.int i)] [] (encM (zUr (zUr (zUr (tak0 M) 2 (updU (M 2) (M 5) 21)) 4 (updU (M 4) (M 7) 24)) 3 (updU (M 3) (M 6) j))) 0 0) 42 (fun j hj ih i hi => ?_) 0 (Nat.zero_le _) 0 nI_0.symm
      subst hi
      refine w_M_takes [34, 60, 86] ?_
      refine z_le (a := 42) (b := j) rfl rfl (by decide) (by omega) (fun q => ?_) (fun q => ?_)
      · have : j = 42 := by omega
        subst this
        exact ⟨rfl, rfl⟩
      · refine z_ld (k := j) rfl (by omega) (by decide) ?_
        refine z_st (k := j) rfl (by omega) (by decide) ?_
        exact ⟨trivial, ih (by omega) _ (nI_1 j)⟩
    · refine z_ld (k := j) rfl (by omega) (by decide) ?_
      refine z_st (k := j) rfl (by omega) (by decide) ?_
      exact ⟨trivial, ih (by omega) _ (nI_1 j)⟩
  · refine z_ld (k := j) rfl (by omega) (by decide) ?_
    refine z_st (k := j) rfl (by omega) (by decide) ?_
    exact ⟨trivial, ih (by omega) _ (nI_1 j)⟩
end P6
