/-! reading, the reference: takes, town -/
def updU (f g : Nat → Int32) : Nat → Nat → Int32
  | 0 => f
  | j + 1 => upd (updU f g j) j (g j)
theorem updU_s {f g : Nat → Int32} {j : Nat} : updU f g (j + 1) = upd (updU f g j) j (g j) := rfl
theorem updU_v {f g : Nat → Int32} : ∀ n x, updU f g n x = if x < n then g x else f x
  | 0, x => by rw [if_neg (by omega)]; rfl
  | n + 1, x => by
    rw [updU_s]
    by_cases z : x = n
    · subst z; rw [upd_s, if_pos (by omega)]
    · rw [upd_n z, updU_v n x]
      by_cases y : x < n
      · rw [if_pos y, if_pos (by omega)]
      · rw [if_neg y, if_neg (by omega)]
def tak0 (M : zS) : zS := zU (zU (zU (zU M 0 4 (M 0 11)) 0 5 (M 0 12)) 0 6 (M 0 13)) 0 7 (M 0 14)
def takF (M : zS) : zS := zUr (zUr (zUr (tak0 M) 2 (updU (M 2) (M 5) 21)) 4 (updU (M 4) (M 7) 24)) 3 (updU (M 3) (M 6) 42)
section P6
variable {d : Nat} {M : zS} {t : Nat}
theorem c_M_takes : zRuns gM_takes d [.ref 0] (encM M) (fun v σ' => v = none ∧ σ' = encM (takF M)) := by
  refine m_M_takes [34, 60, 86] rfl (Nat.le_of_ble_eq_true rfl) ?_
  refine ⟨trivial, ?_⟩
  refine z_up (P := fun j => ∀ i, i = nI j → zGood gM_takes d (fun v σ' => v = none ∧ σ' = encM (takF M)) 34 [some (.ref 0), some (.int i)] [] (encM (zUr (tak0 M) 2 (updU (M 2) (M 5) j))) 0 0) 21 (fun j hj ih i hi => ?_) 0 (Nat.zero_le _) 0 nI_0.symm
  subst hi
  refine w_M_takes [34, 60, 86] ?_
  refine z_le (a := 21) (b := j) rfl rfl (by decide) (by omega) (fun q => ?_) (fun q => ?_)
  · have : j = 21 := by omega
    subst this
    refine ⟨trivial, ?_⟩
    refine z_up (P := fun j => ∀ i, i = nI j → zGood gM_takes d (fun v σ' => v = none ∧ σ' = encM (takF M)) 60 [some (.ref 0), some (.int i)] [] (encM (zUr (zUr (tak0 M) 2 (updU (M 2) (M 5) 21)) 4 (updU (M 4) (M 7) j))) 0 0) 24 (fun j hj ih i hi => ?_) 0 (Nat.zero_le _) 0 nI_0.symm
    subst hi
    refine w_M_takes [34, 60, 86] ?_
    refine z_le (a := 24) (b := j) rfl rfl (by decide) (by omega) (fun q => ?_) (fun q => ?_)
    · have : j = 24 := by omega
      subst this
      refine ⟨trivial, ?_⟩
      refine z_up (P := fun j => ∀ i, i = nI j → zGood gM_takes d (fun v σ' => v = none ∧ σ' = encM (takF M)) 86 [some (.ref 0), some (.int i)] [] (encM (zUr (zUr (zUr (tak0 M) 2 (updU (M 2) (M 5) 21)) 4 (updU (M 4) (M 7) 24)) 3 (updU (M 3) (M 6) j))) 0 0) 42 (fun j hj ih i hi => ?_) 0 (Nat.zero_le _) 0 nI_0.symm
      subst hi
      refine w_M_takes [34, 60, 86] ?_
      refine z_le (a := 42) (b := j) rfl rfl (by decide) (by omega) (fun q => ?_) (fun q => ?_)
      · have : j = 42 := by omega
        subst this
        exact ⟨rfl, rfl⟩
      · refine z_ld (k := j) rfl (by omega) (by decide) ?_
        refine z_st (k := j) rfl (by omega) (by decide) ?_
        exact ⟨trivial, ih (by omega) _ (nI_1 j)⟩
    · refine z_ld (k := j) rfl (by omega) (by decide) ?_
      refine z_st (k := j) rfl (by omega) (by decide) ?_
      exact ⟨trivial, ih (by omega) _ (nI_1 j)⟩
  · refine z_ld (k := j) rfl (by omega) (by decide) ?_
    refine z_st (k := j) rfl (by omega) (by decide) ?_
    exact ⟨trivial, ih (by omega) _ (nI_1 j)⟩
end P6
def nwV (E : zS) (x : Nat) : Int32 := if x < 13 then 0 else E 3 (x - 13)
def twn1 (N : zS) (e : Nat) (b : Int32) : zS := takF (zU (zU (zU (mP N (.inl e)) 0 1 0) 0 2 (-1)) 0 3 b)
def twnE (E : zS) : zS := zU (zU (zU (zU (zU (zUr E 8 (updU (E 8) (nwV E) 55)) 0 20 0) 0 26 0) 0 28 0) 12 0 (vp_nar .boolean 0)) 12 1 (vp_nar .boolean 0)
def twnF (N : zS) (e : Nat) (b : Int32) : zS := twnE (twn1 N e b)
def twnB (N : zS) (p : Nat × Nat) : zS := zU (zU (mP N (.inr p)) 0 1 0) 0 2 (nI p.2)
def twE (T : Nat → Int32) (t : Nat) : Bool := decide (lkF T t (skF T t 0) = -1)
def twL (T : Nat → Int32) (t : Nat) : zCur × List Nat × List Nat := if twE T t = true then (.inl (skF T t 0), [], []) else rdL T t (skF T t 0)
def twJ (T : Nat → Int32) (t : Nat) : Int32 := if twE T t = true then 0 else nmV T t (rd0 T t (skF T t 0))
def twY (T : Nat → Int32) (t : Nat) : Int32 := if twE T t = true then 0 else nmV T t (rd1 T t (skF T t 0))
def twB (T : Nat → Int32) (t : Nat) : Int32 := if twE T t = true then 0 else 1
def tnQ (M : zS) (t : Nat) (v : Option Value) (σ' : List va_E) : Prop :=
  (∀ e, (twL (M 1) t).1 = .inl e → ∃ N, v = some (.int (N 0 13)) ∧ σ' = encM (twnF N e (twB (M 1) t)) ∧ frM M N ∧ dfP (M 1) t N (twL (M 1) t).2.1 (twL (M 1) t).2.2 ∧ N 0 11 = twJ (M 1) t ∧ N 0 12 = twY (M 1) t) ∧
  (∀ p, (twL (M 1) t).1 = .inr p → ∃ N, v = some (.int (-10 - nI p.1)) ∧ σ' = encM (twnB N p) ∧ frM M N)
section P7
variable {d : Nat} {M : zS} {t : Nat}
theorem town_end {Q : Option Value → List va_E → Prop} {E : zS} {fl : Int32} (hQ : Q (some (.int (E 0 6))) (encM (twnE E))) : zGood gM_town (d + 5) Q 117 [some (.ref 0), some (.int fl), some (.int 0)] [] (encM E) 0 0 := by
  refine z_up (P := fun j => ∀ i, i = nI j → zGood gM_town (d + 5) Q 117 [some (.ref 0), some (.int fl), some (.int i)] [] (encM (zUr E 8 (updU (E 8) (nwV E) j))) 0 0) 55 (fun j hj ih i hi => ?_) 0 (Nat.zero_le _) 0 nI_0.symm
  subst hi
  refine w_M_town [59, 117] ?_
  refine z_le (a := 55) (b := j) rfl rfl (by decide) (by omega) (fun q => ?_) (fun q => ?_)
  · have : j = 55 := by omega
    subst this
    refine z_st (k := 0) q0 (by decide) (by decide) ?_
    refine z_st (k := 1) q1 (by decide) (by decide) ?_
    exact hQ
  · refine z_lt (a := j) (b := 13) rfl rfl (by omega) (by decide) (fun q2 => ?_) (fun q2 => ?_)
    · refine z_st (k := j) rfl (by omega) (by decide) ?_
      refine ⟨trivial, ?_⟩
      have := ih q _ (nI_1 j)
      rw [updU_s, show nwV E j = 0 from if_pos q2] at this
      have es : ∀ F : Nat → Int32, (encM (zUr E 8 (updU (E 8) (nwV E) j))).set 8 (.inl (0, 55, .inl F)) = encM (zUr E 8 F) := fun F => rfl
      rw [← es] at this
      exact this
    · refine z_ld (k := j - 13) (pk_sub q2) (by omega) (by decide) ?_
      refine z_st (k := j) rfl (by omega) (by decide) ?_
      refine ⟨trivial, ?_⟩
      have := ih q _ (nI_1 j)
      rw [updU_s, show nwV E j = E 3 (j - 13) from if_neg (by omega)] at this
      have es : ∀ F : Nat → Int32, (encM (zUr E 8 (updU (E 8) (nwV E) j))).set 8 (.inl (0, 55, .inl F)) = encM (zUr E 8 F) := fun F => rfl
      rw [← es] at this
      exact this
end P7
