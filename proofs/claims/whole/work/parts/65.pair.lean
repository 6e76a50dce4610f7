/-! each call on both sides -/
def Inv (S M : zS) : Prop := ∃ n k, relC S M n k ∧ okY M
def pairQ (gB gM : zG) (avs : List Value) (S M : zS) : Prop := ∃ QB QM : Option Value → List va_E → Prop, zRuns gB 30 (.ref 0 :: avs) (encC S) QB ∧ zRuns gM 30 (.ref 0 :: avs) (encM M) QM ∧ ∀ v σ v' σ', QB v σ → QM v' σ' → ∃ x S' M', v = some (.int x) ∧ v' = some (.int x) ∧ σ = encC S' ∧ σ' = encM M' ∧ Inv S' M'
theorem Inv_0 : Inv S0 M0 := by
  refine ⟨0, 0, ⟨⟨⟨by decide, by decide, rfl, rfl, ⟨0, by decide, rfl⟩, fun m hm => absurd hm (Nat.not_lt_zero m), fun x hx => absurd hx (Nat.not_lt_zero x)⟩, fun x hx => absurd hx (Nat.not_lt_zero x), ⟨fun m hm => absurd hm (Nat.not_lt_zero m), fun m hm => absurd hm (Nat.not_lt_zero m)⟩, ⟨rfl, rfl, rfl, rfl, rfl, fun m hm => absurd hm (Nat.not_lt_zero m), fun x hx => absurd hx (Nat.not_lt_zero x)⟩, ⟨fun m hm => absurd hm (Nat.not_lt_zero m), fun m hm => absurd hm (Nat.not_lt_zero m), fun x hx => absurd hx (Nat.not_lt_zero x), rfl, rfl⟩⟩, ⟨0, 0, by decide, by decide, rfl, rfl, rfl, rfl, fun j hj => absurd hj (Nat.not_lt_zero j), fun j hj => absurd hj (Nat.not_lt_zero j)⟩, ⟨0, by decide, rfl, rfl, fun j hj => absurd hj (Nat.not_lt_zero j)⟩, ⟨rfl, rfl, fun h => absurd rfl h, fun h => absurd rfl h⟩, ⟨0, 0, by decide, by decide, rfl, rfl, rfl, fun j hj => absurd hj (Nat.not_lt_zero j)⟩, rfl, rfl, fun m hm => absurd hm (Nat.not_lt_zero m)⟩, ⟨0, by decide, rfl⟩⟩
section PR
variable {gB gM : zG} {avs : List Value} {S M M' : zS} {n k : Nat} {x : Int32}
theorem okY_c (Y : okY M) (h : M' 0 5 = M 0 5) : okY M' := by
  obtain ⟨y, y1, y2⟩ := Y
  exact ⟨y, y1, h.trans y2⟩
theorem pr_q (C : relC S M n k) (Y : okY M) (hB : zRuns gB 30 (.ref 0 :: avs) (encC S) (fun v σ' => v = some (.int x) ∧ σ' = encC S)) (hM : zRuns gM 30 (.ref 0 :: avs) (encM M) (fun v σ' => v = some (.int x) ∧ σ' = encM M)) : pairQ gB gM avs S M := by
  refine ⟨_, _, hB, hM, ?_⟩
  rintro v σ v' σ' ⟨rfl, rfl⟩ ⟨rfl, rfl⟩
  exact ⟨x, S, M, rfl, rfl, rfl, rfl, n, k, C, Y⟩
theorem pr_d (Y : okY M) (h5 : M' 0 5 = M 0 5) (hB : zRuns gB 30 (.ref 0 :: avs) (encC S) (fun v σ' => v = some (.int x) ∧ ∃ S', σ' = encC S' ∧ relC S' M' n k)) (hM : zRuns gM 30 (.ref 0 :: avs) (encM M) (fun v σ' => v = some (.int x) ∧ σ' = encM M')) : pairQ gB gM avs S M := by
  refine ⟨_, _, hB, hM, ?_⟩
  rintro v σ v' σ' ⟨rfl, S', rfl, C'⟩ ⟨rfl, rfl⟩
  exact ⟨x, S', M', rfl, rfl, rfl, rfl, n, k, C', okY_c Y h5⟩
theorem notes5 {de : Nat} : notesF M de 0 5 = M 0 5 := by unfold notesF; split <;> rfl
theorem dx5 (x : Nat) : ∀ f M, dxU n k x f M 0 5 = M 0 5
  | 0, _ => rfl
  | f + 1, M => by
    rw [dxU]
    split
    · rfl
    · rw [dx5 x f]; rfl
theorem dxA5 : ∀ j M, dxAll n k j M 0 5 = M 0 5
  | 0, _ => rfl
  | j + 1, M => by rw [dxAll, dx5, dxA5 j]
theorem drift5 (M : zS) : ∀ t, driftU n k t M 0 5 = M 0 5
  | 0 => rfl
  | t + 1 => by
    rw [driftU]
    show dxAll n k k (notesF (driftU n k t M) _) 0 5 = _
    rw [dxA5, notes5, drift5 M t]
theorem p_feed (h : Inv S M) {a : Int32} : pairQ gB_feed gM_feed [.int a] S M := by
  obtain ⟨n, k, C, Y⟩ := h
  obtain ⟨t, t1, t2, t3, t4⟩ := C.2.2.1
  exact pr_d Y (by unfold gFeed; split; rfl; split <;> rfl) (c_feed (d := 27) C) (c_M_feed (d := 29) t1 t3)
theorem p_town (h : Inv S M) : pairQ gB_town gM_town [] S M := by
  obtain ⟨n, k, C, Y⟩ := h
  obtain ⟨t, t1, t2, t3, t4⟩ := C.2.2.1
  refine ⟨_, _, c_B_town (d := 24) (T := M 1) (t := t) (fun j hj => (t4 j hj).1) t1 t2 (fun j hj => ?_), c_M_town (d := 25) t1 t3, ?_⟩
  · obtain ⟨c, c1, c2⟩ := (t4 j hj).2
    rw [c2]; exact nI_ne (by omega)
  · intro v σ v' σ' hc hm
    obtain ⟨e, S', M', n', k', e1, e2, C', Y'⟩ := town_rel C Y (fun j hj => (t4 j hj).2) hc hm
    have hv : ∃ x, v = some (.int x) := by
      obtain ⟨O, b, na, -, h⟩ := hc
      rcases h with ⟨p, -, e, -⟩ | ⟨p, -, e, -⟩
      · exact ⟨_, e⟩
      · exact ⟨_, e⟩
    obtain ⟨x, rfl⟩ := hv
    exact ⟨x, S', M', rfl, e, e1, e2, n', k', C', Y'⟩
theorem p_fault (h : Inv S M) : pairQ gB_fault gM_fault [] S M := by
  obtain ⟨n, k, C, Y⟩ := h
  exact pr_q C Y (c_fault C) c_M_fault
theorem p_told (h : Inv S M) {a : Int32} : pairQ gB_told gM_told [.int a] S M := by
  obtain ⟨n, k, C, Y⟩ := h
  obtain ⟨t, t1, t2, t3, t4⟩ := C.2.2.1
  obtain ⟨s, e, s1, s2, s3, s4, s5, s6, -⟩ := C.2.1
  obtain ⟨de, nx, h1, h2, h3, h4, h5, h6⟩ := C.2.2.2.2.1
  exact pr_q C Y (c_told (d := 25) C.1 (t2.trans t3.symm) (s4.trans s3.symm) (s6.trans s5.symm) (h4.trans h3.symm)) (c_M_told (d := 27) C.1.1)
theorem p_man (h : Inv S M) {a b : Int32} : pairQ gB_man gM_man [.int a, .int b] S M := by
  obtain ⟨n, k, C, Y⟩ := h
  exact pr_q C Y (c_man (d := 26) C.1) (c_M_man (d := 27) C.1.1)
theorem p_mishap (h : Inv S M) {a b : Int32} : pairQ gB_mishap gM_mishap [.int a, .int b] S M := by
  obtain ⟨n, k, C, Y⟩ := h
  exact pr_q C Y (c_mishap (d := 27) C.1) (c_M_mishap (d := 27) C.1.1)
theorem p_belief (h : Inv S M) {a b : Int32} : pairQ gB_belief gM_belief [.int a, .int b] S M := by
  obtain ⟨n, k, C, Y⟩ := h
  exact pr_q C Y (c_belief (d := 26) C.1) (c_M_belief (d := 27) C.1.1)
theorem p_blame (h : Inv S M) {a b : Int32} : pairQ gB_blame gM_blame [.int a, .int b] S M := by
  obtain ⟨n, k, C, Y⟩ := h
  obtain ⟨de, nx, h1, h2, h3, h4, h5, h6⟩ := C.2.2.2.2.1
  exact pr_d Y (by unfold gBlame; split; rfl; split; rfl; split; rfl; exact notes5) (c_blame (d := 24) C) (c_M_blame (d := 26) C.1.1 h3 h1)
theorem p_clear (h : Inv S M) {a b : Int32} : pairQ gB_clear gM_clear [.int a, .int b] S M := by
  obtain ⟨n, k, C, Y⟩ := h
  obtain ⟨de, nx, h1, h2, h3, h4, h5, h6⟩ := C.2.2.2.2.1
  exact pr_d Y (by unfold gClear; split; rfl; split; rfl; split; rfl; exact notes5) (c_clear (d := 24) C) (c_M_clear (d := 26) C.1.1 h3 h1)
theorem p_walk (h : Inv S M) {a b c : Int32} : pairQ gB_walk gM_walk [.int a, .int b, .int c] S M := by
  obtain ⟨n, k, C, Y⟩ := h
  obtain ⟨de, nx, h1, h2, h3, h4, h5, h6⟩ := C.2.2.2.2.1
  exact pr_d Y (by unfold gWalk; split; rfl; split; rfl; split; rfl; exact notes5) (c_walk (d := 24) C) (c_M_walk (d := 26) C.1.1 h3 h1)
theorem p_sunset (h : Inv S M) : pairQ gB_sunset gM_sunset [] S M := by
  obtain ⟨n, k, C, Y⟩ := h
  obtain ⟨de, nx, h1, h2, h3, h4, h5, h6⟩ := C.2.2.2.2.1
  exact pr_d Y (by unfold gSunset; split; rfl; split; rfl; exact notes5) (c_sunset (d := 24) C) (c_M_sunset (d := 26) C.1.1 h3 h1)
theorem p_drift (h : Inv S M) {a : Int32} : pairQ gB_drift gM_drift [.int a] S M := by
  obtain ⟨n, k, C, Y⟩ := h
  obtain ⟨de, nx, h1, h2, h3, h4, h5, h6⟩ := C.2.2.2.2.1
  exact pr_d Y (by unfold gDrift; split; rfl; split; rfl; split; rfl; exact drift5 M _) (c_drift (d := 23) C) (c_M_drift (d := 24) ⟨C.1.1, C.1.2.1, de, h1, h3⟩)
theorem p_undo (h : Inv S M) {a : Int32} : pairQ gB_undo gM_undo [.int a] S M := by
  obtain ⟨n, k, C, Y⟩ := h
  obtain ⟨de, nx, h1, h2, h3, h4, h5, h6⟩ := C.2.2.2.2.1
  exact pr_d Y (by unfold gUndo; split; rfl; split <;> rfl) (c_undo (d := 26) C) (c_M_undo (d := 29) h3 h1)
theorem p_may (h : Inv S M) {a : Int32} : pairQ gB_may gM_may [.int a] S M := by
  obtain ⟨n, k, C, Y⟩ := h
  exact pr_q C Y (c_may (d := 24) C.1) (c_M_may (d := 25) C.1.1)
theorem p_orphans (h : Inv S M) : pairQ gB_orphans gM_orphans [] S M := by
  obtain ⟨n, k, C, Y⟩ := h
  exact pr_q C Y (c_orphans (d := 24) C.1) (c_M_orphans (d := 25) C.1.1)
theorem p_shared (h : Inv S M) {a : Int32} : pairQ gB_shared gM_shared [.int a] S M := by
  obtain ⟨n, k, C, Y⟩ := h
  refine ⟨_, _, c_shared (d := 16) C.1 Y (W := fun m => (w0I M k m).toNatClampNeg) (w0_n C.1), c_M_shared (d := 25) C.1.1 Y (W := fun m => (w0I M k m).toNatClampNeg) (w0_n C.1), ?_⟩
  rintro v σ v' σ' ⟨rfl, S', rfl, fr⟩ ⟨rfl, N, rfl, sh⟩
  exact ⟨_, S', N, rfl, rfl, rfl, rfl, n, k, shared_rel C fr sh, okY_c Y (sh.2 5 (by decide))⟩
theorem p_cheapest (h : Inv S M) {a : Int32} : pairQ gB_cheapest gM_cheapest [.int a] S M := by
  obtain ⟨n, k, C, Y⟩ := h
  exact pr_q C Y (c_cheapest (d := 23) C.1) (c_M_cheapest (d := 25) C.1.1)
theorem p_culprits (h : Inv S M) {a : Int32} : pairQ gB_culprits gM_culprits [.int a] S M := by
  obtain ⟨n, k, C, Y⟩ := h
  exact pr_q C Y (c_culprits (d := 26) C.1) (c_M_culprits (d := 27) C.1.1)
theorem p_idle (h : Inv S M) : pairQ gB_idle gM_idle [] S M := by
  obtain ⟨n, k, C, Y⟩ := h
  exact pr_q C Y (c_idle (d := 26) C.1) (c_M_idle (d := 27) C.1.1)
theorem p_nearer (h : Inv S M) {a b c : Int32} : pairQ gB_nearer gM_nearer [.int a, .int b, .int c] S M := by
  obtain ⟨n, k, C, Y⟩ := h
  exact pr_q C Y (c_nearer (d := 25) C.1) (c_M_nearer (d := 27) C.1.1)
theorem p_chain (h : Inv S M) {a b : Int32} : pairQ gB_chain gM_chain [.int a, .int b] S M := by
  obtain ⟨n, k, C, Y⟩ := h
  exact pr_q C Y (c_chain (d := 26) C.1) (c_M_chain (d := 27) C.1.1)
theorem p_quiet (h : Inv S M) {a b : Int32} : pairQ gB_quiet gM_quiet [.int a, .int b] S M := by
  obtain ⟨n, k, C, Y⟩ := h
  exact pr_q C Y (c_quiet (d := 28) C.1) (c_M_quiet (d := 29) C.1.1)
theorem p_see (h : Inv S M) {a b c : Int32} : pairQ gB_see gM_see [.int a, .int b, .int c] S M := by
  obtain ⟨n, k, C, Y⟩ := h
  obtain ⟨s, e, s1, s2, s3, s4, s5, s6, -⟩ := C.2.1
  exact pr_d Y (by unfold gSee; split; rfl; split; rfl; split; rfl; split <;> rfl) (c_see (d := 27) C) (c_M_see (d := 28) C.1.1 s3 s1)
theorem p_alibi (h : Inv S M) {a : Int32} : pairQ gB_alibi gM_alibi [.int a] S M := by
  obtain ⟨n, k, C, Y⟩ := h
  obtain ⟨s, e, s1, s2, s3, s4, s5, s6, -⟩ := C.2.1
  exact pr_q C Y (c_alibi (d := 26) C.1 C.2.1) (c_M_alibi (d := 28) C.1.1 s3 s1)
theorem p_write (h : Inv S M) {a b : Int32} : pairQ gB_write gM_write [.int a, .int b] S M := by
  obtain ⟨n, k, C, Y⟩ := h
  obtain ⟨s, e, s1, s2, s3, s4, s5, s6, -⟩ := C.2.1
  exact pr_d Y (by unfold gWrite; split; rfl; split; rfl; split <;> rfl) (c_write (d := 27) C) (c_M_write (d := 28) C.1.1 s5 s2)
theorem p_judge (h : Inv S M) : pairQ gB_judge gM_judge [] S M := by
  obtain ⟨n, k, C, Y⟩ := h
  obtain ⟨s, e, s1, s2, s3, s4, s5, s6, s7, s8⟩ := C.2.1
  exact pr_q C Y (c_judge (d := 27) C.1 C.2.1) (c_M_judge (d := 28) C.1.1 s5 s2 (fun j hj => (s8 j hj).2.2.2))
theorem p_tear (h : Inv S M) : pairQ gB_tear gM_tear [] S M := by
  obtain ⟨n, k, C, Y⟩ := h
  exact pr_d (M' := gTear M) Y rfl (c_tear (d := 29) C) c_M_tear
theorem p_seed (h : Inv S M) {a : Int32} : pairQ gB_seed gM_seed [.int a] S M := by
  obtain ⟨n, k, C, Y⟩ := h
  exact pr_d Y (by unfold gSeed; split <;> rfl) (c_seed C) c_M_seed
theorem p_keep (h : Inv S M) {a : Int32} : pairQ gB_keep gM_keep [.int a] S M := by
  obtain ⟨n, k, C, Y⟩ := h
  exact pr_d Y (by unfold gKeep; split <;> rfl) (c_keep (d := 28) C) (c_M_keep (d := 29))
theorem p_goBack (h : Inv S M) {a : Int32} : pairQ gB_goBack gM_goBack [.int a] S M := by
  obtain ⟨n, k, C, Y⟩ := h
  exact pr_d Y (by unfold gBack; split; rfl; split <;> rfl) (c_goBack (d := 28) C) (c_M_goBack (d := 29))
end PR
