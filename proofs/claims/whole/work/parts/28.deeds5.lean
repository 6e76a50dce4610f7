/-! the class's deeds: the text, the papers, the images -/
section D5
variable {d : Nat} {S M : zS} {n k : Nat}
theorem c_fault (C : relC S M n k) : zRuns gB_fault d [.ref 0] (encC S) (fun v σ' => v = some (.int (M 0 2)) ∧ σ' = encC S) := by
  refine m_B_fault [] rfl (Nat.le_of_ble_eq_true rfl) ?_
  exact ⟨congrArg (fun z => some (Value.int z)) C.2.2.2.2.2.1, rfl⟩
theorem c_feed (C : relC S M n k) {l : Int32} : zRuns gB_feed (d + 3) [.ref 0, .int l] (encC S) (fun v σ' => v = some (.int (pFeed M l)) ∧ ∃ S', σ' = encC S' ∧ relC S' (gFeed M l) n k) := by
  have C0 := C
  obtain ⟨R, P, ⟨t, t1, t2, t3, t4⟩, I, ⟨de, nx, h1, h2, h3, h4, h5, h6⟩, f, s, r⟩ := C
  refine m_B_feed [] rfl (Nat.le_of_ble_eq_true rfl) ?_
  refine z_call c_isWithin ?_
  refine z_dec (fun h => ?_) (fun h => ?_)
  · exact ⟨by unfold pFeed; rw [if_pos h], S, rfl, by unfold gFeed; rw [if_pos h]; exact C0⟩
  refine z_lt (a := t) (b := 230) t2 rfl (by omega) (by decide) (fun q => ?_) (fun q => ?_)
  rotate_left
  · have e : M 0 1 = 230 := by rw [t3, show t = 230 by omega]; rfl
    exact ⟨by unfold pFeed; rw [if_neg (fun z => z h), if_pos e], S, rfl, by unfold gFeed; rw [if_neg (fun z => z h), if_pos e]; exact C0⟩
  have ne : ¬ M 0 1 = 230 := by
    intro z
    rw [t3] at z
    have := congrArg Int32.toNatClampNeg z
    rw [nI_clamp (by omega)] at this
    have z2 : (230 : Int32).toNatClampNeg = 230 := by decide
    omega
  have p0 : pFeed M l = M 0 1 + 1 := by unfold pFeed; rw [if_neg (fun z => z h), if_neg ne]
  have g0 : gFeed M l = zU (zU M 1 t l) 0 1 (M 0 1 + 1) := by unfold gFeed; rw [if_neg (fun z => z h), if_neg ne, t3, nI_clamp (by omega)]
  rw [p0, g0]
  have ad : zRuns gTe_add (d + 2) [.ref 1, .int l] (encC S) (fun v σ' => v = some (.int (S 1 1 + 1)) ∧ σ' = encC (zU (zU S 2 t l) 1 1 (S 1 1 + 1))) := by
    refine m_Te_add [] rfl (Nat.le_of_ble_eq_true rfl) ?_
    refine z_call (c_put (n := 230) (f := S 2) (j := t) rfl (by decide) t2 (by omega)) ?_
    exact ⟨rfl, rfl⟩
  refine z_call ad ?_
  refine ⟨by rw [t2, t3], _, rfl, ?_⟩
  obtain ⟨b, hb, eb⟩ := z_rng (N := 255) (by decide) h
  refine ⟨⟨okM_of R.1 rfl rfl rfl rfl rfl, R.2.1, R.2.2.1, R.2.2.2.1, R.2.2.2.2⟩, P, ⟨t + 1, by omega, ?_, ?_, fun j hj => ?_⟩, I, ⟨de, nx, h1, h2, h3, h4, h5, fun y hy => ?_⟩, f, s, r⟩
  · show S 1 1 + 1 = nI (t + 1)
    rw [t2, nI_1]
  · show M 0 1 + 1 = nI (t + 1)
    rw [t3, nI_1]
  · show upd (S 2) t l j = upd (M 1) t l j ∧ ∃ c, c < 256 ∧ upd (M 1) t l j = nI c
    by_cases z : j = t
    · subst z
      rw [upd_s, upd_s]
      exact ⟨rfl, b, by omega, eb⟩
    · rw [upd_n z, upd_n z]
      exact t4 j (by omega)
  · rw [zU_k (by omega), zU_k (by omega)]
    exact h6 y hy
theorem c_seed (C : relC S M n k) {v : Int32} : zRuns gB_seed d [.ref 0, .int v] (encC S) (fun r σ' => r = some (.int (pSeed M v)) ∧ ∃ S', σ' = encC S' ∧ relC S' (gSeed M v) n k) := by
  have e24 : S 0 11 = M 0 24 := C.2.2.2.2.2.2.1
  refine m_B_seed [] rfl (Nat.le_of_ble_eq_true rfl) ?_
  refine ⟨fun h => ?_, fun h => ?_⟩
  · refine ⟨?_, zU S 0 11 v, rfl, ?_⟩
    · show some (Value.int (S 0 11)) = _
      unfold pSeed; rw [if_pos h, e24]
    · unfold gSeed; rw [if_pos h]; exact relC_seed C
  · exact ⟨by unfold pSeed; rw [if_neg h], S, rfl, by unfold gSeed; rw [if_neg h]; exact C⟩
theorem relC_burn (C : relC S M n k) : relC (zU (zU S 71 3 0) 71 6 0) (zU (zU M 0 26 0) 0 28 0) n k := by
  obtain ⟨R, P, T, I, ⟨de, nx, h1, h2, h3, h4, h5, h6⟩, f, s, r⟩ := C
  refine ⟨⟨okM_of R.1 rfl rfl rfl rfl rfl, R.2.1, R.2.2.1, R.2.2.2.1, R.2.2.2.2⟩, ⟨0, 0, by omega, by omega, rfl, rfl, rfl, rfl, fun j hj => absurd hj (by omega), fun j hj => absurd hj (by omega)⟩, T, I, ⟨de, nx, h1, h2, h3, h4, h5, fun y hy => ?_⟩, f, s, r⟩
  rw [zU_k (by omega), zU_k (by omega)]
  exact h6 y hy
theorem c_burn : zRuns gPa_burn d [.ref 71] (encC S) (fun r σ' => r = none ∧ σ' = encC (zU (zU S 71 3 0) 71 6 0)) := by
  refine m_Pa_burn [] rfl (Nat.le_of_ble_eq_true rfl) ?_
  exact ⟨rfl, rfl⟩
theorem c_tear (C : relC S M n k) : zRuns gB_tear (d + 1) [.ref 0] (encC S) (fun v σ' => v = some (.int (M 0 26 + M 0 28)) ∧ ∃ S', σ' = encC S' ∧ relC S' (gTear M) n k) := by
  have C0 := C
  obtain ⟨R, ⟨s, e, hs, he, p1, p2, p3, p4, p5, p6⟩, -⟩ := C
  refine m_B_tear [] rfl (Nat.le_of_ble_eq_true rfl) ?_
  refine z_call c_burn ?_
  refine ⟨?_, _, rfl, relC_burn C0⟩
  rw [p1, p3, ← p2, ← p4]
theorem ne_n {x y : Int32} {a b : Nat} (hx : x = nI a) (hy : y = nI b) (ha : a < 2 ^ 31) (hb : b < 2 ^ 31) (h : a ≠ b) : x ≠ y := by
  rw [hx, hy]
  intro z
  have := congrArg Int32.toNatClampNeg z
  rw [nI_clamp ha, nI_clamp hb] at this
  exact h this
theorem c_see (C : relC S M n k) {m h p : Int32} : zRuns gB_see (d + 3) [.ref 0, .int m, .int h, .int p] (encC S) (fun v σ' => v = some (.int (pSee M n m h p)) ∧ ∃ S', σ' = encC S' ∧ relC S' (gSee M n m h p) n k) := by
  have C0 := C
  have h7 := C.1.1.1
  obtain ⟨R, ⟨s, e, hs, he, p1, p2, p3, p4, p5, p6⟩, T, I, ⟨de, nx, h1, h2, h3, h4, h5, h6⟩, f, sd, r⟩ := C
  refine m_B_see [] rfl (Nat.le_of_ble_eq_true rfl) ?_
  refine z_call (c_isMan R) ?_
  refine z_b (fun h1 => ?_) (fun g1 => ?_)
  · exact ⟨by unfold pSee; rw [if_pos h1], S, rfl, by unfold gSee; rw [if_pos h1]; exact C0⟩
  refine z_call c_isHour ?_
  refine z_dec (fun h2 => ?_) (fun g2 => ?_)
  · exact ⟨by unfold pSee; rw [g1, if_neg (by decide), if_pos h2], S, rfl, by unfold gSee; rw [g1, if_neg (by decide), if_pos h2]; exact C0⟩
  refine z_call c_isPlace ?_
  refine z_dec (fun h3 => ?_) (fun g3 => ?_)
  · exact ⟨by unfold pSee; rw [g1, if_neg (by decide), if_neg (fun z => z g2), if_pos h3], S, rfl, by unfold gSee; rw [g1, if_neg (by decide), if_neg (fun z => z g2), if_pos h3]; exact C0⟩
  have q0 : pSee M n m h p = if M 0 26 = 6 then kFUL else M 0 26 + 1 := by unfold pSee; rw [g1, if_neg (by decide), if_neg (fun z => z g2), if_neg (fun z => z g3)]
  have w0 : gSee M n m h p = if M 0 26 = 6 then M else zU (zU (zU (zU M 13 (3 * s) m) 13 (3 * s + 1) h) 13 (3 * s + 2) p) 0 26 (M 0 26 + 1) := by unfold gSee; rw [g1, if_neg (by decide), if_neg (fun z => z g2), if_neg (fun z => z g3), p1, nI_clamp (by omega)]
  rw [q0, w0]
  refine z_lt (a := s) (b := 6) p2 rfl (by omega) (by decide) (fun q => ?_) (fun q => ?_)
  rotate_left
  · have e6 : M 0 26 = 6 := by rw [p1, show s = 6 by omega]; rfl
    exact ⟨by rw [if_pos e6], S, rfl, by rw [if_pos e6]; exact C0⟩
  have e6 : M 0 26 ≠ 6 := ne_n p1 q6 (by omega) (by decide) (by omega)
  rw [if_neg e6, if_neg e6]
  have ad : zRuns gPa_addSeen (d + 2) [.ref 71, .int m, .int h, .int p] (encC S) (fun v σ' => v = some (.int (S 71 3 + 1)) ∧ σ' = encC (zU (zU (zU (zU S 72 s m) 73 s h) 74 s p) 71 3 (S 71 3 + 1))) := by
    refine m_Pa_addSeen [] rfl (Nat.le_of_ble_eq_true rfl) ?_
    refine z_call (c_put (n := 6) (f := S 72) (j := s) rfl (by decide) p2 (by omega)) ?_
    refine z_call (c_put (n := 6) (f := S 73) (j := s) rfl (by decide) p2 (by omega)) ?_
    refine z_call (c_put (n := 6) (f := S 74) (j := s) rfl (by decide) p2 (by omega)) ?_
    exact ⟨rfl, rfl⟩
  refine z_call ad ?_
  refine ⟨by rw [p1, p2], _, rfl, ?_⟩
  obtain ⟨a, ha, ea⟩ := z_rng (N := 5) (by decide) g2
  obtain ⟨b, hb, eb⟩ := z_rng (N := 5) (by decide) g3
  refine ⟨⟨okM_of R.1 rfl rfl rfl rfl rfl, R.2.1, R.2.2.1, R.2.2.2.1, R.2.2.2.2⟩, ⟨s + 1, e, by omega, he, ?_, ?_, p3, p4, fun j hj => ?_, p6⟩, T, I, ⟨de, nx, h1, h2, h3, h4, h5, fun y hy => ?_⟩, f, sd, r⟩
  · show M 0 26 + 1 = nI (s + 1)
    rw [p1, nI_1]
  · show S 71 3 + 1 = nI (s + 1)
    rw [p2, nI_1]
  · show upd (S 72) s m j = upd (upd (upd (M 13) (3 * s) m) (3 * s + 1) h) (3 * s + 2) p (3 * j) ∧ upd (S 73) s h j = upd (upd (upd (M 13) (3 * s) m) (3 * s + 1) h) (3 * s + 2) p (3 * j + 1) ∧ upd (S 74) s p j = upd (upd (upd (M 13) (3 * s) m) (3 * s + 1) h) (3 * s + 2) p (3 * j + 2) ∧ (∃ h', h' < 6 ∧ upd (upd (upd (M 13) (3 * s) m) (3 * s + 1) h) (3 * s + 2) p (3 * j + 1) = nI h') ∧ ∃ p', p' < 6 ∧ upd (upd (upd (M 13) (3 * s) m) (3 * s + 1) h) (3 * s + 2) p (3 * j + 2) = nI p'
    by_cases z : j = s
    · subst z
      rw [upd_s, upd_s, upd_s, upd_s, upd_n (show 3 * j + 1 ≠ 3 * j + 2 by omega), upd_s, upd_n (show 3 * j ≠ 3 * j + 2 by omega), upd_n (show 3 * j ≠ 3 * j + 1 by omega), upd_s]
      exact ⟨rfl, rfl, rfl, ⟨a, by omega, ea⟩, b, by omega, eb⟩
    · rw [upd_n z, upd_n z, upd_n z, upd_n (show 3 * j ≠ 3 * s + 2 by omega), upd_n (show 3 * j ≠ 3 * s + 1 by omega), upd_n (show 3 * j ≠ 3 * s by omega), upd_n (show 3 * j + 1 ≠ 3 * s + 2 by omega), upd_n (show 3 * j + 1 ≠ 3 * s + 1 by omega), upd_n (show 3 * j + 1 ≠ 3 * s by omega), upd_n (show 3 * j + 2 ≠ 3 * s + 2 by omega), upd_n (show 3 * j + 2 ≠ 3 * s + 1 by omega), upd_n (show 3 * j + 2 ≠ 3 * s by omega)]
      exact p5 j (by omega)
  · rw [zU_k (by omega), zU_k (by omega), zU_k (by omega), zU_k (by omega)]
    exact h6 y hy
theorem c_write (C : relC S M n k) {m x : Int32} : zRuns gB_write (d + 3) [.ref 0, .int m, .int x] (encC S) (fun v σ' => v = some (.int (pWrite M n k m x)) ∧ ∃ S', σ' = encC S' ∧ relC S' (gWrite M n k m x) n k) := by
  have C0 := C
  have h7 := C.1.1.1; have h4' := C.1.1.2.1
  obtain ⟨R, ⟨s, e, hs, he, p1, p2, p3, p4, p5, p6⟩, T, I, ⟨de, nx, h1, h2, h3, h4, h5, h6⟩, f, sd, r⟩ := C
  refine m_B_write [] rfl (Nat.le_of_ble_eq_true rfl) ?_
  refine z_call (c_isMan R) ?_
  refine z_b (fun h1 => ?_) (fun g1 => ?_)
  · exact ⟨by unfold pWrite; rw [if_pos h1], S, rfl, by unfold gWrite; rw [if_pos h1]; exact C0⟩
  refine z_call (c_isMishap R) ?_
  refine z_b (fun h2 => ?_) (fun g2 => ?_)
  · exact ⟨by unfold pWrite; rw [g1, if_neg (by decide), if_pos h2], S, rfl, by unfold gWrite; rw [g1, if_neg (by decide), if_pos h2]; exact C0⟩
  have q0 : pWrite M n k m x = if M 0 28 = 20 then kFUL else M 0 28 + 1 := by unfold pWrite; rw [g1, g2, if_neg (by decide), if_neg (by decide)]
  have w0 : gWrite M n k m x = if M 0 28 = 20 then M else zU (zU (zU M 14 (2 * e) m) 14 (2 * e + 1) x) 0 28 (M 0 28 + 1) := by unfold gWrite; rw [g1, g2, if_neg (by decide), if_neg (by decide), p3, nI_clamp (by omega)]
  rw [q0, w0]
  refine z_lt (a := e) (b := 20) p4 rfl (by omega) (by decide) (fun q => ?_) (fun q => ?_)
  rotate_left
  · have e6 : M 0 28 = 20 := by rw [p3, show e = 20 by omega]; rfl
    exact ⟨by rw [if_pos e6], S, rfl, by rw [if_pos e6]; exact C0⟩
  have e6 : M 0 28 ≠ 20 := ne_n p3 q20 (by omega) (by decide) (by omega)
  rw [if_neg e6, if_neg e6]
  have ad : zRuns gPa_addEntry (d + 2) [.ref 71, .int m, .int x] (encC S) (fun v σ' => v = some (.int (S 71 6 + 1)) ∧ σ' = encC (zU (zU (zU S 75 e m) 76 e x) 71 6 (S 71 6 + 1))) := by
    refine m_Pa_addEntry [] rfl (Nat.le_of_ble_eq_true rfl) ?_
    refine z_call (c_put (n := 20) (f := S 75) (j := e) rfl (by decide) p4 (by omega)) ?_
    refine z_call (c_put (n := 20) (f := S 76) (j := e) rfl (by decide) p4 (by omega)) ?_
    exact ⟨rfl, rfl⟩
  refine z_call ad ?_
  refine ⟨by rw [p3, p4], _, rfl, ?_⟩
  obtain ⟨a, ha, ea⟩ := ixB_t (by omega) g1
  obtain ⟨b, hb, eb⟩ := ixB_t (by omega) g2
  refine ⟨⟨okM_of R.1 rfl rfl rfl rfl rfl, R.2.1, R.2.2.1, R.2.2.2.1, R.2.2.2.2⟩, ⟨s, e + 1, hs, by omega, p1, p2, ?_, ?_, p5, fun j hj => ?_⟩, T, I, ⟨de, nx, h1, h2, h3, h4, h5, fun y hy => ?_⟩, f, sd, r⟩
  · show M 0 28 + 1 = nI (e + 1)
    rw [p3, nI_1]
  · show S 71 6 + 1 = nI (e + 1)
    rw [p4, nI_1]
  · show upd (S 75) e m j = upd (upd (M 14) (2 * e) m) (2 * e + 1) x (2 * j) ∧ upd (S 76) e x j = upd (upd (M 14) (2 * e) m) (2 * e + 1) x (2 * j + 1) ∧ (∃ m', m' < n ∧ upd (upd (M 14) (2 * e) m) (2 * e + 1) x (2 * j) = nI m') ∧ ∃ x', x' < k ∧ upd (upd (M 14) (2 * e) m) (2 * e + 1) x (2 * j + 1) = nI x'
    by_cases z : j = e
    · subst z
      rw [upd_s, upd_s, upd_s, upd_n (show 2 * j ≠ 2 * j + 1 by omega), upd_s]
      exact ⟨rfl, rfl, ⟨a, ha, ea⟩, b, hb, eb⟩
    · rw [upd_n z, upd_n z, upd_n (show 2 * j ≠ 2 * e + 1 by omega), upd_n (show 2 * j ≠ 2 * e by omega), upd_n (show 2 * j + 1 ≠ 2 * e + 1 by omega), upd_n (show 2 * j + 1 ≠ 2 * e by omega)]
      exact p6 j (by omega)
  · rw [zU_k (by omega), zU_k (by omega), zU_k (by omega)]
    exact h6 y hy
end D5
