/-! the class's deeds: the drift, undoing -/
def fmF (x : Int32) : Int32 := if 0 ≤ x ^^^ 30 then x - x / 30 * 30 else if x - x / 30 * 30 = 0 then x - x / 30 * 30 else x - x / 30 * 30 + 30
theorem b_fm2 : ∀ j, j < 30 → ∀ u, u < 31 → fmF (nI j - nI u) = nI ((j + 30 - u) % 30) := by decide +kernel
theorem c_floorMod {d : Nat} {σ : List va_E} {x : Int32} : zRuns gJM_floorMod (d + 1) [.int x, .int 30] σ (fun v σ' => v = some (.int (fmF x)) ∧ σ' = σ) := by
  refine m_JM_floorMod [] rfl (Nat.le_of_ble_eq_true rfl) ?_
  refine ⟨by decide, ?_⟩
  unfold fmF
  refine ⟨fun h => ?_, fun h => ?_⟩
  · exact ⟨by rw [if_pos h], rfl⟩
  · refine ⟨fun h2 => ?_, fun h2 => ?_⟩
    · exact ⟨by rw [if_neg h, if_pos h2], rfl⟩
    · exact ⟨by rw [if_neg h, if_neg h2], rfl⟩
section D4
variable {d : Nat} {S M : zS} {n k : Nat}
theorem c_blameByDraws (C : relC S M n k) {x : Nat} (hx : x < k) : zRuns gB_blameByDraws (d + 6) [.ref 0, .int (nI x)] (encC S) (fun v σ' => v = none ∧ ∃ S', σ' = encC S' ∧ relC S' (dxU n k x 7 M) n k) := by
  have h7 := C.1.1.1; have h4 := C.1.1.2.1
  refine m_B_blameByDraws [2] rfl (Nat.le_of_ble_eq_true rfl) ?_
  refine ⟨trivial, ?_⟩
  generalize hG : dxU n k x 7 M = G
  refine z_up (P := fun j => ∀ S M i u w, i = nI j → relC S M n k → dxU n k x (7 - j) M = G → zGood gB_blameByDraws (d + 6) (fun v σ' => v = none ∧ ∃ S', σ' = encC S' ∧ relC S' G n k) 2 [some (.ref 0), some (.int (nI x)), some (.int i), u, w] [] (encC S) 0 0) 7 (fun j hj ih S M i u w hi C hG => ?_) 0 (Nat.zero_le _) S M 0 none none nI_0.symm C hG
  subst hi
  refine w_B_blameByDraws [2] ?_
  refine z_le (a := 7) (b := j) rfl rfl (by decide) (by omega) (fun q => ?_) (fun q => ?_)
  · have : j = 7 := by omega
    subst this
    exact ⟨rfl, S, rfl, hG ▸ C⟩
  rw [show 7 - j = (7 - (j + 1)) + 1 by omega, dxU] at hG
  refine z_call (c_Ct_takers C.1 hx) ?_
  refine ⟨fun h => ?_, fun h => ?_⟩
  · rw [if_pos h] at hG
    exact ⟨rfl, S, rfl, hG ▸ C⟩
  rw [if_neg h] at hG
  obtain ⟨m, hm, em, hmay, -⟩ := pick h7 h
  obtain ⟨e1, e2, e3⟩ := pick2 h7 h
  have e24 : S 0 11 = M 0 24 := C.2.2.2.2.2.2.1
  refine z_call c_bitCount ?_
  rw [e1]
  refine z_call (c_draw e2) ?_
  refine z_call c_memberOf ?_
  rw [e24, e3, em]
  refine ⟨fun h9 => absurd h9 (nI_ne (by omega)), fun _ => ?_⟩
  have C1 := relC_seed (v := lcgM (M 0 24)) C
  refine z_call (c_putBlame C1.1 hm hx) ?_
  obtain ⟨r1, r2⟩ := row_put C1.1 hm hx hmay
  have C2 := relC_row C1 r1 r2
  refine ⟨trivial, ih q _ _ _ _ _ (nI_1 j) C2 ?_⟩
  rw [← hG]
  unfold blStep
  rw [em, nI_clamp (by omega)]
  rfl
theorem c_drift (C : relC S M n k) {a : Int32} : zRuns gB_drift (d + 7) [.ref 0, .int a] (encC S) (fun v σ' => v = some (.int (pDrift M n k a)) ∧ ∃ S', σ' = encC S' ∧ relC S' (gDrift M n k a) n k) := by
  have R := C.1
  have h7 := R.1.1; have h4 := R.1.2.1
  refine m_B_drift [44, 62] rfl (Nat.le_of_ble_eq_true rfl) ?_
  refine z_call c_isWithin ?_
  refine z_dec (fun h => ?_) (fun h => ?_)
  · exact ⟨by unfold pDrift; rw [if_pos h], S, rfl, by unfold gDrift; rw [if_pos h]; exact C⟩
  show (S 14 0 = 0 → _) ∧ (¬ S 14 0 = 0 → _)
  rw [R.2.2.2.1.2.2.1]
  refine ⟨fun h2 => ?_, fun h2 => ?_⟩
  · exact ⟨by unfold pDrift; rw [if_neg (fun z => z h), if_pos h2], S, rfl, by unfold gDrift; rw [if_neg (fun z => z h), if_pos h2]; exact C⟩
  refine z_call (c_St_days R) ?_
  refine ⟨fun h3 => ?_, fun h3 => ?_⟩
  · have h3' := Int32.not_lt.mpr h3
    have p0 : pDrift M n k a = driftU n k a.toNatClampNeg M 8 11 := by unfold pDrift; rw [if_neg (fun z => z h), if_neg h2, if_neg h3']
    have g0 : gDrift M n k a = driftU n k a.toNatClampNeg M := by unfold gDrift; rw [if_neg (fun z => z h), if_neg h2, if_neg h3']
    rw [p0, g0]
    obtain ⟨t, ht, rfl⟩ := z_rng (N := 20) (by decide) ⟨Int32.le_trans (by decide) h.1, h.2⟩
    rw [nI_clamp (by omega)]
    refine ⟨trivial, ?_⟩
    refine z_up (P := fun j => ∀ S i u, i = nI j → relC S (driftU n k j M) n k → zGood gB_drift (d + 7) (fun v σ' => v = some (.int (driftU n k t M 8 11)) ∧ ∃ S', σ' = encC S' ∧ relC S' (driftU n k t M) n k) 44 [some (.ref 0), some (.int (nI t)), some (.int i), u] [] (encC S) 0 0) t (fun j hj ih S i u hi C => ?_) 0 (Nat.zero_le _) S 0 none nI_0.symm C
    subst hi
    refine w_B_drift [44, 62] ?_
    refine z_le (a := t) (b := j) rfl rfl (by omega) (by omega) (fun q => ?_) (fun q => ?_)
    · have : j = t := by omega
      subst this
      refine z_call (c_St_spent C.1) ?_
      exact ⟨rfl, S, rfl, C⟩
    have go := fun S u => ih q S (nI j + 1) u (nI_1 j)
    rw [show driftU n k (j + 1) M = dayF n k (driftU n k j M) from rfl] at go
    generalize driftU n k j M = D at C go
    refine z_callE (c_remember C) ?_
    rintro v σ' ⟨rfl, S1, rfl, C1⟩
    refine ⟨trivial, ?_⟩
    refine z_up (P := fun x => ∀ S i, i = nI x → relC S (dxAll n k x (notesF D (D 0 20).toNatClampNeg)) n k → zGood gB_drift (d + 7) (fun v σ' => v = some (.int (driftU n k t M 8 11)) ∧ ∃ S', σ' = encC S' ∧ relC S' (driftU n k t M) n k) 62 [some (.ref 0), some (.int (nI t)), some (.int (nI j)), some (.int i)] [] (encC S) 0 0) k (fun x hx ihx S i hi C => ?_) 0 (Nat.zero_le _) S1 0 nI_0.symm C1
    subst hi
    refine w_B_drift [44, 62] ?_
    refine ⟨fun q2 => ?_, fun q2 => ?_⟩
    · have e := z_end (R_mis C.1) hx (by omega) q2
      subst e
      refine z_callE (c_endDay C.1) ?_
      rintro v σ' ⟨rfl, c, rfl, e⟩
      refine ⟨trivial, go _ _ ?_⟩
      unfold dayF
      exact relC_row C e (okRow_setsNow C.1.1 C.1.2.2.1 C.2.2.2.2.2.2.2)
    · have hlt := z_go (R_mis C.1) hx (by omega) q2
      refine z_callE (c_blameByDraws C hlt) ?_
      rintro v σ' ⟨rfl, S2, rfl, C2⟩
      exact ⟨trivial, ihx hlt S2 _ (nI_1 x) C2⟩
  · have h3' := Int32.not_le.mp h3
    exact ⟨by unfold pDrift; rw [if_neg (fun z => z h), if_neg h2, if_pos h3'], S, rfl, by unfold gDrift; rw [if_neg (fun z => z h), if_neg h2, if_pos h3']; exact C⟩
theorem s_giveBack {nx de u : Nat} (h1 : nx < 30) (h2 : de ≤ 30) (hu : u ≤ de) (hu1 : 1 ≤ u) (e1 : S 39 1 = nI nx) (e2 : S 39 2 = nI de) : zRuns gPs_giveBack (d + 2) [.ref 39, .int (nI u), .ref 25] (encC S) (fun v σ' => v = none ∧ σ' = encC (zUr (zU (zU S 39 1 (nI ((nx + 30 - u) % 30))) 39 2 (nI (de - u))) 26 (fun j => if j < 55 then S (41 + (nx + 30 - u) % 30) j else S 26 j))) := by
  refine m_Ps_giveBack [] rfl (Nat.le_of_ble_eq_true rfl) ?_
  refine z_call c_floorMod ?_
  refine z_call c_max ?_
  have hx : (nx + 30 - u) % 30 < 30 := Nat.mod_lt _ (by decide)
  rw [e1, e2, b_fm2 nx h1 u (by omega), pk_sub hu]
  generalize (nx + 30 - u) % 30 = z at hx
  have em : (if (0 : Int32) < nI (de - u) then nI (de - u) else 0) = nI (de - u) := by
    by_cases y : de - u = 0
    · rw [y]; rfl
    · exact if_pos (nI_lt (a := 0) (Nat.pos_of_ne_zero y) (by omega))
  rw [em]
  refine ⟨fun q => absurd q (nI_pos (by omega)), fun _ => ?_⟩
  refine ⟨fun q => absurd q (nI_ge hx (by decide)), fun _ => ?_⟩
  refine ⟨vp_in_nI hx (by decide), ?_⟩
  generalize hS1 : (zU (zU S 39 1 (nI z)) 39 2 (nI (de - u))) = S1
  have g1 : S1 26 = S 26 := by rw [← hS1]; rfl
  have g2 : S1 (41 + z) = S (41 + z) := by rw [← hS1, zU_k (by omega), zU_k (by omega)]
  have cp : ∀ r : Value, r = .ref (41 + z) → zRuns gB_copyRow (d + 1) [r, .ref 26] (encC S1) (fun v σ' => v = none ∧ σ' = encC (zUr S1 26 (fun j => if j < 55 then S (41 + z) j else S 26 j))) := by
    rintro _ rfl
    rw [← g1, ← g2]
    exact c_copyRow (r1 := 41 + z) (r2 := 26) (n1 := 55) (n2 := 55) (enc_at z hx) rfl (by omega) (by decide) (by decide)
  rw [← hS1] at cp
  refine z_call (cp _ (by rw [nI_clamp (by omega)]; simp [zRf, hx])) ?_
  exact ⟨rfl, by rw [hS1]⟩
theorem c_undo (C : relC S M n k) {u : Int32} : zRuns gB_undo (d + 4) [.ref 0, .int u] (encC S) (fun v σ' => v = some (.int (pUndo M u)) ∧ ∃ S', σ' = encC S' ∧ relC S' (gUndo M u) n k) := by
  have C0 := C
  have hn := C.1.1.1; have hk := C.1.1.2.1
  obtain ⟨R, P, T, I, ⟨de, nx, h1, h2, h3, h4, h5, h6⟩, f, s, r⟩ := C
  refine m_B_undo [] rfl (Nat.le_of_ble_eq_true rfl) ?_
  refine z_call c_isWithin ?_
  refine z_dec (fun h => ?_) (fun h => ?_)
  · exact ⟨by unfold pUndo; rw [if_pos h], S, rfl, by unfold gUndo; rw [if_pos h]; exact C0⟩
  show (u ≤ S 39 2 → _) ∧ (¬ u ≤ S 39 2 → _)
  rw [h4, ← h3]
  refine ⟨fun h7 => ?_, fun h7 => ?_⟩
  · obtain ⟨t, ht, rfl⟩ := z_rng (N := 30) (by decide) ⟨Int32.le_trans (by decide) h.1, h.2⟩
    have ht1 : 1 ≤ t := by
      rcases Nat.eq_zero_or_pos t with z | z
      · subst z; exact absurd h.1 (by decide)
      · exact z
    have htd : t ≤ de := by
      rw [h3] at h7
      exact Nat.not_lt.mp fun z => nI_ge z (by omega) h7
    have ede : (M 0 20).toNatClampNeg = de := by rw [h3, nI_clamp (by omega)]
    have p0 : pUndo M (nI t) = M 9 (55 * (de - t) + 12) := by unfold pUndo; rw [if_neg (fun z => z h), if_neg (fun z => z h7), ede, nI_clamp (by omega)]
    have g0 : gUndo M (nI t) = zUr (zU M 0 20 (nI (de - t))) 8 (cpyF (M 9) (M 8) (55 * (de - t)) 0) := by unfold gUndo; rw [if_neg (fun z => z h), if_neg (fun z => z h7), ede, nI_clamp (by omega)]
    rw [p0, g0]
    refine z_call (s_giveBack h2 h1 htd ht1 h5 h4) ?_
    obtain ⟨r1, r2⟩ := h6 (t - 1) (by omega)
    rw [show (nx + 29 - (t - 1)) % 30 = (nx + 30 - t) % 30 by congr 1; omega, show de - 1 - (t - 1) = de - t by omega] at r1
    rw [show de - 1 - (t - 1) = de - t by omega] at r2
    have en : ∀ j, j < 55 → cpyF (M 9) (M 8) (55 * (de - t)) 0 j = M 9 (55 * (de - t) + j) := by
      intro j hj
      unfold cpyF
      rw [if_pos (by omega), Nat.sub_zero]
    generalize hz : (nx + 30 - t) % 30 = z at *
    have hz30 : z < 30 := by rw [← hz]; exact Nat.mod_lt _ (by decide)
    have D : relC (zUr (zU (zU S 39 1 (nI z)) 39 2 (nI (de - t))) 26 (fun j => if j < 55 then S (41 + z) j else S 26 j)) (zUr (zU M 0 20 (nI (de - t))) 8 (cpyF (M 9) (M 8) (55 * (de - t)) 0)) n k := by
      have B : relC (zU (zU S 39 1 (nI z)) 39 2 (nI (de - t))) (zU M 0 20 (nI (de - t))) n k := by
        refine ⟨⟨okM_of R.1 rfl rfl rfl rfl rfl, R.2.1, R.2.2.1, R.2.2.2.1, R.2.2.2.2⟩, P, T, I, ⟨de - t, z, by omega, hz30, rfl, rfl, rfl, fun y hy => ?_⟩, f, s, r⟩
        rw [zU_k (by omega), zU_k (by omega)]
        obtain ⟨q1, q2⟩ := h6 (t + y) (by omega)
        rw [show (nx + 29 - (t + y)) % 30 = (z + 29 - y) % 30 by omega, show de - 1 - (t + y) = de - t - 1 - y by omega] at q1
        rw [show de - 1 - (t + y) = de - t - 1 - y by omega] at q2
        exact ⟨q1, q2⟩
      exact relC_row B (rowEq_congr hn hk (fun j hj => if_pos hj) en r1) (okRow_congr hn hk rfl en r2)
    refine z_call (c_St_days D.1) ?_
    refine ⟨?_, _, rfl, D⟩
    rw [zUr_s, en 12 (by decide)]
  · exact ⟨by unfold pUndo; rw [if_neg (fun z => z h), if_pos h7], S, rfl, by unfold gUndo; rw [if_neg (fun z => z h), if_pos h7]; exact C0⟩
end D4
