/-! the class: the chain, the quiet day, the papers -/
section C4
variable {d : Nat} {S M : zS} {n k : Nat}
theorem c_origin (R : rel1 S M n k) {x : Nat} (hx : x < k) : zRuns gB_at (d + 1) [.ref 24, .int (nI x)] (encC S) (fun v σ' => v = some (.int (M 4 (6 * x + 5))) ∧ σ' = encC S) := by
  have h4 := R.1.2.1
  exact c_atv (n := 4) (f := S 24) rfl (by decide) rfl (by omega) (R_x R hx).2.2.2.2.2
theorem nI_ne {p : Nat} (hp : p < 2 ^ 31) : nI p ≠ -1 := by
  intro z
  have := nI_pos (n := p) hp
  rw [z] at this
  exact this (by decide)
theorem chn_u {x f : Nat} : chnU M (f + 1) x = if M 4 (6 * x + 5) = -1 then 0 else chnU M f (M 4 (6 * x + 5)).toNatClampNeg + 1 := by rw [chnU]
theorem c_Fa_chainOf (R : rel1 S M n k) {x : Nat} (hx : x < k) : zRuns gFa_chainOf (d + 2) [.ref 14, .int (nI x)] (encC S) (fun v σ' => v = some (.int (nI (chnU M 4 x))) ∧ σ' = encC S) := by
  have h4 := R.1.2.1
  refine m_Fa_chainOf [14] rfl (Nat.le_of_ble_eq_true rfl) ?_
  refine z_call (c_origin R hx) ?_
  refine ⟨trivial, ?_⟩
  have nxt : ∀ y, y < k → ∀ (a : Int32), M 4 (6 * y + 5) = a → (a = -1 ∧ chnU M 4 y = 0) ∨ ∃ p, a = nI p ∧ p < y ∧ chnU M 4 y = 1 + chnU M 4 p := by
    intro y hy a ha
    rcases (R.1.2.2.2.2.2.2 y hy).2.2.2.2.2 with h9 | ⟨p, hp, e⟩
    · exact Or.inl ⟨ha.symm.trans h9, by rw [chn_u, if_pos h9]⟩
    · refine Or.inr ⟨p, ha.symm.trans e, hp, ?_⟩
      rw [chn_u, if_neg (by rw [e]; exact nI_ne (by omega)), e, nI_clamp (by omega), chn_fuel R.1 p (by omega) 3 4 (by omega) (by omega)]
      omega
  refine z_up (P := fun j => ∀ i l a, i = nI j → l = nI j → ((a = -1 ∧ chnU M 4 x = j) ∨ ∃ p, a = nI p ∧ p + j < x ∧ chnU M 4 x = j + 1 + chnU M 4 p) → zGood gFa_chainOf (d + 2) (fun v σ' => v = some (.int (nI (chnU M 4 x))) ∧ σ' = encC S) 14 [some (.ref 14), some (.int (nI x)), some (.int l), some (.int a), some (.int i)] [] (encC S) 0 0) 4 (fun j hj ih i l a hi hl ha => ?_) 0 (Nat.zero_le _) 0 0 (M 4 (6 * x + 5)) nI_0.symm nI_0.symm ?_
  · subst hi; subst hl
    refine w_Fa_chainOf [14] ?_
    refine z_le (a := 4) (b := j) rfl rfl (by decide) (by omega) (fun q => ?_) (fun q => ?_)
    · rcases ha with ⟨h1, h2⟩ | ⟨p, h1, h2, h3⟩
      · exact ⟨by rw [h2], rfl⟩
      · omega
    · refine ⟨fun h => ?_, fun h => ?_⟩
      · rcases ha with ⟨h1, h2⟩ | ⟨p, h1, h2, h3⟩
        · exact ⟨by rw [h2], rfl⟩
        · exact absurd (h1.symm.trans h) (nI_ne (by omega))
      · obtain ⟨p, h1, h2, h3⟩ := ha.resolve_left (fun z => h z.1)
        subst h1
        refine z_call (c_origin R (by omega)) ?_
        refine ⟨trivial, ih q _ _ _ (nI_1 j) (nI_1 j) ?_⟩
        rcases nxt p (by omega) _ rfl with ⟨g1, g2⟩ | ⟨p', g1, g2, g3⟩
        · exact Or.inl ⟨g1, by omega⟩
        · exact Or.inr ⟨p', g1, by omega, by omega⟩
  · rcases nxt x hx _ rfl with ⟨g1, g2⟩ | ⟨p', g1, g2, g3⟩
    · exact Or.inl ⟨g1, g2⟩
    · exact Or.inr ⟨p', g1, by omega, by omega⟩
theorem root_u {x f : Nat} : rootU M (f + 1) x = if M 4 (6 * x + 5) = -1 then x else rootU M f (M 4 (6 * x + 5)).toNatClampNeg := by rw [rootU]
theorem c_Fa_rootOf (R : rel1 S M n k) {x : Nat} (hx : x < k) : zRuns gFa_rootOf (d + 2) [.ref 14, .int (nI x)] (encC S) (fun v σ' => v = some (.int (nI (rootU M 4 x))) ∧ σ' = encC S) := by
  have h4 := R.1.2.1
  refine m_Fa_rootOf [4] rfl (Nat.le_of_ble_eq_true rfl) ?_
  refine ⟨trivial, ?_⟩
  refine z_up (P := fun j => ∀ i a, i = nI j → (∃ p, a = nI p ∧ p + j ≤ x ∧ rootU M 4 p = rootU M 4 x) → zGood gFa_rootOf (d + 2) (fun v σ' => v = some (.int (nI (rootU M 4 x))) ∧ σ' = encC S) 4 [some (.ref 14), some (.int (nI x)), some (.int a), some (.int i)] [] (encC S) 0 0) 4 (fun j hj ih i a hi ha => ?_) 0 (Nat.zero_le _) 0 (nI x) nI_0.symm ⟨x, rfl, by omega, rfl⟩
  subst hi
  obtain ⟨p, rfl, h2, h3⟩ := ha
  refine w_Fa_rootOf [4] ?_
  refine z_le (a := 4) (b := j) rfl rfl (by decide) (by omega) (fun q => ?_) (fun q => ?_)
  · omega
  · refine z_call (c_origin R (by omega)) ?_
    rw [root_u] at h3
    refine ⟨fun h => ?_, fun h => ?_⟩
    · rw [if_pos h] at h3
      exact ⟨by rw [h3], rfl⟩
    · rw [if_neg h] at h3
      rcases (R.1.2.2.2.2.2.2 p (by omega)).2.2.2.2.2 with h9 | ⟨p', hp, e⟩
      · exact absurd h9 h
      · refine z_call (c_origin R (by omega)) ?_
        rw [e, nI_clamp (by omega), root_fuel R.1 p' (by omega) 3 4 (by omega) (by omega)] at h3
        exact ⟨trivial, ih q _ _ (nI_1 j) ⟨p', e, by omega, h3⟩⟩
theorem c_Fa_wholeOf (R : rel1 S M n k) {x : Nat} (hx : x < k) : zRuns gFa_wholeOf (d + 3) [.ref 14, .int (nI x)] (encC S) (fun v σ' => v = some (.int (bits (fun y => decide (rootU M 4 y = rootU M 4 x)) k)) ∧ σ' = encC S) := by
  have h4 := R.1.2.1
  refine m_Fa_wholeOf [4] rfl (Nat.le_of_ble_eq_true rfl) ?_
  refine ⟨trivial, ?_⟩
  refine z_up (P := fun j => ∀ i a, i = nI j → a = bits (fun y => decide (rootU M 4 y = rootU M 4 x)) j → zGood gFa_wholeOf (d + 3) (fun v σ' => v = some (.int (bits (fun y => decide (rootU M 4 y = rootU M 4 x)) k)) ∧ σ' = encC S) 4 [some (.ref 14), some (.int (nI x)), some (.int a), some (.int i)] [] (encC S) 0 0) k (fun j hj ih i a hi ha => ?_) 0 (Nat.zero_le _) 0 0 nI_0.symm rfl
  subst hi; subst ha
  refine w_Fa_wholeOf [4] ?_
  refine ⟨fun q => ?_, fun q => ?_⟩
  · have e := z_end (R_mis R) hj (by omega) q
    subst e
    exact ⟨rfl, rfl⟩
  · have hlt := z_go (R_mis R) hj (by omega) q
    refine z_call (c_Fa_rootOf R hlt) ?_
    refine z_call (c_Fa_rootOf R hx) ?_
    have a1 := root_le R.1 4 j hlt
    have a2 := root_le R.1 4 x hx
    refine z_eq rfl rfl (by omega) (by omega) (fun h => ?_) (fun h => ?_)
    · exact ⟨trivial, ih hlt _ _ (nI_1 j) (bits_t (p := fun y => decide (rootU M 4 y = rootU M 4 x)) (by simp [h]))⟩
    · exact ⟨trivial, ih hlt _ _ (nI_1 j) (bits_c (p := fun y => decide (rootU M 4 y = rootU M 4 x)) (by simp [h]))⟩
theorem c_chain (R : rel1 S M n k) {x w : Int32} : zRuns gB_chain (d + 4) [.ref 0, .int x, .int w] (encC S) (fun v σ' => v = some (.int (pChain M k x w)) ∧ σ' = encC S) := by
  have h4 := R.1.2.1
  refine m_B_chain [] rfl (Nat.le_of_ble_eq_true rfl) ?_
  refine z_call (c_isMishap R) ?_
  refine z_b (fun h => ?_) (fun h => ?_)
  · exact ⟨by simp [pChain, h], rfl⟩
  obtain ⟨i, hi, rfl⟩ := ixB_t (by omega) h
  have ei : (nI i).toNatClampNeg = i := nI_clamp (by omega)
  refine ⟨fun h0 => ?_, fun h0 => ?_⟩
  · subst h0
    refine z_call (c_Fa_chainOf R hi) ?_
    refine ⟨?_, rfl⟩
    unfold pChain
    rw [h, if_neg (by decide), if_neg (by decide), if_neg (by decide), if_pos (by decide), ei]
  refine ⟨fun h1 => ?_, fun h1 => ?_⟩
  · subst h1
    refine z_call (c_Fa_rootOf R hi) ?_
    refine ⟨?_, rfl⟩
    unfold pChain
    rw [h, if_neg (by decide), if_neg (by decide), if_pos (by decide), ei]
  refine ⟨fun h2 => ?_, fun h2 => ?_⟩
  · subst h2
    refine z_call (c_Fa_wholeOf R hi) ?_
    refine ⟨?_, rfl⟩
    unfold pChain
    rw [h, if_neg (by decide), if_neg (by decide), if_neg (by decide), if_neg (by decide), ei]
  refine ⟨?_, rfl⟩
  unfold pChain
  rw [h, if_neg (by decide), if_pos]
  rintro z
  obtain ⟨q, hq, rfl⟩ := z_rng (N := 2) (by decide) z
  have : q = 0 ∨ q = 1 ∨ q = 2 := by omega
  rcases this with e | e | e <;> subst e <;> first | exact h0 rfl | exact h1 rfl | exact h2 rfl
theorem c_quiet (R : rel1 S M n k) {a q : Int32} : zRuns gB_quiet (d + 2) [.ref 0, .int a, .int q] (encC S) (fun r σ' => r = some (.int (pQuiet k a q)) ∧ σ' = encC S) := by
  have h4 := R.1.2.1
  refine m_B_quiet [41] rfl (Nat.le_of_ble_eq_true rfl) ?_
  refine z_call c_isWithin ?_
  refine z_dec (fun h => ?_) (fun h => ?_)
  · exact ⟨by unfold pQuiet; rw [if_pos h], rfl⟩
  refine z_call c_isWithin ?_
  refine z_dec (fun h1 => ?_) (fun h1 => ?_)
  · exact ⟨by unfold pQuiet; rw [if_neg (fun z => z h), if_pos h1], rfl⟩
  obtain ⟨t, ht, rfl⟩ := z_rng (N := 60) (by decide) h
  have hb : t * k ≤ 60 * 4 := Nat.mul_le_mul ht h4
  have p0 : pQuiet k (nI t) q = (quietU q (t * k)).toInt32 := by unfold pQuiet; rw [if_neg (fun z => z h), if_neg (fun z => z h1), nI_clamp (by omega)]
  rw [p0]
  refine ⟨trivial, ?_⟩
  refine z_up (P := fun j => ∀ i v, i = nI j → v = quietU q j → zGood gB_quiet (d + 2) (fun r σ' => r = some (.int (quietU q (t * k)).toInt32) ∧ σ' = encC S) 41 [some (.ref 0), some (.int (nI t)), some (.int q), some (.long v), none, some (.int (nI t * S 14 4)), some (.int i)] [] (encC S) 0 0) (t * k) (fun j hj ih i v hi hv => ?_) 0 (Nat.zero_le _) 0 1000000000 nI_0.symm rfl
  subst hi; subst hv
  refine w_B_quiet [41] ?_
  refine z_le (a := t * k) (b := j) (z_mu rfl (R_mis R)) rfl (by omega) (by omega) (fun q2 => ?_) (fun q2 => ?_)
  · have : j = t * k := by omega
    subst this
    exact ⟨rfl, rfl⟩
  · refine ⟨by decide, ?_⟩
    exact ⟨trivial, ih q2 _ _ (nI_1 j) rfl⟩
theorem c_Pa_excludes (R : rel1 S M n k) {s : Nat} (hs : s ≤ 6) (hS : S 71 3 = nI s) (hP : ∀ j, j < s → S 72 j = M 13 (3 * j) ∧ S 73 j = M 13 (3 * j + 1) ∧ S 74 j = M 13 (3 * j + 2) ∧ (∃ h, h < 6 ∧ M 13 (3 * j + 1) = nI h) ∧ ∃ p, p < 6 ∧ M 13 (3 * j + 2) = nI p) {m : Int32} {x : Nat} (hx : x < k) :
    zRuns gPa_excludes (d + 2) [.ref 71, .int m, .int (M 4 (6 * x + 1)), .int (M 4 (6 * x))] (encC S) (fun v σ' => v = some (.int (bI (anyU (fun j => alB M m j x) s))) ∧ σ' = encC S) := by
  obtain ⟨a, ha, ea⟩ := okM_L R.1 hx
  obtain ⟨b, hb, eb⟩ := okM_T R.1 hx
  refine m_Pa_excludes [3] rfl (Nat.le_of_ble_eq_true rfl) ?_
  refine ⟨trivial, ?_⟩
  refine z_up (P := fun j => ∀ i u w, i = nI j → anyU (fun j => alB M m j x) j = false → zGood gPa_excludes (d + 2) (fun v σ' => v = some (.int (bI (anyU (fun j => alB M m j x) s))) ∧ σ' = encC S) 3 [some (.ref 71), some (.int m), some (.int (M 4 (6 * x + 1))), some (.int (M 4 (6 * x))), some (.int i), u, w] [] (encC S) 0 0) s (fun j hj ih i u w hi ha2 => ?_) 0 (Nat.zero_le _) 0 none none nI_0.symm rfl
  subst hi
  refine w_Pa_excludes [3] ?_
  refine ⟨fun q => ?_, fun q => ?_⟩
  · have e := z_end hS hj (by omega) q
    subst e
    exact ⟨rfl, by rw [ha2]; rfl, rfl⟩
  have hlt := z_go hS hj (by omega) q
  obtain ⟨e1, e2, e3, ⟨h, hh, eh⟩, p, hp, ep⟩ := hP j hlt
  have up : ∀ t, j + 1 + t ≤ s → alB M m j x = true → anyU (fun j => alB M m j x) (j + 1 + t) = true := by
    intro t
    induction t with
    | zero => intro _ z; simp [anyU, z]
    | succ t iht => intro y z; rw [show j + 1 + (t + 1) = (j + 1 + t) + 1 by omega, anyU, iht (by omega) z]; rfl
  refine z_call (c_atv (n := 6) (f := S 74) rfl (by decide) rfl (by omega) e3) ?_
  refine z_call c_abs ?_
  refine z_call (c_atv (n := 6) (f := S 73) rfl (by decide) rfl (by omega) e2) ?_
  refine z_call c_abs ?_
  refine z_call (c_atv (n := 6) (f := S 72) rfl (by decide) rfl (by omega) e1) ?_
  have g1 : (if 0 ≤ M 13 (3 * j + 2) - M 4 (6 * x) then M 13 (3 * j + 2) - M 4 (6 * x) else -(M 13 (3 * j + 2) - M 4 (6 * x))) = offF (M 13 (3 * j + 2)) (M 4 (6 * x)) := by rw [ep, ea]; exact b_abs p hp a ha
  have g2 : (if 0 ≤ M 13 (3 * j + 1) - M 4 (6 * x + 1) then M 13 (3 * j + 1) - M 4 (6 * x + 1) else -(M 13 (3 * j + 1) - M 4 (6 * x + 1))) = offF (M 13 (3 * j + 1)) (M 4 (6 * x + 1)) := by rw [eh, eb]; exact b_abs h hh b hb
  rw [g1, g2]
  have no : alB M m j x = false → anyU (fun j => alB M m j x) (j + 1) = false := by intro z; simp [anyU, ha2, z]
  refine ⟨fun h5 => ?_, fun h5 => ?_⟩
  · refine ⟨fun h6 => ?_, fun h6 => ?_⟩
    · refine ⟨trivial, ih hlt _ _ _ (nI_1 j) (no ?_)⟩
      unfold alB
      simp [h6]
    · have t := up (s - (j + 1)) (by omega) (by unfold alB; simp [h5]; exact Int32.not_le.mp h6)
      rw [show j + 1 + (s - (j + 1)) = s by omega] at t
      exact ⟨rfl, by rw [t]; rfl, rfl⟩
  · refine ⟨trivial, ih hlt _ _ _ (nI_1 j) (no ?_)⟩
    unfold alB
    simp [h5]
theorem c_alibi (R : rel1 S M n k) (P : relP S M n k) {m : Int32} : zRuns gB_alibi (d + 4) [.ref 0, .int m] (encC S) (fun v σ' => v = some (.int (pAlibi M n k m)) ∧ σ' = encC S) := by
  have h7 := R.1.1; have h4 := R.1.2.1
  obtain ⟨s, e, hs, he, p1, p2, p3, p4, p5, p6⟩ := P
  refine m_B_alibi [15] rfl (Nat.le_of_ble_eq_true rfl) ?_
  refine z_call (c_isMan R) ?_
  refine z_b (fun h => ?_) (fun h => ?_)
  · exact ⟨by simp [pAlibi, h], rfl⟩
  have e0 : pAlibi M n k m = bits (fun x => anyU (fun j => alB M m j x) s) k := by
    unfold pAlibi
    rw [h, if_neg (by decide), p1, nI_clamp (by omega), alU_bits]
  rw [e0]
  refine ⟨trivial, ?_⟩
  refine z_up (P := fun j => ∀ i a, i = nI j → a = bits (fun x => anyU (fun j => alB M m j x) s) j → zGood gB_alibi (d + 4) (fun v σ' => v = some (.int (bits (fun x => anyU (fun j => alB M m j x) s) k)) ∧ σ' = encC S) 15 [some (.ref 0), some (.int m), some (.int a), some (.int i)] [] (encC S) 0 0) k (fun j hj ih i a hi ha => ?_) 0 (Nat.zero_le _) 0 0 nI_0.symm rfl
  subst hi; subst ha
  refine w_B_alibi [15] ?_
  refine ⟨fun q => ?_, fun q => ?_⟩
  · have e := z_end (R_mis R) hj (by omega) q
    subst e
    exact ⟨rfl, rfl⟩
  · have hlt := z_go (R_mis R) hj (by omega) q
    refine z_call (c_atv (n := 4) (f := S 20) rfl (by decide) rfl (by omega) (R_x R hlt).2.1) ?_
    refine z_call (c_atv (n := 4) (f := S 19) rfl (by decide) rfl (by omega) (R_x R hlt).1) ?_
    refine z_call (c_Pa_excludes R hs p2 p5 hlt) ?_
    refine z_b (fun h5 => ?_) (fun h5 => ?_)
    · exact ⟨trivial, ih hlt _ _ (nI_1 j) (bits_c (p := fun x => anyU (fun j => alB M m j x) s) h5)⟩
    · exact ⟨trivial, ih hlt _ _ (nI_1 j) (bits_t (p := fun x => anyU (fun j => alB M m j x) s) h5)⟩
theorem c_judge (R : rel1 S M n k) (P : relP S M n k) : zRuns gB_judge (d + 3) [.ref 0] (encC S) (fun v σ' => v = some (.int (pJudge M)) ∧ σ' = encC S) := by
  have h7 := R.1.1; have h4 := R.1.2.1
  obtain ⟨s, e, hs, he, p1, p2, p3, p4, p5, p6⟩ := P
  have e0 : pJudge M = fstU (wrongB M) e 0 := by unfold pJudge; rw [p3, nI_clamp (by omega)]
  rw [e0]
  refine m_B_judge [2] rfl (Nat.le_of_ble_eq_true rfl) ?_
  refine ⟨trivial, ?_⟩
  refine z_up (P := fun j => ∀ i, i = nI j → fstU (wrongB M) e 0 = fstU (wrongB M) (e - j) j → zGood gB_judge (d + 3) (fun v σ' => v = some (.int (fstU (wrongB M) e 0)) ∧ σ' = encC S) 2 [some (.ref 0), some (.int i)] [] (encC S) 0 0) e (fun j hj ih i hi ha => ?_) 0 (Nat.zero_le _) 0 nI_0.symm rfl
  subst hi
  refine w_B_judge [2] ?_
  refine ⟨fun q => ?_, fun q => ?_⟩
  · have e := z_end p4 hj (by omega) q
    subst e
    exact ⟨by rw [ha, Nat.sub_self]; rfl, rfl⟩
  · have hlt := z_go p4 hj (by omega) q
    obtain ⟨a1, a2, ⟨m, hm, em⟩, x, hx, ex⟩ := p6 j hlt
    refine z_call (c_atv (n := 20) (f := S 76) rfl (by decide) rfl (by omega) (a2.trans ex)) ?_
    refine z_call (c_St_blamedFor R hx) ?_
    refine z_call (c_atv (n := 20) (f := S 75) rfl (by decide) rfl (by omega) (a1.trans em)) ?_
    refine z_call (c_isIn rfl (by omega)) ?_
    have ew : wrongB M j = !hasB (M 8 (7 + x)) (nI m) := by unfold wrongB; rw [ex, em, nI_clamp (by omega)]
    rw [show e - j = (e - (j + 1)) + 1 by omega, fstU] at ha
    refine z_b (fun h5 => ?_) (fun h5 => ?_)
    · have h5' : hasB (M 8 (7 + x)) (nI m) = false := h5
      exact ⟨by rw [ha, ew, h5']; rfl, rfl⟩
    · have h5' : hasB (M 8 (7 + x)) (nI m) = true := h5
      refine ⟨trivial, ih hlt _ (nI_1 j) ?_⟩
      rw [ha, ew, h5']
      rfl
end C4
