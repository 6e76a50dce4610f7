def pSee (M : zS) (n : Nat) (m h p : Int32) : Int32 := if ixB n m = false then kUNK else if ¬ (0 ≤ h ∧ h ≤ 5) then kOUT else if ¬ (0 ≤ p ∧ p ≤ 5) then kOUT else if M 0 26 = 6 then kFUL else M 0 26 + 1
def gSee (M : zS) (n : Nat) (m h p : Int32) : zS := if ixB n m = false then M else if ¬ (0 ≤ h ∧ h ≤ 5) then M else if ¬ (0 ≤ p ∧ p ≤ 5) then M else if M 0 26 = 6 then M else
  zU (zU (zU (zU M 13 (3 * (M 0 26).toNatClampNeg) m) 13 (3 * (M 0 26).toNatClampNeg + 1) h) 13 (3 * (M 0 26).toNatClampNeg + 2) p) 0 26 (M 0 26 + 1)
def pWrite (M : zS) (n k : Nat) (m x : Int32) : Int32 := if ixB n m = false then kUNK else if ixB k x = false then kUNK else if M 0 28 = 20 then kFUL else M 0 28 + 1
def gWrite (M : zS) (n k : Nat) (m x : Int32) : zS := if ixB n m = false then M else if ixB k x = false then M else if M 0 28 = 20 then M else
  zU (zU (zU M 14 (2 * (M 0 28).toNatClampNeg) m) 14 (2 * (M 0 28).toNatClampNeg + 1) x) 0 28 (M 0 28 + 1)
def fstU (p : Nat → Bool) : Nat → Nat → Int32
  | 0, _ => -1
  | f + 1, j => if p j then nI j else fstU p f (j + 1)
def wrongB (M : zS) (j : Nat) : Bool := !hasB (M 8 (7 + (M 14 (2 * j + 1)).toNatClampNeg)) (M 14 (2 * j))
def pJudge (M : zS) : Int32 := fstU (wrongB M) (M 0 28).toNatClampNeg 0
def gTear (M : zS) : zS := zU (zU M 0 26 0) 0 28 0
def pSeed (M : zS) (v : Int32) : Int32 := if 0 ≤ v then M 0 24 else kOUT
def gSeed (M : zS) (v : Int32) : zS := if 0 ≤ v then zU M 0 24 v else M
def pKeep (i : Int32) : Int32 := if ¬ (0 ≤ i ∧ i ≤ 1) then kUNK else 1
def gKeep (M : zS) (i : Int32) : zS := if ¬ (0 ≤ i ∧ i ≤ 1) then M else zU (zU (zU (zUr M 10 (cpyF (M 8) (M 10) 0 (55 * i.toNatClampNeg))) 11 i.toNatClampNeg (M 0 24)) 12 i.toNatClampNeg (vp_nar .boolean 1)) 0 20 0
def pBack (M : zS) (i : Int32) : Int32 := if ¬ (0 ≤ i ∧ i ≤ 1) then kUNK else if M 12 i.toNatClampNeg = 0 then kNOT else 1
def gBack (M : zS) (i : Int32) : zS := if ¬ (0 ≤ i ∧ i ≤ 1) then M else if M 12 i.toNatClampNeg = 0 then M else zU (zU (zUr M 8 (cpyF (M 10) (M 8) (55 * i.toNatClampNeg) 0)) 0 24 (M 11 i.toNatClampNeg)) 0 20 0
def quietU (q : Int32) : Nat → Int64
  | 0 => 1000000000
  | j + 1 => quietU q j * (100 - q).toInt64 / 100
def pQuiet (k : Nat) (a q : Int32) : Int32 := if ¬ (0 ≤ a ∧ a ≤ 60) then kOUT else if ¬ (0 ≤ q ∧ q ≤ 100) then kOUT else (quietU q (a.toNatClampNeg * k)).toInt32
def rootU (M : zS) : Nat → Nat → Nat
  | 0, x => x
  | f + 1, x => if M 4 (6 * x + 5) = -1 then x else rootU M f (M 4 (6 * x + 5)).toNatClampNeg
def chnU (M : zS) : Nat → Nat → Nat
  | 0, _ => 0
  | f + 1, x => if M 4 (6 * x + 5) = -1 then 0 else chnU M f (M 4 (6 * x + 5)).toNatClampNeg + 1
def pChain (M : zS) (k : Nat) (x w : Int32) : Int32 := if ixB k x = false then kUNK else if ¬ (0 ≤ w ∧ w ≤ 2) then kOUT else if w = 1 then nI (rootU M 4 x.toNatClampNeg) else if w = 0 then nI (chnU M 4 x.toNatClampNeg) else bits (fun y => decide (rootU M 4 y = rootU M 4 x.toNatClampNeg)) k
def orU (p : Nat → Bool) (a : Int32) : Nat → Int32
  | 0 => a
  | j + 1 => orU p a j ||| (if p j then (1 <<< (nI j &&& 31)) else 0)
def alB (M : zS) (m : Int32) (s x : Nat) : Bool := decide (M 13 (3 * s) = m) && decide (¬ offF (M 13 (3 * s + 2)) (M 4 (6 * x)) ≤ offF (M 13 (3 * s + 1)) (M 4 (6 * x + 1)))
def alU (M : zS) (k : Nat) (m : Int32) : Nat → Int32
  | 0 => 0
  | s + 1 => orU (alB M m s) (alU M k m s) k
def pAlibi (M : zS) (n k : Nat) (m : Int32) : Int32 := if ixB n m = false then kUNK else alU M k m (M 0 26).toNatClampNeg
theorem orU_t {p : Nat → Bool} {a : Int32} {j : Nat} (h : p j = true) : orU p a j ||| (1 <<< (nI j &&& 31)) = orU p a (j + 1) := by simp [orU, h]
theorem orU_f {p : Nat → Bool} {a : Int32} {j : Nat} (h : p j = false) : orU p a j ||| 0 = orU p a (j + 1) := by simp [orU, h]
section M8
variable {d : Nat} {M : zS} {n k : Nat} {σ : List va_E}
theorem c_M_see (I : okM M n k) {m h p : Int32} {s : Nat} (hs : M 0 26 = nI s) (hs6 : s ≤ 6) : zRuns gM_see (d + 2) [.ref 0, .int m, .int h, .int p] (encM M) (fun v σ' => v = some (.int (pSee M n m h p)) ∧ σ' = encM (gSee M n m h p)) := by
  have h7 := I.1
  refine m_M_see [] rfl (Nat.le_of_ble_eq_true rfl) ?_
  refine z_call (c_M_isMan I) ?_
  refine z_b (fun h0 => ?_) (fun h0 => ?_)
  · exact ⟨by simp [pSee, h0], by simp [gSee, h0]⟩
  refine z_call c_M_in ?_
  refine z_dec (fun h1 => ?_) (fun h1 => ?_)
  · exact ⟨by unfold pSee; rw [h0, if_neg (by decide), if_pos h1], by unfold gSee; rw [h0, if_neg (by decide), if_pos h1]⟩
  refine z_call c_M_in ?_
  refine z_dec (fun h2 => ?_) (fun h2 => ?_)
  · exact ⟨by unfold pSee; rw [h0, if_neg (by decide), if_neg (fun z => z h1), if_pos h2], by unfold gSee; rw [h0, if_neg (by decide), if_neg (fun z => z h1), if_pos h2]⟩
  refine ⟨fun h3 => ?_, fun h3 => ?_⟩
  · exact ⟨by unfold pSee; rw [h0, if_neg (by decide), if_neg (fun z => z h1), if_neg (fun z => z h2), if_pos h3], by unfold gSee; rw [h0, if_neg (by decide), if_neg (fun z => z h1), if_neg (fun z => z h2), if_pos h3]⟩
  have hlt : s < 6 := by
    have : s ≠ 6 := fun z => h3 (by rw [hs, z]; rfl)
    omega
  have es : (M 0 26).toNatClampNeg = s := by rw [hs, nI_clamp (by omega)]
  refine z_st (k := 3 * s) (by show (3 : Int32) * M 0 26 = _; rw [hs]; exact z_mu q3 rfl) (by omega) (by decide) ?_
  refine z_st (k := 3 * s + 1) (by show (3 : Int32) * M 0 26 + 1 = _; rw [hs]; exact z_ad (z_mu q3 rfl) q1) (by omega) (by decide) ?_
  refine z_st (k := 3 * s + 2) (by show (3 : Int32) * M 0 26 + 2 = _; rw [hs]; exact z_ad (z_mu q3 rfl) q2) (by omega) (by decide) ?_
  refine ⟨by unfold pSee; rw [h0, if_neg (by decide), if_neg (fun z => z h1), if_neg (fun z => z h2), if_neg h3], ?_⟩
  unfold gSee
  rw [h0, if_neg (by decide), if_neg (fun z => z h1), if_neg (fun z => z h2), if_neg h3, es]
  rfl
theorem c_M_write (I : okM M n k) {m x : Int32} {s : Nat} (hs : M 0 28 = nI s) (hs6 : s ≤ 20) : zRuns gM_write (d + 2) [.ref 0, .int m, .int x] (encM M) (fun v σ' => v = some (.int (pWrite M n k m x)) ∧ σ' = encM (gWrite M n k m x)) := by
  refine m_M_write [] rfl (Nat.le_of_ble_eq_true rfl) ?_
  refine z_call (c_M_isMan I) ?_
  refine z_b (fun h0 => ?_) (fun h0 => ?_)
  · exact ⟨by simp [pWrite, h0], by simp [gWrite, h0]⟩
  refine z_call (c_M_isMishap I) ?_
  refine z_b (fun h1 => ?_) (fun h1 => ?_)
  · exact ⟨by simp [pWrite, h0, h1], by simp [gWrite, h0, h1]⟩
  refine ⟨fun h3 => ?_, fun h3 => ?_⟩
  · exact ⟨by simp [pWrite, h0, h1, h3], by simp [gWrite, h0, h1, h3]⟩
  have hlt : s < 20 := by
    have : s ≠ 20 := fun z => h3 (by rw [hs, z]; rfl)
    omega
  have es : (M 0 28).toNatClampNeg = s := by rw [hs, nI_clamp (by omega)]
  refine z_st (k := 2 * s) (by show (2 : Int32) * M 0 28 = _; rw [hs]; exact z_mu q2 rfl) (by omega) (by decide) ?_
  refine z_st (k := 2 * s + 1) (by show (2 : Int32) * M 0 28 + 1 = _; rw [hs]; exact z_ad (z_mu q2 rfl) q1) (by omega) (by decide) ?_
  refine ⟨by simp [pWrite, h0, h1, h3], ?_⟩
  unfold gWrite
  rw [h0, h1, if_neg (by decide), if_neg (by decide), if_neg h3, es]
  rfl
theorem c_M_judge (I : okM M n k) {s : Nat} (hs : M 0 28 = nI s) (hs6 : s ≤ 20) (hb : ∀ e, e < s → ∃ y, y < k ∧ M 14 (2 * e + 1) = nI y) : zRuns gM_judge (d + 2) [.ref 0] (encM M) (fun v σ' => v = some (.int (pJudge M)) ∧ σ' = encM M) := by
  have h4 := I.2.1
  refine m_M_judge [2] rfl (Nat.le_of_ble_eq_true rfl) ?_
  refine ⟨trivial, ?_⟩
  have es : (M 0 28).toNatClampNeg = s := by rw [hs, nI_clamp (by omega)]
  refine z_up (P := fun j => ∀ i, i = nI j → fstU (wrongB M) (s - j) j = pJudge M → zGood gM_judge (d + 2) (fun v σ' => v = some (.int (pJudge M)) ∧ σ' = encM M) 2 [some (.ref 0), some (.int i)] [] (encM M) 0 0) s (fun j hj ih i hi hr => ?_) 0 (Nat.zero_le _) 0 nI_0.symm (by unfold pJudge; rw [es]; rfl)
  subst hi
  refine w_M_judge [2] ?_
  refine z_le (a := s) (b := j) hs rfl (by omega) (by omega) (fun q => ?_) (fun q => ?_)
  · have : j = s := by omega
    subst this
    refine ⟨?_, rfl⟩
    rw [← hr, Nat.sub_self]
    rfl
  · obtain ⟨y, hy, ey⟩ := hb j q
    rw [show s - j = (s - (j + 1)) + 1 by omega] at hr
    unfold fstU at hr
    refine z_ld (z_ad (z_mu q2 rfl) q1) (by omega) (by decide) ?_
    rw [ey]
    refine z_call (c_M_blamedFor I hy) ?_
    refine z_ld (z_mu q2 rfl) (by omega) (by decide) ?_
    refine z_call c_M_has ?_
    refine z_b (fun h => ?_) (fun h => ?_)
    · have : wrongB M j = true := by unfold wrongB; rw [ey, nI_clamp (by omega), h]; rfl
      rw [if_pos this] at hr
      exact ⟨by rw [← hr], rfl⟩
    · have : wrongB M j = false := by unfold wrongB; rw [ey, nI_clamp (by omega), h]; rfl
      rw [this, if_neg (by decide)] at hr
      exact ⟨trivial, ih q _ (nI_1 j) hr⟩
theorem c_M_tear : zRuns gM_tear d [.ref 0] (encM M) (fun v σ' => v = some (.int (M 0 26 + M 0 28)) ∧ σ' = encM (gTear M)) := by
  refine m_M_tear [] rfl (Nat.le_of_ble_eq_true rfl) ?_
  exact ⟨rfl, rfl⟩
theorem c_M_seed {v : Int32} : zRuns gM_seed d [.ref 0, .int v] (encM M) (fun r σ' => r = some (.int (pSeed M v)) ∧ σ' = encM (gSeed M v)) := by
  refine m_M_seed [] rfl (Nat.le_of_ble_eq_true rfl) ?_
  refine ⟨fun h => ?_, fun h => ?_⟩
  · refine ⟨by unfold pSeed; rw [if_pos h], ?_⟩
    unfold gSeed
    rw [if_pos h]
    rfl
  · exact ⟨by unfold pSeed; rw [if_neg h], by unfold gSeed; rw [if_neg h]⟩
theorem c_M_keep {i : Int32} : zRuns gM_keep (d + 1) [.ref 0, .int i] (encM M) (fun r σ' => r = some (.int (pKeep i)) ∧ σ' = encM (gKeep M i)) := by
  refine m_M_keep [] rfl (Nat.le_of_ble_eq_true rfl) ?_
  refine z_call c_M_in ?_
  refine z_dec (fun h => ?_) (fun h => ?_)
  · exact ⟨by unfold pKeep; rw [if_pos h], by unfold gKeep; rw [if_pos h]⟩
  obtain ⟨j, hj, rfl⟩ := z_rng (N := 1) (by decide) h
  have ej : (nI j).toNatClampNeg = j := nI_clamp (by omega)
  refine z_call (c_M_copies (a := 0) (b := 55 * j) (r1 := 8) (r2 := 10) q0 (z_mu q55 rfl) rfl rfl (by decide) (by decide) (by omega) (by decide) (by decide)) ?_
  refine z_st (k := j) rfl (by omega) (by decide) ?_
  refine z_st (k := j) rfl (by omega) (by decide) ?_
  refine ⟨by unfold pKeep; rw [if_neg (fun z => z h)], ?_⟩
  unfold gKeep
  rw [if_neg (fun z => z h), ej]
  rfl
theorem c_M_goBack {i : Int32} : zRuns gM_goBack (d + 1) [.ref 0, .int i] (encM M) (fun r σ' => r = some (.int (pBack M i)) ∧ σ' = encM (gBack M i)) := by
  refine m_M_goBack [] rfl (Nat.le_of_ble_eq_true rfl) ?_
  refine z_call c_M_in ?_
  refine z_dec (fun h => ?_) (fun h => ?_)
  · exact ⟨by unfold pBack; rw [if_pos h], by unfold gBack; rw [if_pos h]⟩
  obtain ⟨j, hj, rfl⟩ := z_rng (N := 1) (by decide) h
  have ej : (nI j).toNatClampNeg = j := nI_clamp (by omega)
  refine z_ld (k := j) rfl (by omega) (by decide) ?_
  refine ⟨fun h2 => ?_, fun h2 => ?_⟩
  · exact ⟨by unfold pBack; rw [if_neg (fun z => z h), ej, if_pos h2], by unfold gBack; rw [if_neg (fun z => z h), ej, if_pos h2]⟩
  refine z_call (c_M_copies (a := 55 * j) (b := 0) (r1 := 10) (r2 := 8) (z_mu q55 rfl) q0 rfl rfl (by decide) (by omega) (by decide) (by decide) (by decide)) ?_
  refine z_ld (k := j) rfl (by omega) (by decide) ?_
  refine ⟨by unfold pBack; rw [if_neg (fun z => z h), ej, if_neg h2], ?_⟩
  unfold gBack
  rw [if_neg (fun z => z h), ej, if_neg h2]
  rfl
theorem c_M_quiet (I : okM M n k) {a q : Int32} : zRuns gM_quiet (d + 1) [.ref 0, .int a, .int q] (encM M) (fun r σ' => r = some (.int (pQuiet k a q)) ∧ σ' = encM M) := by
  have h4 := I.2.1
  refine m_M_quiet [30] rfl (Nat.le_of_ble_eq_true rfl) ?_
  refine z_call c_M_in ?_
  refine z_dec (fun h => ?_) (fun h => ?_)
  · exact ⟨by unfold pQuiet; rw [if_pos h], rfl⟩
  refine z_call c_M_in ?_
  refine z_dec (fun h1 => ?_) (fun h1 => ?_)
  · exact ⟨by unfold pQuiet; rw [if_neg (fun z => z h), if_pos h1], rfl⟩
  obtain ⟨t, ht, rfl⟩ := z_rng (N := 60) (by decide) h
  have hb : t * k ≤ 60 * 4 := Nat.mul_le_mul ht h4
  have p0 : pQuiet k (nI t) q = (quietU q (t * k)).toInt32 := by unfold pQuiet; rw [if_neg (fun z => z h), if_neg (fun z => z h1), nI_clamp (by omega)]
  rw [p0]
  refine ⟨trivial, ?_⟩
  refine z_up (P := fun j => ∀ i v, i = nI j → v = quietU q j → zGood gM_quiet (d + 1) (fun r σ' => r = some (.int (quietU q (t * k)).toInt32) ∧ σ' = encM M) 30 [some (.ref 0), some (.int (nI t)), some (.int q), some (.long v), none, some (.int i)] [] (encM M) 0 0) (t * k) (fun j hj ih i v hi hv => ?_) 0 (Nat.zero_le _) 0 1000000000 nI_0.symm rfl
  subst hi; subst hv
  refine w_M_quiet [30] ?_
  refine z_le (a := t * k) (b := j) (z_mu rfl I.2.2.2.1) rfl (by omega) (by omega) (fun q2 => ?_) (fun q2 => ?_)
  · have : j = t * k := by omega
    subst this
    exact ⟨rfl, rfl⟩
  · refine ⟨by decide, ?_⟩
    exact ⟨trivial, ih q2 _ _ (nI_1 j) rfl⟩
theorem root_fuel (I : okM M n k) : ∀ x, x < k → ∀ f g, x < f → x < g → rootU M f x = rootU M g x := by
  intro x
  induction x using Nat.strongRecOn with
  | _ x ih =>
    intro hx f g hf hg
    cases f with
    | zero => omega
    | succ f =>
      cases g with
      | zero => omega
      | succ g =>
        unfold rootU
        by_cases h : M 4 (6 * x + 5) = -1
        · rw [if_pos h, if_pos h]
        · rw [if_neg h, if_neg h]
          rcases (I.2.2.2.2.2.2 x hx).2.2.2.2.2 with h9 | ⟨p, hp, e⟩
          · exact absurd h9 h
          · have h4 := I.2.1
            rw [e, nI_clamp (by omega)]
            exact ih p hp (by omega) f g (by omega) (by omega)
theorem chn_fuel (I : okM M n k) : ∀ x, x < k → ∀ f g, x < f → x < g → chnU M f x = chnU M g x := by
  intro x
  induction x using Nat.strongRecOn with
  | _ x ih =>
    intro hx f g hf hg
    cases f with
    | zero => omega
    | succ f =>
      cases g with
      | zero => omega
      | succ g =>
        unfold chnU
        by_cases h : M 4 (6 * x + 5) = -1
        · rw [if_pos h, if_pos h]
        · rw [if_neg h, if_neg h]
          rcases (I.2.2.2.2.2.2 x hx).2.2.2.2.2 with h9 | ⟨p, hp, e⟩
          · exact absurd h9 h
          · have h4 := I.2.1
            rw [e, nI_clamp (by omega)]
            rw [ih p hp (by omega) f g (by omega) (by omega)]
theorem root_le (I : okM M n k) : ∀ f x, x < k → rootU M f x < k
  | 0, x, hx => hx
  | f + 1, x, hx => by
    unfold rootU
    by_cases h : M 4 (6 * x + 5) = -1
    · rw [if_pos h]; exact hx
    · rw [if_neg h]
      rcases (I.2.2.2.2.2.2 x hx).2.2.2.2.2 with h9 | ⟨p, hp, e⟩
      · exact absurd h9 h
      · have h4 := I.2.1
        rw [e, nI_clamp (by omega)]
        exact root_le I f p (by omega)
theorem c_M_root (I : okM M n k) {x : Nat} (hx : x < k) : zRuns gM_root d [.ref 0, .int (nI x)] (encM M) (fun v σ' => v = some (.int (nI (rootU M 4 x))) ∧ σ' = encM M) := by
  have h4 := I.2.1
  refine m_M_root [2] rfl (Nat.le_of_ble_eq_true rfl) ?_
  refine ⟨trivial, ?_⟩
  have lp : ∀ y, y < k → rootU M 4 y = rootU M 4 x → zGood gM_root d (fun v σ' => v = some (.int (nI (rootU M 4 x))) ∧ σ' = encM M) 2 [some (.ref 0), some (.int (nI x)), some (.int (nI y))] [] (encM M) 0 0 := by
    intro y
    induction y using Nat.strongRecOn with
    | _ y ih =>
      intro hy hr
      refine w_M_root [2] ?_
      refine z_ld (z_ad (z_mu q6 rfl) q5) (by omega) (by decide) ?_
      rw [rootU] at hr
      refine ⟨fun h => ?_, fun h => ?_⟩
      · rw [if_pos h] at hr
        exact ⟨by rw [← hr], rfl⟩
      · rw [if_neg h] at hr
        rcases (I.2.2.2.2.2.2 y hy).2.2.2.2.2 with h9 | ⟨p, hp, e⟩
        · exact absurd h9 h
        · rw [e, nI_clamp (by omega), root_fuel I p (by omega) 3 4 (by omega) (by omega)] at hr
          refine z_ld (z_ad (z_mu q6 rfl) q5) (by omega) (by decide) ?_
          rw [e]
          exact ⟨trivial, ih p hp (by omega) hr⟩
  exact lp x hx rfl
end M8
