/-! reading, the reference: a mishap -/
def xs0 (a : Nat) : zCur := .inl (a + 1)
def xs1 (T : Nat → Int32) (t a : Nat) : zCur := nmQ T t 0 5 (xs0 a)
def xs2 (T : Nat → Int32) (t a : Nat) : zCur := nmQ T t 0 5 (xs1 T t a)
def xs3 (T : Nat → Int32) (t a : Nat) : zCur := nmQ T t 0 15 (xs2 T t a)
def xs4 (T : Nat → Int32) (t a : Nat) : zCur := nmQ T t 0 5 (xs3 T t a)
def xs5 (T : Nat → Int32) (t a : Nat) : zCur := nmQ T t 1 2 (xs4 T t a)
def xs6 (T : Nat → Int32) (t a : Nat) : zCur := skQ T t (xs5 T t a)
def xs7 (T : Nat → Int32) (t a : Nat) : zCur := nmQ T t 0 9 (xs6 T t a)
def orQ (dx : Nat) (v : Int32) (s : Nat) : zCur → zCur
  | .inl e => if v = 9 ∨ v < nI dx then .inl e else .inr (2, s)
  | .inr p => .inr p
theorem orQ_i {dx : Nat} {v : Int32} {s e : Nat} : orQ dx v s (.inl e) = if v = 9 ∨ v < nI dx then .inl e else .inr (2, s) := rfl
def xs8 (T : Nat → Int32) (t dx a : Nat) : zCur := orQ dx (nmV T t (xs6 T t a)) (qn (xs6 T t a)) (xs7 T t a)
def xs9 (T : Nat → Int32) (t dx a : Nat) : zCur := wdQ T t 59 (xs8 T t dx a)
def misQ (T : Nat → Int32) (t dx a : Nat) : zCur := if dx = 4 then .inr (3, a) else xs9 T t dx a
theorem orQ_good {dx s e : Nat} {v : Int32} {q : zCur} (h : orQ dx v s q = .inl e) : q = .inl e ∧ (v = 9 ∨ v < nI dx) := by
  cases q with
  | inr p => cases h
  | inl b =>
    rw [orQ_i] at h
    split at h
    · rename_i z
      cases h
      exact ⟨rfl, z⟩
    · cases h
def misP (M N : zS) (t dx a : Nat) : Prop := N 0 14 = nI (dx + 1) ∧ N 0 11 = M 0 11 ∧ N 0 12 = M 0 12 ∧ N 0 13 = M 0 13 ∧ N 5 = M 5 ∧ N 6 = M 6 ∧ (∀ j, j < 6 * dx → N 7 j = M 7 j) ∧
  N 7 (6 * dx) = nmV (M 1) t (xs0 a) ∧ N 7 (6 * dx + 1) = nmV (M 1) t (xs1 (M 1) t a) ∧ N 7 (6 * dx + 2) = nmV (M 1) t (xs2 (M 1) t a) ∧ N 7 (6 * dx + 3) = nmV (M 1) t (xs3 (M 1) t a) ∧ N 7 (6 * dx + 4) = nmV (M 1) t (xs4 (M 1) t a) ∧
  N 7 (6 * dx + 5) = if nmV (M 1) t (xs6 (M 1) t a) = 9 then -1 else nmV (M 1) t (xs6 (M 1) t a)
section P3
variable {d : Nat} {M : zS} {t : Nat}
theorem orQ_ok {dx s : Nat} {v : Int32} {q : zCur} (h : okQ t q) (hs : s ≤ t) : okQ t (orQ dx v s q) := by
  cases q with
  | inr p => exact h
  | inl e =>
    rw [orQ_i]
    split
    · exact h
    · exact ⟨(by decide : (1 : Nat) ≤ 2), (by decide : (2 : Nat) ≤ 3), hs⟩
theorem c_M_readsMishap {dx a : Nat} (ht : t ≤ 230) (h1 : M 0 1 = nI t) (hd : M 0 14 = nI dx) (hdx : dx ≤ 4) (ha : a < t) : zRuns gM_readsMishap (d + 3) [.ref 0] (encM (mP M (.inl a))) (fun v σ' => v = none ∧ ∃ N, σ' = encM (mP N (misQ (M 1) t dx a)) ∧ frM M N ∧ ∀ e, misQ (M 1) t dx a = .inl e → misP M N t dx a) := by
  refine m_M_readsMishap [156] rfl (Nat.le_of_ble_eq_true rfl) ?_
  refine z_eq (a := dx) (b := 4) hd rfl (by omega) (by decide) (fun h7 => ?_) (fun h7 => ?_)
  · refine z_call (c_M_failQ (c := 3) (q := .inl a)) ?_
    refine ⟨rfl, M, ?_, frM_id, fun e he => ?_⟩
    · unfold misQ; rw [if_pos h7]
    · unfold misQ at he; rw [if_pos h7] at he; cases he
  have e0 : misQ (M 1) t dx a = xs9 (M 1) t dx a := if_neg h7
  rw [e0]
  have k0 : okQ t (xs0 a) := ha
  have k1 : okQ t (xs1 (M 1) t a) := nmQ_ok k0
  have k2 : okQ t (xs2 (M 1) t a) := nmQ_ok k1
  have k3 : okQ t (xs3 (M 1) t a) := nmQ_ok k2
  have k4 : okQ t (xs4 (M 1) t a) := nmQ_ok k3
  have k5 : okQ t (xs5 (M 1) t a) := nmQ_ok k4
  have k6 : okQ t (xs6 (M 1) t a) := skQ_ok k5
  have k7 : okQ t (xs7 (M 1) t a) := nmQ_ok k6
  have k8 : okQ t (xs8 (M 1) t dx a) := orQ_ok k7 (qn_ok k6)
  have s0 := num3 (d := d) (N := M) (lo := 0) (hi := 5) rfl ht h1 k0
  have es : encM (mP M (xs0 a)) = encM (zU (mP M (.inl a)) 0 29 (nI a + 1)) := mP_s
  rw [es] at s0
  refine z_callE (d := d + 2) s0 ?_
  rintro v σ' ⟨x0, rfl, rfl, hx0⟩
  refine z_st (k := 6 * dx) (z_mu q6 hd) (by omega) (by decide) ?_
  refine z_callE (num3 (d := d) (N := zU M 7 (6 * dx) x0) (q := xs1 (M 1) t a) (T := M 1) rfl ht h1 k1) ?_
  rintro v σ' ⟨x1, rfl, rfl, hx1⟩
  refine z_st (k := 6 * dx + 1) (z_ad (z_mu q6 hd) q1) (by omega) (by decide) ?_
  refine z_callE (num3 (d := d) (N := zU (zU M 7 (6 * dx) x0) 7 (6 * dx + 1) x1) (q := xs2 (M 1) t a) (T := M 1) rfl ht h1 k2) ?_
  rintro v σ' ⟨x2, rfl, rfl, hx2⟩
  refine z_st (k := 6 * dx + 2) (z_ad (z_mu q6 hd) q2) (by omega) (by decide) ?_
  refine z_callE (num3 (d := d) (N := zU (zU (zU M 7 (6 * dx) x0) 7 (6 * dx + 1) x1) 7 (6 * dx + 2) x2) (q := xs3 (M 1) t a) (T := M 1) rfl ht h1 k3) ?_
  rintro v σ' ⟨x3, rfl, rfl, hx3⟩
  refine z_st (k := 6 * dx + 3) (z_ad (z_mu q6 hd) q3) (by omega) (by decide) ?_
  refine z_callE (num3 (d := d) (N := zU (zU (zU (zU M 7 (6 * dx) x0) 7 (6 * dx + 1) x1) 7 (6 * dx + 2) x2) 7 (6 * dx + 3) x3) (q := xs4 (M 1) t a) (T := M 1) rfl ht h1 k4) ?_
  rintro v σ' ⟨x4, rfl, rfl, hx4⟩
  generalize hF : upd (upd (upd (upd (upd (M 7) (6 * dx) x0) (6 * dx + 1) x1) (6 * dx + 2) x2) (6 * dx + 3) x3) (6 * dx + 4) x4 = F
  have f0 : F (6 * dx) = x0 := by rw [← hF, upd_n (by omega), upd_n (by omega), upd_n (by omega), upd_n (by omega), upd_s]
  have f1 : F (6 * dx + 1) = x1 := by rw [← hF, upd_n (by omega), upd_n (by omega), upd_n (by omega), upd_s]
  have f2 : F (6 * dx + 2) = x2 := by rw [← hF, upd_n (by omega), upd_n (by omega), upd_s]
  have f3 : F (6 * dx + 3) = x3 := by rw [← hF, upd_n (by omega), upd_s]
  have f4 : F (6 * dx + 4) = x4 := by rw [← hF, upd_s]
  have fl : ∀ j, j < 6 * dx → F j = M 7 j := by
    intro j hj
    rw [← hF, upd_n (by omega), upd_n (by omega), upd_n (by omega), upd_n (by omega), upd_n (by omega)]
  have tail : ∀ x l2, (∀ e, xs8 (M 1) t dx a = .inl e → x = nmV (M 1) t (xs6 (M 1) t a)) → zGood gM_readsMishap (d + 3) (fun v σ' => v = none ∧ ∃ N, σ' = encM (mP N (xs9 (M 1) t dx a)) ∧ frM M N ∧ ∀ e, xs9 (M 1) t dx a = .inl e → misP M N t dx a) 156 [some (.ref 0), some (.int (6 * M 0 14)), l2, some (.int x)] [] (encM (mP (zUr M 7 F) (xs8 (M 1) t dx a))) 0 0 := by
    intro x l2 hx
    refine w_M_readsMishap [156] ?_
    have wd : ∀ y, zRuns gM_word (d + 2) [.ref 0, .int 59] (encM (mP (zUr M 7 (upd F (6 * dx + 5) y)) (xs8 (M 1) t dx a))) (fun v σ' => v = none ∧ σ' = encM (mP (zUr M 7 (upd F (6 * dx + 5) y)) (xs9 (M 1) t dx a))) := fun y => c_M_word (d := d) (M := zUr M 7 (upd F (6 * dx + 5) y)) (w := 59) ht h1 k8
    have fin : ∀ y, (y = if x = 9 then -1 else x) → ∃ N, encM (mP (zU (zUr M 7 (upd F (6 * dx + 5) y)) 0 14 (nI dx + 1)) (xs9 (M 1) t dx a)) = encM (mP N (xs9 (M 1) t dx a)) ∧ frM M N ∧ ∀ e, xs9 (M 1) t dx a = .inl e → misP M N t dx a := by
      intro y hy
      refine ⟨zU (zUr M 7 (upd F (6 * dx + 5) y)) 0 14 (nI dx + 1), rfl, ⟨fun c h0 h5 h6 h7 => by rw [zU_k h0, zUr_k h7], fun j h1 h2 h3 h4 => by rw [zU_s, upd_n h4]; rfl⟩, fun e he => ?_⟩
      obtain ⟨e8, he8⟩ := wdQ_good (show wdQ (M 1) t 59 (xs8 (M 1) t dx a) = .inl e from he)
      obtain ⟨he7, -⟩ := orQ_good (show orQ dx (nmV (M 1) t (xs6 (M 1) t a)) (qn (xs6 (M 1) t a)) (xs7 (M 1) t a) = .inl e8 from he8)
      obtain ⟨e6, he6, -⟩ := nmQ_good (show nmQ (M 1) t 0 9 (xs6 (M 1) t a) = .inl e8 from he7)
      obtain ⟨e5, he5⟩ := skQ_good (show skQ (M 1) t (xs5 (M 1) t a) = .inl e6 from he6)
      obtain ⟨e4, he4, -⟩ := nmQ_good (show nmQ (M 1) t 1 2 (xs4 (M 1) t a) = .inl e5 from he5)
      obtain ⟨e3, he3, -⟩ := nmQ_good (show nmQ (M 1) t 0 5 (xs3 (M 1) t a) = .inl e4 from he4)
      obtain ⟨e2, he2, -⟩ := nmQ_good (show nmQ (M 1) t 0 15 (xs2 (M 1) t a) = .inl e3 from he3)
      obtain ⟨e1, he1, -⟩ := nmQ_good (show nmQ (M 1) t 0 5 (xs1 (M 1) t a) = .inl e2 from he2)
      have v0 := hx0 ⟨e1, he1⟩
      have v1 := hx1 ⟨e2, he2⟩
      have v2 := hx2 ⟨e3, he3⟩
      have v3 := hx3 ⟨e4, he4⟩
      have v4 := hx4 ⟨e5, he5⟩
      have v5 := hx e8 he8
      refine ⟨by rw [zU_s, upd_s, nI_1], rfl, rfl, rfl, rfl, rfl, fun j hj => ?_, ?_, ?_, ?_, ?_, ?_, ?_⟩
      · show upd F (6 * dx + 5) y j = _
        rw [upd_n (by omega)]; exact fl j hj
      · show upd F (6 * dx + 5) y (6 * dx) = _
        rw [upd_n (by omega), f0, v0]
      · show upd F (6 * dx + 5) y (6 * dx + 1) = _
        rw [upd_n (by omega), f1, v1]
      · show upd F (6 * dx + 5) y (6 * dx + 2) = _
        rw [upd_n (by omega), f2, v2]
      · show upd F (6 * dx + 5) y (6 * dx + 3) = _
        rw [upd_n (by omega), f3, v3]
      · show upd F (6 * dx + 5) y (6 * dx + 4) = _
        rw [upd_n (by omega), f4, v4]
      · show upd F (6 * dx + 5) y (6 * dx + 5) = _
        rw [upd_s, hy, v5]
    refine ⟨fun h9 => ?_, fun h9 => ?_⟩
    · refine z_st (k := 6 * dx + 5) (z_ad (z_mu q6 hd) q5) (by omega) (by decide) ?_
      refine z_call (wd (-1)) ?_
      have f := fin (-1) (by rw [if_pos h9])
      rw [← hd] at f
      exact ⟨rfl, f⟩
    · refine z_st (k := 6 * dx + 5) (z_ad (z_mu q6 hd) q5) (by omega) (by decide) ?_
      refine z_call (wd x) ?_
      have f := fin x (by rw [if_neg h9])
      rw [← hd] at f
      exact ⟨rfl, f⟩
  subst hF
  rw [show nmQ (M 1) t 1 2 (xs4 (M 1) t a) = xs5 (M 1) t a from rfl]
  cases hq5 : xs5 (M 1) t a with
  | inr p =>
    rw [hq5] at k5
    have e6 : xs6 (M 1) t a = .inr p := by unfold xs6; rw [hq5]; rfl
    have e7 : xs7 (M 1) t a = .inr p := by unfold xs7; rw [e6]; rfl
    have e8 : xs8 (M 1) t dx a = .inr p := by unfold xs8; rw [e7]; rfl
    rw [e8] at tail
    refine z_st (k := 6 * dx + 4) (z_ad (z_mu q6 hd) q4) (by omega) (by decide) ?_
    refine br_f (qw_bad k5) ?_
    refine z_callE (num3 (d := d) (N := zUr M 7 (upd (upd (upd (upd (upd (M 7) (6 * dx) x0) (6 * dx + 1) x1) (6 * dx + 2) x2) (6 * dx + 3) x3) (6 * dx + 4) x4)) (q := .inr p) (T := M 1) rfl ht h1 k5) ?_
    rintro v σ' ⟨x, rfl, rfl, hx⟩
    refine br_f (qw_bad k5) ?_
    exact ⟨trivial, tail x _ (fun e he => by cases he)⟩
  | inl b =>
    rw [hq5] at k5
    have e6 : xs6 (M 1) t a = .inl (skF (M 1) t b) := by unfold xs6; rw [hq5]; rfl
    have e8 : xs8 (M 1) t dx a = orQ dx (nmV (M 1) t (.inl (skF (M 1) t b))) (skF (M 1) t b) (xs7 (M 1) t a) := by unfold xs8; rw [e6]; rfl
    have e7 : xs7 (M 1) t a = nmQ (M 1) t 0 9 (.inl (skF (M 1) t b)) := by unfold xs7; rw [e6]
    rw [e8, e6] at tail
    rw [e6] at k6
    refine z_st (k := 6 * dx + 4) (z_ad (z_mu q6 hd) q4) (by omega) (by decide) ?_
    refine br_t rfl ?_
    refine z_call (σ1 := encM (mP (zUr M 7 (upd (upd (upd (upd (upd (M 7) (6 * dx) x0) (6 * dx + 1) x1) (6 * dx + 2) x2) (6 * dx + 3) x3) (6 * dx + 4) x4)) (.inl (skF (M 1) t b)))) (by
      have := c_M_skips (d := d + 1) (M := mP (zUr M 7 (upd (upd (upd (upd (upd (M 7) (6 * dx) x0) (6 * dx + 1) x1) (6 * dx + 2) x2) (6 * dx + 3) x3) (6 * dx + 4) x4)) (.inl b)) (a := b) ht h1 rfl k5
      unfold mP at this ⊢
      rw [zU_zU] at this
      exact this) ?_
    generalize skF (M 1) t b = s at *
    refine z_callE (num3 (d := d) (N := zUr M 7 (upd (upd (upd (upd (upd (M 7) (6 * dx) x0) (6 * dx + 1) x1) (6 * dx + 2) x2) (6 * dx + 3) x3) (6 * dx + 4) x4)) (q := .inl s) (T := M 1) rfl ht h1 k6) ?_
    rintro v σ' ⟨x, rfl, rfl, hx⟩
    rw [← e7] at hx ⊢
    cases hq7 : xs7 (M 1) t a with
    | inr p =>
      rw [hq7] at k7 tail
      refine br_f (qw_bad k7) ?_
      exact ⟨trivial, tail x _ (fun e he => by cases he)⟩
    | inl e =>
      have vx := hx ⟨e, hq7⟩
      rw [hq7, orQ_i, ← vx] at tail
      refine br_t rfl ?_
      refine ⟨fun h9 => ?_, fun h9 => ?_⟩
      · rw [if_pos (Or.inl h9)] at tail
        exact ⟨trivial, tail x _ (fun _ _ => rfl)⟩
      · show (x < M 0 14 → _) ∧ (¬ x < M 0 14 → _)
        rw [hd]
        refine ⟨fun h10 => ?_, fun h10 => ?_⟩
        · rw [if_pos (Or.inr h10)] at tail
          exact ⟨trivial, tail x _ (fun _ _ => rfl)⟩
        · rw [if_neg (fun z => z.elim h9 h10)] at tail
          refine z_call (c_M_failQ (q := .inl s) (c := 2)) ?_
          exact ⟨trivial, tail x _ (fun e he => by cases he)⟩
end P3
