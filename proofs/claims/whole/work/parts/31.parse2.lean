/-! reading, the reference: a man -/
def qn : zCur → Nat
  | .inl a => a
  | .inr p => p.2
theorem qa_n (q : zCur) : qa q = nI (qn q) := by cases q <;> rfl
theorem qn_ok {t : Nat} {q : zCur} (h : okQ t q) : qn q ≤ t := by
  cases q with
  | inl a => exact h
  | inr p => exact h.2.2
def isR (x : Int32) : Bool := decide (97 ≤ x ∧ x ≤ 102) || decide (x = 45)
def rwV (x : Int32) : Int32 := if x = 45 then -1 else x - 97
def rwQ (T : Nat → Int32) (t : Nat) : zCur → zCur
  | .inl a => if isR (lkF T t a) = true then .inl (a + 1) else .inr (1, a)
  | .inr p => .inr p
theorem rwQ_i {T : Nat → Int32} {t a : Nat} : rwQ T t (.inl a) = if isR (lkF T t a) = true then .inl (a + 1) else .inr (1, a) := rfl
def rwU (T : Nat → Int32) (t : Nat) : Nat → zCur → zCur
  | 0, q => q
  | j + 1, q => rwQ T t (rwU T t j q)
theorem rwQ_ok {T : Nat → Int32} {t : Nat} {q : zCur} (h : okQ t q) : okQ t (rwQ T t q) := by
  cases q with
  | inl a =>
    rw [rwQ_i]
    by_cases z : isR (lkF T t a) = true
    · rw [if_pos z]
      exact lk_lt (T := T) (by intro y; rw [y] at z; exact absurd z (by decide))
    · rw [if_neg z]
      exact ⟨(by decide : (1 : Nat) ≤ 1), (by decide : (1 : Nat) ≤ 3), h⟩
  | inr p => exact h
theorem rwU_ok {T : Nat → Int32} {t : Nat} {q : zCur} (h : okQ t q) : ∀ j, okQ t (rwU T t j q)
  | 0 => h
  | j + 1 => rwQ_ok (rwU_ok h j)
theorem nmQ_good {T : Nat → Int32} {t e : Nat} {lo hi : Int32} {q : zCur} (h : nmQ T t lo hi q = .inl e) : ∃ a, q = .inl a ∧ lo ≤ nmV T t q ∧ nmV T t q ≤ hi := by
  cases q with
  | inr p => cases h
  | inl a =>
    rw [nmQ_i] at h
    split at h
    · cases h
    · split at h
      · rename_i z
        exact ⟨a, rfl, z.2⟩
      · cases h
theorem wdQ_good {T : Nat → Int32} {t e : Nat} {w : Int32} {q : zCur} (h : wdQ T t w q = .inl e) : ∃ a, q = .inl a := by
  cases q with
  | inr p => cases h
  | inl a => exact ⟨a, rfl⟩
theorem skQ_good {T : Nat → Int32} {t e : Nat} {q : zCur} (h : skQ T t q = .inl e) : ∃ a, q = .inl a := by
  cases q with
  | inr p => cases h
  | inl a => exact ⟨a, rfl⟩
theorem rwQ_good {T : Nat → Int32} {t e : Nat} {q : zCur} (h : rwQ T t q = .inl e) : ∃ a, q = .inl a ∧ e = a + 1 ∧ isR (lkF T t a) = true := by
  cases q with
  | inr p => cases h
  | inl a =>
    rw [rwQ_i] at h
    by_cases z : isR (lkF T t a) = true
    · rw [if_pos z] at h
      cases h
      exact ⟨a, rfl, rfl, z⟩
    · rw [if_neg z] at h
      cases h
theorem rwU_good {T : Nat → Int32} {t : Nat} {q : zCur} : ∀ j e, rwU T t j q = .inl e → ∃ a, q = .inl a ∧ e = a + j ∧ ∀ i, i < j → isR (lkF T t (a + i)) = true
  | 0, e, h => ⟨e, h, rfl, fun i hi => absurd hi (by omega)⟩
  | j + 1, e, h => by
    obtain ⟨b, h1, h2, h3⟩ := rwQ_good (q := rwU T t j q) h
    obtain ⟨a, g1, g2, g3⟩ := rwU_good j b h1
    refine ⟨a, g1, by omega, fun i hi => ?_⟩
    by_cases z : i = j
    · subst z; rw [← g2]; exact h3
    · exact g3 i (by omega)
def mn0 (a : Nat) : zCur := .inl (a + 1)
def mn1 (T : Nat → Int32) (t a : Nat) : zCur := nmQ T t 0 15 (mn0 a)
def mn2 (T : Nat → Int32) (t a : Nat) : zCur := nmQ T t 0 63 (mn1 T t a)
def mn3 (T : Nat → Int32) (t a : Nat) : zCur := nmQ T t 1 99 (mn2 T t a)
def mn4 (T : Nat → Int32) (t a : Nat) : zCur := skQ T t (mn3 T t a)
def mn5 (T : Nat → Int32) (t a : Nat) : zCur := rwU T t 6 (mn4 T t a)
def mn6 (T : Nat → Int32) (t a : Nat) : zCur := wdQ T t 59 (mn5 T t a)
def manQ (T : Nat → Int32) (t dm a : Nat) : zCur := if dm = 7 then .inr (3, a) else mn6 T t a
/-- what of the reference stays while it reads -/
def frM (M N : zS) : Prop := (∀ c, c ≠ 0 → c ≠ 5 → c ≠ 6 → c ≠ 7 → N c = M c) ∧ ∀ j, j ≠ 11 → j ≠ 12 → j ≠ 13 → j ≠ 14 → N 0 j = M 0 j
def manP (M N : zS) (t dm a : Nat) : Prop := N 0 13 = nI (dm + 1) ∧ N 0 11 = M 0 11 ∧ N 0 12 = M 0 12 ∧ N 0 14 = M 0 14 ∧ N 7 = M 7 ∧ (∀ j, j < 3 * dm → N 5 j = M 5 j) ∧ (∀ j, j < 6 * dm → N 6 j = M 6 j) ∧
  N 5 (3 * dm) = nmV (M 1) t (mn0 a) ∧ N 5 (3 * dm + 1) = nmV (M 1) t (mn1 (M 1) t a) ∧ N 5 (3 * dm + 2) = nmV (M 1) t (mn2 (M 1) t a) ∧ ∀ h, h < 6 → N 6 (6 * dm + h) = rwV (lkF (M 1) t (qn (mn4 (M 1) t a) + h))
section P2
variable {d : Nat} {M : zS} {t : Nat}
theorem c_M_lookQ {q : zCur} (ht : t ≤ 230) (h1 : M 0 1 = nI t) (hq : okQ t q) : zRuns gM_look d [.ref 0] (encM (mP M q)) (fun v σ' => v = some (.int (lkF (M 1) t (qn q))) ∧ σ' = encM (mP M q)) :=
  c_M_look (M := mP M q) (a := qn q) ht h1 (qa_n q) (by have := qn_ok hq; omega)
theorem c_M_failQ {q : zCur} {c : Nat} : zRuns gM_fails d [.ref 0, .int (nI c)] (encM (mP M q)) (fun v σ' => v = none ∧ σ' = encM (mP M (match q with | .inl a => .inr (c, a) | .inr p => if qw q = 0 then .inr (c, p.2) else .inr p))) := by
  refine (c_M_fails (M := mP M q) (c := nI c)).mono ?_
  rintro v σ' ⟨rfl, rfl⟩
  refine ⟨rfl, ?_⟩
  cases q with
  | inl a => rfl
  | inr p =>
    show encM (zU (mP M (.inr p)) 0 30 (if qw (.inr p) = 0 then nI c else qw (.inr p))) = _
    by_cases z : qw (.inr p) = 0
    · simp only [if_pos z]; rfl
    · simp only [if_neg z]; rfl
theorem num3 {N : zS} {T : Nat → Int32} {q : zCur} {lo hi : Int32} (hT : N 1 = T) (ht : t ≤ 230) (h1 : N 0 1 = nI t) (hq : okQ t q) : zRuns gM_number (d + 2) [.ref 0, .int lo, .int hi] (encM (mP N q)) (fun v σ' => ∃ x, v = some (.int x) ∧ σ' = encM (mP N (nmQ T t lo hi q)) ∧ ((∃ a, nmQ T t lo hi q = .inl a) → x = nmV T t q)) := by
  subst hT
  refine (c_M_number ht h1 hq).mono ?_
  rintro v σ' ⟨⟨x, rfl, hx⟩, rfl⟩
  exact ⟨x, rfl, rfl, hx⟩
def mnI (M N : zS) (F : Nat → Int32) (dm : Nat) : Prop := frM M N ∧ N 5 = F ∧ N 0 13 = nI dm ∧ N 0 11 = M 0 11 ∧ N 0 12 = M 0 12 ∧ N 0 14 = M 0 14 ∧ N 7 = M 7 ∧ ∀ x, x < 6 * dm → N 6 x = M 6 x
theorem frM_id : frM M M := ⟨fun c _ _ _ _ => rfl, fun j _ _ _ _ => rfl⟩
theorem c_M_readsMan {dm a : Nat} (ht : t ≤ 230) (h1 : M 0 1 = nI t) (hd : M 0 13 = nI dm) (hdm : dm ≤ 7) (ha : a < t) : zRuns gM_readsMan (d + 3) [.ref 0] (encM (mP M (.inl a))) (fun v σ' => v = none ∧ ∃ N, σ' = encM (mP N (manQ (M 1) t dm a)) ∧ frM M N ∧ ∀ e, manQ (M 1) t dm a = .inl e → manP M N t dm a) := by
  refine m_M_readsMan [88] rfl (Nat.le_of_ble_eq_true rfl) ?_
  refine z_eq (a := dm) (b := 7) hd rfl (by omega) (by decide) (fun h7 => ?_) (fun h7 => ?_)
  · refine z_call (c_M_failQ (c := 3) (q := .inl a)) ?_
    refine ⟨rfl, M, ?_, ⟨fun c _ _ _ _ => rfl, fun j _ _ _ _ => rfl⟩, fun e he => ?_⟩
    · unfold manQ; rw [if_pos h7]
    · unfold manQ at he; rw [if_pos h7] at he; cases he
  have e0 : manQ (M 1) t dm a = mn6 (M 1) t a := if_neg h7
  rw [e0]
  have k0 : okQ t (mn0 a) := ha
  have k1 : okQ t (mn1 (M 1) t a) := nmQ_ok k0
  have k2 : okQ t (mn2 (M 1) t a) := nmQ_ok k1
  have k3 : okQ t (mn3 (M 1) t a) := nmQ_ok k2
  have k4 : okQ t (mn4 (M 1) t a) := skQ_ok k3
  have s0 := num3 (d := d) (N := M) (lo := 0) (hi := 15) rfl ht h1 k0
  have es : encM (mP M (mn0 a)) = encM (zU (mP M (.inl a)) 0 29 (nI a + 1)) := mP_s
  rw [es] at s0
  refine z_callE (d := d + 2) s0 ?_
  rintro v σ' ⟨x0, rfl, rfl, hx0⟩
  refine z_st (k := 3 * dm) (z_mu q3 hd) (by omega) (by decide) ?_
  refine z_callE (num3 (d := d) (N := zU M 5 (3 * dm) x0) (q := mn1 (M 1) t a) (T := M 1) rfl ht h1 k1) ?_
  rintro v σ' ⟨x1, rfl, rfl, hx1⟩
  refine z_st (k := 3 * dm + 1) (z_ad (z_mu q3 hd) q1) (by omega) (by decide) ?_
  refine z_callE (num3 (d := d) (N := zU (zU M 5 (3 * dm) x0) 5 (3 * dm + 1) x1) (q := mn2 (M 1) t a) (T := M 1) rfl ht h1 k2) ?_
  rintro v σ' ⟨x2, rfl, rfl, hx2⟩
  have tail : ∀ u w, zGood gM_readsMan (d + 3) (fun v σ' => v = none ∧ ∃ N, σ' = encM (mP N (mn6 (M 1) t a)) ∧ frM M N ∧ ∀ e, mn6 (M 1) t a = .inl e → manP M N t dm a) 88 [some (.ref 0), some (.int (3 * M 0 13)), some (.int 0), u, w] [] (encM (mP (zU (zU (zU M 5 (3 * dm) x0) 5 (3 * dm + 1) x1) 5 (3 * dm + 2) x2) (mn4 (M 1) t a))) 0 0 := by
    have I0 : mnI M (zU (zU (zU M 5 (3 * dm) x0) 5 (3 * dm + 1) x1) 5 (3 * dm + 2) x2) (upd (upd (upd (M 5) (3 * dm) x0) (3 * dm + 1) x1) (3 * dm + 2) x2) dm := by
      refine ⟨⟨fun c _ h5 _ _ => ?_, fun j _ _ _ _ => rfl⟩, rfl, hd, rfl, rfl, rfl, rfl, fun x _ => rfl⟩
      rw [zU_k h5, zU_k h5, zU_k h5]
    generalize zU (zU (zU M 5 (3 * dm) x0) 5 (3 * dm + 1) x1) 5 (3 * dm + 2) x2 = N0 at I0
    intro u w
    refine z_up (P := fun j => ∀ N i u w, i = nI j → mnI M N (upd (upd (upd (M 5) (3 * dm) x0) (3 * dm + 1) x1) (3 * dm + 2) x2) dm → (∀ e, rwU (M 1) t j (mn4 (M 1) t a) = .inl e → ∀ h, h < j → N 6 (6 * dm + h) = rwV (lkF (M 1) t (qn (mn4 (M 1) t a) + h))) → zGood gM_readsMan (d + 3) (fun v σ' => v = none ∧ ∃ N, σ' = encM (mP N (mn6 (M 1) t a)) ∧ frM M N ∧ ∀ e, mn6 (M 1) t a = .inl e → manP M N t dm a) 88 [some (.ref 0), some (.int (3 * M 0 13)), some (.int i), u, w] [] (encM (mP N (rwU (M 1) t j (mn4 (M 1) t a)))) 0 0) 6 (fun j hj ih N i u w hi I hV => ?_) 0 (Nat.zero_le _) N0 0 u w nI_0.symm I0 (fun e _ h hh => absurd hh (by omega))
    subst hi
    refine w_M_readsMan [88] ?_
    obtain ⟨I1, I2, I3, I4, I5, I6, I7, I8⟩ := I
    have kj : okQ t (rwU (M 1) t j (mn4 (M 1) t a)) := rwU_ok k4 j
    have g1 : N 0 1 = nI t := (I1.2 1 (by decide) (by decide) (by decide) (by decide)).trans h1
    have gT : N 1 = M 1 := I1.1 1 (by decide) (by decide) (by decide) (by decide)
    refine z_le (a := 6) (b := j) rfl rfl (by decide) (by omega) (fun q => ?_) (fun q => ?_)
    · have : j = 6 := by omega
      subst this
      rw [show rwU (M 1) t 6 (mn4 (M 1) t a) = mn5 (M 1) t a from rfl] at kj hV ⊢
      have wd := c_M_word (d := d) (M := N) (w := 59) ht g1 kj
      rw [gT, show wdQ (M 1) t 59 (mn5 (M 1) t a) = mn6 (M 1) t a from rfl] at wd
      refine z_call wd ?_
      refine ⟨rfl, zU N 0 13 (nI dm + 1), ?_, ?_, fun e he => ?_⟩
      · rw [← I3]; rfl
      · exact ⟨fun c h0 h5 h6 h7 => by rw [zU_k h0]; exact I1.1 c h0 h5 h6 h7, fun j h1 h2 h3 h4 => by rw [zU_s, upd_n h3]; exact I1.2 j h1 h2 h3 h4⟩
      · obtain ⟨e5, he5⟩ := wdQ_good (show wdQ (M 1) t 59 (mn5 (M 1) t a) = .inl e from he)
        obtain ⟨e4, he4, -, -⟩ := rwU_good 6 e5 (show rwU (M 1) t 6 (mn4 (M 1) t a) = .inl e5 from he5)
        obtain ⟨e3, he3⟩ := skQ_good (show skQ (M 1) t (mn3 (M 1) t a) = .inl e4 from he4)
        obtain ⟨e2, he2, -⟩ := nmQ_good (show nmQ (M 1) t 1 99 (mn2 (M 1) t a) = .inl e3 from he3)
        obtain ⟨e1, he1, -⟩ := nmQ_good (show nmQ (M 1) t 0 63 (mn1 (M 1) t a) = .inl e2 from he2)
        have v0 := hx0 ⟨e1, he1⟩
        have v1 := hx1 ⟨e2, he2⟩
        have v2 := hx2 ⟨e3, he3⟩
        refine ⟨by rw [zU_s, upd_s, nI_1], I4, I5, I6, I7, fun y hy => ?_, I8, ?_, ?_, ?_, hV e5 he5⟩
        · show N 5 y = _
          rw [I2, upd_n (by omega), upd_n (by omega), upd_n (by omega)]
        · show N 5 (3 * dm) = _
          rw [I2, upd_n (by omega), upd_n (by omega), upd_s, v0]
        · show N 5 (3 * dm + 1) = _
          rw [I2, upd_n (by omega), upd_s, v1]
        · show N 5 (3 * dm + 2) = _
          rw [I2, upd_s, v2]
    · have lk := c_M_lookQ (d := d + 2) (M := N) ht g1 kj
      rw [gT] at lk
      refine z_call lk ?_
      refine z_call c_M_in ?_
      have go := ih q
      rw [rwU] at go
      cases hq : rwU (M 1) t j (mn4 (M 1) t a) with
      | inr p =>
        rw [hq] at go kj
        have fin : ∀ u w, zGood gM_readsMan (d + 3) (fun v σ' => v = none ∧ ∃ N, σ' = encM (mP N (mn6 (M 1) t a)) ∧ frM M N ∧ ∀ e, mn6 (M 1) t a = .inl e → manP M N t dm a) 88 [some (.ref 0), some (.int (3 * M 0 13)), some (.int (nI j + 1)), u, w] [] (encM (mP N (.inr p))) 0 0 := fun u w => go N _ u w (nI_1 j) ⟨I1, I2, I3, I4, I5, I6, I7, I8⟩ (fun e he => by cases he)
        refine z_b (fun h => ?_) (fun h => ?_)
        · refine ⟨fun h2 => ?_, fun h2 => ?_⟩
          · refine br_f (qw_bad kj) ?_
            refine br_f (qw_bad kj) ?_
            exact ⟨trivial, fin _ _⟩
          · refine br_f (qw_bad kj) ?_
            refine br_f (qw_bad kj) ?_
            exact ⟨trivial, fin _ _⟩
        · refine br_f (qw_bad kj) ?_
          refine br_f (qw_bad kj) ?_
          exact ⟨trivial, fin _ _⟩
      | inl b =>
        rw [hq] at kj
        have hVb := hV b hq
        obtain ⟨a4, f1, f2, -⟩ := rwU_good j b hq
        rw [hq, rwQ_i] at go
        show zX gM_readsMan false pM kM_readsMan [88] (d + 3) _ _ _ _ _ _ _ _ _
        have bad : isR (lkF (M 1) t b) = false → ∀ u w, zGood gM_readsMan (d + 3) (fun v σ' => v = none ∧ ∃ N, σ' = encM (mP N (mn6 (M 1) t a)) ∧ frM M N ∧ ∀ e, mn6 (M 1) t a = .inl e → manP M N t dm a) 88 [some (.ref 0), some (.int (3 * M 0 13)), some (.int (nI j + 1)), u, w] [] (encM (mP N (.inr (1, b)))) 0 0 := by
          intro hR u w
          rw [if_neg (by rw [hR]; decide)] at go
          exact go N _ u w (nI_1 j) ⟨I1, I2, I3, I4, I5, I6, I7, I8⟩ (fun e he => by cases he)
        have good : isR (lkF (M 1) t b) = true → ∀ v, v = rwV (lkF (M 1) t b) → ∀ u w, zGood gM_readsMan (d + 3) (fun v σ' => v = none ∧ ∃ N, σ' = encM (mP N (mn6 (M 1) t a)) ∧ frM M N ∧ ∀ e, mn6 (M 1) t a = .inl e → manP M N t dm a) 88 [some (.ref 0), some (.int (3 * M 0 13)), some (.int (nI j + 1)), u, w] [] (encM (zU (mP (zU N 6 (6 * dm + j) v) (.inl b)) 0 29 (nI b + 1))) 0 0 := by
          intro hR v hv u w
          rw [if_pos hR] at go
          have := go (zU N 6 (6 * dm + j) v) _ u w (nI_1 j) ⟨⟨fun c h0 h5 h6 h7 => by rw [zU_k h6]; exact I1.1 c h0 h5 h6 h7, I1.2⟩, I2, I3, I4, I5, I6, I7, fun x hx => by rw [zU_s, upd_n (by omega)]; exact I8 x hx⟩ (fun e he h hh => by
            rw [zU_s]
            by_cases z : h = j
            · subst z
              rw [upd_s, hv, f1, f2]
              rfl
            · rw [upd_n (by omega)]
              exact hVb h (by omega))
          rw [mP_s] at this
          exact this
        have ix : (6 : Int32) * N 0 13 + nI j = nI (6 * dm + j) := z_ad (z_mu q6 I3) rfl
        refine z_b (fun h => ?_) (fun h => ?_)
        · refine ⟨fun h2 => ?_, fun h2 => ?_⟩
          · have h2' : lkF (M 1) t b = 45 := h2
            have hR : isR (lkF (M 1) t b) = true := by unfold isR; rw [h2']; rfl
            refine br_t rfl ?_
            refine br_f (by decide) ?_
            refine br_t rfl ?_
            refine ⟨fun h3 => ?_, fun h3 => absurd h2 h3⟩
            refine z_st (k := 6 * dm + j) ix (by omega) (by decide) ?_
            exact ⟨trivial, good hR (-1) (by unfold rwV; rw [if_pos h2']) _ _⟩
          · have h2' : ¬ lkF (M 1) t b = 45 := h2
            have hR : isR (lkF (M 1) t b) = false := by
              unfold isR
              rw [show decide (97 ≤ lkF (M 1) t b ∧ lkF (M 1) t b ≤ 102) = false from h, decide_eq_false h2']
              rfl
            refine br_t rfl ?_
            refine br_t rfl ?_
            refine z_call (c_M_failQ (q := .inl b) (c := 1)) ?_
            refine br_f (show ¬ nI 1 = 0 by decide) ?_
            exact ⟨trivial, bad hR _ _⟩
        · have hR : isR (lkF (M 1) t b) = true := by
            unfold isR
            rw [show decide (97 ≤ lkF (M 1) t b ∧ lkF (M 1) t b ≤ 102) = true from h]
            rfl
          refine br_t rfl ?_
          refine br_f (by decide) ?_
          refine br_t rfl ?_
          refine ⟨fun h3 => ?_, fun h3 => ?_⟩
          · refine z_st (k := 6 * dm + j) ix (by omega) (by decide) ?_
            exact ⟨trivial, good hR (-1) (by unfold rwV; rw [if_pos (show lkF (M 1) t b = 45 from h3)]) _ _⟩
          · refine z_st (k := 6 * dm + j) ix (by omega) (by decide) ?_
            exact ⟨trivial, good hR _ (by unfold rwV; rw [if_neg (show ¬ lkF (M 1) t b = 45 from h3)]; rfl) _ _⟩
  rw [show nmQ (M 1) t 1 99 (mn2 (M 1) t a) = mn3 (M 1) t a from rfl]
  cases hq3 : mn3 (M 1) t a with
  | inl b =>
    rw [hq3] at k3
    have e4 : mn4 (M 1) t a = .inl (skF (M 1) t b) := by unfold mn4; rw [hq3]; rfl
    rw [e4] at tail
    refine z_st (k := 3 * dm + 2) (z_ad (z_mu q3 hd) q2) (by omega) (by decide) ?_
    refine br_t rfl ?_
    refine z_call (σ1 := encM (mP (zU (zU (zU M 5 (3 * dm) x0) 5 (3 * dm + 1) x1) 5 (3 * dm + 2) x2) (.inl (skF (M 1) t b)))) (by
      have := c_M_skips (d := d + 1) (M := mP (zU (zU (zU M 5 (3 * dm) x0) 5 (3 * dm + 1) x1) 5 (3 * dm + 2) x2) (.inl b)) (a := b) ht h1 rfl k3
      unfold mP at this ⊢
      rw [zU_zU] at this
      exact this) ?_
    exact ⟨trivial, tail _ _⟩
  | inr p =>
    rw [hq3] at k3
    have e4 : mn4 (M 1) t a = .inr p := by unfold mn4; rw [hq3]; rfl
    rw [e4] at tail
    refine z_st (k := 3 * dm + 2) (z_ad (z_mu q3 hd) q2) (by omega) (by decide) ?_
    refine br_f (qw_bad k3) ?_
    exact ⟨trivial, tail _ _⟩
end P2
