/-! reading, the class: a mishap -/
theorem skU_stop {T : Nat → Int32} {t : Nat} : ∀ f a, f = t - a → ¬ lkF T t (skU T t f a) = 32
  | 0, a, h => by
    show ¬ lkF T t a = 32
    unfold lkF
    rw [if_neg (by omega)]
    decide
  | f + 1, a, h => by
    rw [skU]
    by_cases z : lkF T t a = 32
    · rw [if_pos z]; exact skU_stop f (a + 1) (by omega)
    · rw [if_neg z]; exact z
theorem skF_id {T : Nat → Int32} {t a : Nat} : skF T t (skF T t a) = skF T t a := skF_f (skU_stop _ a rfl)
theorem nmQ_sk {T : Nat → Int32} {t : Nat} {lo hi : Int32} {q : zCur} : nmQ T t lo hi (skQ T t q) = nmQ T t lo hi q := by
  cases q with
  | inr p => rfl
  | inl a =>
    show nmQ T t lo hi (.inl (skF T t a)) = _
    rw [nmQ_i, nmQ_i, skF_id]
theorem nmV_sk {T : Nat → Int32} {t : Nat} {q : zCur} : nmV T t (skQ T t q) = nmV T t q := by
  cases q with
  | inr p => rfl
  | inl a =>
    show nmV T t (.inl (skF T t a)) = _
    rw [nmV_i, nmV_i, skF_id]
def misC (S O : zS) (T : Nat → Int32) (t dx a : Nat) : Prop := O 3 4 = nI (dx + 1) ∧ O 3 3 = S 3 3 ∧ (∀ c, 4 ≤ c → c ≤ 7 → O c = S c) ∧ (∀ j, j < dx → O 8 j = S 8 j ∧ O 9 j = S 9 j ∧ O 10 j = S 10 j ∧ O 11 j = S 11 j ∧ O 12 j = S 12 j ∧ O 13 j = S 13 j) ∧
  O 8 dx = nmV T t (xs0 a) ∧ O 9 dx = nmV T t (xs1 T t a) ∧ O 10 dx = nmV T t (xs2 T t a) ∧ O 11 dx = nmV T t (xs3 T t a) ∧ O 12 dx = nmV T t (xs4 T t a) ∧ O 13 dx = if nmV T t (xs6 T t a) = 9 then -1 else nmV T t (xs6 T t a)
section T5
variable {d : Nat} {S : zS} {T : Nat → Int32} {t : Nat}
theorem c_readMishap {a dx : Nat} {na : Int32} (hT : eqT t (S 2) T) (ht : t ≤ 230) (h1 : S 1 1 = nI t) (ha : a < t) (hd : S 3 4 = nI dx) (hdx : dx ≤ 4) : zRuns gTe_readMishap (d + 3) [.ref 1, .ref 3] (encC (cP S (.inl a) (nI a) na)) (fun v σ' => v = none ∧ ∃ O b' na', σ' = encC (cP O (misQ T t dx a) (nI b') na') ∧ b' ≤ 301 ∧ cOk (misQ T t dx a) b' ∧ frC S O ∧ ((∃ e, misQ T t dx a = .inl e) → misC S O T t dx a)) := by
  refine m_Te_readMishap [129] rfl (Nat.le_of_ble_eq_true rfl) ?_
  refine z_lt (a := dx) (b := 4) hd rfl (by omega) (by decide) (fun h7 => ?_) (fun h7 => ?_)
  rotate_left
  · have e7 : dx = 4 := by omega
    refine z_call (c_mark (c := 3) (s := a) (q := .inl a) (t := t) (S := S) (nx := nI a) (na := na) (Nat.le_of_lt ha)) ?_
    have em : misQ T t dx a = .inr (3, a) := if_pos e7
    rw [em]
    refine ⟨rfl, S, a, na, rfl, by omega, ?_, ⟨fun c _ _ _ => rfl, rfl, rfl, rfl, rfl⟩, ?_⟩
    · intro x hx; cases hx
    · rintro ⟨e, he⟩; cases he
  have em : misQ T t dx a = xs9 T t dx a := if_neg (by omega)
  rw [em]
  have k0 : okQ t (xs0 a) := ha
  have k1 : okQ t (xs1 T t a) := nmQ_ok k0
  have k2 : okQ t (xs2 T t a) := nmQ_ok k1
  have k3 : okQ t (xs3 T t a) := nmQ_ok k2
  have k4 : okQ t (xs4 T t a) := nmQ_ok k3
  have k5 : okQ t (xs5 T t a) := nmQ_ok k4
  have k6 : okQ t (xs6 T t a) := skQ_ok k5
  have k7 : okQ t (xs7 T t a) := nmQ_ok k6
  have k8 : okQ t (xs8 T t dx a) := orQ_ok k7 (qn_ok k6)
  have s0 := c_readNumber (d := d) (q := xs0 a) (b := a + 1) (na := na) (lo := 0) (hi := 5) hT ht h1 k0 (by omega) (fun x hx => by cases hx; rfl)
  rw [← nI_1] at s0
  refine z_callE s0 ?_
  rintro v σ' ⟨x0, b1, rfl, rfl, l1, o1, v0⟩
  generalize nI (skF T t (a + 1)) = n1
  refine z_call (σ1 := encC (cP (zU S 8 dx x0) (xs1 T t a) (nI b1) n1)) (c_put (r := 8) (n := 4) (f := S 8) (j := dx) rfl (by decide) hd (by omega)) ?_
  refine z_callE (c_readNumber (d := d) (S := zU S 8 dx x0) (q := xs1 T t a) (b := b1) (na := n1) (lo := 0) (hi := 5) hT ht h1 k1 l1 o1) ?_
  rintro v σ' ⟨x1, b2, rfl, rfl, l2, o2, v1⟩
  generalize nI (skF T t b1) = n2
  refine z_call (σ1 := encC (cP (zU (zU S 8 dx x0) 9 dx x1) (xs2 T t a) (nI b2) n2)) (c_put (r := 9) (n := 4) (f := S 9) (j := dx) rfl (by decide) hd (by omega)) ?_
  refine z_callE (c_readNumber (d := d) (S := zU (zU S 8 dx x0) 9 dx x1) (q := xs2 T t a) (b := b2) (na := n2) (lo := 0) (hi := 15) hT ht h1 k2 l2 o2) ?_
  rintro v σ' ⟨x2, b3, rfl, rfl, l3, o3, v2⟩
  generalize nI (skF T t b2) = n3
  refine z_call (σ1 := encC (cP (zU (zU (zU S 8 dx x0) 9 dx x1) 10 dx x2) (xs3 T t a) (nI b3) n3)) (c_put (r := 10) (n := 4) (f := S 10) (j := dx) rfl (by decide) hd (by omega)) ?_
  refine z_callE (c_readNumber (d := d) (S := zU (zU (zU S 8 dx x0) 9 dx x1) 10 dx x2) (q := xs3 T t a) (b := b3) (na := n3) (lo := 0) (hi := 5) hT ht h1 k3 l3 o3) ?_
  rintro v σ' ⟨x3, b4, rfl, rfl, l4, o4, v3⟩
  generalize nI (skF T t b3) = n4
  refine z_call (σ1 := encC (cP (zU (zU (zU (zU S 8 dx x0) 9 dx x1) 10 dx x2) 11 dx x3) (xs4 T t a) (nI b4) n4)) (c_put (r := 11) (n := 4) (f := S 11) (j := dx) rfl (by decide) hd (by omega)) ?_
  refine z_callE (c_readNumber (d := d) (S := zU (zU (zU (zU S 8 dx x0) 9 dx x1) 10 dx x2) 11 dx x3) (q := xs4 T t a) (b := b4) (na := n4) (lo := 1) (hi := 2) hT ht h1 k4 l4 o4) ?_
  rintro v σ' ⟨x4, b5, rfl, rfl, l5, o5, v4⟩
  generalize nI (skF T t b4) = n5
  refine z_call (σ1 := encC (cP (zU (zU (zU (zU (zU S 8 dx x0) 9 dx x1) 10 dx x2) 11 dx x3) 12 dx x4) (xs5 T t a) (nI b5) n5)) (c_put (r := 12) (n := 4) (f := S 12) (j := dx) rfl (by decide) hd (by omega)) ?_
  have s6 := c_readNumber (d := d) (S := zU (zU (zU (zU (zU S 8 dx x0) 9 dx x1) 10 dx x2) 11 dx x3) 12 dx x4) (q := xs5 T t a) (b := b5) (na := n5) (lo := 0) (hi := 9) hT ht h1 k5 l5 o5
  unfold rnQ at s6
  rw [← nmQ_sk (q := xs5 T t a), ← nmV_sk (q := xs5 T t a), show nmQ T t 0 9 (skQ T t (xs5 T t a)) = xs7 T t a from rfl, show skQ T t (xs5 T t a) = xs6 T t a from rfl] at s6
  refine z_callE s6 ?_
  rintro v σ' ⟨x5, b6, rfl, rfl, l6, o6, v5⟩
  have e8 : ∀ e, xs7 T t a = .inl e → qn (xs6 T t a) = skF T t b5 := by
    intro e he
    obtain ⟨b, hb, -⟩ := nmQ_good (show nmQ T t 0 9 (xs6 T t a) = .inl e from he)
    obtain ⟨b', hb'⟩ := skQ_good (show skQ T t (xs5 T t a) = .inl b from hb)
    have := o5 b' hb'
    subst this
    rw [hb]
    have h9 : skQ T t (xs5 T t a) = .inl b := hb
    rw [hb'] at h9
    cases h9
    rfl
  have tail : ∀ y, ((∃ e, xs8 T t dx a = .inl e) → y = nmV T t (xs6 T t a)) → cOk (xs8 T t dx a) b6 → zGood gTe_readMishap (d + 3) (fun v σ' => v = none ∧ ∃ O b' na', σ' = encC (cP O (xs9 T t dx a) (nI b') na') ∧ b' ≤ 301 ∧ cOk (xs9 T t dx a) b' ∧ frC S O ∧ ((∃ e, xs9 T t dx a = .inl e) → misC S O T t dx a)) 129 [some (.ref 1), some (.ref 3), some (.int (S 3 4)), some (.int y)] [] (encC (cP (zU (zU (zU (zU (zU S 8 dx x0) 9 dx x1) 10 dx x2) 11 dx x3) 12 dx x4) (xs8 T t dx a) (nI b6) (nI (skF T t b5)))) 0 0 := by
    intro y hy ho
    refine w_Te_readMishap [129] ?_
    have fin : ∀ v, (v = if y = 9 then -1 else y) → ∀ b' , b' ≤ 301 → cOk (xs9 T t dx a) b' → ∃ O b'' na', encC (cP (zU (zU (zU (zU (zU (zU (zU S 8 dx x0) 9 dx x1) 10 dx x2) 11 dx x3) 12 dx x4) 13 dx v) 3 4 (S 3 4 + 1)) (xs9 T t dx a) (nI b') (nI (skF T t b5))) = encC (cP O (xs9 T t dx a) (nI b'') na') ∧ b'' ≤ 301 ∧ cOk (xs9 T t dx a) b'' ∧ frC S O ∧ ((∃ e, xs9 T t dx a = .inl e) → misC S O T t dx a) := by
      intro v hv b' lb ob
      refine ⟨_, b', _, rfl, lb, ob, ⟨fun c c1 c3 c4 => ?_, rfl, rfl, rfl, rfl⟩, fun ⟨e, he⟩ => ?_⟩
      · rw [zU_k c3, zU_k (by omega), zU_k (by omega), zU_k (by omega), zU_k (by omega), zU_k (by omega), zU_k (by omega)]
      · obtain ⟨e8', he8⟩ := wdQ_good (show wdQ T t 59 (xs8 T t dx a) = .inl e from he)
        obtain ⟨he7, -⟩ := orQ_good (show orQ dx (nmV T t (xs6 T t a)) (qn (xs6 T t a)) (xs7 T t a) = .inl e8' from he8)
        obtain ⟨e6, he6, -⟩ := nmQ_good (show nmQ T t 0 9 (xs6 T t a) = .inl e8' from he7)
        obtain ⟨e5, he5⟩ := skQ_good (show skQ T t (xs5 T t a) = .inl e6 from he6)
        obtain ⟨e4, he4, -⟩ := nmQ_good (show nmQ T t 1 2 (xs4 T t a) = .inl e5 from he5)
        obtain ⟨e3, he3, -⟩ := nmQ_good (show nmQ T t 0 5 (xs3 T t a) = .inl e4 from he4)
        obtain ⟨e2, he2, -⟩ := nmQ_good (show nmQ T t 0 15 (xs2 T t a) = .inl e3 from he3)
        obtain ⟨e1, he1, -⟩ := nmQ_good (show nmQ T t 0 5 (xs1 T t a) = .inl e2 from he2)
        refine ⟨?_, rfl, fun c c1 c2 => ?_, fun j hj => ⟨upd_n (by omega), upd_n (by omega), upd_n (by omega), upd_n (by omega), upd_n (by omega), upd_n (by omega)⟩, upd_s.trans (v0 ⟨e1, he1⟩), upd_s.trans (v1 ⟨e2, he2⟩), upd_s.trans (v2 ⟨e3, he3⟩), upd_s.trans (v3 ⟨e4, he4⟩), upd_s.trans (v4 ⟨e5, he5⟩), upd_s.trans ?_⟩
        · show S 3 4 + 1 = _
          rw [hd, nI_1]
        · rw [zU_k (by omega), zU_k (by omega), zU_k (by omega), zU_k (by omega), zU_k (by omega), zU_k (by omega), zU_k (by omega)]
        · rw [hv, hy ⟨e8', he8⟩]
    have put : ∀ v, zRuns gB_put (d + 2) [.ref 13, .int (S 3 4), .int v] (encC (cP (zU (zU (zU (zU (zU S 8 dx x0) 9 dx x1) 10 dx x2) 11 dx x3) 12 dx x4) (xs8 T t dx a) (nI b6) (nI (skF T t b5)))) (fun v' σ' => v' = none ∧ σ' = encC (cP (zU (zU (zU (zU (zU (zU S 8 dx x0) 9 dx x1) 10 dx x2) 11 dx x3) 12 dx x4) 13 dx v) (xs8 T t dx a) (nI b6) (nI (skF T t b5)))) := fun v => c_put (r := 13) (n := 4) (f := S 13) (j := dx) rfl (by decide) hd (by omega)
    have en : ∀ v, zRuns gTe_readEnd (d + 2) [.ref 1] (encC (cP (zU (zU (zU (zU (zU (zU S 8 dx x0) 9 dx x1) 10 dx x2) 11 dx x3) 12 dx x4) 13 dx v) (xs8 T t dx a) (nI b6) (nI (skF T t b5)))) (fun v' σ' => v' = none ∧ ∃ b', σ' = encC (cP (zU (zU (zU (zU (zU (zU S 8 dx x0) 9 dx x1) 10 dx x2) 11 dx x3) 12 dx x4) 13 dx v) (xs9 T t dx a) (nI b') (nI (skF T t b5))) ∧ b' ≤ 301 ∧ cOk (xs9 T t dx a) b') := fun v => c_readEnd (S := zU (zU (zU (zU (zU (zU S 8 dx x0) 9 dx x1) 10 dx x2) 11 dx x3) 12 dx x4) 13 dx v) hT ht h1 k8 l6 ho
    refine ⟨fun h => ?_, fun h => ?_⟩
    · refine z_call (put (-1)) ?_
      refine z_callE (en (-1)) ?_
      rintro v σ' ⟨rfl, b', rfl, lb, ob⟩
      exact ⟨rfl, fin (-1) (by rw [if_pos h]) b' lb ob⟩
    · refine z_call (put y) ?_
      refine z_callE (en y) ?_
      rintro v σ' ⟨rfl, b', rfl, lb, ob⟩
      exact ⟨rfl, fin y (by rw [if_neg h]) b' lb ob⟩
  have hy5 : (∃ e, xs8 T t dx a = .inl e) → x5 = nmV T t (xs6 T t a) := by
    rintro ⟨e, he⟩
    exact v5 ⟨e, (orQ_good (show orQ dx (nmV T t (xs6 T t a)) (qn (xs6 T t a)) (xs7 T t a) = .inl e from he)).1⟩
  have same : (x5 = 9 ∨ x5 < nI dx) → xs8 T t dx a = xs7 T t a := by
    intro h
    unfold xs8
    cases hq : xs7 T t a with
    | inr p => rfl
    | inl e => rw [orQ_i, ← v5 ⟨e, hq⟩, if_pos h]
  have bad : ¬ (x5 = 9 ∨ x5 < nI dx) → mkQ 2 (skF T t b5) (xs7 T t a) = xs8 T t dx a ∧ cOk (xs8 T t dx a) b6 := by
    intro h
    unfold xs8
    cases hq : xs7 T t a with
    | inr p => exact ⟨rfl, fun a ha => by cases ha⟩
    | inl e =>
      rw [orQ_i, ← v5 ⟨e, hq⟩, if_neg h, e8 e hq]
      refine ⟨rfl, fun a ha => ?_⟩
      cases ha
  have tl := tail x5 hy5
  refine ⟨fun h => ?_, fun h => ?_⟩
  · have h' : x5 < nI dx := by rw [← hd]; exact h
    rw [same (Or.inr h')] at tl
    exact ⟨trivial, tl o6⟩
  · have h' : ¬ x5 < nI dx := by rw [← hd]; exact h
    refine ⟨fun h2 => ?_, fun h2 => ?_⟩
    · rw [same (Or.inl h2)] at tl
      exact ⟨trivial, tl o6⟩
    · obtain ⟨m1, m2⟩ := bad (fun z => z.elim h2 h')
      refine z_call (c_mark (c := 2) (s := skF T t b5) (q := xs7 T t a) (t := t) (S := zU (zU (zU (zU (zU S 8 dx x0) 9 dx x1) 10 dx x2) 11 dx x3) 12 dx x4) (nx := nI b6) (na := nI (skF T t b5)) k7) ?_
      rw [m1]
      exact ⟨trivial, tl m2⟩
end T5
