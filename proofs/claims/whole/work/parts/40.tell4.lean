/-! reading, the class: a man -/
def frC (S O : zS) : Prop := (∀ c, c ≠ 1 → c ≠ 3 → (c < 4 ∨ 13 < c) → O c = S c) ∧ O 1 1 = S 1 1 ∧ O 3 0 = S 3 0 ∧ O 3 1 = S 3 1 ∧ O 3 2 = S 3 2
def manC (S O : zS) (T : Nat → Int32) (t dm a : Nat) : Prop := O 3 3 = nI (dm + 1) ∧ O 3 4 = S 3 4 ∧ (∀ c, 8 ≤ c → c ≤ 13 → O c = S c) ∧ (∀ j, j < dm → O 4 j = S 4 j ∧ O 5 j = S 5 j ∧ O 6 j = S 6 j) ∧ (∀ j, j < 6 * dm → O 7 j = S 7 j) ∧
  O 4 dm = nmV T t (mn0 a) ∧ O 5 dm = nmV T t (mn1 T t a) ∧ O 6 dm = nmV T t (mn2 T t a) ∧ ∀ h, h < 6 → O 7 (6 * dm + h) = rwV (lkF T t (qn (mn4 T t a) + h))
section T4
variable {d : Nat} {S : zS} {T : Nat → Int32} {t : Nat}
theorem c_readMan {a dm : Nat} {na : Int32} (hT : eqT t (S 2) T) (ht : t ≤ 230) (h1 : S 1 1 = nI t) (ha : a < t) (hd : S 3 3 = nI dm) (hdm : dm ≤ 7) : zRuns gTe_readMan (d + 3) [.ref 1, .ref 3] (encC (cP S (.inl a) (nI a) na)) (fun v σ' => v = none ∧ ∃ O b' na', σ' = encC (cP O (manQ T t dm a) (nI b') na') ∧ b' ≤ 301 ∧ cOk (manQ T t dm a) b' ∧ frC S O ∧ ((∃ e, manQ T t dm a = .inl e) → manC S O T t dm a)) := by
  refine m_Te_readMan [] rfl (Nat.le_of_ble_eq_true rfl) ?_
  refine z_lt (a := dm) (b := 7) hd rfl (by omega) (by decide) (fun h7 => ?_) (fun h7 => ?_)
  rotate_left
  · have e7 : dm = 7 := by omega
    refine z_call (c_mark (c := 3) (s := a) (q := .inl a) (t := t) (S := S) (nx := nI a) (na := na) (Nat.le_of_lt ha)) ?_
    have em : manQ T t dm a = .inr (3, a) := if_pos e7
    rw [em]
    refine ⟨rfl, S, a, na, rfl, by omega, ?_, ⟨fun c _ _ _ => rfl, rfl, rfl, rfl, rfl⟩, ?_⟩
    · intro x hx; cases hx
    · rintro ⟨e, he⟩; cases he
  have em : manQ T t dm a = mn6 T t a := if_neg (by omega)
  rw [em]
  have k0 : okQ t (mn0 a) := ha
  have k1 : okQ t (mn1 T t a) := nmQ_ok k0
  have k2 : okQ t (mn2 T t a) := nmQ_ok k1
  have k3 : okQ t (mn3 T t a) := nmQ_ok k2
  have s0 := c_readNumber (d := d) (q := mn0 a) (b := a + 1) (na := na) (lo := 0) (hi := 15) hT ht h1 k0 (by omega) (fun x hx => by cases hx; rfl)
  rw [← nI_1] at s0
  refine z_callE s0 ?_
  rintro v σ' ⟨x0, b1, rfl, rfl, l1, o1, v0⟩
  generalize nI (skF T t (a + 1)) = n1
  refine z_call (σ1 := encC (cP (zU S 4 dm x0) (mn1 T t a) (nI b1) n1)) (c_put (r := 4) (n := 7) (f := S 4) (j := dm) rfl (by decide) hd (by omega)) ?_
  refine z_callE (c_readNumber (d := d) (S := zU S 4 dm x0) (q := mn1 T t a) (b := b1) (na := n1) (lo := 0) (hi := 63) hT ht h1 k1 l1 o1) ?_
  rintro v σ' ⟨x1, b2, rfl, rfl, l2, o2, v1⟩
  generalize nI (skF T t b1) = n2
  refine z_call (σ1 := encC (cP (zU (zU S 4 dm x0) 5 dm x1) (mn2 T t a) (nI b2) n2)) (c_put (r := 5) (n := 7) (f := S 5) (j := dm) rfl (by decide) hd (by omega)) ?_
  refine z_callE (c_readNumber (d := d) (S := zU (zU S 4 dm x0) 5 dm x1) (q := mn2 T t a) (b := b2) (na := n2) (lo := 1) (hi := 99) hT ht h1 k2 l2 o2) ?_
  rintro v σ' ⟨x2, b3, rfl, rfl, l3, o3, v2⟩
  generalize nI (skF T t b2) = n3
  refine z_call (σ1 := encC (cP (zU (zU (zU S 4 dm x0) 5 dm x1) 6 dm x2) (mn3 T t a) (nI b3) n3)) (c_put (r := 6) (n := 7) (f := S 6) (j := dm) rfl (by decide) hd (by omega)) ?_
  have rr := c_readRow (d := d) (S := zU (zU (zU S 4 dm x0) 5 dm x1) 6 dm x2) (q := mn3 T t a) (b := b3) (na := n3) (m := dm) hT ht h1 k3 l3 o3 (by omega)
  rw [← hd] at rr
  refine z_callE rr ?_
  rintro v σ' ⟨rfl, F, b4, rfl, l4, o4, fl, vr⟩
  have k5 : okQ t (mn5 T t a) := rwU_ok (skQ_ok k3) 6
  refine z_callE (c_readEnd (d := d) (S := zUr (zU (zU (zU S 4 dm x0) 5 dm x1) 6 dm x2) 7 F) (q := mn5 T t a) (b := b4) (na := n3) hT ht h1 k5 l4 o4) ?_
  rintro v σ' ⟨rfl, b5, rfl, l5, o5⟩
  refine ⟨rfl, zU (zUr (zU (zU (zU S 4 dm x0) 5 dm x1) 6 dm x2) 7 F) 3 3 (S 3 3 + 1), b5, n3, rfl, l5, o5, ⟨fun c c1 c3 c4 => ?_, rfl, rfl, rfl, rfl⟩, fun ⟨e, he⟩ => ?_⟩
  · rw [zU_k c3, zUr_k (by omega), zU_k (by omega), zU_k (by omega), zU_k (by omega)]
  · obtain ⟨e5, he5⟩ := wdQ_good (show wdQ T t 59 (mn5 T t a) = .inl e from he)
    obtain ⟨e4, he4, g4, -⟩ := rwU_good 6 e5 (show rwU T t 6 (mn4 T t a) = .inl e5 from he5)
    obtain ⟨e3, he3⟩ := skQ_good (show skQ T t (mn3 T t a) = .inl e4 from he4)
    obtain ⟨e2, he2, -⟩ := nmQ_good (show nmQ T t 1 99 (mn2 T t a) = .inl e3 from he3)
    obtain ⟨e1, he1, -⟩ := nmQ_good (show nmQ T t 0 63 (mn1 T t a) = .inl e2 from he2)
    refine ⟨?_, rfl, fun c c1 c2 => ?_, fun j hj => ⟨?_, ?_, ?_⟩, fl, ?_, ?_, ?_, vr ⟨e5, he5⟩⟩
    · show S 3 3 + 1 = _
      rw [hd, nI_1]
    · rw [zU_k (by omega), zUr_k (by omega), zU_k (by omega), zU_k (by omega), zU_k (by omega)]
    · exact upd_n (by omega)
    · exact upd_n (by omega)
    · exact upd_n (by omega)
    · exact upd_s.trans (v0 ⟨e1, he1⟩)
    · exact upd_s.trans (v1 ⟨e2, he2⟩)
    · exact upd_s.trans (v2 ⟨e3, he3⟩)
end T4
