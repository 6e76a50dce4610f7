/-! reading, the class: the jury, the empty facts -/
section T6
variable {d : Nat} {S : zS} {T : Nat → Int32} {t : Nat}
theorem c_empty : zRuns gFa_empty d [.ref 3] (encC S) (fun v σ' => v = none ∧ σ' = encC (zU (zU (zU (zU (zU S 3 0 0) 3 1 0) 3 2 0) 3 3 0) 3 4 0)) := by
  refine m_Fa_empty [] rfl (Nat.le_of_ble_eq_true rfl) ?_
  refine ⟨Or.inl rfl, ?_⟩
  exact ⟨rfl, rfl⟩
theorem c_readJury {a : Nat} {na : Int32} (hT : eqT t (S 2) T) (ht : t ≤ 230) (h1 : S 1 1 = nI t) (ha : a < t) (hth : S 3 0 = 0) (e0 : rd0 T t a = .inl (a + 1)) : zRuns gTe_readJury (d + 3) [.ref 1, .ref 3] (encC (cP S (.inl a) (nI a) na)) (fun v σ' => v = none ∧ ∃ x y b' na', σ' = encC (cP (zU (zU (zU S 3 1 x) 3 2 y) 3 0 1) (rd3 T t a) (nI b') na') ∧ b' ≤ 301 ∧ cOk (rd3 T t a) b' ∧ ((∃ e, rd3 T t a = .inl e) → x = nmV T t (rd0 T t a) ∧ y = nmV T t (rd1 T t a))) := by
  have k0 : okQ t (rd0 T t a) := by rw [e0]; exact ha
  have k1 : okQ t (rd1 T t a) := nmQ_ok k0
  have k2 : okQ t (rd2 T t a) := nmQ_ok k1
  refine m_Te_readJury [] rfl (Nat.le_of_ble_eq_true rfl) ?_
  refine ⟨fun _ => ?_, fun h => absurd hth h⟩
  have s0 := c_readNumber (d := d) (q := rd0 T t a) (b := a + 1) (na := na) (lo := 0) (hi := 6) hT ht h1 k0 (by omega) (fun x hx => by rw [e0] at hx; cases hx; rfl)
  rw [show cP S (rd0 T t a) (nI (a + 1)) na = cP S (.inl a) (nI (a + 1)) na by rw [e0]; rfl, ← nI_1] at s0
  refine z_callE s0 ?_
  rintro v σ' ⟨x, b1, rfl, rfl, l1, o1, v0⟩
  refine z_callE (c_readNumber (d := d) (S := zU S 3 1 x) (q := rd1 T t a) (b := b1) (na := nI (skF T t (a + 1))) (lo := 1) (hi := 500) hT ht h1 k1 l1 o1) ?_
  rintro v σ' ⟨y, b2, rfl, rfl, l2, o2, v1⟩
  refine z_callE (c_readEnd (d := d) (S := zU (zU S 3 1 x) 3 2 y) (q := rd2 T t a) (b := b2) (na := nI (skF T t b1)) hT ht h1 k2 l2 o2) ?_
  rintro v σ' ⟨rfl, b3, rfl, l3, o3⟩
  refine ⟨Or.inr rfl, ?_⟩
  refine ⟨rfl, x, y, b3, _, rfl, l3, o3, fun ⟨e, he⟩ => ?_⟩
  obtain ⟨e2, he2⟩ := wdQ_good (show wdQ T t 59 (rd2 T t a) = .inl e from he)
  obtain ⟨e1, he1, -⟩ := nmQ_good (show nmQ T t 1 500 (rd1 T t a) = .inl e2 from he2)
  exact ⟨v0 ⟨e1, he1⟩, v1 ⟨e2, he2⟩⟩
end T6
