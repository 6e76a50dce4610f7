/-! the class: town -/
def twX (O : zS) (q : zCur) (b na : Int32) : zS := zU (zU (cP O q b na) 1 1 0) 0 10 (cf q)
def tnS (X : zS) : zS := zU (zU (zU (zU (zU (zUr (bcF X) 26 (bgF (bcF X))) 39 2 0) 71 3 0) 71 6 0) 77 2 0) 79 2 0
def tcQ (S : zS) (T : Nat → Int32) (t : Nat) (v : Option Value) (σ' : List va_E) : Prop :=
  ∃ O b na, fmC S O ∧ ((∃ p, (twL T t).1 = .inr p ∧ v = some (.int (-10 - nI p.1)) ∧ σ' = encC (twX O (.inr p) b na)) ∨
    (∃ e, (twL T t).1 = .inl e ∧ v = some (.int (O 3 3)) ∧ σ' = encC (tnS (twX O (.inl e) b na)) ∧ dfC T t O (twL T t).2.1 (twL T t).2.2 ∧ O 3 0 = twB T t ∧ O 3 1 = twJ T t ∧ O 3 2 = twY T t))
section T12
variable {d : Nat} {S : zS} {T : Nat → Int32} {t : Nat}
theorem okQ_tw (ht : t ≤ 230) : okQ t (twL T t).1 := by
  have hs := (skF_r (T := T) (Nat.zero_le t)).2
  unfold twL
  split
  · exact hs
  · exact rdL_ok hs
theorem twB_01 : twB T t = 0 ∨ twB T t = 1 := by unfold twB; split <;> simp
theorem c_B_town (hT : eqT t (S 2) T) (ht : t ≤ 230) (h1 : S 1 1 = nI t) (hc : ∀ j, j < t → T j ≠ -1) : zRuns gB_town (d + 6) [.ref 0] (encC S) (tcQ S T t) := by
  refine m_B_town [] rfl (Nat.le_of_ble_eq_true rfl) ?_
  refine z_callE (c_readInto (d := d) hT ht h1 hc) ?_
  rintro v σ' ⟨O, b, na, rfl, rfl, fm, D⟩
  unfold tcQ
  cases hq : (twL T t).1 with
  | inr p =>
    refine br_f ?_ ?_
    · have := okQ_tw (T := T) ht
      rw [hq] at this
      exact qw_bad this
    · exact ⟨O, b, na, fm, Or.inl ⟨p, rfl, rfl, rfl⟩⟩
  | inl e =>
    obtain ⟨d1, d2, d3, d4⟩ := D e hq
    refine br_t rfl ?_
    refine z_call (c_become (S := twX O (.inl e) b na) (by rw [show twX O (.inl e) b na 3 0 = O 3 0 from rfl, d2]; exact twB_01)) ?_
    refine z_call (c_begin (S := bcF (twX O (.inl e) b na))) ?_
    refine z_call (c_forget (S := zUr (bcF (twX O (.inl e) b na)) 26 (bgF (bcF (twX O (.inl e) b na))))) ?_
    refine z_call (c_burn (S := zU (zUr (bcF (twX O (.inl e) b na)) 26 (bgF (bcF (twX O (.inl e) b na)))) 39 2 0)) ?_
    refine ⟨Or.inl rfl, Or.inl rfl, ?_⟩
    exact ⟨O, b, na, fm, Or.inr ⟨e, rfl, rfl, rfl, d1, d2, d3, d4⟩⟩
end T12
