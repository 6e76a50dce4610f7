/-! reading, the class: a clause -/
def clQ (T : Nat → Int32) (t a : Nat) (th : Bool) (dm dx : Nat) : zCur :=
  if lkF T t a = 97 then (if th then .inr (3, a) else rd3 T t a) else if th = false then .inr (1, a) else
    if lkF T t a = 109 then manQ T t dm a else if lkF T t a = 120 then misQ T t dx a else .inr (1, a)
section T7
variable {d : Nat} {S : zS} {T : Nat → Int32} {t : Nat}
/-- what a clause does to the draft -/
def clP (S O : zS) (T : Nat → Int32) (t a : Nat) (dm dx : Nat) : Prop :=
  if lkF T t a = 97 then (∃ x y, O = zU (zU (zU S 3 1 x) 3 2 y) 3 0 1 ∧ x = nmV T t (rd0 T t a) ∧ y = nmV T t (rd1 T t a)) else
    if lkF T t a = 109 then frC S O ∧ manC S O T t dm a else frC S O ∧ misC S O T t dx a
theorem rd0_i {a : Nat} (h : lkF T t a = 97) : rd0 T t a = .inl (a + 1) := by
  unfold rd0
  have hs : skF T t a = a := skF_f (by rw [h]; decide)
  rw [wdQ_i, hs, if_pos h]
theorem c_readClause {a dm dx : Nat} {th : Bool} {na : Int32} (hT : eqT t (S 2) T) (ht : t ≤ 230) (h1 : S 1 1 = nI t) (ha : a < t) (hth : S 3 0 = bI th) (hd : S 3 3 = nI dm) (hdm : dm ≤ 7) (hx : S 3 4 = nI dx) (hdx : dx ≤ 4) : zRuns gTe_readClause (d + 4) [.ref 1, .ref 3] (encC (cP S (.inl a) (nI a) na)) (fun v σ' => v = none ∧ ∃ O b' na', σ' = encC (cP O (clQ T t a th dm dx) (nI b') na') ∧ b' ≤ 301 ∧ cOk (clQ T t a th dm dx) b' ∧ (∀ c, c ≠ 1 → c ≠ 3 → (c < 4 ∨ 13 < c) → O c = S c) ∧ O 1 1 = S 1 1 ∧ ((∃ e, clQ T t a th dm dx = .inl e) → clP S O T t a dm dx)) := by
  have mk : ∀ c, clQ T t a th dm dx = .inr (c, a) → ∃ O b' na', encC (cP S (mkQ c a (.inl a)) (nI a) na) = encC (cP O (clQ T t a th dm dx) (nI b') na') ∧ b' ≤ 301 ∧ cOk (clQ T t a th dm dx) b' ∧ (∀ c, c ≠ 1 → c ≠ 3 → (c < 4 ∨ 13 < c) → O c = S c) ∧ O 1 1 = S 1 1 ∧ ((∃ e, clQ T t a th dm dx = .inl e) → clP S O T t a dm dx) := by
    intro c hc
    rw [hc]
    refine ⟨S, a, na, rfl, by omega, ?_, fun _ _ _ _ => rfl, rfl, ?_⟩
    · intro x hx; cases hx
    · rintro ⟨e, he⟩; cases he
  refine m_Te_readClause [] rfl (Nat.le_of_ble_eq_true rfl) ?_
  refine z_call (c_here (q := .inl a) (na := na) hT ht h1 (by omega)) ?_
  refine ⟨fun h97 => ?_, fun h97 => ?_⟩
  · cases th with
    | true =>
      have eq : clQ T t a true dm dx = .inr (3, a) := by unfold clQ; rw [if_pos h97]; rfl
      have rj : zRuns gTe_readJury (d + 3) [.ref 1, .ref 3] (encC (cP S (.inl a) (nI a) na)) (fun v σ' => v = none ∧ σ' = encC (cP S (mkQ 3 a (.inl a)) (nI a) na)) := by
        refine m_Te_readJury [] rfl (Nat.le_of_ble_eq_true rfl) ?_
        refine ⟨fun h => absurd (hth.symm.trans h) (by decide), fun _ => ?_⟩
        refine z_call (c_mark (c := 3) (s := a) (q := .inl a) (t := t) (S := S) (nx := nI a) (na := na) (Nat.le_of_lt ha)) ?_
        exact ⟨rfl, rfl⟩
      refine z_call rj ?_
      exact ⟨rfl, mk 3 eq⟩
    | false =>
      have eq : clQ T t a false dm dx = rd3 T t a := by unfold clQ; rw [if_pos h97]; rfl
      refine z_callE (c_readJury hT ht h1 ha hth (rd0_i h97)) ?_
      rintro v σ' ⟨rfl, x, y, b', na', rfl, lb, ob, P⟩
      rw [eq]
      refine ⟨rfl, _, b', na', rfl, lb, ob, fun c c1 c3 c4 => by rw [zU_k c3, zU_k c3, zU_k c3], rfl, fun he => ?_⟩
      obtain ⟨p1, p2⟩ := P he
      unfold clP
      rw [if_pos h97]
      exact ⟨x, y, rfl, p1, p2⟩
  · cases th with
    | false =>
      have eq : clQ T t a false dm dx = .inr (1, a) := by unfold clQ; rw [if_neg h97]; rfl
      refine ⟨fun _ => ?_, fun h => absurd hth h⟩
      refine z_call (c_mark (c := 1) (s := a) (q := .inl a) (t := t) (S := S) (nx := nI a) (na := na) (Nat.le_of_lt ha)) ?_
      exact ⟨rfl, mk 1 eq⟩
    | true =>
      refine ⟨fun h => absurd (hth.symm.trans h) (by decide), fun _ => ?_⟩
      have eq0 : clQ T t a true dm dx = if lkF T t a = 109 then manQ T t dm a else if lkF T t a = 120 then misQ T t dx a else .inr (1, a) := by unfold clQ; rw [if_neg h97]; rfl
      refine ⟨fun h109 => ?_, fun h109 => ?_⟩
      · have eq : clQ T t a true dm dx = manQ T t dm a := by rw [eq0, if_pos h109]
        refine z_callE (c_readMan hT ht h1 ha hd hdm) ?_
        rintro v σ' ⟨rfl, O, b', na', rfl, lb, ob, F, P⟩
        rw [eq]
        refine ⟨rfl, O, b', na', rfl, lb, ob, F.1, F.2.1, fun he => ?_⟩
        unfold clP
        rw [if_neg h97, if_pos h109]
        exact ⟨F, P he⟩
      · refine ⟨fun h120 => ?_, fun h120 => ?_⟩
        · have eq : clQ T t a true dm dx = misQ T t dx a := by rw [eq0, if_neg h109, if_pos h120]
          refine z_callE (c_readMishap hT ht h1 ha hx hdx) ?_
          rintro v σ' ⟨rfl, O, b', na', rfl, lb, ob, F, P⟩
          rw [eq]
          refine ⟨rfl, O, b', na', rfl, lb, ob, F.1, F.2.1, fun he => ?_⟩
          unfold clP
          rw [if_neg h97, if_neg h109]
          exact ⟨F, P he⟩
        · have eq : clQ T t a true dm dx = .inr (1, a) := by rw [eq0, if_neg h109, if_neg h120]
          refine z_call (c_mark (c := 1) (s := a) (q := .inl a) (t := t) (S := S) (nx := nI a) (na := na) (Nat.le_of_lt ha)) ?_
          exact ⟨rfl, mk 1 eq⟩
end T7
