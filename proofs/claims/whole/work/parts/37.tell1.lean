/-! reading, the class: where it stands and the first fault -/
def eqT (t : Nat) (f g : Nat → Int32) : Prop := ∀ j, j < t → f j = g j
def cf : zCur → Int32
  | .inl _ => -1
  | .inr p => nI p.2
def cP (S : zS) (q : zCur) (nx na : Int32) : zS := zU (zU (zU (zU S 1 2 (cf q)) 1 3 (qw q)) 1 4 nx) 1 5 na
def cOk (q : zCur) (b : Nat) : Prop := ∀ a, q = .inl a → a = b
def mkQ (c s : Nat) : zCur → zCur
  | .inl _ => .inr (c, s)
  | .inr p => .inr p
section T1
variable {d : Nat} {S : zS} {T : Nat → Int32} {t : Nat}
theorem c_here {q : zCur} {b : Nat} {na : Int32} (hT : eqT t (S 2) T) (ht : t ≤ 230) (h1 : S 1 1 = nI t) (hb : b ≤ 1000) : zRuns gTe_here d [.ref 1] (encC (cP S q (nI b) na)) (fun v σ' => v = some (.int (lkF T t b)) ∧ σ' = encC (cP S q (nI b) na)) := by
  refine m_Te_here [] rfl (Nat.le_of_ble_eq_true rfl) ?_
  refine ⟨fun h => absurd h (nI_pos (n := b) (by omega)), fun _ => ?_⟩
  refine z_le (a := t) (b := b) h1 rfl (by omega) (by omega) (fun h => ?_) (fun h => ?_)
  · exact ⟨by unfold lkF; rw [if_neg (by omega)], rfl⟩
  refine z_le (a := 230) (b := b) rfl rfl (by omega) (by omega) (fun h2 => ?_) (fun h2 => ?_)
  · omega
  refine z_ld (k := b) rfl (by omega) (by decide) ?_
  exact ⟨by unfold lkF; rw [if_pos h, ← hT b h]; rfl, rfl⟩
theorem c_skipBlanks {q : zCur} {b : Nat} {na : Int32} (hT : eqT t (S 2) T) (ht : t ≤ 230) (h1 : S 1 1 = nI t) (hb : b ≤ 1000) : zRuns gTe_skipBlanks (d + 1) [.ref 1] (encC (cP S q (nI b) na)) (fun v σ' => v = none ∧ σ' = encC (cP S q (nI (skF T t b)) na)) := by
  have key : ∀ f b, b ≤ 1000 → t - b = f → zX gTe_skipBlanks false pTe kTe_skipBlanks [0] (d + 1) (fun v σ' => v = none ∧ σ' = encC (cP S q (nI (skF T t b)) na)) 400 true 0 (zArgs 1 [.ref 1]) [] (encC (cP S q (nI b) na)) 0 0 := by
    intro f
    induction f with
    | zero =>
      intro b hb hf
      refine z_le (a := t) (b := b) h1 rfl (by omega) (by omega) (fun h => ?_) (fun h => absurd h (by omega))
      refine ⟨rfl, ?_⟩
      rw [skF_f (T := T) (t := t) (a := b) (by unfold lkF; rw [if_neg (by omega)]; decide)]
    | succ f ih =>
      intro b hb hf
      refine z_le (a := t) (b := b) h1 rfl (by omega) (by omega) (fun h => absurd h (by omega)) (fun h => ?_)
      refine z_call (c_here (q := q) (na := na) hT ht h1 hb) ?_
      refine ⟨fun h2 => ?_, fun h2 => ?_⟩
      · have h2' : lkF T t b = 32 := h2
        refine ⟨trivial, w_Te_skipBlanks [0] ?_⟩
        have := ih (b + 1) (by omega) (by omega)
        rw [← skF_t h2', ← nI_1] at this
        exact this
      · have h2' : ¬ lkF T t b = 32 := h2
        refine ⟨rfl, ?_⟩
        rw [skF_f h2']
  exact m_Te_skipBlanks [0] rfl (Nat.le_of_ble_eq_true rfl) (key _ b hb rfl)
theorem c_mark {q : zCur} {c s : Nat} {nx na : Int32} (hq : okQ t q) : zRuns gTe_mark d [.ref 1, .int (nI c), .int (nI s)] (encC (cP S q nx na)) (fun v σ' => v = none ∧ σ' = encC (cP S (mkQ c s q) nx na)) := by
  refine m_Te_mark [] rfl (Nat.le_of_ble_eq_true rfl) ?_
  cases q with
  | inl a =>
    refine br_t rfl ?_
    exact ⟨rfl, rfl⟩
  | inr p =>
    refine br_f (qw_bad hq) ?_
    exact ⟨rfl, rfl⟩
end T1
