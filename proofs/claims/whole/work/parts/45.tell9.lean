/-! reading, the class: the whole text -/
def manVC (T : Nat → Int32) (t : Nat) (O : zS) (m a : Nat) : Prop := (∃ e, manQ T t m a = .inl e) ∧ O 4 m = nmV T t (mn0 a) ∧ O 5 m = nmV T t (mn1 T t a) ∧ O 6 m = nmV T t (mn2 T t a) ∧ ∀ h, h < 6 → O 7 (6 * m + h) = rwV (lkF T t (qn (mn4 T t a) + h))
def misVC (T : Nat → Int32) (t : Nat) (O : zS) (x a : Nat) : Prop := (∃ e, misQ T t x a = .inl e) ∧ O 8 x = nmV T t (xs0 a) ∧ O 9 x = nmV T t (xs1 T t a) ∧ O 10 x = nmV T t (xs2 T t a) ∧ O 11 x = nmV T t (xs3 T t a) ∧ O 12 x = nmV T t (xs4 T t a) ∧ O 13 x = if nmV T t (xs6 T t a) = 9 then -1 else nmV T t (xs6 T t a)
def dfC (T : Nat → Int32) (t : Nat) (O : zS) (ms xs : List Nat) : Prop := O 3 3 = nI ms.length ∧ O 3 4 = nI xs.length ∧ ms.length ≤ 7 ∧ xs.length ≤ 4 ∧ (∀ m, m < ms.length → manVC T t O m (ms.getD m 0)) ∧ ∀ x, x < xs.length → misVC T t O x (xs.getD x 0)
def fmC (S O : zS) : Prop := ∀ c, c ≠ 1 → c ≠ 3 → (c < 4 ∨ 13 < c) → O c = S c
theorem dfC_man {S O : zS} {T : Nat → Int32} {t a e : Nat} {ms xs : List Nat} (D : dfC T t S ms xs) (ha : a < t) (he : manQ T t ms.length a = .inl e) (P : manC S O T t ms.length a) : dfC T t O (ms ++ [a]) xs := by
  obtain ⟨d1, d2, d3, d4, d5, d6⟩ := D
  obtain ⟨p1, p2, p3, p4, p5, p6, p7, p8, p9⟩ := P
  have hl : (ms ++ [a]).length = ms.length + 1 := by simp
  have h7 : ms.length < 7 := by have := man_up ha he; omega
  refine ⟨by rw [hl]; exact p1, p2.trans d2, by omega, d4, fun m hm => ?_, fun x hx => ?_⟩
  · by_cases z : m = ms.length
    · subst z
      rw [getD_r]
      exact ⟨⟨e, he⟩, p6, p7, p8, p9⟩
    · have hm' : m < ms.length := by omega
      rw [getD_l hm']
      obtain ⟨g, g1, g2, g3, g4⟩ := d5 m hm'
      obtain ⟨q1, q2, q3⟩ := p4 m hm'
      exact ⟨g, q1.trans g1, q2.trans g2, q3.trans g3, fun h hh => (p5 _ (by omega)).trans (g4 h hh)⟩
  · unfold misVC
    rw [p3 8 (by decide) (by decide), p3 9 (by decide) (by decide), p3 10 (by decide) (by decide), p3 11 (by decide) (by decide), p3 12 (by decide) (by decide), p3 13 (by decide) (by decide)]
    exact d6 x hx
theorem dfC_mis {S O : zS} {T : Nat → Int32} {t a e : Nat} {ms xs : List Nat} (D : dfC T t S ms xs) (ha : a < t) (he : misQ T t xs.length a = .inl e) (P : misC S O T t xs.length a) : dfC T t O ms (xs ++ [a]) := by
  obtain ⟨d1, d2, d3, d4, d5, d6⟩ := D
  obtain ⟨p1, p2, p3, p4, p5, p6, p7, p8, p9, p10⟩ := P
  have hl : (xs ++ [a]).length = xs.length + 1 := by simp
  have h7 : xs.length < 4 := by have := mis_up ha he; omega
  refine ⟨p2.trans d1, by rw [hl]; exact p1, d3, by omega, fun m hm => ?_, fun x hx => ?_⟩
  · unfold manVC
    rw [p3 4 (by decide) (by decide), p3 5 (by decide) (by decide), p3 6 (by decide) (by decide), p3 7 (by decide) (by decide)]
    exact d5 m hm
  · by_cases z : x = xs.length
    · subst z
      rw [getD_r]
      exact ⟨⟨e, he⟩, p5, p6, p7, p8, p9, p10⟩
    · have hx' : x < xs.length := by omega
      rw [getD_l hx']
      obtain ⟨g, g1, g2, g3, g4, g5, g6⟩ := d6 x hx'
      obtain ⟨q1, q2, q3, q4, q5, q6⟩ := p4 x hx'
      exact ⟨g, q1.trans g1, q2.trans g2, q3.trans g3, q4.trans g4, q5.trans g5, q6.trans g6⟩
theorem lk_end {T : Nat → Int32} {t a : Nat} (h : t ≤ a) : lkF T t a = -1 := if_neg (by omega)
theorem lk_mid {T : Nat → Int32} {t a : Nat} (hc : ∀ j, j < t → T j ≠ -1) (h : a < t) : ¬ lkF T t a = -1 := by
  unfold lkF; rw [if_pos h]; exact hc a h
theorem skF_b {T : Nat → Int32} {t b : Nat} (ht : t ≤ 230) (hb : b ≤ 301) : skF T t b ≤ 301 := by
  by_cases z : b ≤ t
  · have := (skF_r (T := T) z).2; omega
  · rw [skF_f (T := T) (t := t) (a := b) (by rw [lk_end (by omega)]; decide)]; exact hb
theorem skQ_cOk {T : Nat → Int32} {t b : Nat} {q : zCur} (h : cOk q b) : cOk (skQ T t q) (skF T t b) := by
  cases q with
  | inl a =>
    intro x hx
    have := h a rfl
    subst this
    cases hx; rfl
  | inr p => intro x hx; cases hx
section T10
variable {d : Nat} {S : zS} {T : Nat → Int32} {t : Nat}
theorem cP_sk {O : zS} {q : zCur} {nx na : Int32} : cP O (skQ T t q) nx na = cP O q nx na := by cases q <;> rfl
theorem c_skQ {O : zS} {q : zCur} {b : Nat} {na : Int32} (hT : eqT t (O 2) T) (ht : t ≤ 230) (h1 : O 1 1 = nI t) (hb : b ≤ 1000) : zRuns gTe_skipBlanks (d + 1) [.ref 1] (encC (cP O q (nI b) na)) (fun v σ' => v = none ∧ σ' = encC (cP O (skQ T t q) (nI (skF T t b)) na)) := by
  rw [cP_sk]
  exact c_skipBlanks hT ht h1 hb
def riP (S : zS) (T : Nat → Int32) (t : Nat) (L : zCur × List Nat × List Nat) (th J Y : Int32) (v : Option Value) (σ' : List va_E) : Prop :=
  ∃ O b na, v = some (.int (qw L.1)) ∧ σ' = encC (zU (cP O L.1 b na) 1 1 0) ∧ fmC S O ∧ ∀ e, L.1 = .inl e → dfC T t O L.2.1 L.2.2 ∧ O 3 0 = th ∧ O 3 1 = J ∧ O 3 2 = Y
theorem ri_loop (ht : t ≤ 230) (hc : ∀ j, j < t → T j ≠ -1) {L : zCur × List Nat × List Nat} {J Y : Int32} : ∀ F k q ms xs O b na, k ≤ 230 → eqT t (O 2) T → O 1 1 = nI t → okQ t q → b ≤ 301 → cOk q b → (∀ e, q = .inl e → k ≤ e ∧ t - e < F) → lpU T t F q ms xs = L → fmC S O → (∀ e, q = .inl e → dfC T t O ms xs ∧ O 3 0 = 1 ∧ O 3 1 = J ∧ O 3 2 = Y) →
    zGood gTe_readInto (d + 5) (riP S T t L 1 J Y) 25 [some (.ref 1), some (.ref 3), some (.int (nI k))] [] (encC (cP O q (nI b) na)) 0 0 := by
  intro F
  induction F with
  | zero =>
    intro k q ms xs O b na hk hT h1 hq hb ho hf hl fm hD
    have hl' : (q, ms, xs) = L := hl
    subst hl'
    cases q with
    | inl e => exact absurd (hf e rfl).2 (by omega)
    | inr p =>
      have fin : riP S T t (.inr p, ms, xs) 1 J Y (some (.int (qw (.inr p)))) (encC (zU (cP O (.inr p) (nI b) na) 1 1 0)) := ⟨O, nI b, na, rfl, rfl, fm, fun e he => by cases he⟩
      refine w_Te_readInto [25] ?_
      refine z_le (a := 230) (b := k) rfl rfl (by decide) (by omega) (fun q1 => fin) (fun q1 => ?_)
      refine z_le (a := t) (b := b) h1 rfl (by omega) (by omega) (fun q2 => fin) (fun q2 => ?_)
      exact br_f (qw_bad hq) fin
  | succ F ih =>
    intro k q ms xs O b na hk hT h1 hq hb ho hf hl fm hD
    cases q with
    | inr p =>
      rw [lpU_r] at hl
      subst hl
      have fin : riP S T t (.inr p, ms, xs) 1 J Y (some (.int (qw (.inr p)))) (encC (zU (cP O (.inr p) (nI b) na) 1 1 0)) := ⟨O, nI b, na, rfl, rfl, fm, fun e he => by cases he⟩
      refine w_Te_readInto [25] ?_
      refine z_le (a := 230) (b := k) rfl rfl (by decide) (by omega) (fun q1 => fin) (fun q1 => ?_)
      refine z_le (a := t) (b := b) h1 rfl (by omega) (by omega) (fun q2 => fin) (fun q2 => ?_)
      exact br_f (qw_bad hq) fin
    | inl a =>
      have eb := ho a rfl
      subst eb
      obtain ⟨ka, fa⟩ := hf a rfl
      obtain ⟨D, H0, H1, H2⟩ := hD a rfl
      rw [lpU_i] at hl
      have fin : t ≤ a → riP S T t L 1 J Y (some (.int (qw (.inl a)))) (encC (zU (cP O (.inl a) (nI a) na) 1 1 0)) := by
        intro h
        rw [if_pos (lk_end h)] at hl
        subst hl
        exact ⟨O, nI a, na, rfl, rfl, fm, fun e he => ⟨D, H0, H1, H2⟩⟩
      refine w_Te_readInto [25] ?_
      refine z_le (a := 230) (b := k) rfl rfl (by decide) (by omega) (fun q1 => fin (by omega)) (fun q1 => ?_)
      refine z_le (a := t) (b := a) h1 rfl (by omega) (by omega) (fun q2 => fin q2) (fun q2 => ?_)
      refine br_t rfl ?_
      rw [if_neg (lk_mid hc q2)] at hl
      refine z_callE (c_readClause (d := d) (S := O) (th := true) (na := na) hT ht h1 q2 H0 D.1 D.2.2.1 D.2.1 D.2.2.2.1) ?_
      rintro v σ' ⟨rfl, O', b', na', rfl, lb, ob, F1, F2, P⟩
      have hT' : eqT t (O' 2) T := by rw [F1 2 (by decide) (by decide) (by decide)]; exact hT
      have h1' : O' 1 1 = nI t := F2.trans h1
      have fm' : fmC S O' := fun c c1 c3 c4 => (F1 c c1 c3 c4).trans (fm c c1 c3 c4)
      refine z_call (c_skQ (d := d + 3) (O := O') (b := b') hT' ht h1' (by omega)) ?_
      have hs := skF_b (T := T) ht lb
      by_cases h109 : lkF T t a = 109
      · have e97 : ¬ lkF T t a = 97 := by rw [h109]; decide
        have eq : clQ T t a true ms.length xs.length = manQ T t ms.length a := by
          unfold clQ; rw [if_neg e97, if_neg (by decide), if_pos h109]
        have eP : clP O O' T t a ms.length xs.length = (frC O O' ∧ manC O O' T t ms.length a) := by
          unfold clP; rw [if_neg e97, if_pos h109]
        rw [if_pos h109] at hl
        rw [eq] at ob ⊢
        rw [eq, eP] at P
        have km := manQ_ok (T := T) (m := ms.length) q2
        refine ⟨trivial, ?_⟩
        have go := ih (k + 1) (skQ T t (manQ T t ms.length a)) (ms ++ [a]) xs O' (skF T t b') na' (by omega) hT' h1' (skQ_ok km) hs (skQ_cOk ob) (fun e he => ?_) hl fm' (fun e he => ?_)
        · rw [← nI_1] at go
          exact go
        · obtain ⟨e2, he2⟩ := skQ_good he
          have u := man_up q2 he2
          rw [he2] at he km
          have u2 := skQ_up km he
          have := D.2.2.1
          omega
        · obtain ⟨e2, he2⟩ := skQ_good he
          obtain ⟨R, Q⟩ := P ⟨e2, he2⟩
          exact ⟨dfC_man D q2 he2 Q, R.2.2.1.trans H0, R.2.2.2.1.trans H1, R.2.2.2.2.trans H2⟩
      by_cases h120 : lkF T t a = 120
      · have e97 : ¬ lkF T t a = 97 := by rw [h120]; decide
        have eq : clQ T t a true ms.length xs.length = misQ T t xs.length a := by
          unfold clQ; rw [if_neg e97, if_neg (by decide), if_neg h109, if_pos h120]
        have eP : clP O O' T t a ms.length xs.length = (frC O O' ∧ misC O O' T t xs.length a) := by
          unfold clP; rw [if_neg e97, if_neg h109]
        rw [if_neg h109, if_pos h120] at hl
        rw [eq] at ob ⊢
        rw [eq, eP] at P
        have km := misQ_ok (T := T) (m := xs.length) q2
        refine ⟨trivial, ?_⟩
        have go := ih (k + 1) (skQ T t (misQ T t xs.length a)) ms (xs ++ [a]) O' (skF T t b') na' (by omega) hT' h1' (skQ_ok km) hs (skQ_cOk ob) (fun e he => ?_) hl fm' (fun e he => ?_)
        · rw [← nI_1] at go
          exact go
        · obtain ⟨e2, he2⟩ := skQ_good he
          have u := mis_up q2 he2
          rw [he2] at he km
          have u2 := skQ_up km he
          have := D.2.2.2.1
          omega
        · obtain ⟨e2, he2⟩ := skQ_good he
          obtain ⟨R, Q⟩ := P ⟨e2, he2⟩
          exact ⟨dfC_mis D q2 he2 Q, R.2.2.1.trans H0, R.2.2.2.1.trans H1, R.2.2.2.2.trans H2⟩
      rw [if_neg h109, if_neg h120] at hl
      have eq : clQ T t a true ms.length xs.length = .inr (if lkF T t a = 97 then 3 else 1, a) := by
        unfold clQ
        by_cases h97 : lkF T t a = 97
        · rw [if_pos h97, if_pos rfl, if_pos h97]
        · rw [if_neg h97, if_neg (by decide), if_neg h109, if_neg h120, if_neg h97]
      rw [eq] at ob ⊢
      refine ⟨trivial, ?_⟩
      have go := ih (k + 1) (.inr (if lkF T t a = 97 then 3 else 1, a)) ms xs O' (skF T t b') na' (by omega) hT' h1' ?_ hs (fun e he => by cases he) (fun e he => by cases he) (by rw [lpU_r]; exact hl) fm' (fun e he => by cases he)
      · rw [← nI_1] at go
        exact go
      · by_cases h97 : lkF T t a = 97
        · rw [if_pos h97]; exact ⟨(by decide : (1 : Nat) ≤ 3), (by decide : (3 : Nat) ≤ 3), Nat.le_of_lt q2⟩
        · rw [if_neg h97]; exact ⟨(by decide : (1 : Nat) ≤ 1), (by decide : (1 : Nat) ≤ 3), Nat.le_of_lt q2⟩
end T10
