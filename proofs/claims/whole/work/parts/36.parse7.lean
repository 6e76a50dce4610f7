/-! reading, the reference: town -/
theorem okQ_rd {T : Nat → Int32} {t : Nat} : ∀ f q ms xs, okQ t q → okQ t (lpU T t f q ms xs).1 := by
  intro f
  induction f with
  | zero => intro q ms xs h; exact h
  | succ f ih =>
    intro q ms xs h
    cases q with
    | inr p => rw [lpU_r]; exact h
    | inl a =>
      rw [lpU_i]
      by_cases h1 : lkF T t a = -1
      · rw [if_pos h1]; exact h
      rw [if_neg h1]
      have ha : a < t := lk_lt h1
      by_cases h2 : lkF T t a = 109
      · rw [if_pos h2]; exact ih _ _ _ (skQ_ok (manQ_ok ha))
      rw [if_neg h2]
      by_cases h3 : lkF T t a = 120
      · rw [if_pos h3]; exact ih _ _ _ (skQ_ok (misQ_ok ha))
      rw [if_neg h3]
      by_cases h5 : lkF T t a = 97
      · rw [if_pos h5]; exact ⟨(by decide : (1 : Nat) ≤ 3), (by decide : (3 : Nat) ≤ 3), h⟩
      · rw [if_neg h5]; exact ⟨(by decide : (1 : Nat) ≤ 1), (by decide : (1 : Nat) ≤ 3), h⟩
theorem rdL_ok {T : Nat → Int32} {t a : Nat} (ha : a ≤ t) : okQ t (rdL T t a).1 := okQ_rd _ _ _ _ (skQ_ok (wdQ_ok (by decide) (nmQ_ok (nmQ_ok (wdQ_ok (by decide) ha)))))
section P8
variable {d : Nat} {M : zS} {t : Nat}
theorem town_tail {N : zS} {q : zCur} {fl : Int32} {u : Option Value} (hq : okQ t q) (hL : (twL (M 1) t).1 = q) (F : frM M N) (hfl : fl = bI (twE (M 1) t)) (hD : ∀ e, q = .inl e → dfP (M 1) t N (twL (M 1) t).2.1 (twL (M 1) t).2.2 ∧ N 0 11 = twJ (M 1) t ∧ N 0 12 = twY (M 1) t) : zGood gM_town (d + 5) (tnQ M t) 59 [some (.ref 0), some (.int fl), u] [] (encM (mP N q)) 0 0 := by
  refine w_M_town [59, 117] ?_
  cases q with
  | inr p =>
    refine br_f (qw_bad hq) ?_
    refine br_f (qw_bad hq) ?_
    refine ⟨fun e he => ?_, fun p' hp => ?_⟩
    · rw [hL] at he; cases he
    · rw [hL] at hp; cases hp
      exact ⟨N, rfl, rfl, F⟩
  | inl e =>
    refine br_t rfl ?_
    refine br_t rfl ?_
    have fin : ∀ b, b = twB (M 1) t → tnQ M t (some (.int (twn1 N e b 0 6))) (encM (twnE (twn1 N e b))) := by
      intro b hb
      subst hb
      refine ⟨fun e' he => ?_, fun p hp => ?_⟩
      · rw [hL] at he; cases he
        exact ⟨N, rfl, rfl, F, hD e rfl⟩
      · rw [hL] at hp; cases hp
    subst hfl
    refine z_b (fun h => ?_) (fun h => ?_)
    · refine ⟨Or.inr rfl, ?_⟩
      refine z_call (c_M_takes (M := zU (zU (zU (mP N (.inl e)) 0 1 0) 0 2 (-1)) 0 3 1)) ?_
      exact ⟨trivial, town_end (E := twn1 N e 1) (fin 1 (by unfold twB; rw [h]; rfl))⟩
    · refine ⟨Or.inl rfl, ?_⟩
      refine z_call (c_M_takes (M := zU (zU (zU (mP N (.inl e)) 0 1 0) 0 2 (-1)) 0 3 0)) ?_
      exact ⟨trivial, town_end (E := twn1 N e 0) (fin 0 (by unfold twB; rw [h]; rfl))⟩
theorem c_M_town (ht : t ≤ 230) (h1 : M 0 1 = nI t) : zRuns gM_town (d + 5) [.ref 0] (encM M) (tnQ M t) := by
  have hs := (skF_r (T := M 1) (Nat.zero_le t)).2
  refine m_M_town [59, 117] rfl (Nat.le_of_ble_eq_true rfl) ?_
  refine z_call (σ1 := encM (mP M (.inl (skF (M 1) t 0)))) (by
    have := c_M_skips (d := d + 3) (M := mP M (.inl 0)) (a := 0) ht h1 rfl (Nat.zero_le t)
    unfold mP at this ⊢
    rw [zU_zU] at this
    exact this) ?_
  refine z_call (lk3 (N := M) (T := M 1) rfl ht h1 hs) ?_
  refine ⟨fun h => ?_, fun h => ?_⟩
  · have hE : twE (M 1) t = true := decide_eq_true h
    refine br_f (by decide) ?_
    have hL : twL (M 1) t = (.inl (skF (M 1) t 0), [], []) := by unfold twL; rw [if_pos hE]
    refine ⟨trivial, town_tail (M := M) (N := zU (zU (zU (zU M 0 11 0) 0 12 0) 0 13 0) 0 14 0) (q := .inl (skF (M 1) t 0)) hs (by rw [hL]) ⟨fun c h0 _ _ _ => by rw [zU_k h0, zU_k h0, zU_k h0, zU_k h0], fun j j1 j2 j3 j4 => by rw [zU_s, upd_n j4, zU_s, upd_n j3, zU_s, upd_n j2, zU_s, upd_n j1]⟩ (by rw [hE]; rfl) (fun e he => ?_)⟩
    rw [hL]
    exact ⟨⟨rfl, rfl, Nat.zero_le _, Nat.zero_le _, fun m hm => absurd hm (Nat.not_lt_zero m), fun m hm => absurd hm (Nat.not_lt_zero m)⟩, by unfold twJ; rw [if_pos hE]; rfl, by unfold twY; rw [if_pos hE]; rfl⟩
  · have hE : twE (M 1) t = false := decide_eq_false h
    refine br_t rfl ?_
    have hL : twL (M 1) t = rdL (M 1) t (skF (M 1) t 0) := by unfold twL; rw [hE]; rfl
    refine z_callE (c_M_reads (M := M) (a := skF (M 1) t 0) ht h1 hs) ?_
    rintro v σ' ⟨rfl, N, rfl, F, D⟩
    refine ⟨trivial, town_tail (M := M) (rdL_ok hs) (by rw [hL]) F (by rw [hE]; rfl) (fun e he => ?_)⟩
    obtain ⟨d1, d2, d3⟩ := D e he
    rw [hL]
    exact ⟨d1, by unfold twJ; rw [hE]; exact d2, by unfold twY; rw [hE]; exact d3⟩
end P8
