/-! reading, the class: readInto -/
def emF (S : zS) : zS := zU (zU (zU (zU (zU S 3 0 0) 3 1 0) 3 2 0) 3 3 0) 3 4 0
theorem cl_rd {T : Nat → Int32} {t a dm dx : Nat} (hs : skF T t a = a) : clQ T t a false dm dx = rd3 T t a := by
  unfold clQ
  by_cases h97 : lkF T t a = 97
  · rw [if_pos h97, if_neg (by decide)]
  · rw [if_neg h97, if_pos rfl]
    have e0 : rd0 T t a = .inr (1, a) := by
      unfold rd0
      rw [wdQ_i, hs, if_neg h97]
    unfold rd3 rd2 rd1
    rw [e0]
    rfl
section T11
variable {d : Nat} {S : zS} {T : Nat → Int32} {t : Nat}
theorem c_readInto (hT : eqT t (S 2) T) (ht : t ≤ 230) (h1 : S 1 1 = nI t) (hc : ∀ j, j < t → T j ≠ -1) : zRuns gTe_readInto (d + 5) [.ref 1, .ref 3] (encC S) (riP S T t (twL T t) (twB T t) (twJ T t) (twY T t)) := by
  have fm0 : fmC S (emF S) := fun c _ c3 _ => by unfold emF; rw [zU_k c3, zU_k c3, zU_k c3, zU_k c3, zU_k c3]
  have hT0 : eqT t (emF S 2) T := hT
  have h10 : emF S 1 1 = nI t := h1
  have e30 : emF S 3 0 = 0 := rfl
  have e31 : emF S 3 1 = 0 := rfl
  have e32 : emF S 3 2 = 0 := rfl
  have e33 : emF S 3 3 = nI 0 := rfl
  have e34 : emF S 3 4 = nI 0 := rfl
  refine m_Te_readInto [25] rfl (Nat.le_of_ble_eq_true rfl) ?_
  refine z_call (σ1 := encC (emF S)) c_empty ?_
  generalize emF S = O at *
  refine z_call (c_skipBlanks (d := d + 3) (S := O) (q := .inl 0) (b := 0) (na := O 1 5) hT0 ht h10 (by omega)) ?_
  have ha := (skF_r (T := T) (Nat.zero_le t)).2
  have hss : skF T t (skF T t 0) = skF T t 0 := skF_id
  refine ⟨trivial, w_Te_readInto [25] ?_⟩
  refine z_le (a := 230) (b := 0) rfl rfl (by decide) (by decide) (fun q1 => absurd q1 (by decide)) (fun q1 => ?_)
  refine z_le (a := t) (b := skF T t 0) h10 rfl (by omega) (by omega) (fun q2 => ?_) (fun q2 => ?_)
  · have hE : twE T t = true := decide_eq_true (lk_end q2)
    have hL : twL T t = (.inl (skF T t 0), [], []) := by unfold twL; rw [if_pos hE]
    have hB : twB T t = 0 := by unfold twB; rw [if_pos hE]
    have hJ : twJ T t = 0 := by unfold twJ; rw [if_pos hE]
    have hY : twY T t = 0 := by unfold twY; rw [if_pos hE]
    rw [hL, hB, hJ, hY]
    exact ⟨O, nI (skF T t 0), O 1 5, rfl, rfl, fm0, fun e he => ⟨⟨e33, e34, Nat.zero_le _, Nat.zero_le _, fun m hm => absurd hm (Nat.not_lt_zero m), fun m hm => absurd hm (Nat.not_lt_zero m)⟩, e30, e31, e32⟩⟩
  · have hE : twE T t = false := decide_eq_false (lk_mid hc q2)
    have hL : twL T t = rdL T t (skF T t 0) := by unfold twL; rw [hE]; rfl
    have hB : twB T t = 1 := by unfold twB; rw [hE]; rfl
    have hJ : twJ T t = nmV T t (rd0 T t (skF T t 0)) := by unfold twJ; rw [hE]; rfl
    have hY : twY T t = nmV T t (rd1 T t (skF T t 0)) := by unfold twY; rw [hE]; rfl
    rw [hL, hB, hJ, hY]
    generalize skF T t 0 = a at *
    refine br_t rfl ?_
    refine z_callE (c_readClause (d := d) (S := O) (th := false) (na := O 1 5) (a := a) (dm := 0) (dx := 0) hT0 ht h10 q2 e30 e33 (by decide) e34 (by decide)) ?_
    rintro v σ' ⟨rfl, O', b', na', rfl, lb, ob, F1, F2, P⟩
    rw [cl_rd hss] at ob P ⊢
    have k0 : okQ t (rd0 T t a) := wdQ_ok (by decide) ha
    have k1 : okQ t (rd1 T t a) := nmQ_ok k0
    have k2 : okQ t (rd2 T t a) := nmQ_ok k1
    have k3 : okQ t (rd3 T t a) := wdQ_ok (by decide) k2
    have hT' : eqT t (O' 2) T := by rw [F1 2 (by decide) (by decide) (by decide)]; exact hT0
    have h1' : O' 1 1 = nI t := F2.trans h10
    refine z_call (c_skQ (d := d + 3) (O := O') (b := b') hT' ht h1' (by omega)) ?_
    have hs := skF_b (T := T) ht lb
    refine ⟨trivial, ?_⟩
    have go := ri_loop (d := d) (S := S) ht hc (L := rdL T t a) (J := nmV T t (rd0 T t a)) (Y := nmV T t (rd1 T t a)) (t + 1) 1 (skQ T t (rd3 T t a)) [] [] O' (skF T t b') na' (by decide) hT' h1' (skQ_ok k3) hs (skQ_cOk ob) (fun e he => ?_) rfl (fun c c1 c3 c4 => (F1 c c1 c3 c4).trans (fm0 c c1 c3 c4)) (fun e he => ?_)
    · exact go
    · refine ⟨?_, by omega⟩
      obtain ⟨e3, he3⟩ := skQ_good he
      rw [he3] at he k3
      have u := skQ_up k3 he
      obtain ⟨e2, he2⟩ := wdQ_good (show wdQ T t 59 (rd2 T t a) = .inl e3 from he3)
      rw [he2] at k2
      have u2 := wdQ_up k2 (show wdQ T t 59 (.inl e2) = .inl e3 by rw [← he2]; exact he3)
      omega
    · obtain ⟨e3, he3⟩ := skQ_good he
      have Q := P ⟨e3, he3⟩
      obtain ⟨e2, he2⟩ := wdQ_good (show wdQ T t 59 (rd2 T t a) = .inl e3 from he3)
      obtain ⟨e1, he1, -⟩ := nmQ_good (show nmQ T t 1 500 (rd1 T t a) = .inl e2 from he2)
      obtain ⟨e0, he0, -⟩ := nmQ_good (show nmQ T t 0 6 (rd0 T t a) = .inl e1 from he1)
      have h97 : lkF T t a = 97 := by
        unfold rd0 at he0
        rw [wdQ_i, hss] at he0
        by_cases z : lkF T t a = 97
        · exact z
        · rw [if_neg z] at he0; cases he0
      unfold clP at Q
      rw [if_pos h97] at Q
      obtain ⟨x, y, rfl, hx, hy⟩ := Q
      exact ⟨⟨e33, e34, by decide, by decide, fun m hm => absurd hm (Nat.not_lt_zero m), fun m hm => absurd hm (Nat.not_lt_zero m)⟩, rfl, hx, hy⟩
end T11
