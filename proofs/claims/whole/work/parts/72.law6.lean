/-! the law: its loop -/
theorem l_nlt {j L : Nat} (h : j + 4 ≤ L) (hL : L ≤ 300) : ¬ Int32.ofNat L - 4 < nI j := by
  rw [show Int32.ofNat L - 4 = nI L - nI 4 from rfl, pk_sub (by omega)]
  exact nI_nlt (by omega) (by omega)
theorem l_lt {j L : Nat} (h : L < j + 4) (hL : L ≤ 300) (hj : j ≤ 300) : Int32.ofNat L - 4 < nI j := by
  rw [show Int32.ofNat L - 4 = nI L - nI 4 from rfl]
  by_cases z : 4 ≤ L
  · rw [pk_sub z]; exact nI_lt (by omega) (by omega)
  · exact Int32.lt_of_lt_of_le (pk_sneg (by omega) (by omega)) (nI_pos' (by omega))
section LL
variable {p : Program} {l : Launch} {e : Env} {s : State} {m : MethodId} {below : List Frame} {meth : Method} {c : Code} {b L : Nat} {xs : Nat → Int32} {cs : ClassId × ClassId × ClassId} {D : va_G}
theorem l_tsw : decode code 32 = .ok (.tableswitch 896 0 29 #[136, 159, 172, 185, 208, 241, 274, 307, 340, 373, 416, 429, 452, 475, 498, 511, 534, 557, 580, 593, 636, 669, 702, 745, 768, 801, 814, 827, 850, 873], 136) := by decide +kernel
theorem law_loop (C0 : lw_At p s m meth c b L xs) (hL : L ≤ 256) (hK : zK cs D s) : ∀ (f j : Nat) (S M : zS), L + 4 ≤ j + 4 * f → j ≤ 260 → Inv S M → lG p l e s m below meth c b cs D 18 (nI j) S M := by
  intro f
  induction f with
  | zero =>
    intro j S M hf hj hI ad ad2 H locs lr hP hD hS hl
    obtain ⟨hx, hb, hr, hml, hown, hts, hX, hbl, hlocks, hgv⟩ := id C0
    have hbA : ¬ (fun q : Nat => s.heap.size ≤ q) b := Nat.not_le.mpr hbl
    refine lv_iload_n hx hb (show decode code 18 = .ok (.iload_n 3, 1) by decide +kernel) rfl (lv_at hl 3 rfl) ?_
    refine lv_aload_n hx hb (show decode code 19 = .ok (.aload_n 0, 1) by decide +kernel) rfl (lv_at hl 0 rfl) ?_
    refine va_slen hx hb hX hbl hbA hS (show decode code 20 = .ok (.arraylength, 1) by decide +kernel) ?_
    refine lv_iconst (v := 4) hx hb (show decode code 21 = .ok (.iconst 4, 1) by decide +kernel) (by decide) ?_
    refine lv_isub hx hb (show decode code 22 = .ok (.isub, 1) by decide +kernel) ?_
    refine lv_icmp_gt (tgt := 934) hx hb (show decode code 23 = .ok (.if_icmp .gt 911, 3) by decide +kernel) (by decide) (fun _ => ?_) (fun q => absurd (l_lt (by omega) (by omega) (by omega)) q)
    refine lv_iconst (v := 1) hx hb (show decode code 934 = .ok (.iconst 1, 1) by decide +kernel) (by decide) ?_
    refine va_forget (fun q hq => hS.2.2 q hq) ?_
    refine W.widen (k := 600000) (n := 7302250) (by decide) (by decide) ?_
    exact lw_ret hx hb hr hlocks (show decode code 935 = .ok (.ireturn, 1) by decide +kernel)
  | succ f ih =>
    intro j S M hf hj hI ad ad2 H locs lr hP hD hS hl
    obtain ⟨hx, hb, hr, hml, hown, hts, hX, hbl, hlocks, hgv⟩ := id C0
    have hbA : ¬ (fun q : Nat => s.heap.size ≤ q) b := Nat.not_le.mpr hbl
    refine lv_iload_n hx hb (show decode code 18 = .ok (.iload_n 3, 1) by decide +kernel) rfl (lv_at hl 3 rfl) ?_
    refine lv_aload_n hx hb (show decode code 19 = .ok (.aload_n 0, 1) by decide +kernel) rfl (lv_at hl 0 rfl) ?_
    refine va_slen hx hb hX hbl hbA hS (show decode code 20 = .ok (.arraylength, 1) by decide +kernel) ?_
    refine lv_iconst (v := 4) hx hb (show decode code 21 = .ok (.iconst 4, 1) by decide +kernel) (by decide) ?_
    refine lv_isub hx hb (show decode code 22 = .ok (.isub, 1) by decide +kernel) ?_
    by_cases hj4 : j + 4 ≤ L
    rotate_left
    · refine lv_icmp_gt (tgt := 934) hx hb (show decode code 23 = .ok (.if_icmp .gt 911, 3) by decide +kernel) (by decide) (fun _ => ?_) (fun q => absurd (l_lt (by omega) (by omega) (by omega)) q)
      refine lv_iconst (v := 1) hx hb (show decode code 934 = .ok (.iconst 1, 1) by decide +kernel) (by decide) ?_
      refine va_forget (fun q hq => hS.2.2 q hq) ?_
      refine W.widen (k := 600000) (n := 7302250) (by decide) (by decide) ?_
      exact lw_ret hx hb hr hlocks (show decode code 935 = .ok (.ireturn, 1) by decide +kernel)
    have next : ∀ S' M', Inv S' M' → lG p l e s m below meth c b cs D 928 (nI j) S' M' := by
      intro S' M' hI' ad ad2 H locs lr hP hD hS hl
      refine lv_iinc (v := nI (j + 4)) (lv' := [(3, .int (nI (j + 4))), (0, .ref b), (1, .ref (ad 0)), (2, .ref (ad2 0))]) hx hb (show decode code 928 = .ok (.iinc 3 4, 3) by decide +kernel) hl (k := 3) rfl (by rw [← nI_add]; rfl) (by decide) rfl (fun ls hl2 => ?_)
      refine lv_goto (tgt := 18) hx hb (show decode code 931 = .ok (.goto (-913), 3) by decide +kernel) (by decide) ?_
      exact ih (j + 4) S' M' (by omega) (by omega) hI' ad ad2 H locs ls hP hD hS (lv_sub hl2 [1, 2, 3, 0] rfl)
    refine lv_icmp_gt (tgt := 934) hx hb (show decode code 23 = .ok (.if_icmp .gt 911, 3) by decide +kernel) (by decide) (fun q => absurd q (l_nlt hj4 (by omega))) (fun _ => ?_)
    refine lv_aload_n hx hb (show decode code 26 = .ok (.aload_n 0, 1) by decide +kernel) rfl (lv_at hl 0 rfl) ?_
    refine lv_iload_n hx hb (show decode code 27 = .ok (.iload_n 3, 1) by decide +kernel) rfl (lv_at hl 3 rfl) ?_
    refine va_sld hx hb hX hbl hbA hS (vp_in_nI (show j < L by omega) (by omega)) (show decode code 28 = .ok (.iaload, 1) by decide +kernel) ?_
    refine lv_bipush (v := 31) hx hb (show decode code 29 = .ok (.bipush 31, 2) by decide +kernel) (by decide) ?_
    refine lv_iand hx hb (show decode code 31 = .ok (.iand, 1) by decide +kernel) ?_
    generalize xs (nI j).toNatClampNeg &&& 31 = x
    by_cases hr2 : x.toInt < 0 ∨ 29 < x.toInt
    · refine lv_tableOut (tgt := 928) hx hb l_tsw hr2 (by decide) ?_
      exact next S M hI ad ad2 H locs lr hP hD hS hl
    · have h8 : ¬ x.toInt < 0 := fun q => hr2 (Or.inl q)
      have h7 : ¬ 29 < x.toInt := fun q => hr2 (Or.inr q)
      obtain ⟨k, hk⟩ : ∃ k : Nat, x.toInt = (k : Int) := ⟨x.toInt.toNat, by omega⟩
      have hkl : k < 30 := by omega
      match k, hk, hkl with
      | 0, hk, _ =>
        refine lv_tableIn (off := 136) (tgt := 168) hx hb l_tsw h8 h7 (by rw [hk]; rfl) (by decide) ?_
        exact k_feed C0 hL hK hI rfl (by omega) next ad ad2 H locs lr hP hD hS hl
      | 1, hk, _ =>
        refine lv_tableIn (off := 159) (tgt := 191) hx hb l_tsw h8 h7 (by rw [hk]; rfl) (by decide) ?_
        exact k_town C0 hL hK hI rfl (by omega) next ad ad2 H locs lr hP hD hS hl
      | 2, hk, _ =>
        refine lv_tableIn (off := 172) (tgt := 204) hx hb l_tsw h8 h7 (by rw [hk]; rfl) (by decide) ?_
        exact k_fault C0 hL hK hI rfl (by omega) next ad ad2 H locs lr hP hD hS hl
      | 3, hk, _ =>
        refine lv_tableIn (off := 185) (tgt := 217) hx hb l_tsw h8 h7 (by rw [hk]; rfl) (by decide) ?_
        exact k_told C0 hL hK hI rfl (by omega) next ad ad2 H locs lr hP hD hS hl
      | 4, hk, _ =>
        refine lv_tableIn (off := 208) (tgt := 240) hx hb l_tsw h8 h7 (by rw [hk]; rfl) (by decide) ?_
        exact k_man C0 hL hK hI rfl (by omega) next ad ad2 H locs lr hP hD hS hl
      | 5, hk, _ =>
        refine lv_tableIn (off := 241) (tgt := 273) hx hb l_tsw h8 h7 (by rw [hk]; rfl) (by decide) ?_
        exact k_mishap C0 hL hK hI rfl (by omega) next ad ad2 H locs lr hP hD hS hl
      | 6, hk, _ =>
        refine lv_tableIn (off := 274) (tgt := 306) hx hb l_tsw h8 h7 (by rw [hk]; rfl) (by decide) ?_
        exact k_belief C0 hL hK hI rfl (by omega) next ad ad2 H locs lr hP hD hS hl
      | 7, hk, _ =>
        refine lv_tableIn (off := 307) (tgt := 339) hx hb l_tsw h8 h7 (by rw [hk]; rfl) (by decide) ?_
        exact k_blame C0 hL hK hI rfl (by omega) next ad ad2 H locs lr hP hD hS hl
      | 8, hk, _ =>
        refine lv_tableIn (off := 340) (tgt := 372) hx hb l_tsw h8 h7 (by rw [hk]; rfl) (by decide) ?_
        exact k_clear C0 hL hK hI rfl (by omega) next ad ad2 H locs lr hP hD hS hl
      | 9, hk, _ =>
        refine lv_tableIn (off := 373) (tgt := 405) hx hb l_tsw h8 h7 (by rw [hk]; rfl) (by decide) ?_
        exact k_walk C0 hL hK hI rfl (by omega) next ad ad2 H locs lr hP hD hS hl
      | 10, hk, _ =>
        refine lv_tableIn (off := 416) (tgt := 448) hx hb l_tsw h8 h7 (by rw [hk]; rfl) (by decide) ?_
        exact k_sunset C0 hL hK hI rfl (by omega) next ad ad2 H locs lr hP hD hS hl
      | 11, hk, _ =>
        refine lv_tableIn (off := 429) (tgt := 461) hx hb l_tsw h8 h7 (by rw [hk]; rfl) (by decide) ?_
        exact k_drift C0 hL hK hI rfl (by omega) next ad ad2 H locs lr hP hD hS hl
      | 12, hk, _ =>
        refine lv_tableIn (off := 452) (tgt := 484) hx hb l_tsw h8 h7 (by rw [hk]; rfl) (by decide) ?_
        exact k_undo C0 hL hK hI rfl (by omega) next ad ad2 H locs lr hP hD hS hl
      | 13, hk, _ =>
        refine lv_tableIn (off := 475) (tgt := 507) hx hb l_tsw h8 h7 (by rw [hk]; rfl) (by decide) ?_
        exact k_may C0 hL hK hI rfl (by omega) next ad ad2 H locs lr hP hD hS hl
      | 14, hk, _ =>
        refine lv_tableIn (off := 498) (tgt := 530) hx hb l_tsw h8 h7 (by rw [hk]; rfl) (by decide) ?_
        exact k_orphans C0 hL hK hI rfl (by omega) next ad ad2 H locs lr hP hD hS hl
      | 15, hk, _ =>
        refine lv_tableIn (off := 511) (tgt := 543) hx hb l_tsw h8 h7 (by rw [hk]; rfl) (by decide) ?_
        exact k_shared C0 hL hK hI rfl (by omega) next ad ad2 H locs lr hP hD hS hl
      | 16, hk, _ =>
        refine lv_tableIn (off := 534) (tgt := 566) hx hb l_tsw h8 h7 (by rw [hk]; rfl) (by decide) ?_
        exact k_cheapest C0 hL hK hI rfl (by omega) next ad ad2 H locs lr hP hD hS hl
      | 17, hk, _ =>
        refine lv_tableIn (off := 557) (tgt := 589) hx hb l_tsw h8 h7 (by rw [hk]; rfl) (by decide) ?_
        exact k_culprits C0 hL hK hI rfl (by omega) next ad ad2 H locs lr hP hD hS hl
      | 18, hk, _ =>
        refine lv_tableIn (off := 580) (tgt := 612) hx hb l_tsw h8 h7 (by rw [hk]; rfl) (by decide) ?_
        exact k_idle C0 hL hK hI rfl (by omega) next ad ad2 H locs lr hP hD hS hl
      | 19, hk, _ =>
        refine lv_tableIn (off := 593) (tgt := 625) hx hb l_tsw h8 h7 (by rw [hk]; rfl) (by decide) ?_
        exact k_nearer C0 hL hK hI rfl (by omega) next ad ad2 H locs lr hP hD hS hl
      | 20, hk, _ =>
        refine lv_tableIn (off := 636) (tgt := 668) hx hb l_tsw h8 h7 (by rw [hk]; rfl) (by decide) ?_
        exact k_chain C0 hL hK hI rfl (by omega) next ad ad2 H locs lr hP hD hS hl
      | 21, hk, _ =>
        refine lv_tableIn (off := 669) (tgt := 701) hx hb l_tsw h8 h7 (by rw [hk]; rfl) (by decide) ?_
        exact k_quiet C0 hL hK hI rfl (by omega) next ad ad2 H locs lr hP hD hS hl
      | 22, hk, _ =>
        refine lv_tableIn (off := 702) (tgt := 734) hx hb l_tsw h8 h7 (by rw [hk]; rfl) (by decide) ?_
        exact k_see C0 hL hK hI rfl (by omega) next ad ad2 H locs lr hP hD hS hl
      | 23, hk, _ =>
        refine lv_tableIn (off := 745) (tgt := 777) hx hb l_tsw h8 h7 (by rw [hk]; rfl) (by decide) ?_
        exact k_alibi C0 hL hK hI rfl (by omega) next ad ad2 H locs lr hP hD hS hl
      | 24, hk, _ =>
        refine lv_tableIn (off := 768) (tgt := 800) hx hb l_tsw h8 h7 (by rw [hk]; rfl) (by decide) ?_
        exact k_write C0 hL hK hI rfl (by omega) next ad ad2 H locs lr hP hD hS hl
      | 25, hk, _ =>
        refine lv_tableIn (off := 801) (tgt := 833) hx hb l_tsw h8 h7 (by rw [hk]; rfl) (by decide) ?_
        exact k_judge C0 hL hK hI rfl (by omega) next ad ad2 H locs lr hP hD hS hl
      | 26, hk, _ =>
        refine lv_tableIn (off := 814) (tgt := 846) hx hb l_tsw h8 h7 (by rw [hk]; rfl) (by decide) ?_
        exact k_tear C0 hL hK hI rfl (by omega) next ad ad2 H locs lr hP hD hS hl
      | 27, hk, _ =>
        refine lv_tableIn (off := 827) (tgt := 859) hx hb l_tsw h8 h7 (by rw [hk]; rfl) (by decide) ?_
        exact k_seed C0 hL hK hI rfl (by omega) next ad ad2 H locs lr hP hD hS hl
      | 28, hk, _ =>
        refine lv_tableIn (off := 850) (tgt := 882) hx hb l_tsw h8 h7 (by rw [hk]; rfl) (by decide) ?_
        exact k_keep C0 hL hK hI rfl (by omega) next ad ad2 H locs lr hP hD hS hl
      | 29, hk, _ =>
        refine lv_tableIn (off := 873) (tgt := 905) hx hb l_tsw h8 h7 (by rw [hk]; rfl) (by decide) ?_
        exact k_goBack C0 hL hK hI rfl (by omega) next ad ad2 H locs lr hP hD hS hl
      | k + 30, _, hkl => exact absurd hkl (by omega)
end LL
