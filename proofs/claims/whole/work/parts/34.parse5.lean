/-! reading, the reference: reads -/
theorem frM_tr {M N O : zS} (a : frM M N) (b : frM N O) : frM M O := ⟨fun c h0 h5 h6 h7 => (b.1 c h0 h5 h6 h7).trans (a.1 c h0 h5 h6 h7), fun j h1 h2 h3 h4 => (b.2 j h1 h2 h3 h4).trans (a.2 j h1 h2 h3 h4)⟩
theorem manQ_ok {T : Nat → Int32} {t m a : Nat} (ha : a < t) : okQ t (manQ T t m a) := by
  unfold manQ
  split
  · exact ⟨(by decide : (1 : Nat) ≤ 3), (by decide : (3 : Nat) ≤ 3), Nat.le_of_lt ha⟩
  · have k0 : okQ t (mn0 a) := ha
    have k1 : okQ t (mn1 T t a) := nmQ_ok k0
    have k2 : okQ t (mn2 T t a) := nmQ_ok k1
    have k3 : okQ t (mn3 T t a) := nmQ_ok k2
    have k4 : okQ t (mn4 T t a) := skQ_ok k3
    have k5 : okQ t (mn5 T t a) := rwU_ok k4 6
    exact wdQ_ok (by decide) k5
theorem misQ_ok {T : Nat → Int32} {t m a : Nat} (ha : a < t) : okQ t (misQ T t m a) := by
  unfold misQ
  split
  · exact ⟨(by decide : (1 : Nat) ≤ 3), (by decide : (3 : Nat) ≤ 3), Nat.le_of_lt ha⟩
  · have k0 : okQ t (xs0 a) := ha
    have k1 : okQ t (xs1 T t a) := nmQ_ok k0
    have k2 : okQ t (xs2 T t a) := nmQ_ok k1
    have k3 : okQ t (xs3 T t a) := nmQ_ok k2
    have k4 : okQ t (xs4 T t a) := nmQ_ok k3
    have k5 : okQ t (xs5 T t a) := nmQ_ok k4
    have k6 : okQ t (xs6 T t a) := skQ_ok k5
    have k7 : okQ t (xs7 T t a) := nmQ_ok k6
    have k8 : okQ t (xs8 T t m a) := orQ_ok k7 (qn_ok k6)
    exact wdQ_ok (by decide) k8
theorem lk_in {T : Nat → Int32} {t a : Nat} {c : Int32} (hc : c ≠ -1) (h : lkF T t a = c) : a < t := lk_lt (T := T) (by rw [h]; exact hc)
section P5
variable {d : Nat} {M : zS} {t : Nat}
theorem wd3 {N : zS} {T : Nat → Int32} {q : zCur} {w : Int32} (hT : N 1 = T) (ht : t ≤ 230) (h1 : N 0 1 = nI t) (hq : okQ t q) : zRuns gM_word (d + 2) [.ref 0, .int w] (encM (mP N q)) (fun v σ' => v = none ∧ σ' = encM (mP N (wdQ T t w q))) := by
  subst hT
  exact c_M_word ht h1 hq
theorem sk3 {N : zS} {T : Nat → Int32} {q : zCur} (hT : N 1 = T) (ht : t ≤ 230) (h1 : N 0 1 = nI t) (hq : okQ t q) : zRuns gM_skipsIfWell (d + 2) [.ref 0] (encM (mP N q)) (fun v σ' => v = none ∧ σ' = encM (mP N (skQ T t q))) := by
  subst hT
  exact c_M_skipsQ ht h1 hq
theorem lk3 {N : zS} {T : Nat → Int32} {a : Nat} (hT : N 1 = T) (ht : t ≤ 230) (h1 : N 0 1 = nI t) (ha : a ≤ t) : zRuns gM_look d [.ref 0] (encM (mP N (.inl a))) (fun v σ' => v = some (.int (lkF T t a)) ∧ σ' = encM (mP N (.inl a))) := by
  subst hT
  exact c_M_look (M := mP N (.inl a)) ht h1 rfl (by omega)
theorem c_M_reads {a : Nat} (ht : t ≤ 230) (h1 : M 0 1 = nI t) (ha : a ≤ t) : zRuns gM_reads (d + 4) [.ref 0] (encM (mP M (.inl a))) (fun v σ' => v = none ∧ ∃ N, σ' = encM (mP N (rdL (M 1) t a).1) ∧ frM M N ∧ ∀ e, (rdL (M 1) t a).1 = .inl e → dfP (M 1) t N (rdL (M 1) t a).2.1 (rdL (M 1) t a).2.2 ∧ N 0 11 = nmV (M 1) t (rd0 (M 1) t a) ∧ N 0 12 = nmV (M 1) t (rd1 (M 1) t a)) := by
  have k0 : okQ t (rd0 (M 1) t a) := wdQ_ok (by decide) ha
  have k1 : okQ t (rd1 (M 1) t a) := nmQ_ok k0
  have k2 : okQ t (rd2 (M 1) t a) := nmQ_ok k1
  have k3 : okQ t (rd3 (M 1) t a) := wdQ_ok (by decide) k2
  have k4 : okQ t (rd4 (M 1) t a) := skQ_ok k3
  have loop : ∀ f q ms xs N, okQ t q → (∀ b, q = .inl b → t - b < f) → frM M N → lpU (M 1) t f q ms xs = rdL (M 1) t a → (∀ e, q = .inl e → dfP (M 1) t N ms xs ∧ ((∃ e4, rd4 (M 1) t a = .inl e4) → N 0 11 = nmV (M 1) t (rd0 (M 1) t a) ∧ N 0 12 = nmV (M 1) t (rd1 (M 1) t a))) → (∀ e, q = .inl e → ∃ e4, rd4 (M 1) t a = .inl e4) →
      zGood gM_reads (d + 4) (fun v σ' => v = none ∧ ∃ N, σ' = encM (mP N (rdL (M 1) t a).1) ∧ frM M N ∧ ∀ e, (rdL (M 1) t a).1 = .inl e → dfP (M 1) t N (rdL (M 1) t a).2.1 (rdL (M 1) t a).2.2 ∧ N 0 11 = nmV (M 1) t (rd0 (M 1) t a) ∧ N 0 12 = nmV (M 1) t (rd1 (M 1) t a)) 49 [some (.ref 0)] [] (encM (mP N q)) 0 0 := by
    generalize hL : rdL (M 1) t a = L
    intro f
    induction f with
    | zero =>
      intro q ms xs N hq hf F hl hD hG
      cases q with
      | inl b => exact absurd (hf b rfl) (by omega)
      | inr p =>
        refine w_M_reads [49] ?_
        refine br_f (qw_bad hq) ?_
        refine ⟨rfl, N, ?_, F, fun e he => ?_⟩
        · rw [← hl]; rfl
        · rw [← hl] at he; cases he
    | succ f ih =>
      intro q ms xs N hq hf F hl hD hG
      refine w_M_reads [49] ?_
      have g1 : N 0 1 = nI t := (F.2 1 (by decide) (by decide) (by decide) (by decide)).trans h1
      have gT : N 1 = M 1 := F.1 1 (by decide) (by decide) (by decide) (by decide)
      cases q with
      | inr p =>
        rw [lpU_r] at hl
        refine br_f (qw_bad hq) ?_
        refine ⟨rfl, N, ?_, F, fun e he => ?_⟩
        · rw [← hl]
        · rw [← hl] at he; cases he
      | inl b =>
        obtain ⟨D, J⟩ := hD b rfl
        obtain ⟨e4, he4⟩ := hG b rfl
        have J := J ⟨e4, he4⟩
        rw [lpU_i] at hl
        refine br_t rfl ?_
        refine z_call (lk3 gT ht g1 hq) ?_
        refine ⟨fun h => ?_, fun h => ?_⟩
        · rw [if_pos h] at hl
          subst hl
          exact ⟨rfl, N, rfl, F, fun e he => ⟨D, J⟩⟩
        rw [if_neg h] at hl
        have hb : b < t := lk_lt (T := M 1) h
        refine z_call (lk3 gT ht g1 hq) ?_
        refine ⟨fun h2 => ?_, fun h2 => ?_⟩
        · rw [if_pos h2] at hl
          have rm := c_M_readsMan (d := d) (M := N) (dm := ms.length) (a := b) ht g1 D.1 D.2.2.1 hb
          rw [gT] at rm
          refine z_callE rm ?_
          rintro v σ' ⟨rfl, O, rfl, FO, PO⟩
          have F2 := frM_tr F FO
          have o1 : O 0 1 = nI t := (F2.2 1 (by decide) (by decide) (by decide) (by decide)).trans h1
          have oT : O 1 = M 1 := F2.1 1 (by decide) (by decide) (by decide) (by decide)
          have km := manQ_ok (T := M 1) (m := ms.length) hb
          refine z_call (sk3 (d := d + 1) oT ht o1 km) ?_
          refine ⟨trivial, ih _ _ _ O (skQ_ok km) (fun c hc => ?_) F2 hl (fun c hc => ?_) (fun _ _ => ⟨e4, he4⟩)⟩
          · obtain ⟨e, he⟩ := skQ_good hc
            have u := man_up hb he
            rw [he] at hc km
            have u2 := skQ_up km hc
            have := hf b rfl
            have := D.2.2.1
            omega
          · obtain ⟨e, he⟩ := skQ_good hc
            have P := PO e he
            rw [← gT] at D he J ⊢
            exact ⟨dfP_man D hb he P, fun _ => ⟨P.2.1.trans J.1, P.2.2.1.trans J.2⟩⟩
        rw [if_neg h2] at hl
        refine z_call (lk3 gT ht g1 hq) ?_
        refine ⟨fun h3 => ?_, fun h3 => ?_⟩
        · rw [if_pos h3] at hl
          have rm := c_M_readsMishap (d := d) (M := N) (dx := xs.length) (a := b) ht g1 D.2.1 D.2.2.2.1 hb
          rw [gT] at rm
          refine z_callE rm ?_
          rintro v σ' ⟨rfl, O, rfl, FO, PO⟩
          have F2 := frM_tr F FO
          have o1 : O 0 1 = nI t := (F2.2 1 (by decide) (by decide) (by decide) (by decide)).trans h1
          have oT : O 1 = M 1 := F2.1 1 (by decide) (by decide) (by decide) (by decide)
          have km := misQ_ok (T := M 1) (m := xs.length) hb
          refine z_call (sk3 (d := d + 1) oT ht o1 km) ?_
          refine ⟨trivial, ih _ _ _ O (skQ_ok km) (fun c hc => ?_) F2 hl (fun c hc => ?_) (fun _ _ => ⟨e4, he4⟩)⟩
          · obtain ⟨e, he⟩ := skQ_good hc
            have u := mis_up hb he
            rw [he] at hc km
            have u2 := skQ_up km hc
            have := hf b rfl
            have := D.2.2.2.1
            omega
          · obtain ⟨e, he⟩ := skQ_good hc
            have P := PO e he
            rw [← gT] at D he J ⊢
            exact ⟨dfP_mis D hb he P, fun _ => ⟨P.2.1.trans J.1, P.2.2.1.trans J.2⟩⟩
        rw [if_neg h3] at hl
        refine z_call (lk3 gT ht g1 hq) ?_
        have kb : ∀ c, 1 ≤ c → c ≤ 3 → okQ t (.inr (c, b)) := fun c c1 c3 => ⟨c1, c3, hq⟩
        refine ⟨fun h5 => ?_, fun h5 => ?_⟩
        · rw [if_pos h5] at hl
          refine z_call (c_M_failQ (M := N) (q := .inl b) (c := 3)) ?_
          refine z_call (sk3 (d := d + 1) (N := N) (q := .inr (3, b)) gT ht g1 (kb 3 (by decide) (by decide))) ?_
          exact ⟨trivial, ih (.inr (3, b)) ms xs N (kb 3 (by decide) (by decide)) (fun c hc => by cases hc) F (by rw [lpU_r]; exact hl) (fun c hc => by cases hc) (fun c hc => by cases hc)⟩
        · rw [if_neg h5] at hl
          refine z_call (c_M_failQ (M := N) (q := .inl b) (c := 1)) ?_
          refine z_call (sk3 (d := d + 1) (N := N) (q := .inr (1, b)) gT ht g1 (kb 1 (by decide) (by decide))) ?_
          exact ⟨trivial, ih (.inr (1, b)) ms xs N (kb 1 (by decide) (by decide)) (fun c hc => by cases hc) F (by rw [lpU_r]; exact hl) (fun c hc => by cases hc) (fun c hc => by cases hc)⟩
  refine m_M_reads [49] rfl (Nat.le_of_ble_eq_true rfl) ?_
  refine z_call (wd3 (d := d + 1) (N := zU (zU M 0 13 0) 0 14 0) (q := .inl a) (T := M 1) rfl ht h1 ha) ?_
  rw [show wdQ (M 1) t 97 (.inl a) = rd0 (M 1) t a from rfl]
  refine z_callE (num3 (d := d + 1) (N := zU (zU M 0 13 0) 0 14 0) (q := rd0 (M 1) t a) (T := M 1) rfl ht h1 k0) ?_
  rintro v σ' ⟨x0, rfl, rfl, hx0⟩
  refine z_callE (num3 (d := d + 1) (N := zU (zU (zU M 0 13 0) 0 14 0) 0 11 x0) (q := rd1 (M 1) t a) (T := M 1) rfl ht h1 k1) ?_
  rintro v σ' ⟨x1, rfl, rfl, hx1⟩
  refine z_call (wd3 (d := d + 1) (N := zU (zU (zU (zU M 0 13 0) 0 14 0) 0 11 x0) 0 12 x1) (q := rd2 (M 1) t a) (T := M 1) rfl ht h1 k2) ?_
  refine z_call (sk3 (d := d + 1) (N := zU (zU (zU (zU M 0 13 0) 0 14 0) 0 11 x0) 0 12 x1) (q := rd3 (M 1) t a) (T := M 1) rfl ht h1 k3) ?_
  refine ⟨trivial, loop (t + 1) (rd4 (M 1) t a) [] [] (zU (zU (zU (zU M 0 13 0) 0 14 0) 0 11 x0) 0 12 x1) k4 (fun b _ => by omega) ⟨fun c h0 _ _ _ => by rw [zU_k h0, zU_k h0, zU_k h0, zU_k h0], fun j j1 j2 j3 j4 => by rw [zU_s, upd_n j2, zU_s, upd_n j1, zU_s, upd_n j4, zU_s, upd_n j3]⟩ rfl (fun e he => ⟨⟨rfl, rfl, by decide, by decide, fun m hm => absurd hm (Nat.not_lt_zero m), fun m hm => absurd hm (Nat.not_lt_zero m)⟩, fun ⟨e4, he4⟩ => ?_⟩) (fun e he => ⟨e, he⟩)⟩
  obtain ⟨e3, he3⟩ := skQ_good (show skQ (M 1) t (rd3 (M 1) t a) = .inl e4 from he4)
  obtain ⟨e2, he2⟩ := wdQ_good (show wdQ (M 1) t 59 (rd2 (M 1) t a) = .inl e3 from he3)
  obtain ⟨e1, he1, -⟩ := nmQ_good (show nmQ (M 1) t 1 500 (rd1 (M 1) t a) = .inl e2 from he2)
  exact ⟨hx0 ⟨e1, he1⟩, hx1 ⟨e2, he2⟩⟩
end P5
