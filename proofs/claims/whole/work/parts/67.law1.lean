/-! the law: two worlds side by side; a call out of the law's body -/
theorem lP_l {D : va_G} {cl : List vw_C} {a b : va_W} {H : Heap} (h : va_P D cl (a ++ b) H) : va_P D cl a H := fun k q hk => h k q (by rw [List.getElem?_append_left (List.getElem?_eq_some_iff.mp hk).1]; exact hk)
theorem l_ar {a b : va_W} {k : Nat} : (a ++ b)[a.length + k]? = b[k]? := by rw [List.getElem?_append_right (by omega), Nat.add_sub_cancel_left]
theorem lP_r {D : va_G} {cl : List vw_C} {a b : va_W} {H : Heap} (h : va_P D cl (a ++ b) H) : va_P D cl b H := fun k q hk => h (a.length + k) q (by rw [l_ar]; exact hk)
theorem l_al {a b : va_W} {k : Nat} {q : Nat × va_E} (hk : a[k]? = some q) : (a ++ b)[k]? = some q := by rw [List.getElem?_append_left (List.getElem?_eq_some_iff.mp hk).1]; exact hk
theorem lD_l {A : Nat → Prop} {a b : va_W} (h : va_D A (a ++ b)) : va_D A a := ⟨fun i j p q hi hj e => h.1 i j p q (l_al hi) (l_al hj) e, fun k q hk => h.2 k q (l_al hk)⟩
theorem lD_r {A : Nat → Prop} {a b : va_W} (h : va_D A (a ++ b)) : va_D A b := ⟨fun i j p q hi hj e => by
  have := h.1 (a.length + i) (a.length + j) p q (by rw [l_ar]; exact hi) (by rw [l_ar]; exact hj) e
  omega, fun k q hk => h.2 (a.length + k) q (by rw [l_ar]; exact hk)⟩
theorem lD_x {A : Nat → Prop} {a b : va_W} (h : va_D A (a ++ b)) : ∀ (i j : Nat) (p q : Nat × va_E), a[i]? = some p → b[j]? = some q → p.1 ≠ q.1 := fun i j p q hi hj e => by
  have := h.1 i (a.length + j) p q (l_al hi) (by rw [l_ar]; exact hj) e
  have := (List.getElem?_eq_some_iff.mp hi).1
  omega
theorem lP_sw {D : va_G} {cl : List vw_C} {a b : va_W} {H : Heap} (h : va_P D cl (a ++ b) H) : va_P D cl (b ++ a) H := (lP_r h).app (lP_l h)
theorem lD_sw {A : Nat → Prop} {a b : va_W} (h : va_D A (a ++ b)) : va_D A (b ++ a) := (lD_r h).app (lD_l h) (fun i j p q hi hj e => lD_x h j i q p hj hi e.symm)
/-- behind a call: its own world anew, the other as it was -/
theorem l_join {A : Nat → Prop} {D : va_G} {cl : List vw_C} {w0 w1 r : va_W} {H H1 : Heap} (hP : va_P D cl (w0 ++ r) H) (hD : va_D A (w0 ++ r)) (hk : ∀ q : Nat, q < H.size → ¬ va_A w0 H.size q → H1[q]? = H[q]?) (hF : ∀ q, va_A w0 H.size q → A q) (hP1 : va_P D cl w1 H1) (hD1 : va_D (va_A w0 H.size) w1) : va_P D cl (w1 ++ r) H1 ∧ va_D A (w1 ++ r) := by
  have ap : ∀ (k : Nat) (q : Nat × va_E), r[k]? = some q → q.1 < H.size ∧ ¬ va_A w0 H.size q.1 := by
    intro k q hq
    have h1 := (lP_r hP k q hq).lt
    refine ⟨h1, fun z => ?_⟩
    rcases z with ⟨j, e, hj⟩ | z
    · exact lD_x hD j k _ q hj hq rfl
    · omega
  refine ⟨hP1.app ((lP_r hP).kept (fun k q hq => hk q.1 (ap k q hq).1 (ap k q hq).2)), ?_⟩
  exact (hD1.weaken (fun _ _ _ h => hF _ h)).app (lD_r hD) (fun i j p q hi hj e => (ap j q hj).2 (e ▸ hD1.2 i p hi))
theorem lT_app {ws : List Jvm.Cond} (h : ∀ w ∈ ws, w ∈ zT) : GoodIn lw_tbl ws := fun w hw => ⟨(zT_good (h w hw)).1, good_of_word (zT_good (h w hw)).2⟩
section LC
variable {p : Program} {l : Launch} {e : Env} {s : State} {m : MethodId} {below : List Frame} {meth : Method} {c : Code} {b L : Nat} {xs : Nat → Int32} {cs : ClassId × ClassId × ClassId} {D : va_G} {Qm : State → Prop} {cells slots pc : Nat} {H : Heap} {locs : List Loc} {lr : Array Slot}
theorem l_after {A0 : Nat → Prop} {ad : Nat → Nat} {n : Nat} {g' : zG} {Q' : Option Value → List va_E → Prop} {a : Array Value} {st0 rest : List Value} {w0 r : va_W} {R : Room} {args : Array Value} {H0 : Heap}
    (hr : va_Run p l e R s m args below meth c H locs cells slots g'.2.2.2.2.1 g'.2.2.2.2.2 (F0 m pc lr st0) rest (zQ cs D (va_A w0 H.size) ad n g' Q' a) (va_A w0 H.size)) (hS : va_S A0 H0 H locs) (hf : ∀ q, va_A w0 H.size q → A0 q) (hP : va_P D zCl (w0 ++ r) H) (hD : va_D A0 (w0 ++ r))
    (kk : ∀ (v : Option Value) (ad' : Nat → Nat) (σ' : List va_E) (H1 : Heap) (locs1 : List Loc), Q' v σ' → (g'.2.2.2.2.1 = 0 → ad' = ad) → (∀ k, k < n → ad' k = ad k) → va_P D zCl (zW cs ad' σ' ++ r) H1 → va_D A0 (zW cs ad' σ' ++ r) → va_S A0 H0 H1 locs1 →
      W p l e R s m args below meth c H1 locs1 (cells + g'.2.2.2.2.1) (slots + g'.2.2.2.2.2) Qm (F0 m (pc + 3) lr ((v.map (zRe ad')).toList ++ rest))) : W p l e R s m args below meth c H locs cells slots Qm (F0 m pc lr st0) := by
  intro T hT X
  obtain ⟨v, st₀, t, T', Lq, h0, X', hL, e1, e2, ⟨⟨v', ad', σ', hv, q1, q2, q3, q4, q5, q6⟩, hz, hk⟩, st⟩ := hr T hT X
  cases hv
  rw [h0] at hz hk
  obtain ⟨j1, j2⟩ := l_join (H1 := T'.heap) hP hD (fun q h1 h2 => by rw [e1]; exact hk q h1 h2) hf (by rw [e1]; exact q5) q6
  obtain ⟨t2, a1, b1⟩ := kk v' ad' σ' T'.heap (locs ++ Lq) q1 q2 q3 j1 j2
    ⟨Nat.le_trans hS.1 (by rw [e1]; exact hz), fun q h1 h2 => by rw [e1, hk q (Nat.lt_of_lt_of_le h1 hS.1) (fun z => h2 (hf q z))]; exact hS.2.1 q h1 h2, fun q hq => by
      rcases List.mem_append.mp hq with h | h
      · exact hS.2.2 q h
      · exact hf _ (hL q h)⟩ T' rfl X'
  exact ⟨t2, st t2 a1, b1⟩
theorem l_call {g' : zG} {d idx kind n ci : Nat} {Q' : Option Value → List va_E → Prop} {av As : List Value} {rest : List Value} {σ : List va_E} {r : va_W} {ad : Nat → Nat} {k0 : Nat} {fs : List Value} (C0 : lw_At p s m meth c b L xs) (hK : zK cs D s) (hm : zMeth RL g' idx kind n ci) (hkd : kind = 0 ∨ kind = 2) (hdg : decode code pc = .ok ((if kind = 0 then Instr.invokevirtual idx else Instr.invokespecial idx), 3)) (hav : av = .ref k0 :: As) (hn : av.length = n) (hrecv : σ[k0]? = some (.inr (ci, fs))) (hrest : (rest.map fun v => v.category).sum ≤ 8) (hd : d ≤ 1000) (hcs : cells + g'.2.2.2.2.1 ≤ 600000 ∧ slots + g'.2.2.2.2.2 ≤ 7302250) (hl : lr.size = 4) (kr : zRuns g' d av σ Q')
    (hP : va_P D zCl (zW cs ad σ ++ r) H) (hD : va_D (fun q : Nat => s.heap.size ≤ q) (zW cs ad σ ++ r)) (hS : va_S (fun q : Nat => s.heap.size ≤ q) s.heap H locs)
    (kk : ∀ (v : Option Value) (ad' : Nat → Nat) (σ' : List va_E) (H1 : Heap) (locs1 : List Loc), Q' v σ' → (g'.2.2.2.2.1 = 0 → ad' = ad) → (∀ k, k < σ.length → ad' k = ad k) → va_P D zCl (zW cs ad' σ' ++ r) H1 → va_D (fun q : Nat => s.heap.size ≤ q) (zW cs ad' σ' ++ r) → va_S (fun q : Nat => s.heap.size ≤ q) s.heap H1 locs1 →
      W p l e room_1 s m #[Value.ref b] below meth c H1 locs1 (cells + g'.2.2.2.2.1) (slots + g'.2.2.2.2.2) Qm (F0 m (pc + 3) lr ((v.map (zRe ad')).toList ++ rest))) : W p l e room_1 s m #[Value.ref b] below meth c H locs cells slots Qm (F0 m pc lr ((av.map (zRe ad)).reverse ++ rest)) := by
  obtain ⟨hx, hb, hr, hml, hown, hts, hX, hbl, hlocks, hgv⟩ := id C0
  obtain ⟨m1, m2, m3, m4, m5⟩ := hm
  have hPc := lP_l hP
  have hDc := lD_l hD
  have hF : ∀ q, va_A (zW cs ad σ) H.size q → s.heap.size ≤ q := z_free hDc hS (fun _ h => h)
  have ht : ∀ w ∈ zT, w.before #[Value.ref b] s = true := fun w hw => hts w (zT_good hw).1
  have hG : GoodIn lw_tbl (zWs g') := lT_app (zWs_in m1)
  have hrm : (zRm g' d).frames + 1 ≤ room_1.frames ∧ 8 + (g'.2.2.1 + 11) + (zRm g' d).locals ≤ room_1.locals := ⟨by show d + 1 ≤ 2048; omega, by show 8 + (g'.2.2.1 + 11) + 40 * d ≤ 84000; omega⟩
  have hpre : ∀ U : State, U.heap = H → s.WarmedH U.vm → (fun U => U.heap.size = H.size ∧ va_P D zCl (zW cs ad σ) U.heap ∧ zK cs D U ∧ va_D (fun _ => True) (zW cs ad σ)) U := fun U hU hW => ⟨by rw [hU], by rw [hU]; exact hPc, zK_warm hW hK, hDc.weaken (fun _ _ _ _ => trivial)⟩
  have hfit : cells + g'.2.2.2.2.1 ≤ room_1.cells ∧ slots + g'.2.2.2.2.2 ≤ room_1.slots := hcs
  have hfix : CallFix p m c code 4 s #[Value.ref b] lw_tbl RL := ⟨hx, hb, hml, hown, hts⟩
  have hMet := kr l cs D ad H.size
  have hrun : va_Run p l e room_1 s m #[Value.ref b] below meth c H locs cells slots g'.2.2.2.2.1 g'.2.2.2.2.2 (F0 m pc lr ((av.map (zRe ad)).reverse ++ rest)) rest (zQ cs D (va_A (zW cs ad σ) H.size) ad σ.length g' Q' (av.map (zRe ad)).toArray) (va_A (zW cs ad σ) H.size) := by
    subst hav
    rw [List.map_cons] at hMet ⊢
    rw [List.length_cons] at hn
    have hlen : (As.map (zRe ad)).length = n - 1 := by rw [List.length_map]; omega
    have hst : ((zRe ad (.ref k0) :: As.map (zRe ad)).reverse ++ rest) = (As.map (zRe ad)).reverse ++ (Value.ref (ad k0) :: rest) := by rw [List.reverse_cons, List.append_assoc]; rfl
    rcases hkd with rfl | rfl
    · obtain ⟨a1, a2, a3, a4, a5⟩ := m5
      obtain ⟨q9, hq9, hq8⟩ := Option.map_eq_some_iff.mp a5
      have hrc := va_recv hK.1 hPc hq9 (zW_get hrecv)
      rw [hq8] at hrc
      refine va_runV (As := As.map (zRe ad)) (rest := rest) hfix hMet (cwV (n - 1) hts (lT_app fun w hw => ?_) rfl rfl rfl ⟨rfl, m3.1, m3.2, ?_⟩ hrm) ⟨z_blind, hrc, fun U hU hW => ⟨rfl, hpre U hU hW⟩⟩ rfl hlen hl hst (lv_room hrest) hdg hfit
      · rcases List.mem_append.mp hw with h | h
        · simp only [List.mem_cons, List.not_mem_nil, or_false] at h
          rcases h with rfl | rfl | rfl | rfl
          · exact a1
          · exact a2
          · exact a3
          · exact m2
        · exact zWs_in m1 w h
      · cases hp9 : parseMethodDescriptor g'.1.desc with
        | none => rw [hp9] at a4; cases a4
        | some dd =>
          rw [hp9] at a4
          have h7 : dd.parameters.length + 1 = n := Option.some.inj a4
          exact congrArg some (show dd.parameters.length = n - 1 by omega)
    · obtain ⟨a1, a2, a3, a4, a5, a6⟩ := m5
      refine va_runI (As := As.map (zRe ad)) (rest := rest) hfix hMet (cwI (n - 1) hts hG (by rw [← a4]; rfl) rfl rfl (ht _ m2) (ht _ a1) (ht _ a2) a3 ⟨m3.1, m3.2, ?_⟩ hrm) ⟨z_blind, fun U hU hW => ⟨rfl, hpre U hU hW⟩⟩ rfl hlen hl hst (lv_room hrest) hdg hfit
      cases hp9 : parseMethodDescriptor g'.1.desc with
      | none => rw [hp9] at a5; cases a5
      | some dd =>
        rw [hp9] at a5
        have h7 : dd.parameters.length + 1 = n := Option.some.inj a5
        exact congrArg some (show dd.parameters.length = n - 1 by omega)
  exact l_after hrun hS hF hP hD kk
end LC
