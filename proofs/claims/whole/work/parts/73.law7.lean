/-! the law from its entry -/
theorem l_df8 : ∀ j, j < 12 → defaultValue (tyX8 j) = vp_V [.null, .null, .null, .null, .null, .null, .null, .null, .null, .null, .int 0, .int 0] j := by
  intro j hj
  match j, hj with
  | 0, _ => rfl
  | 1, _ => rfl
  | 2, _ => rfl
  | 3, _ => rfl
  | 4, _ => rfl
  | 5, _ => rfl
  | 6, _ => rfl
  | 7, _ => rfl
  | 8, _ => rfl
  | 9, _ => rfl
  | 10, _ => rfl
  | 11, _ => rfl
  | j + 12, h => exact absurd h (by omega)
theorem l_df9 : ∀ j, j < 36 → defaultValue (tyX9 j) = vp_V [.null, .int 0, .int 0, .int 0, .int 0, .int 0, .int 0, .int 0, .null, .null, .null, .int 0, .int 0, .int 0, .int 0, .null, .null, .null, .null, .null, .int 0, .null, .null, .null, .int 0, .null, .int 0, .null, .int 0, .int 0, .int 0, .null, .null, .null, .null, .int 0] j := by
  intro j hj
  match j, hj with
  | 0, _ => rfl
  | 1, _ => rfl
  | 2, _ => rfl
  | 3, _ => rfl
  | 4, _ => rfl
  | 5, _ => rfl
  | 6, _ => rfl
  | 7, _ => rfl
  | 8, _ => rfl
  | 9, _ => rfl
  | 10, _ => rfl
  | 11, _ => rfl
  | 12, _ => rfl
  | 13, _ => rfl
  | 14, _ => rfl
  | 15, _ => rfl
  | 16, _ => rfl
  | 17, _ => rfl
  | 18, _ => rfl
  | 19, _ => rfl
  | 20, _ => rfl
  | 21, _ => rfl
  | 22, _ => rfl
  | 23, _ => rfl
  | 24, _ => rfl
  | 25, _ => rfl
  | 26, _ => rfl
  | 27, _ => rfl
  | 28, _ => rfl
  | 29, _ => rfl
  | 30, _ => rfl
  | 31, _ => rfl
  | 32, _ => rfl
  | 33, _ => rfl
  | 34, _ => rfl
  | 35, _ => rfl
  | j + 36, h => exact absurd h (by omega)
theorem l_W1 {cs : ClassId × ClassId × ClassId} {q : Nat} {ci : Nat} {fs : List Value} (h : ∀ ad : Nat → Nat, fs.map (zRe ad) = fs) : zW cs (fun _ => q) [.inr (ci, fs)] = [(q, .inr (ci, fs))] := by
  simp [zW, zE, h]
theorem whole_start {p : Program} {e : Env} {s : State} {m : MethodId} {below : List Frame} {meth : Method} {c : Code} (l : Launch) (hflags : l.flags = flags0) {b L : Nat} {xs : Nat → Int32} (hL : L ≤ 256) (C0 : lw_At p s m meth c b L xs) : W p l e room_1 s m #[Value.ref b] below meth c s.heap [] 0 0 (lw_Z below #[Value.ref b] s) (entryFrame m ([Value.ref b] : List Value).toArray 4) := by
  obtain ⟨hx, hb, hr, hml, hown, hts, hX, hbl, hlocks, hgv⟩ := id C0
  obtain ⟨cs, D, hK⟩ := l_known hts
  have hA : ∀ q : Nat, s.heap.size ≤ q → (fun q : Nat => s.heap.size ≤ q) q := fun _ h => h
  have hS : va_S (fun q : Nat => s.heap.size ≤ q) s.heap s.heap [] := va_S.rf
  have hP : va_P D zCl [] s.heap := fun k q h => by simp at h
  have hD : va_D (fun q : Nat => s.heap.size ≤ q) [] := ⟨fun i j p q h => by simp at h, fun k q h => by simp at h⟩
  have hl := lv_entry ([.ref b]) (n := 4) (Nat.le_of_ble_eq_true rfl)
  rw [lg_entry_eq]
  generalize (lg_sl ([.ref b]) ++ List.replicate (4 - (lg_sl ([.ref b])).length) Slot.unset).toArray = lr at hl ⊢
  have hl : lv_has lr 4 [(0, .ref b)] := hl
  refine va_new (ci := 8) (fs := [.null, .null, .null, .null, .null, .null, .null, .null, .null, .null, .int 0, .int 0]) (C := RX8) (T := TX8) (N := 12) hx hb hts (fun w hw => (zT_good (zCla8.2.1 w hw)).1) tyX8 tyX8_ok hown (hts (.classLink RL 7 RX8) (by decide +kernel)) (hts (.instantiable RX8 12) (by decide +kernel)) (hts (.initialized RX8) (by decide +kernel)) hK.1 hP hD hS hA rfl l_df8 (by decide) (by decide) (show decode code 0 = .ok (.new 7, 3) by decide +kernel) (fun q0 H hP hD hS => ?_)
  refine lv_dup hx hb (show decode code 3 = .ok (.dup, 1) by decide +kernel) rfl ?_
  have w0 := l_W1 (cs := cs) (q := q0) (ci := 8) (fs := [.null, .null, .null, .null, .null, .null, .null, .null, .null, .null, .int 0, .int 0]) (fun _ => rfl)
  refine l_call (kind := 2) (idx := 9) (n := 1) (ci := 8) (σ := [.inr (8, [.null, .null, .null, .null, .null, .null, .null, .null, .null, .null, .int 0, .int 0])]) (r := []) (ad := fun _ => q0) (k0 := 0) (As := []) (av := [.ref 0]) (rest := [.ref q0]) C0 hK zm_B_init (Or.inr rfl) (show decode code 4 = .ok (.invokespecial 9, 3) by decide +kernel) rfl rfl rfl (Nat.le_of_ble_eq_true rfl) (by decide) (cells := 1) (slots := 12) ⟨by decide, by decide⟩ hl.1 (c_B_init (d := 28)) (by rw [w0]; exact hP) (by rw [w0]; exact hD) hS (fun v ad' σ' H1 locs1 q1 q2 q3 hP1 hD1 hS1 => ?_)
  obtain ⟨rfl, rfl⟩ := q1
  have a0 : ad' 0 = q0 := q3 0 (by decide)
  refine lv_astore_n (x := q0) (lv' := [(1, .ref q0), (0, .ref b)]) hx hb (show decode code 7 = .ok (.astore_n 1, 1) by decide +kernel) rfl hl (by decide) rfl (fun lr hl => ?_)
  rw [List.append_nil] at hP1 hD1
  refine va_new (ci := 9) (fs := [.null, .int 0, .int 0, .int 0, .int 0, .int 0, .int 0, .int 0, .null, .null, .null, .int 0, .int 0, .int 0, .int 0, .null, .null, .null, .null, .null, .int 0, .null, .null, .null, .int 0, .null, .int 0, .null, .int 0, .int 0, .int 0, .null, .null, .null, .null, .int 0]) (C := RX9) (T := TX9) (N := 36) (cells := 81) (slots := 2627) hx hb hts (fun w hw => (zT_good (zCla9.2.1 w hw)).1) tyX9 tyX9_ok hown (hts (.classLink RL 10 RX9) (by decide +kernel)) (hts (.instantiable RX9 36) (by decide +kernel)) (hts (.initialized RX9) (by decide +kernel)) hK.1 hP1 hD1 hS1 hA rfl l_df9 (by decide) (by decide) (show decode code 8 = .ok (.new 10, 3) by decide +kernel) (fun q1 H hP hD hS => ?_)
  refine lv_dup hx hb (show decode code 11 = .ok (.dup, 1) by decide +kernel) rfl ?_
  have w1 := l_W1 (cs := cs) (q := q1) (ci := 9) (fs := [.null, .int 0, .int 0, .int 0, .int 0, .int 0, .int 0, .int 0, .null, .null, .null, .int 0, .int 0, .int 0, .int 0, .null, .null, .null, .null, .null, .int 0, .null, .null, .null, .int 0, .null, .int 0, .null, .int 0, .int 0, .int 0, .null, .null, .null, .null, .int 0]) (fun _ => rfl)
  refine l_call (kind := 2) (idx := 12) (n := 1) (ci := 9) (σ := [] ++ [.inr (9, [.null, .int 0, .int 0, .int 0, .int 0, .int 0, .int 0, .int 0, .null, .null, .null, .int 0, .int 0, .int 0, .int 0, .null, .null, .null, .null, .null, .int 0, .null, .null, .null, .int 0, .null, .int 0, .null, .int 0, .int 0, .int 0, .null, .null, .null, .null, .int 0])]) (r := zW cs ad' (encC S0)) (ad := fun _ => q1) (k0 := 0) (As := []) (av := [.ref 0]) (rest := [.ref q1]) C0 hK zm_M_init (Or.inr rfl) (show decode code 12 = .ok (.invokespecial 12, 3) by decide +kernel) rfl rfl rfl (Nat.le_of_ble_eq_true rfl) (by decide) (cells := 82) (slots := 2663) ⟨by decide, by decide⟩ hl.1 (c_M_init (d := 29)) (by rw [List.nil_append, w1]; exact lP_sw hP) (by rw [List.nil_append, w1]; exact lD_sw hD) hS (fun v ad2 σ' H1 locs1 q4 q5 q6 hP2 hD2 hS2 => ?_)
  obtain ⟨rfl, rfl⟩ := q4
  have a1 : ad2 0 = q1 := q6 0 (by decide)
  refine lv_astore_n (x := q1) (lv' := [(2, .ref q1), (1, .ref q0), (0, .ref b)]) hx hb (show decode code 15 = .ok (.astore_n 2, 1) by decide +kernel) rfl hl (by decide) rfl (fun lr hl => ?_)
  refine lv_iconst (v := 0) hx hb (show decode code 16 = .ok (.iconst 0, 1) by decide +kernel) (by decide) ?_
  refine lv_istore_n (lv' := [(3, .int 0), (2, .ref q1), (1, .ref q0), (0, .ref b)]) hx hb (show decode code 17 = .ok (.istore_n 3, 1) by decide +kernel) rfl hl (by decide) rfl (fun lr hl => ?_)
  have hl2 := lv_sub (l' := [(0, .ref b), (1, .ref q0), (2, .ref q1), (3, .int 0)]) hl [3, 2, 1, 0] rfl
  rw [← a0, ← a1] at hl2
  exact law_loop C0 hL hK 66 0 S0 M0 (by omega) (by decide) Inv_0 ad' ad2 H1 locs1 lr (lP_sw hP2) (lD_sw hD2) hS2 hl2
