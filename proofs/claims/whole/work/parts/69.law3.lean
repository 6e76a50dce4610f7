/-! the law: where it stands, a number out of the script -/
def lG (p : Program) (l : Launch) (e : Env) (s : State) (m : MethodId) (below : List Frame) (meth : Method) (c : Code) (b : Nat) (cs : ClassId × ClassId × ClassId) (D : va_G) (pc : Nat) (i : Int32) (S M : zS) : Prop :=
  ∀ (ad ad2 : Nat → Nat) (H : Heap) (locs : List Loc) (lr : Array Slot), va_P D zCl (zW cs ad (encC S) ++ zW cs ad2 (encM M)) H → va_D (fun q : Nat => s.heap.size ≤ q) (zW cs ad (encC S) ++ zW cs ad2 (encM M)) → va_S (fun q : Nat => s.heap.size ≤ q) s.heap H locs → lv_has lr 4 [(0, .ref b), (1, .ref (ad 0)), (2, .ref (ad2 0)), (3, .int i)] →
    W p l e room_1 s m #[Value.ref b] below meth c H locs 100 5048 (lw_Z below #[Value.ref b] s) (F0 m pc lr [])
theorem l_cat {v : Option Value} {ad : Nat → Nat} : (((v.map (zRe ad)).toList ++ []).map fun (v : Value) => v.category).sum ≤ 8 := by
  cases v with
  | none => exact Nat.zero_le 8
  | some v =>
    show (zRe ad v).category + 0 ≤ 8
    rw [zRe_cat]
    cases v <;> simp [Value.category]
section LA
variable {p : Program} {l : Launch} {e : Env} {s : State} {m : MethodId} {below : List Frame} {meth : Method} {c : Code} {b L : Nat} {xs : Nat → Int32} {cells slots pc : Nat} {H : Heap} {locs : List Loc} {lr : Array Slot} {Qm : State → Prop}
theorem l_arg (C0 : lw_At p s m meth c b L xs) (hL : L ≤ 256) {i : Int32} {a1 a2 j k : Nat} {st : List Value} (hS : va_S (fun q : Nat => s.heap.size ≤ q) s.heap H locs) (hl : lv_has lr 4 [(0, .ref b), (1, .ref a1), (2, .ref a2), (3, .int i)]) (hi : i = nI j) (hj : j + k < L) (hk : k ≤ 3) (h1 : decode code pc = .ok (.aload_n 0, 1)) (h2 : decode code (pc + 1) = .ok (.iload_n 3, 1)) (h3 : decode code (pc + 2) = .ok (.iconst (k : Int), 1)) (h4 : decode code (pc + 3) = .ok (.iadd, 1)) (h5 : decode code (pc + 4) = .ok (.iaload, 1))
    (kk : W p l e room_1 s m #[Value.ref b] below meth c H locs cells slots Qm (F0 m (pc + 5) lr (.int (xs (j + k)) :: st))) : W p l e room_1 s m #[Value.ref b] below meth c H locs cells slots Qm (F0 m pc lr st) := by
  obtain ⟨hx, hb, hr, hml, hown, hts, hX, hbl, hlocks, hgv⟩ := id C0
  have hbA : ¬ (fun q : Nat => s.heap.size ≤ q) b := Nat.not_le.mpr hbl
  have hik : i + Int32.ofInt (k : Int) = nI (j + k) := by
    rw [hi, ← nI_add]; rfl
  refine lv_aload_n hx hb h1 rfl (lv_at hl 0 rfl) ?_
  refine lv_iload_n hx hb h2 rfl (lv_at hl 3 rfl) ?_
  refine lv_iconst (v := Int32.ofInt (k : Int)) hx hb h3 rfl ?_
  refine lv_iadd hx hb h4 ?_
  rw [hik]
  refine va_sld hx hb hX hbl hbA hS (vp_in_nI hj (by omega)) h5 ?_
  rw [nI_clamp (by omega)]
  exact kk
end LA
