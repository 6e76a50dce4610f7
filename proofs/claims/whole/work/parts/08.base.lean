/-! small methods of no object; numbers -/
theorem z_up {P : Nat → Prop} (N : Nat) (h : ∀ j, j ≤ N → (j < N → P (j + 1)) → P j) : ∀ j, j ≤ N → P j := by
  have key : ∀ k j, j + k = N → P j := by
    intro k
    induction k with
    | zero => intro j hj; exact h j (by omega) (fun q => absurd q (by omega))
    | succ k ih => intro j hj; exact h j (by omega) (fun _ => ih (j + 1) (by omega))
  intro j hj
  exact key (N - j) j (by omega)
theorem z_in {n : Nat} (hn : n < 2 ^ 31) {i : Int32} (h0 : ¬ i < 0) (h1 : ¬ Int32.ofNat n ≤ i) : vp_in i n := by
  obtain ⟨j, hj, rfl⟩ := nI_of h0
  refine vp_in_nI (Nat.not_le.mp fun q => h1 ?_) hn
  exact nI_le q hj
def bI (b : Bool) : Int32 := match b with
  | true => 1
  | false => 0
theorem bI_0 {b : Bool} (h : bI b = 0) : b = false := by cases b <;> first | rfl | (exact absurd h (by decide))
theorem bI_1 {b : Bool} (h : ¬ bI b = 0) : b = true := by cases b <;> first | rfl | (exact absurd rfl h)
theorem bI_dec {p : Prop} [Decidable p] (h : p) : bI (decide p) = 1 := by rw [decide_eq_true h]; rfl
theorem bI_ndec {p : Prop} [Decidable p] (h : ¬ p) : bI (decide p) = 0 := by rw [decide_eq_false h]; rfl
theorem c_at {d : Nat} {σ : List va_E} {r n j : Nat} {f : Nat → Int32} {i : Int32} (h : σ[r]? = some (.inl (0, n, .inl f))) (hn : n < 2 ^ 31) (hi : i = nI j) (hj : j < n) : zRuns gB_at (d + 1) [.ref r, .int i] σ (fun v σ' => v = some (.int (f j)) ∧ σ' = σ) := by
  subst hi
  have e : zNth σ r = some (.inl (0, n, .inl f)) := by rw [zNth_eq]; exact h
  refine m_B_at [] rfl (Nat.le_of_ble_eq_true rfl) ?_
  refine ⟨fun h1 => absurd h1 (nI_pos (by omega)), fun _ => ?_⟩
  show zLng σ r _
  unfold zLng
  rw [e]
  refine ⟨fun h1 => absurd h1 (nI_ge hj hn), fun _ => ?_⟩
  show zArr σ r 0 _
  unfold zArr
  rw [e]
  refine ⟨vp_in_nI hj hn, ?_⟩
  exact ⟨by rw [nI_clamp (by omega)], rfl⟩
theorem c_put {d : Nat} {σ : List va_E} {r n j : Nat} {f : Nat → Int32} {i v : Int32} (h : σ[r]? = some (.inl (0, n, .inl f))) (hn : n < 2 ^ 31) (hi : i = nI j) (hj : j < n) : zRuns gB_put (d + 1) [.ref r, .int i, .int v] σ (fun v' σ' => v' = none ∧ σ' = σ.set r (.inl (0, n, .inl (upd f j v)))) := by
  subst hi
  have e : zNth σ r = some (.inl (0, n, .inl f)) := by rw [zNth_eq]; exact h
  refine m_B_put [] rfl (Nat.le_of_ble_eq_true rfl) ?_
  refine ⟨fun h1 => absurd h1 (nI_pos (by omega)), fun _ => ?_⟩
  show zLng σ r _
  unfold zLng
  rw [e]
  refine ⟨fun h1 => absurd h1 (nI_ge hj hn), fun _ => ?_⟩
  show zArr σ r 0 _
  unfold zArr
  rw [e]
  refine ⟨vp_in_nI hj hn, ?_⟩
  exact ⟨rfl, by rw [nI_clamp (by omega)]⟩
theorem c_isIn {d : Nat} {σ : List va_E} {x : Int32} {j : Nat} {i : Int32} (hi : i = nI j) (hj : j < 31) : zRuns gB_isIn (d + 1) [.int x, .int i] σ (fun v σ' => v = some (.int (bI (decide ((x >>> (i &&& 31)) &&& 1 = 1)))) ∧ σ' = σ) := by
  subst hi
  refine m_B_isIn [] rfl (Nat.le_of_ble_eq_true rfl) ?_
  refine ⟨fun h1 => absurd h1 (nI_pos (by omega)), fun _ => ?_⟩
  refine ⟨fun h1 => absurd h1 (nI_nlt (a := 30) (b := j) (by omega) (by omega)), fun _ => ?_⟩
  refine ⟨fun h1 => ?_, fun h1 => ?_⟩
  · exact ⟨rfl, by rw [bI_dec h1], rfl⟩
  · exact ⟨rfl, by rw [bI_ndec h1], rfl⟩
theorem c_isWithin {d : Nat} {σ : List va_E} {x lo hi : Int32} : zRuns gB_isWithin (d + 1) [.int x, .int lo, .int hi] σ (fun v σ' => v = some (.int (bI (decide (lo ≤ x ∧ x ≤ hi)))) ∧ σ' = σ) := by
  refine m_B_isWithin [] rfl (Nat.le_of_ble_eq_true rfl) ?_
  refine ⟨fun h1 => ?_, fun h1 => ?_⟩
  · exact ⟨rfl, by rw [bI_ndec (fun q => Int32.lt_irrefl (Int32.lt_of_lt_of_le h1 q.1))], rfl⟩
  · refine ⟨fun h2 => ?_, fun h2 => ?_⟩
    · exact ⟨rfl, by rw [bI_ndec (fun q => Int32.lt_irrefl (Int32.lt_of_lt_of_le h2 q.2))], rfl⟩
    · exact ⟨rfl, by rw [bI_dec ⟨Int32.not_lt.mp h1, Int32.not_lt.mp h2⟩], rfl⟩
theorem c_copyRow {d : Nat} {σ : List va_E} {r1 r2 n1 n2 : Nat} {f1 f2 : Nat → Int32} (h1 : σ[r1]? = some (.inl (0, n1, .inl f1))) (h2 : σ[r2]? = some (.inl (0, n2, .inl f2))) (hne : r1 ≠ r2) (hn : n1 ≤ n2) (hn2 : n2 < 2 ^ 31) :
    zRuns gB_copyRow (d + 1) [.ref r1, .ref r2] σ (fun v σ' => v = none ∧ σ' = σ.set r2 (.inl (0, n2, .inl (fun j => if j < n1 then f1 j else f2 j)))) := by
  refine m_B_copyRow [11] rfl (Nat.le_of_ble_eq_true rfl) ?_
  refine ⟨trivial, ?_⟩
  have hlen : r2 < σ.length := (List.getElem?_eq_some_iff.mp h2).1
  have loop := z_up (P := fun k => ∀ (x : Int32), x = nI k → zGood gB_copyRow (d + 1) (fun v σ' => v = none ∧ σ' = σ.set r2 (.inl (0, n2, .inl (fun j => if j < n1 then f1 j else f2 j)))) 11 [some (.ref r1), some (.ref r2), some (.int x)] [] (σ.set r2 (.inl (0, n2, .inl (fun j => if j < k then f1 j else f2 j)))) 0 0) n1 (fun k hk ih x hx => ?_) 0 (Nat.zero_le _) 0 nI_0.symm
  · have e0 : σ.set r2 (.inl (0, n2, .inl (fun j => if j < 0 then f1 j else f2 j))) = σ := by
      apply List.ext_getElem?
      intro j
      rw [List.getElem?_set]
      by_cases e : r2 = j
      · subst e; rw [if_pos rfl, if_pos hlen, h2]; simp
      · simp [e]
    rw [e0] at loop
    exact loop
  · subst hx
    have e1 : zNth (σ.set r2 (.inl (0, n2, .inl (fun j => if j < k then f1 j else f2 j)))) r1 = some (.inl (0, n1, .inl f1)) := by rw [zNth_eq, List.getElem?_set, if_neg (Ne.symm hne)]; exact h1
    have e2 : zNth (σ.set r2 (.inl (0, n2, .inl (fun j => if j < k then f1 j else f2 j)))) r2 = some (.inl (0, n2, .inl (fun j => if j < k then f1 j else f2 j))) := by rw [zNth_eq, List.getElem?_set, if_pos rfl, if_pos hlen]
    refine w_B_copyRow [11] ?_
    show zLng _ r1 _
    unfold zLng
    rw [e1]
    refine ⟨fun q => ?_, fun q => ?_⟩
    · have : k = n1 := Nat.le_antisymm hk (Nat.not_lt.mp fun z => nI_ge z (by omega) q)
      subst this
      exact ⟨rfl, rfl⟩
    · have hlt : k < n1 := Nat.not_le.mp fun z => q (nI_le z (by omega))
      show zLng _ r2 _
      unfold zLng
      rw [e2]
      refine ⟨fun q2 => absurd q2 (nI_ge (by omega) hn2), fun _ => ?_⟩
      show zArr _ r1 0 _
      unfold zArr
      rw [e1]
      refine ⟨vp_in_nI hlt (by omega), ?_⟩
      show zArr _ r2 0 _
      unfold zArr
      rw [e2]
      refine ⟨vp_in_nI (by omega) hn2, ?_⟩
      refine ⟨trivial, ?_⟩
      have h9 := ih hlt (nI k + 1) (nI_1 k)
      rw [List.set_set]
      have e3 : upd (fun j => if j < k then f1 j else f2 j) (nI k).toNatClampNeg (f1 (nI k).toNatClampNeg) = (fun j => if j < k + 1 then f1 j else f2 j) := by
        rw [nI_clamp (by omega)]
        funext j
        unfold upd
        by_cases e : j = k
        · subst e; simp
        · by_cases e2 : j < k
          · simp [e, e2, Nat.lt_succ_of_lt e2]
          · simp [e, e2, show ¬ j < k + 1 by omega]
      rw [e3]
      exact h9

theorem c_abs {d : Nat} {σ : List va_E} {x : Int32} : zRuns gJM_abs (d + 1) [.int x] σ (fun v σ' => v = some (.int (if 0 ≤ x then x else -x)) ∧ σ' = σ) := by
  refine m_JM_abs [] rfl (Nat.le_of_ble_eq_true rfl) ?_
  refine ⟨fun h => ?_, fun h => ?_⟩
  · exact ⟨by rw [if_pos h], rfl⟩
  · exact ⟨by rw [if_neg h], rfl⟩
theorem c_max {d : Nat} {σ : List va_E} {x y : Int32} : zRuns gJM_max (d + 1) [.int x, .int y] σ (fun v σ' => v = some (.int (if x < y then y else x)) ∧ σ' = σ) := by
  refine m_JM_max [] rfl (Nat.le_of_ble_eq_true rfl) ?_
  refine ⟨fun h => ?_, fun h => ?_⟩
  · exact ⟨by rw [if_pos h], rfl⟩
  · exact ⟨by rw [if_neg h], rfl⟩
theorem c_min {d : Nat} {σ : List va_E} {x y : Int32} : zRuns gJM_min (d + 1) [.int x, .int y] σ (fun v σ' => v = some (.int (if y < x then y else x)) ∧ σ' = σ) := by
  refine m_JM_min [] rfl (Nat.le_of_ble_eq_true rfl) ?_
  refine ⟨fun h => ?_, fun h => ?_⟩
  · exact ⟨by rw [if_pos h], rfl⟩
  · exact ⟨by rw [if_neg h], rfl⟩
def zPop32 (x : Int32) : Int32 :=
  let u (x : Int32) (k : Int32) : Int32 := (x.toUInt32 >>> (k.toUInt32 &&& Int32.toUInt32 31)).toInt32
  let a := x - (u x 1 &&& 1431655765)
  let b := (a &&& 858993459) + (u a 2 &&& 858993459)
  let c := (b + u b 4) &&& 252645135
  let e := c + u c 8
  let f := e + u e 16
  f &&& 63
theorem c_bitCount {d : Nat} {σ : List va_E} {x : Int32} : zRuns gJI_bitCount (d + 1) [.int x] σ (fun v σ' => v = some (.int (zPop32 x)) ∧ σ' = σ) := by
  refine m_JI_bitCount [] rfl (Nat.le_of_ble_eq_true rfl) ?_
  exact ⟨rfl, rfl⟩
