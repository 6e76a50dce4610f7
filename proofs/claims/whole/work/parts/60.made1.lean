/-! making rows of rows -/
theorem zT_rows : Jvm.Cond.classLink RX4 11 "[[I" ∈ zT := zIn 286 (by decide +kernel) (by decide +kernel)
def mnAd (ad : Nat → Nat) (n q : Nat) (r : Nat → Nat) : Nat → Nat := fun j => if j < n then ad j else if j = n then q else r (j - (n + 1))
def mnOut (n N : Nat) : va_E := .inl (2, N, .inr (.inr (.inr (.inr (fun j => if j < N then some (n + 1 + j) else none)))))
section MN
variable {g : zG} {d : Nat} {Q : Option Value → List va_E → Prop} {pc : Nat} {ls : List (Option Value)} {st : List Value} {σ : List va_E} {uc us : Nat}
theorem mn_pl {r : Nat → Nat} {N : Nat} {f : Nat → va_E} {e : va_E} : va_pl ([] ++ (List.range N).map r) (vr_up f ((List.range N).map r) e) = (List.range N).map (fun i => (r i, e)) := by
  unfold va_pl
  rw [List.nil_append, List.map_map]
  refine List.map_congr_left (fun i hi => ?_)
  show (r i, vr_up f ((List.range N).map r) e (r i)) = _
  rw [vr_up_in (List.mem_map.mpr ⟨i, hi, rfl⟩)]
theorem mn_W {cs : ClassId × ClassId × ClassId} {ad : Nat → Nat} {q N K : Nat} {r : Nat → Nat} (hb : zBS σ.length σ = true) : zW cs (mnAd ad σ.length q r) (σ ++ (mnOut σ.length N :: List.replicate N (.inl (0, K, .inl (fun _ => 0))))) = (zW cs ad σ ++ [(q, .inl (cs.2.2, N, .inr (.inr (.inr (.inr (fun i => if i < N then some (r i) else none))))))]) ++ (List.range N).map (fun i => (r i, .inl (cs.1, K, .inl (fun _ => 0)))) := by
  have h1 : zW cs (mnAd ad σ.length q r) σ = zW cs ad σ := zBS_re (fun k hk => if_pos hk) (Nat.le_refl _) hb
  have h2 : zE cs (mnAd ad σ.length q r) (mnOut σ.length N) = .inl (cs.2.2, N, .inr (.inr (.inr (.inr (fun i => if i < N then some (r i) else none))))) := by
    show Sum.inl (cs.2.2, N, Sum.inr (Sum.inr (Sum.inr (Sum.inr (fun j => if j < N then ((if j < N then some (σ.length + 1 + j) else none) : Option Nat).map (mnAd ad σ.length q r) else none))))) = _
    congr 7
    funext j
    by_cases h : j < N
    · rw [if_pos h, if_pos h, if_pos h, Option.map_some]
      congr 1
      unfold mnAd
      rw [if_neg (by omega), if_neg (by omega)]
      congr 1
      omega
    · rw [if_neg h, if_neg h]
  unfold zW at h1 ⊢
  rw [List.mapIdx_append, h1, List.mapIdx_cons, List.append_assoc]
  congr 1
  show _ :: _ = _ :: _
  congr 1
  · rw [Nat.zero_add, h2]
    congr 1
    unfold mnAd
    rw [if_neg (by omega), if_pos rfl]
  · apply List.ext_getElem?
    intro i
    rw [List.getElem?_mapIdx]
    show _ = (List.map _ (List.range N))[i]?
    rw [List.getElem?_map]
    by_cases h : i < N
    · rw [List.getElem?_replicate, if_pos h, List.getElem?_range h]
      show some _ = some _
      congr 1
      show (mnAd ad σ.length q r (i + 1 + σ.length), _) = _
      congr 1
      unfold mnAd
      rw [if_neg (by omega), if_neg (by omega)]
      congr 1
      omega
    · rw [List.getElem?_replicate, if_neg h, List.getElem?_eq_none (by rw [List.length_range]; omega)]
      rfl
theorem s_mna {idx : Nat} {n k : Int32} {N K : Nat} (hlink : Jvm.Cond.classLink g.1.cls idx "[[I" ∈ zT) (hdg : decode g.2.1 pc = .ok (.multianewarray idx 2, 4)) (h0n : ¬ n < 0) (h0k : ¬ k < 0) (hN : n.toNatClampNeg = N) (hK : k.toNatClampNeg = K) (hsN : N ≤ 1000) (hsK : K ≤ 1000)
    (hb : (zBO σ.length ls && (zBL σ.length st && zBS σ.length σ)) = true) (huc : uc + 1 + N ≤ g.2.2.2.2.1) (hus : us + N + N * K ≤ g.2.2.2.2.2)
    (kk : zGood g d Q (pc + 4) ls (.ref σ.length :: st) (σ ++ (mnOut σ.length N :: List.replicate N (.inl (0, K, .inl (fun _ => 0))))) (uc + 1 + N) (us + N + N * K)) : zGood g d Q pc ls (.int k :: .int n :: st) σ uc us := by
  intro p l e s m args below meth c cs D A ad0 ad n0 H locs lr C hn hP hD hS hl
  simp only [Bool.and_eq_true] at hb
  have hKK := C.2.2.2.2.2.2.2.1.1
  have hX : zW cs ad σ ++ va_pl [] (fun _ => .inl (cs.1, K, .inl (fun _ => 0))) = zW cs ad σ := List.append_nil _
  refine va_mna (X := zW cs ad σ) (L := []) (f := fun _ => .inl (cs.1, K, .inl (fun _ => 0))) (ty := .int) (cy := cs.1) (N' := N) (K' := K) (z := (K, .inl (fun _ => 0))) C.1 C.2.1 (own := g.1.cls) (index := idx) C.2.2.2.2.2.1 (C.2.2.2.2.2.2.1 _ (List.mem_cons_of_mem _ hlink)) C.2.2.2.2.2.2.2.1.2.2 (C.2.2.2.2.2.2.1 _ (List.mem_cons_of_mem _ zT_int)) (hKK.2 0 _ rfl).2 hKK (by rw [hX]; exact hP) (by rw [hX]; exact hD) hS C.2.2.2.2.2.2.2.2.1 h0n h0k hN hK (by omega) (by show K * 4 ≤ _; omega) (by omega) rfl rfl (by show uc + (1 + N) ≤ g.2.2.2.2.1; omega) (by show us + (N + N * K) ≤ g.2.2.2.2.2; omega) (fun c => by show ({ cls := c, slots := Array.replicate K (.int 0), vm := .none } : Cell) = _; rw [arrV_new]; rfl) hdg (fun q r cA H1 hr1 hr2 hK1 hP1 hD1 hS1 => ?_)
  have e1 : s.vm.findClass ("[" ++ (FieldType.array .int).toString) = some cA := (hK1.2 3 _ rfl).2
  have e2 : s.vm.findClass ("[" ++ (FieldType.array .int).toString) = some cs.2.2 := (hKK.2 2 _ rfl).2
  have e3 : cA = cs.2.2 := Option.some.inj (e1.symm.trans e2)
  subst e3
  rw [mn_pl] at hP1 hD1
  have eW := mn_W (cs := cs) (ad := ad) (q := q) (N := N) (K := K) (r := r) hb.2.2
  have e4 : (Value.ref σ.length :: st).map (zRe (mnAd ad σ.length q r)) = .ref q :: st.map (zRe ad) := by
    rw [List.map_cons, zBL_re (ad := ad) (ad' := mnAd ad σ.length q r) (fun k hk => if_pos hk) hb.2.1]
    refine congrArg (fun x => Value.ref x :: st.map (zRe ad)) ?_
    unfold mnAd
    rw [if_neg (by omega), if_pos rfl]
  have h9 := kk p l e s m args below meth c cs D A ad0 (mnAd ad σ.length q r) n0 H1 locs lr C ⟨fun z => by omega, fun k hk => (if_pos (by have := hn.2.2.1; omega)).trans (hn.2.1 k hk), by rw [List.length_append]; have := hn.2.2.1; omega, huc, hus⟩ (by rw [eW]; exact hP1) (by rw [eW]; exact hD1) hS1 (zLoc_ad (fun k hk => if_pos hk) hb.1 hl)
  rw [e4] at h9
  exact h9
end MN
