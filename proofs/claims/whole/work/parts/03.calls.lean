/-- what the tables say of the classes -/
def zClass (ci : Nat) (C : String) (T : u_T) (N : Nat) : Prop := zCl[ci]? = some (C, T, N) ∧ (∀ w ∈ u_ws C T N, w ∈ zT) ∧ (∀ a, a < N → ∀ b, b < N → a ≠ b → (T a).2.1 ≠ (T b).2.1) ∧ ∃ ty : Nat → FieldType, ∀ k, k < N → parseFieldDescriptor (T k).2.2.1 = some (ty k)
section ZF
variable {g : zG} {d : Nat} {Q : Option Value → List va_E → Prop} {pc : Nat} {ls : List (Option Value)} {st r : List Value} {σ : List va_E} {uc us : Nat}
theorem s_getf {a ci k idx N : Nat} {Cn : String} {T : u_T} {fs : List Value} {v : Value} (hc : zClass ci Cn T N) (hk : k < N) (hlink : Jvm.Cond.fieldLink g.1.cls idx (T k).1 (T k).2.1 (T k).2.2.1 ∈ zT) (hdg : decode g.2.1 pc = .ok (.getfield idx, 3)) (ha : σ[a]? = some (.inr (ci, fs))) (hv : fs[k]? = some v)
    (kk : zGood g d Q (pc + 3) ls (v :: st) σ uc us) : zGood g d Q pc ls (.ref a :: st) σ uc us := by
  intro p l e s m args below meth c cs D A ad0 ad n0 H locs lr C hn hP hD hS hl
  exact va_get (D := D) C.1 C.2.1 C.2.2.2.2.2.2.1 (fun w hw => List.mem_cons_of_mem _ (hc.2.1 w hw)) C.2.2.2.2.2.1 C.2.2.2.2.2.2.2.1.1 hP a (zW_get ha) hc.1 k hk (C.2.2.2.2.2.2.1 _ (List.mem_cons_of_mem _ hlink)) (fun _ h9 => h9) (v := zRe ad v) (by rw [List.getElem?_map, hv]; rfl) hdg (kk p l e s m args below meth c cs D A ad0 ad n0 H locs lr C hn hP hD hS hl)
/-- what may be put into a field of type ty -/
def zFits (ty : FieldType) (v : Value) : Prop := narrow ty v = v ∧ fits ty v = true
theorem zFits_re {ty : FieldType} {v : Value} (ad : Nat → Nat) (h : zFits ty v) : zFits ty (zRe ad v) := by
  cases v <;> first | exact h | (refine ⟨?_, ?_⟩ <;> cases ty <;> first | rfl | (exact absurd h.2 (by simp [fits])))
theorem zE_set (cs : ClassId × ClassId × ClassId) (ad : Nat → Nat) (ci : Nat) (fs : List Value) (k : Nat) (v : Value) : zE cs ad (.inr (ci, fs.set k v)) = .inr (ci, (fs.map (zRe ad)).set k (zRe ad v)) := by
  simp [zE, List.map_set]
theorem s_putf {a ci k idx N : Nat} {Cn : String} {T : u_T} {fs : List Value} {v : Value} {ty : FieldType} (hc : zClass ci Cn T N) (hk : k < N) (hlink : Jvm.Cond.fieldLink g.1.cls idx (T k).1 (T k).2.1 (T k).2.2.1 ∈ zT) (hty : parseFieldDescriptor (T k).2.2.1 = some ty) (hfin : (T k).2.2.2 = false ∨ (g.1.name = "<init>" ∧ (T k).1 = g.1.cls)) (hdg : decode g.2.1 pc = .ok (.putfield idx, 3)) (ha : σ[a]? = some (.inr (ci, fs))) (hv : zFits ty v) (hlen : k < fs.length)
    (kk : zGood g d Q (pc + 3) ls st (σ.set a (.inr (ci, fs.set k v))) uc us) : zGood g d Q pc ls (v :: .ref a :: st) σ uc us := by
  intro p l e s m args below meth c cs D A ad0 ad n0 H locs lr C hn hP hD hS hl
  obtain ⟨ty0, hty0⟩ := hc.2.2.2
  have hn2 : (g.2.2.2.2.1 = 0 → ad = ad0) ∧ (∀ k, k < n0 → ad k = ad0 k) ∧ n0 ≤ (σ.set a (.inr (ci, fs.set k v))).length ∧ uc ≤ g.2.2.2.2.1 ∧ us ≤ g.2.2.2.2.2 := ⟨hn.1, hn.2.1, by rw [List.length_set]; exact hn.2.2.1, hn.2.2.2⟩
  have hv2 := zFits_re ad hv
  have hl2 : k < (fs.map (zRe ad)).length := by rw [List.length_map]; exact hlen
  by_cases hf : (T k).2.2.2 = false
  · refine va_put (D := D) C.1 C.2.1 C.2.2.2.2.2.2.1 (fun w hw => List.mem_cons_of_mem _ (hc.2.1 w hw)) ty0 hty0 hc.2.2.1 C.2.2.2.2.2.1 C.2.2.2.2.2.2.2.1.1 hP hD hS a (zW_get ha) hc.1 k hk (C.2.2.2.2.2.2.1 _ (List.mem_cons_of_mem _ hlink)) (fun _ h9 => h9) hf hty hv2.1 hv2.2 hl2 hdg (fun H1 locs1 hP1 hD1 hS1 => ?_)
    exact kk p l e s m args below meth c cs D A ad0 ad n0 H1 locs1 lr C hn2 (by rw [zW_set, zE_set]; exact hP1) (by rw [zW_set, zE_set]; exact hD1) hS1 hl
  · obtain ⟨hin, hdecl⟩ := hfin.resolve_left hf
    have hf2 : (T k).2.2.2 = true := by simpa using hf
    refine va_putF (D := D) C.1 C.2.1 C.2.2.2.2.2.2.1 (fun w hw => List.mem_cons_of_mem _ (hc.2.1 w hw)) ty0 hty0 hc.2.2.1 C.2.2.2.2.2.1 C.2.2.2.2.2.2.2.1.1 hP hD hS a (zW_get ha) hc.1 k hk (C.2.2.2.2.2.2.1 _ (List.mem_cons_of_mem _ hlink)) (fun _ h9 => h9) hf2 (C.2.2.2.2.2.2.2.2.2.trans hin) hdecl hty hv2.1 hv2.2 hl2 hdg (fun H1 locs1 hP1 hD1 hS1 => ?_)
    exact kk p l e s m args below meth c cs D A ad0 ad n0 H1 locs1 lr C hn2 (by rw [zW_set, zE_set]; exact hP1) (by rw [zW_set, zE_set]; exact hD1) hS1 hl
-- making
theorem zUp_lt (ad : Nat → Nat) (n q : Nat) : ∀ k, k < n → (fun j => if j < n then ad j else q) k = ad k := fun k hk => by simp [hk]
def zUp (ad : Nat → Nat) (n q : Nat) : Nat → Nat := fun j => if j < n then ad j else q
theorem zUp_old {ad : Nat → Nat} {n q : Nat} : ∀ k, k < n → zUp ad n q k = ad k := fun k hk => if_pos hk
theorem zUp_new {ad : Nat → Nat} {n q : Nat} : zUp ad n q n = q := if_neg (Nat.lt_irrefl n)
theorem s_new {ci idx N : Nat} {Cn : String} {T : u_T} {ty : Nat → FieldType} {fs : List Value} (hc : zClass ci Cn T N) (hty : ∀ k, k < N → parseFieldDescriptor (T k).2.2.1 = some (ty k)) (hcl : Jvm.Cond.classLink g.1.cls idx Cn ∈ zT) (hins : Jvm.Cond.instantiable Cn N ∈ zT) (hini : Jvm.Cond.initialized Cn ∈ zT) (hfs : ∀ j, j < N → defaultValue (ty j) = vp_V fs j) (hre : ∀ ad : Nat → Nat, fs.map (zRe ad) = fs) (hdg : decode g.2.1 pc = .ok (.new idx, 3))
    (hb : (zBO σ.length ls && (zBL σ.length st && zBS σ.length σ)) = true) (huc : uc + 1 ≤ g.2.2.2.2.1) (hus : us + N ≤ g.2.2.2.2.2)
    (kk : zGood g d Q (pc + 3) ls (.ref σ.length :: st) (σ ++ [.inr (ci, fs)]) (uc + 1) (us + N)) : zGood g d Q pc ls st σ uc us := by
  intro p l e s m args below meth c cs D A ad0 ad n0 H locs lr C hn hP hD hS hl
  simp only [Bool.and_eq_true] at hb
  refine va_new (D := D) C.1 C.2.1 C.2.2.2.2.2.2.1 (fun w hw => List.mem_cons_of_mem _ (hc.2.1 w hw)) ty hty C.2.2.2.2.2.1 (C.2.2.2.2.2.2.1 _ (List.mem_cons_of_mem _ hcl)) (C.2.2.2.2.2.2.1 _ (List.mem_cons_of_mem _ hins)) (C.2.2.2.2.2.2.1 _ (List.mem_cons_of_mem _ hini)) C.2.2.2.2.2.2.2.1.1 hP hD hS C.2.2.2.2.2.2.2.2.1 hc.1 hfs huc hus hdg (fun q H1 hP1 hD1 hS1 => ?_)
  have e1 : zW cs (zUp ad σ.length q) (σ ++ [.inr (ci, fs)]) = zW cs ad σ ++ [(q, .inr (ci, fs))] := by
    rw [zW_push, zBS_re zUp_old (Nat.le_refl _) hb.2.2, zUp_new]
    simp only [zE]
    rw [hre]
  have e2 : (Value.ref σ.length :: st).map (zRe (zUp ad σ.length q)) = .ref q :: st.map (zRe ad) := by
    rw [List.map_cons, zBL_re zUp_old hb.2.1]
    exact congrArg (fun x => Value.ref x :: st.map (zRe ad)) zUp_new
  have h9 := kk p l e s m args below meth c cs D A ad0 (zUp ad σ.length q) n0 H1 locs lr C ⟨fun z => by omega, fun k hk => (zUp_old k (by have := hn.2.2.1; omega)).trans (hn.2.1 k hk), by rw [List.length_append]; have := hn.2.2.1; omega, huc, hus⟩ (by rw [e1]; exact hP1) (by rw [e1]; exact hD1) hS1 (zLoc_ad zUp_old hb.1 hl)
  rw [e2] at h9
  exact h9
theorem s_newa {n : Int32} {N : Nat} {t : Nat} {aty : ArrayType} (ht : (t = 0 ∧ aty = .int) ∨ (t = 1 ∧ aty = .boolean)) (harr : Jvm.Cond.arrayClass (newarray.typeOf aty) ∈ zT) (hdg : decode g.2.1 pc = .ok (.newarray aty, 2)) (h0 : ¬ n < 0) (hN : n.toNatClampNeg = N) (hsm : N ≤ 100000)
    (hb : (zBO σ.length ls && (zBL σ.length st && zBS σ.length σ)) = true) (huc : uc + 1 ≤ g.2.2.2.2.1) (hus : us + N ≤ g.2.2.2.2.2)
    (kk : zGood g d Q (pc + 2) ls (.ref σ.length :: st) (σ ++ [.inl (t, N, .inl (fun _ => 0))]) (uc + 1) (us + N)) : zGood g d Q pc ls (.int n :: st) σ uc us := by
  intro p l e s m args below meth c cs D A ad0 ad n0 H locs lr C hn hP hD hS hl
  simp only [Bool.and_eq_true] at hb
  have key : ∀ (q : Nat) (cA : ClassId) (H1 : Heap), cA = (bif Nat.beq t 0 then cs.1 else cs.2.1) → va_P D zCl (zW cs ad σ ++ [(q, .inl (cA, N, .inl (fun _ => 0)))]) H1 → va_D A (zW cs ad σ ++ [(q, .inl (cA, N, .inl (fun _ => 0)))]) → va_S A s.heap H1 locs →
      W p l e (zRm g d) s m args below meth c H1 locs (uc + 1) (us + N) (MQ below (zQ cs D A ad0 n0 g Q) args s g.2.2.2.2.1 g.2.2.2.2.2 A) (F0 m (pc + 2) lr (.ref q :: st.map (zRe ad))) := by
    intro q cA H1 hcA hP1 hD1 hS1
    subst hcA
    have e1 : zW cs (zUp ad σ.length q) (σ ++ [.inl (t, N, .inl (fun _ => 0))]) = zW cs ad σ ++ [(q, .inl (bif Nat.beq t 0 then cs.1 else cs.2.1, N, .inl (fun _ => 0)))] := by
      rw [zW_push, zBS_re zUp_old (Nat.le_refl _) hb.2.2, zUp_new]
      rfl
    have e2 : (Value.ref σ.length :: st).map (zRe (zUp ad σ.length q)) = .ref q :: st.map (zRe ad) := by
      rw [List.map_cons, zBL_re zUp_old hb.2.1]
      exact congrArg (fun x => Value.ref x :: st.map (zRe ad)) zUp_new
    have h9 := kk p l e s m args below meth c cs D A ad0 (zUp ad σ.length q) n0 H1 locs lr C ⟨fun z => by omega, fun k hk => (zUp_old k (by have := hn.2.2.1; omega)).trans (hn.2.1 k hk), by rw [List.length_append]; have := hn.2.2.1; omega, huc, hus⟩ (by rw [e1]; exact hP1) (by rw [e1]; exact hD1) hS1 (zLoc_ad zUp_old hb.1 hl)
    rw [e2] at h9
    exact h9
  have hKK := C.2.2.2.2.2.2.2.1.1
  rcases ht with ⟨rfl, rfl⟩ | ⟨rfl, rfl⟩
  · refine va_newa (D := D) (atype := .int) (ty := .int) (a0 := (N, .inl (fun _ => 0))) C.1 C.2.1 (C.2.2.2.2.2.2.1 _ (List.mem_cons_of_mem _ harr)) rfl hKK hP hD hS C.2.2.2.2.2.2.2.2.1 (fun _ => rfl) h0 hN (by show N * 4 ≤ _; omega) huc hus hdg (fun q cA H1 hK1 hP1 hD1 hS1 => ?_)
    have e1 : s.vm.findClass ("[" ++ (FieldType.int).toString) = some cA := (hK1.2 3 _ rfl).2
    have e2 : s.vm.findClass ("[" ++ (FieldType.int).toString) = some cs.1 := (hKK.2 0 _ rfl).2
    exact key q cA H1 (Option.some.inj (e1.symm.trans e2)) hP1 hD1 hS1
  · refine va_newa (D := D) (atype := .boolean) (ty := .boolean) (a0 := (N, .inl (fun _ => 0))) C.1 C.2.1 (C.2.2.2.2.2.2.1 _ (List.mem_cons_of_mem _ harr)) rfl hKK hP hD hS C.2.2.2.2.2.2.2.2.1 (fun _ => rfl) h0 hN (by show N * 1 ≤ _; omega) huc hus hdg (fun q cA H1 hK1 hP1 hD1 hS1 => ?_)
    have e1 : s.vm.findClass ("[" ++ (FieldType.boolean).toString) = some cA := (hK1.2 3 _ rfl).2
    have e2 : s.vm.findClass ("[" ++ (FieldType.boolean).toString) = some cs.2.1 := (hKK.2 1 _ rfl).2
    exact key q cA H1 (Option.some.inj (e1.symm.trans e2)) hP1 hD1 hS1
end ZF
-- calls
section ZC
variable {p : Program} {l : Launch} {e : Env} {R : Room} {s : State} {m : MethodId} {args : Array Value} {below : List Frame} {meth : Method} {c : Code} {H : Heap} {locs : List Loc} {cells slots : Nat} {Qm : State → Prop}
theorem z_after {cs : ClassId × ClassId × ClassId} {D : va_G} {A0 A1 : Nat → Prop} {ad : Nat → Nat} {n : Nat} {g' : zG} {Q' : Option Value → List va_E → Prop} {a : Array Value} {H0 : Heap} {pc : Nat} {lr : Array Slot} {st0 rest : List Value}
    (hr : va_Run p l e R s m args below meth c H locs cells slots g'.2.2.2.2.1 g'.2.2.2.2.2 (F0 m pc lr st0) rest (zQ cs D A1 ad n g' Q' a) A1) (hS : va_S A0 H0 H locs) (hf : ∀ q, A1 q → A0 q)
    (kk : ∀ (v : Option Value) (ad' : Nat → Nat) (σ' : List va_E) (H1 : Heap) (locs1 : List Loc), Q' v σ' → (g'.2.2.2.2.1 = 0 → ad' = ad) → (∀ k, k < n → ad' k = ad k) → n ≤ σ'.length → va_P D zCl (zW cs ad' σ') H1 → va_D A1 (zW cs ad' σ') → va_S A0 H0 H1 locs1 →
      W p l e R s m args below meth c H1 locs1 (cells + g'.2.2.2.2.1) (slots + g'.2.2.2.2.2) Qm (F0 m (pc + 3) lr ((v.map (zRe ad')).toList ++ rest))) : W p l e R s m args below meth c H locs cells slots Qm (F0 m pc lr st0) := by
  intro T hT X
  obtain ⟨v, st₀, t, T', L, h0, X', hL, e1, e2, ⟨⟨v', ad', σ', hv, q1, q2, q3, q4, q5, q6⟩, hz, hk⟩, st⟩ := hr T hT X
  cases hv
  rw [h0] at hz hk
  obtain ⟨t2, a1, b1⟩ := kk v' ad' σ' T'.heap (locs ++ L) q1 q2 q3 q4 (by rw [e1]; exact q5) q6
    ⟨Nat.le_trans hS.1 (by rw [e1]; exact hz), fun q h1 h2 => by rw [e1, hk q (Nat.lt_of_lt_of_le h1 hS.1) (fun z => h2 (hf q z))]; exact hS.2.1 q h1 h2, fun q hq => by
      rcases List.mem_append.mp hq with h | h
      · exact hS.2.2 q h
      · exact hf _ (hL q h)⟩ T' rfl X'
  exact ⟨t2, st t2 a1, b1⟩
end ZC
def zPop : Nat → List Value → List Value → Option (List Value × List Value)
  | 0, acc, st => some (acc, st)
  | n + 1, acc, v :: st => zPop n (v :: acc) st
  | _ + 1, _, [] => none
theorem zPop_eq : ∀ {n : Nat} {acc st av r : List Value}, zPop n acc st = some (av, r) → av.reverse ++ r = acc.reverse ++ st ∧ av.length = acc.length + n
  | 0, acc, st, av, r, h => by cases h; exact ⟨rfl, rfl⟩
  | n + 1, acc, v :: st, av, r, h => by
    obtain ⟨h1, h2⟩ := zPop_eq (n := n) (acc := v :: acc) (st := st) h
    refine ⟨by rw [h1]; simp, by rw [h2, List.length_cons]; omega⟩
  | n + 1, acc, [], av, r, h => by cases h
def zCat : List Value → Nat
  | [] => 0
  | v :: r => v.category + zCat r
theorem zCat_eq (ad : Nat → Nat) : ∀ (r : List Value), ((r.map (zRe ad)).map fun v => v.category).sum = zCat r
  | [] => rfl
  | v :: r => by
    rw [List.map_cons, List.map_cons, List.sum_cons, zCat_eq ad r, zRe_cat]
    rfl
def zMeth (own : String) (g' : zG) (idx kind n ci : Nat) : Prop :=
  zCd g' ∈ zT ∧ Jvm.Cond.initialized g'.1.cls ∈ zT ∧ (g'.1.cls ≠ "java/lang/invoke/MethodHandle" ∧ g'.1.cls ≠ "java/lang/invoke/VarHandle") ∧ g'.2.2.1 ≤ 21 ∧
  match kind with
  | 0 => Jvm.Cond.methodLink own idx g'.1 ∈ zT ∧ Jvm.Cond.instanceMethod g'.1 ∈ zT ∧ Jvm.Cond.selects g'.1.cls g'.1 g'.1 ∈ zT ∧ (parseMethodDescriptor g'.1.desc).map (fun d => d.parameters.length + 1) = some n ∧ (zCl[ci]?).map (fun q => q.1) = some g'.1.cls
  | 1 => Jvm.Cond.methodLink own idx g'.1 ∈ zT ∧ Jvm.Cond.static g'.1 ∈ zT ∧ (parseMethodDescriptor g'.1.desc).map (fun d => d.parameters.length) = some n
  | 2 => Jvm.Cond.methodLink own idx g'.1 ∈ zT ∧ Jvm.Cond.instanceMethod g'.1 ∈ zT ∧ g'.1.name = "<init>" ∧ g'.2.2.2.1 = none ∧ (parseMethodDescriptor g'.1.desc).map (fun d => d.parameters.length + 1) = some n ∧ (zCl[ci]?).map (fun q => q.1) = some g'.1.cls
  | 3 => Jvm.Cond.methodLinkNest own idx g'.1 "BlameTown" ∈ zN ∧ Jvm.Cond.static g'.1 ∈ zT ∧ (parseMethodDescriptor g'.1.desc).map (fun d => d.parameters.length) = some n
  | _ => False
section ZD
variable {g g' : zG} {d : Nat} {Q : Option Value → List va_E → Prop} {pc : Nat} {ls : List (Option Value)} {st rest av : List Value} {σ : List va_E} {uc us : Nat}
theorem z_free {cs : ClassId × ClassId × ClassId} {ad : Nat → Nat} {A : Nat → Prop} {H0 H : Heap} {locs : List Loc} (hD : va_D A (zW cs ad σ)) (hS : va_S A H0 H locs) (hA : ∀ q, H0.size ≤ q → A q) : ∀ q, va_A (zW cs ad σ) H.size q → A q := by
  intro q hq
  rcases hq with ⟨k, e, hk⟩ | h
  · exact hD.2 k _ hk
  · exact hA q (Nat.le_trans hS.1 h)
theorem z_blind {cs : ClassId × ClassId × ClassId} {D : va_G} {ad : Nat → Nat} {sz : Nat} {vs : List Value} : FrameBlind (va_Pc vs (fun U => U.heap.size = sz ∧ va_P D zCl (zW cs ad σ) U.heap ∧ zK cs D U ∧ va_D (fun _ => True) (zW cs ad σ))) :=
  fun a U gg mk q => ⟨q.1, q.2.1, q.2.2.1, zK_same (u := U) (U := U.calling gg mk a) rfl q.2.2.2.1, q.2.2.2.2⟩
theorem s_call {idx kind n ci : Nat} (hm : zMeth g.1.cls g' idx kind n ci) (hdg : decode g.2.1 pc = .ok ((if kind = 0 then Instr.invokevirtual idx else if kind = 2 then Instr.invokespecial idx else Instr.invokestatic idx), 3))
    (hpop : zPop n [] st = some (av, rest)) (hrest : zCat rest ≤ 8)
    (hrecv : (kind = 0 ∨ kind = 2) → ∃ b fs As, av = .ref b :: As ∧ σ[b]? = some (.inr (ci, fs)))
    (hb : g'.2.2.2.2.1 ≠ 0 → (zBO σ.length ls && zBL σ.length rest) = true) (huc : uc + g'.2.2.2.2.1 ≤ g.2.2.2.2.1) (hus : us + g'.2.2.2.2.2 ≤ g.2.2.2.2.2)
    (kk : zRuns g' d av σ (fun v σ' => zGood g (d + 1) Q (pc + 3) ls (v.toList ++ rest) σ' (uc + g'.2.2.2.2.1) (us + g'.2.2.2.2.2))) : zGood g (d + 1) Q pc ls st σ uc us := by
  intro p l e s m args below meth c cs D A ad0 ad n0 H locs lr C hn hP hD hS hl
  obtain ⟨m1, m2, m3, m4, m5⟩ := hm
  obtain ⟨p1, p2⟩ := zPop_eq hpop
  simp only [List.reverse_nil, List.nil_append, List.length_nil, Nat.zero_add] at p1 p2
  have hF := z_free (σ := σ) hD hS C.2.2.2.2.2.2.2.2.1
  have hts := C.2.2.2.2.2.2.1
  have ht : ∀ w ∈ zT, w.before args s = true := fun w hw => hts w (List.mem_cons_of_mem _ hw)
  have hG : GoodIn (zWs g) (zWs g') := zT_app (zWs_in m1)
  have hrm : (zRm g' d).frames + 1 ≤ (zRm g (d + 1)).frames ∧ 8 + (g'.2.2.1 + 11) + (zRm g' d).locals ≤ (zRm g (d + 1)).locals := ⟨Nat.le_refl _, by show 8 + (g'.2.2.1 + 11) + 40 * d ≤ 40 * (d + 1); omega⟩
  have hsize : lr.size = g.2.2.1 := hl.1
  have hrest2 : ((rest.map (zRe ad)).map fun v => v.category).sum ≤ 8 := by rw [zCat_eq]; exact hrest
  have hpre : ∀ U : State, U.heap = H → s.WarmedH U.vm → (fun U => U.heap.size = H.size ∧ va_P D zCl (zW cs ad σ) U.heap ∧ zK cs D U ∧ va_D (fun _ => True) (zW cs ad σ)) U := fun U hU hW => ⟨by rw [hU], by rw [hU]; exact hP, zK_warm hW C.2.2.2.2.2.2.2.1, hD.weaken (fun _ _ _ _ => trivial)⟩
  have hfit : uc + g'.2.2.2.2.1 ≤ (zRm g (d + 1)).cells ∧ us + g'.2.2.2.2.2 ≤ (zRm g (d + 1)).slots := ⟨huc, hus⟩
  have hfix : CallFix p m c g.2.1 g.2.2.1 s args (zWs g) g.1.cls := ⟨C.1, C.2.1, C.2.2.1, C.2.2.2.2.2.1, hts⟩
  have hMet := kk l cs D ad H.size
  have hst : st.map (zRe ad) = (av.map (zRe ad)).reverse ++ rest.map (zRe ad) := by rw [← p1, List.map_append, List.map_reverse]
  have hrun : va_Run p l e (zRm g (d + 1)) s m args below meth c H locs uc us g'.2.2.2.2.1 g'.2.2.2.2.2 (F0 m pc lr (st.map (zRe ad))) (rest.map (zRe ad)) (zQ cs D (va_A (zW cs ad σ) H.size) ad σ.length g' (fun v σ' => zGood g (d + 1) Q (pc + 3) ls (v.toList ++ rest) σ' (uc + g'.2.2.2.2.1) (us + g'.2.2.2.2.2)) (av.map (zRe ad)).toArray) (va_A (zW cs ad σ) H.size) := by
    match kind, m5, hdg, hrecv with
    | 0, m5, hdg, hrecv =>
      obtain ⟨a1, a2, a3, a4, a5⟩ := m5
      obtain ⟨b, fs, As, rfl, hbo⟩ := hrecv (Or.inl rfl)
      obtain ⟨q9, hq9, hq8⟩ := Option.map_eq_some_iff.mp a5
      have hrc := va_recv C.2.2.2.2.2.2.2.1.1 hP hq9 (zW_get hbo)
      rw [hq8] at hrc
      rw [List.map_cons] at hst hMet ⊢
      have hlen : (As.map (zRe ad)).length = n - 1 := by rw [List.length_map]; rw [List.length_cons] at p2; omega
      refine va_runV (As := As.map (zRe ad)) (rest := rest.map (zRe ad)) hfix hMet (cwV (n - 1) hts (zT_app fun w hw => ?_) rfl rfl rfl ⟨rfl, m3.1, m3.2, ?_⟩ hrm) ⟨z_blind, hrc, fun U hU hW => ⟨rfl, hpre U hU hW⟩⟩ rfl hlen hsize ?_ (lv_room hrest2) hdg hfit
      · rcases List.mem_append.mp hw with h | h
        · simp only [List.mem_cons, List.not_mem_nil, or_false] at h
          rcases h with rfl | rfl | rfl | rfl
          · exact a1
          · exact a2
          · exact a3
          · exact m2
        · exact zWs_in m1 w h
      · cases hp9 : parseMethodDescriptor g'.1.desc with
        | none => rw [hp9] at a4; cases a4
        | some dd =>
          rw [hp9] at a4
          have h7 : dd.parameters.length + 1 = n := Option.some.inj a4
          exact congrArg some (show dd.parameters.length = n - 1 by omega)
      · show st.map (zRe ad) = _
        rw [hst, List.reverse_cons, List.append_assoc]
        rfl
    | 1, m5, hdg, hrecv =>
      obtain ⟨a1, a2, a3⟩ := m5
      have hlen : (av.map (zRe ad)).length = n := by rw [List.length_map]; exact p2
      refine va_runS (As := av.map (zRe ad)) (rest := rest.map (zRe ad)) hfix hMet (va_cwS n hts (zT_app fun w hw => ?_) rfl rfl rfl ⟨m3.1, m3.2, a3⟩ hrm) ⟨z_blind, fun U hU hW => ⟨rfl, hpre U hU hW⟩⟩ rfl hlen hsize ?_ (lv_room hrest2) hdg hfit
      · rcases List.mem_append.mp hw with h | h
        · simp only [List.mem_cons, List.not_mem_nil, or_false] at h
          rcases h with rfl | rfl | rfl
          · exact a1
          · exact a2
          · exact m2
        · exact zWs_in m1 w h
      · exact hst
    | 2, m5, hdg, hrecv =>
      obtain ⟨a1, a2, a3, a4, a5, a6⟩ := m5
      obtain ⟨b, fs, As, rfl, hbo⟩ := hrecv (Or.inr rfl)
      rw [List.map_cons] at hst hMet ⊢
      have hlen : (As.map (zRe ad)).length = n - 1 := by rw [List.length_map]; rw [List.length_cons] at p2; omega
      refine va_runI (As := As.map (zRe ad)) (rest := rest.map (zRe ad)) hfix hMet (cwI (n - 1) hts hG (by rw [← a4]; rfl) rfl rfl (ht _ m2) (ht _ a1) (ht _ a2) a3 ⟨m3.1, m3.2, ?_⟩ hrm) ⟨z_blind, fun U hU hW => ⟨rfl, hpre U hU hW⟩⟩ rfl hlen hsize ?_ (lv_room hrest2) hdg hfit
      · cases hp9 : parseMethodDescriptor g'.1.desc with
        | none => rw [hp9] at a5; cases a5
        | some dd =>
          rw [hp9] at a5
          have h7 : dd.parameters.length + 1 = n := Option.some.inj a5
          exact congrArg some (show dd.parameters.length = n - 1 by omega)
      · show st.map (zRe ad) = _
        rw [hst, List.reverse_cons, List.append_assoc]
        rfl
    | 3, m5, hdg, hrecv =>
      obtain ⟨a1, a2, a3⟩ := m5
      have hlen : (av.map (zRe ad)).length = n := by rw [List.length_map]; exact p2
      refine va_runSN (host := "BlameTown") (As := av.map (zRe ad)) (rest := rest.map (zRe ad)) hfix hMet ⟨va_cnB n hts hG rfl rfl rfl (C.2.2.2.2.2.2.2.1.2.1 _ a1) (ht _ m2) ⟨m3.1, m3.2, a3⟩ hrm, ht _ a2, trivial⟩ ⟨z_blind, fun U hU hW => ⟨rfl, hpre U hU hW⟩⟩ rfl hlen hsize hst (lv_room hrest2) hdg hfit
    | k + 4, m5, hdg, hrecv => exact m5.elim
  refine z_after hrun hS hF (fun v ad' σ' H1 locs1 q1 q2 q3 q4 q5 q6 hS1 => ?_)
  have hres : (v.toList ++ rest).map (zRe ad') = (v.map (zRe ad')).toList ++ rest.map (zRe ad) := by
    rw [List.map_append]
    congr 1
    · cases v <;> rfl
    · by_cases hz : g'.2.2.2.2.1 = 0
      · rw [q2 hz]
      · have h7 := hb hz
        simp only [Bool.and_eq_true] at h7
        exact zBL_re q3 h7.2
  have hloc : zLoc ad' ls lr g.2.2.1 := by
    by_cases hz : g'.2.2.2.2.1 = 0
    · rw [q2 hz]; exact hl
    · have h7 := hb hz
      simp only [Bool.and_eq_true] at h7
      exact zLoc_ad q3 h7.1 hl
  have h9 := q1 p l e s m args below meth c cs D A ad0 ad' n0 H1 locs1 lr C ⟨fun z => (q2 (by omega)).trans (hn.1 z), fun k hk => (q3 k (by have := hn.2.2.1; omega)).trans (hn.2.1 k hk), by have := hn.2.2.1; omega, huc, hus⟩ q5 (q6.weaken (fun k q _ h => hF q.1 h)) hS1 hloc
  rw [hres] at h9
  exact h9
theorem s_oinit {idx : Nat} {v : Nat} (h1 : Jvm.Cond.methodLink g.1.cls idx objectInit ∈ zT) (h2 : Jvm.Cond.instanceMethod objectInit ∈ zT) (h3 : Jvm.Cond.code objectInit ⟨#[0xb1]⟩ 1 none ∈ zT) (hdg : decode g.2.1 pc = .ok (.invokespecial idx, 3)) (hr : zCat st ≤ 8)
    (kk : zGood g (d + 1) Q (pc + 3) ls st σ uc us) : zGood g (d + 1) Q pc ls (.ref v :: st) σ uc us := by
  intro p l e s m args below meth c cs D A ad0 ad n0 H locs lr C hn hP hD hS hl
  have ht : ∀ w ∈ zT, w.before args s = true := fun w hw => C.2.2.2.2.2.2.1 w (List.mem_cons_of_mem _ hw)
  have h9 : ((st.map (zRe ad)).map fun v => v.category).sum ≤ 8 := by rw [zCat_eq]; exact hr
  exact W.objInit C.1 C.2.1 C.2.2.2.2.2.1 (ht _ h1) (ht _ h2) (ht _ h3) rfl (hl.1.trans C.2.2.1.symm) rfl hdg (by show 1 ≤ d + 1; omega) (by show 2 * 0 + ((st.map (zRe ad)).map fun v => v.category).sum + 12 ≤ 40 * (d + 1); omega) (kk p l e s m args below meth c cs D A ad0 ad n0 H locs lr C hn hP hD hS hl)
-- ends
theorem s_iret {v : Int32} (hr : g.2.2.2.1 = some .int) (hdg : decode g.2.1 pc = .ok (.ireturn, 1)) (hQ : Q (some (.int v)) σ) : zGood g d Q pc ls [.int v] σ uc us := by
  intro p l e s m args below meth c cs D A ad0 ad n0 H locs lr C hn hP hD hS hl
  refine W.widen hn.2.2.2.1 hn.2.2.2.2 ?_
  exact W.iret C.1 C.2.1 (C.2.2.2.1.trans hr) (fun t ht _ => ⟨⟨some (.int v), ad, σ, rfl, hQ, hn.1, hn.2.1, hn.2.2.1, by rw [ht]; exact hP, hD⟩, hS.F ht⟩) hS.2.2 hdg C.2.2.2.2.1
theorem s_zret {v : Int32} (hr : g.2.2.2.1 = some .boolean) (hv : v &&& 1 = v) (hdg : decode g.2.1 pc = .ok (.ireturn, 1)) (hQ : Q (some (.int v)) σ) : zGood g d Q pc ls [.int v] σ uc us := by
  intro p l e s m args below meth c cs D A ad0 ad n0 H locs lr C hn hP hD hS hl
  refine W.widen hn.2.2.2.1 hn.2.2.2.2 ?_
  exact W.zret C.1 C.2.1 (C.2.2.2.1.trans hr) (by show Value.int (v &&& 1) = _; rw [hv]) (fun t ht _ => ⟨⟨some (.int v), ad, σ, rfl, hQ, hn.1, hn.2.1, hn.2.2.1, by rw [ht]; exact hP, hD⟩, hS.F ht⟩) hS.2.2 hdg C.2.2.2.2.1
theorem s_vret (hr : g.2.2.2.1 = none) (hdg : decode g.2.1 pc = .ok (.return_, 1)) (hQ : Q none σ) : zGood g d Q pc ls [] σ uc us := by
  intro p l e s m args below meth c cs D A ad0 ad n0 H locs lr C hn hP hD hS hl
  refine W.widen hn.2.2.2.1 hn.2.2.2.2 ?_
  exact W.vret C.1 C.2.1 (C.2.2.2.1.trans hr) (fun t ht _ => ⟨⟨none, ad, σ, rfl, hQ, hn.1, hn.2.1, hn.2.2.1, by rw [ht]; exact hP, hD⟩, hS.F ht⟩) hS.2.2 hdg C.2.2.2.2.1
theorem s_aret {v : Value} {nm : String} (hr : g.2.2.2.1 = some (.object nm)) (hv : v = .null ∨ ∃ a, v = .ref a) (hdg : decode g.2.1 pc = .ok (.areturn, 1)) (hQ : Q (some v) σ) : zGood g d Q pc ls [v] σ uc us := by
  intro p l e s m args below meth c cs D A ad0 ad n0 H locs lr C hn hP hD hS hl
  refine W.widen hn.2.2.2.1 hn.2.2.2.2 ?_
  exact W.aret C.1 C.2.1 (C.2.2.2.1.trans hr) (Or.inl ⟨nm, rfl⟩) (by rcases hv with rfl | ⟨a, rfl⟩; exact Or.inl rfl; exact Or.inr ⟨_, rfl⟩) (fun t ht _ => ⟨⟨some v, ad, σ, rfl, hQ, hn.1, hn.2.1, hn.2.2.1, by rw [ht]; exact hP, hD⟩, hS.F ht⟩) hS.2.2 hdg C.2.2.2.2.1
-- a method's entry
def zArgs : Nat → List Value → List (Option Value)
  | 0, _ => []
  | n + 1, [] => none :: zArgs n []
  | n + 1, v :: r => some v :: zArgs n r
def zC1 : List Value → Bool
  | [] => true
  | .long _ :: _ => false
  | .double _ :: _ => false
  | _ :: r => zC1 r
theorem zArgs_get : ∀ {n : Nat} {vs : List Value} {k : Nat} {v : Value}, zGet (zArgs n vs) k = some v → vs[k]? = some v
  | 0, vs, k, v, h => by cases h
  | n + 1, [], 0, v, h => by cases h
  | n + 1, [], k + 1, v, h => by
    have := zArgs_get (n := n) (vs := []) (k := k) h
    simp at this
  | n + 1, a :: r, 0, v, h => by cases h; rfl
  | n + 1, a :: r, k + 1, v, h => by
    have := zArgs_get (n := n) (vs := r) (k := k) h
    simpa using this
theorem zArgs_lv {ad : Nat → Nat} : ∀ {vs : List Value} {i k : Nat} {v : Value}, zC1 vs = true → vs[k]? = some v → (i + k, zRe ad v) ∈ lv_args i (vs.map (zRe ad))
  | [], i, k, v, _, h => by simp at h
  | a :: r, i, k, v, hc, h => by
    have h1 : a.category = 1 ∧ zC1 r = true := by cases a <;> first | exact ⟨rfl, hc⟩ | cases hc
    rw [List.map_cons]
    show (i + k, zRe ad v) ∈ (i, zRe ad a) :: lv_args (if (zRe ad a).category = 2 then i + 2 else i + 1) (r.map (zRe ad))
    cases k with
    | zero =>
      have : a = v := by simpa using h
      subst this
      exact List.mem_cons_self
    | succ k =>
      have h2 : r[k]? = some v := by simpa using h
      rw [zRe_cat, h1.1, if_neg (by decide), show i + (k + 1) = i + 1 + k by omega]
      exact List.mem_cons_of_mem _ (zArgs_lv h1.2 h2)
theorem zSl_len {ad : Nat → Nat} : ∀ {vs : List Value}, zC1 vs = true → (lg_sl (vs.map (zRe ad))).length = vs.length
  | [], _ => rfl
  | a :: r, hc => by
    have h1 : a.category = 1 ∧ zC1 r = true := by cases a <;> first | exact ⟨rfl, hc⟩ | cases hc
    have h2 := zSl_len (ad := ad) h1.2
    unfold lg_sl at h2 ⊢
    rw [List.map_cons, List.flatMap_cons, List.length_append, h2, zRe_cat, h1.1, if_neg (by decide), List.length_cons]
    simp
    omega
theorem zEnter (hy : plainName g.1.cls = true) (hc1 : zC1 av = true) (hlen : av.length ≤ g.2.2.1) (k : zGood g d Q 0 (zArgs g.2.2.1 av) [] σ 0 0) : zRuns g d av σ Q := by
  intro l cs D ad sz
  refine Met.ofW (cc := g.2.1) (maxL := g.2.2.1) (ret := g.2.2.2.1) hy rfl ?_
  intro p e s m args below meth c s₁ B hml hv
  obtain ⟨rfl, hsz, hP, hK, hD0⟩ := hv
  have hts := atoms_spec (ws := zWs g) B.pre
  have hown : s.vm.findClass g.1.cls = some m.cls := findClass_of_methodNamed B.named
  subst hsz
  have hD := hD0.self (sz := s.heap.size)
  have hl0 := lv_entry (av.map (zRe ad)) (n := g.2.2.1) (by rw [zSl_len hc1]; exact hlen)
  rw [lg_entry_eq]
  refine k p l e s m _ below meth c cs D (va_A (zW cs ad σ) s.heap.size) ad ad σ.length s.heap [] _ ⟨B.exec, B.bytes, hml, B.returns, B.notSynchronized, hown, hts, hK, fun q h => Or.inr h, (name_of_methodNamed B.named B.method).1⟩ ⟨fun _ => rfl, fun _ _ => rfl, Nat.le_refl _, Nat.zero_le _, Nat.zero_le _⟩ hP hD va_S.rf ⟨hl0.1, hl0.2.1, fun k v hkv => hl0.2.2 (k, zRe ad v) ?_⟩
  have := zArgs_lv (ad := ad) (i := 0) hc1 (zArgs_get hkv)
  rwa [Nat.zero_add] at this
end ZD
