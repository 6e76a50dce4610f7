/-! The heap as a list of cells: a reference is a place in the list; 'ad' gives each place its address. Q: what is to hold of the answer and the list behind it. -/
def zT : List Jvm.Cond := lw_tbl.filter goodWord
def zIsN : Jvm.Cond → Bool
  | .methodLinkNest .. => true
  | _ => false
def zN : List Jvm.Cond := lw_tbl.filter zIsN
abbrev zG : Type := MethodName × ByteArray × Nat × Option FieldType × Nat × Nat
def zCd (g : zG) : Jvm.Cond := .code g.1 g.2.1 g.2.2.1 g.2.2.2.1
def zWs (g : zG) : List Jvm.Cond := zCd g :: zT
def zRm (g : zG) (d : Nat) : Room := { frames := d, cells := g.2.2.2.2.1, slots := g.2.2.2.2.2, locals := 40 * d }
theorem zT_good {w : Jvm.Cond} (h : w ∈ zT) : w ∈ lw_tbl ∧ goodWord w = true := List.mem_filter.mp h
theorem zT_app {g : zG} {ws : List Jvm.Cond} (h : ∀ w ∈ ws, w ∈ zT) : GoodIn (zWs g) ws := fun w hw => ⟨List.mem_cons_of_mem _ (h w hw), good_of_word (zT_good (h w hw)).2⟩
theorem zWs_in {g : zG} (h : zCd g ∈ zT) : ∀ w ∈ zWs g, w ∈ zT := fun w hw => by
  rcases List.mem_cons.mp hw with rfl | h2
  · exact h
  · exact h2
-- values, cells, worlds
def zRe (ad : Nat → Nat) : Value → Value
  | .ref k => .ref (ad k)
  | v => v
theorem zRe_cat (ad : Nat → Nat) (v : Value) : (zRe ad v).category = v.category := by cases v <;> rfl
def zE (cs : ClassId × ClassId × ClassId) (ad : Nat → Nat) : va_E → va_E
  | .inl (t, n, .inl f) => .inl (bif Nat.beq t 0 then cs.1 else cs.2.1, n, .inl f)
  | .inl (_, n, .inr (.inr (.inr (.inr f)))) => .inl (cs.2.2, n, .inr (.inr (.inr (.inr (fun j => if j < n then (f j).map ad else none)))))
  | .inl (_, x) => .inl (cs.1, x)
  | .inr (ci, fs) => .inr (ci, fs.map (zRe ad))
def zW (cs : ClassId × ClassId × ClassId) (ad : Nat → Nat) (σ : List va_E) : va_W := σ.mapIdx (fun k e => (ad k, zE cs ad e))
theorem zW_get {cs : ClassId × ClassId × ClassId} {ad : Nat → Nat} {σ : List va_E} {k : Nat} {e : va_E} (h : σ[k]? = some e) : (zW cs ad σ)[k]? = some (ad k, zE cs ad e) := by
  simp [zW, List.getElem?_mapIdx, h]
theorem zW_set {cs : ClassId × ClassId × ClassId} {ad : Nat → Nat} {σ : List va_E} {k : Nat} {e : va_E} : zW cs ad (σ.set k e) = (zW cs ad σ).set k (ad k, zE cs ad e) := by
  apply List.ext_getElem?
  intro j
  simp only [zW, List.getElem?_mapIdx, List.getElem?_set, List.length_mapIdx]
  by_cases h : k = j
  · subst h
    by_cases h2 : k < σ.length <;> simp [h2]
  · simp [h]
theorem zW_push {cs : ClassId × ClassId × ClassId} {ad : Nat → Nat} {σ : List va_E} {e : va_E} : zW cs ad (σ ++ [e]) = zW cs ad σ ++ [(ad σ.length, zE cs ad e)] := by
  simp [zW, List.mapIdx_append]
-- references below a bound
def zBV (n : Nat) : Value → Bool
  | .ref k => Nat.blt k n
  | _ => true
def zBL (n : Nat) : List Value → Bool
  | [] => true
  | v :: r => zBV n v && zBL n r
def zBO (n : Nat) : List (Option Value) → Bool
  | [] => true
  | some v :: r => zBV n v && zBO n r
  | none :: r => zBO n r
def zBF (n : Nat) (f : Nat → Option Nat) : Nat → Bool
  | 0 => true
  | m + 1 => (match f m with | some k => Nat.blt k n | none => true) && zBF n f m
def zBE (n : Nat) : va_E → Bool
  | .inr (_, fs) => zBL n fs
  | .inl (_, m, .inr (.inr (.inr (.inr f)))) => zBF n f m
  | _ => true
def zBS (n : Nat) : List va_E → Bool
  | [] => true
  | e :: r => zBE n e && zBS n r
theorem zBV_re {ad ad' : Nat → Nat} {n : Nat} (hk : ∀ k, k < n → ad' k = ad k) {v : Value} (h : zBV n v = true) : zRe ad' v = zRe ad v := by
  cases v <;> first | rfl | (rename_i k; exact congrArg Value.ref (hk k (by simpa [zBV] using h)))
theorem zBL_re {ad ad' : Nat → Nat} {n : Nat} (hk : ∀ k, k < n → ad' k = ad k) : ∀ {l : List Value}, zBL n l = true → l.map (zRe ad') = l.map (zRe ad)
  | [], _ => rfl
  | v :: r, h => by
    have h2 : zBV n v = true ∧ zBL n r = true := by simpa [zBL] using h
    rw [List.map_cons, List.map_cons, zBV_re hk h2.1, zBL_re hk h2.2]
theorem zBF_re {ad ad' : Nat → Nat} {n : Nat} (hk : ∀ k, k < n → ad' k = ad k) {f : Nat → Option Nat} : ∀ {m : Nat}, zBF n f m = true → ∀ j, j < m → (f j).map ad' = (f j).map ad
  | 0, _ => fun j hj => absurd hj (Nat.not_lt_zero j)
  | m + 1, h => fun j hj => by
    have h2 : (match f m with | some k => Nat.blt k n | none => true) = true ∧ zBF n f m = true := by
      unfold zBF at h
      exact Bool.and_eq_true_iff.mp h
    by_cases e : j = m
    · subst e
      cases hf : f j with
      | none => rfl
      | some k =>
        have h3 := h2.1
        rw [hf] at h3
        exact congrArg some (hk k (by simpa using h3))
    · exact zBF_re hk h2.2 j (by omega)
theorem zBE_re {cs : ClassId × ClassId × ClassId} {ad ad' : Nat → Nat} {n : Nat} (hk : ∀ k, k < n → ad' k = ad k) {e : va_E} (h : zBE n e = true) : zE cs ad' e = zE cs ad e := by
  rcases e with ⟨t, m, f | f | f | f | f⟩ | ⟨ci, fs⟩
  · rfl
  · rfl
  · rfl
  · rfl
  · have h2 := zBF_re hk (f := f) (m := m) h
    have h3 : (fun j => if j < m then (f j).map ad' else none) = (fun j => if j < m then (f j).map ad else none) := funext fun j => by
      by_cases hj : j < m
      · simp [hj, h2 j hj]
      · simp [hj]
    simp only [zE]
    rw [h3]
  · simp only [zE]
    rw [zBL_re hk h]
theorem zBS_re {cs : ClassId × ClassId × ClassId} {ad ad' : Nat → Nat} {n : Nat} (hk : ∀ k, k < n → ad' k = ad k) {σ : List va_E} (hl : σ.length ≤ n) (h : zBS n σ = true) : zW cs ad' σ = zW cs ad σ := by
  have key : ∀ (σ : List va_E), zBS n σ = true → ∀ e ∈ σ, zE cs ad' e = zE cs ad e := by
    intro σ
    induction σ with
    | nil => intro _ e he; cases he
    | cons a r ih =>
      intro h e he
      have h2 : zBE n a = true ∧ zBS n r = true := by simpa [zBS] using h
      rcases List.mem_cons.mp he with rfl | he
      · exact zBE_re hk h2.1
      · exact ih h2.2 e he
  apply List.ext_getElem?
  intro j
  simp only [zW, List.getElem?_mapIdx]
  cases hj : σ[j]? with
  | none => rfl
  | some e =>
    have hlt : j < σ.length := (List.getElem?_eq_some_iff.mp hj).1
    simp only [Option.map_some]
    rw [hk j (by omega), key σ h e (List.mem_of_getElem? hj)]
-- what the tables say all along
def zAO (U : State) : Prop := (Jvm.Cond.arrayOver (.array .int)).before #[] U = true
theorem zAO_moved {u U : State} (hvm : u.vm.Alike U.vm) (h : zAO u) : zAO U := by
  obtain ⟨comp, c, k, h1, h2, h3, h4, h5⟩ := arrayOverA_spec h
  obtain ⟨k', hk', he⟩ := hvm.2.2 _ _ h3
  have hi : (U.vm.classes.findIdx? fun (x : Class) => match x.kind with | .array component _ => component == comp | _ => false) = some c := by
    have e1 := va_idx_bare U.vm comp
    have e2 := va_idx_bare u.vm comp
    have e3 : u.vm.bare = U.vm.bare := by first | exact hvm.bare_eq | exact hvm.bare_eq.symm
    rw [e3] at e2
    exact e1.symm.trans (e2.trans h2)
  have hkind : k'.kind = .array comp (.array .int) := by rw [he]; exact h4
  have f1 : U.vm.findClass (FieldType.array .int).toString = some comp := by rw [hvm.findClass]; exact h1
  have f2 : U.vm.findClass ("[" ++ (FieldType.array .int).toString) = some c := by rw [hvm.findClass]; exact h5
  unfold zAO Jvm.Cond.before Jvm.Cond.holds
  simp only [Jvm.Cond.value]
  rw [f1, Option.bind_some]
  refine (congrArg (fun o : Option Nat => (o.bind (fun c => (U.vm.classes[c]?).map fun (k : Class) => match k.kind with | .array _ ty => decide (ty = FieldType.array .int) && decide (U.vm.findClass ("[" ++ (FieldType.array .int).toString) = some c) | _ => false) == some true)) hi).trans ?_
  simp [hk', hkind, f2]
def zTy (cs : ClassId × ClassId × ClassId) : List (ClassId × FieldType) := [(cs.1, .int), (cs.2.1, .boolean), (cs.2.2, .array .int)]
def zK (cs : ClassId × ClassId × ClassId) (D : va_G) (U : State) : Prop := va_K D zCl (zTy cs) U ∧ (∀ w ∈ zN, va_Nw w U) ∧ zAO U
theorem zK_warm {cs : ClassId × ClassId × ClassId} {D : va_G} {u U : State} (hW : u.WarmedH U.vm) (h : zK cs D u) : zK cs D U := by
  refine ⟨va_K.moved hW.alike h.1, fun w hw => ?_, zAO_moved hW.alike h.2.2⟩
  have h1 := h.2.1 w hw
  have h2 : zIsN w = true := (List.mem_filter.mp hw).2
  cases w <;> first | exact va_Nw.warmM hW h1 | (exact absurd h2 (by simp [zIsN]))
theorem zK_same {cs : ClassId × ClassId × ClassId} {D : va_G} {u U : State} (hv : u.vm = U.vm) (h : zK cs D u) : zK cs D U := by
  have ha : u.vm.Alike U.vm := hv ▸ Vm.Alike.refl u.vm
  refine ⟨va_K.moved ha h.1, fun w hw => ?_, zAO_moved ha h.2.2⟩
  have h2 : zIsN w = true := (List.mem_filter.mp hw).2
  exact va_Nw.same (by cases w <;> first | rfl | (exact absurd h2 (by simp [zIsN]))) hv (h.2.1 w hw)
-- locals
def zGet : List (Option Value) → Nat → Option Value
  | [], _ => none
  | a :: _, 0 => a
  | _ :: r, k + 1 => zGet r k
def zClr (i : Nat) (a : Option Value) : Option Value := match i with
  | 0 => match a with
    | some (.long _) => none
    | some (.double _) => none
    | a => a
  | _ + 1 => a
def zPut : List (Option Value) → Nat → Value → List (Option Value)
  | [], _, _ => []
  | _ :: r, 0, v => some v :: r
  | a :: r, i + 1, v => zClr i a :: zPut r i v
def zDel : List (Option Value) → Nat → List (Option Value)
  | [], _ => []
  | _ :: r, 0 => none :: r
  | a :: r, i + 1 => a :: zDel r i
theorem zClr_eq : ∀ {i : Nat} {a : Option Value} {w : Value}, zClr i a = some w → a = some w ∧ ¬ (i = 0 ∧ w.category = 2)
  | _ + 1, _, _, h => ⟨h, fun q => by have := q.1; omega⟩
  | 0, none, _, h => by cases (show (none : Option Value) = some _ from h)
  | 0, some (.long _), _, h => by cases (show (none : Option Value) = some _ from h)
  | 0, some (.double _), _, h => by cases (show (none : Option Value) = some _ from h)
  | 0, some (.int x), w, h => by cases (show some (Value.int x) = some w from h); exact ⟨rfl, by simp [Value.category]⟩
  | 0, some (.float x), w, h => by cases (show some (Value.float x) = some w from h); exact ⟨rfl, by simp [Value.category]⟩
  | 0, some .null, w, h => by cases (show some Value.null = some w from h); exact ⟨rfl, by simp [Value.category]⟩
  | 0, some (.ref x), w, h => by cases (show some (Value.ref x) = some w from h); exact ⟨rfl, by simp [Value.category]⟩
  | 0, some (.retAddr x), w, h => by cases (show some (Value.retAddr x) = some w from h); exact ⟨rfl, by simp [Value.category]⟩
theorem zPut_get : ∀ {ls : List (Option Value)} {i k : Nat} {v w : Value}, zGet (zPut ls i v) k = some w → (k = i ∧ w = v) ∨ (k ≠ i ∧ zGet ls k = some w ∧ ¬ (k + 1 = i ∧ w.category = 2))
  | [], i, k, v, w, h => by cases h
  | a :: r, 0, 0, v, w, h => by cases h; exact Or.inl ⟨rfl, rfl⟩
  | a :: r, 0, k + 1, v, w, h => Or.inr ⟨by omega, h, fun q => by have := q.1; omega⟩
  | a :: r, i + 1, 0, v, w, h => by
    obtain ⟨h1, h2⟩ := zClr_eq (i := i) (a := a) h
    exact Or.inr ⟨by omega, h1, fun q => h2 ⟨by omega, q.2⟩⟩
  | a :: r, i + 1, k + 1, v, w, h => by
    rcases zPut_get (ls := r) (i := i) (k := k) (v := v) (w := w) h with ⟨h1, h2⟩ | ⟨h1, h2, h3⟩
    · exact Or.inl ⟨by omega, h2⟩
    · exact Or.inr ⟨by omega, h2, fun q => h3 ⟨by omega, q.2⟩⟩
theorem zDel_get : ∀ {ls : List (Option Value)} {i k : Nat} {w : Value}, zGet (zDel ls i) k = some w → k ≠ i ∧ zGet ls k = some w
  | [], i, k, w, h => by cases h
  | a :: r, 0, 0, w, h => by cases h
  | a :: r, 0, k + 1, w, h => ⟨by omega, h⟩
  | a :: r, i + 1, 0, w, h => ⟨by omega, h⟩
  | a :: r, i + 1, k + 1, w, h => by
    obtain ⟨h1, h2⟩ := zDel_get (ls := r) (i := i) (k := k) (w := w) h
    exact ⟨by omega, h2⟩
def zLoc (ad : Nat → Nat) (ls : List (Option Value)) (lr : Array Slot) (nL : Nat) : Prop := lr.size = nL ∧ lv_wf lr ∧ ∀ (k : Nat) (v : Value), zGet ls k = some v → lr[k]? = some (.val (zRe ad v))
/-- the listed locals, as the kit lists them -/
def zLv (ad : Nat → Nat) : Nat → List (Option Value) → List (Nat × Value)
  | _, [] => []
  | i, some v :: r => (i, zRe ad v) :: zLv ad (i + 1) r
  | i, none :: r => zLv ad (i + 1) r
theorem zLv_mem {ad : Nat → Nat} : ∀ {ls : List (Option Value)} {i k : Nat} {v : Value}, zGet ls k = some v → (i + k, zRe ad v) ∈ zLv ad i ls
  | [], i, k, v, h => by cases h
  | some a :: r, i, 0, v, h => by cases h; exact List.mem_cons_self
  | none :: r, i, 0, v, h => by cases h
  | some a :: r, i, k + 1, v, h => by
    have := zLv_mem (ad := ad) (ls := r) (i := i + 1) (k := k) (v := v) h
    rw [show i + (k + 1) = i + 1 + k by omega]
    exact List.mem_cons_of_mem _ this
  | none :: r, i, k + 1, v, h => by
    have := zLv_mem (ad := ad) (ls := r) (i := i + 1) (k := k) (v := v) h
    rw [show i + (k + 1) = i + 1 + k by omega]
    exact this
theorem zLv_of {ad : Nat → Nat} : ∀ {ls : List (Option Value)} {i : Nat} {q : Nat × Value}, q ∈ zLv ad i ls → ∃ k v, q = (i + k, zRe ad v) ∧ zGet ls k = some v
  | [], i, q, h => by cases h
  | some a :: r, i, q, h => by
    rcases List.mem_cons.mp h with rfl | h
    · exact ⟨0, a, rfl, rfl⟩
    · obtain ⟨k, v, rfl, h2⟩ := zLv_of (ls := r) h
      exact ⟨k + 1, v, by rw [show i + (k + 1) = i + 1 + k by omega], h2⟩
  | none :: r, i, q, h => by
    obtain ⟨k, v, rfl, h2⟩ := zLv_of (ls := r) h
    exact ⟨k + 1, v, by rw [show i + (k + 1) = i + 1 + k by omega], h2⟩
theorem zLoc_has {ad : Nat → Nat} {ls : List (Option Value)} {lr : Array Slot} {nL : Nat} (h : zLoc ad ls lr nL) : lv_has lr nL (zLv ad 0 ls) := by
  refine ⟨h.1, h.2.1, fun q hq => ?_⟩
  obtain ⟨k, v, rfl, h2⟩ := zLv_of hq
  rw [Nat.zero_add]
  exact h.2.2 k v h2
theorem zLoc_put1 {ad : Nat → Nat} {ls : List (Option Value)} {lr' : Array Slot} {nL i : Nat} {v : Value} (h : lv_has lr' nL ((i, zRe ad v) :: (zLv ad 0 ls).filter (fun q => !(q.1 == i) && !(q.1 + 1 == i && q.2.category == 2)))) : zLoc ad (zPut ls i v) lr' nL := by
  refine ⟨h.1, h.2.1, fun k w hw => ?_⟩
  rcases zPut_get hw with ⟨rfl, rfl⟩ | ⟨h1, h2, h3⟩
  · exact h.2.2 (k, zRe ad w) List.mem_cons_self
  · refine h.2.2 (k, zRe ad w) (List.mem_cons_of_mem _ (List.mem_filter.mpr ⟨?_, ?_⟩))
    · have := zLv_mem (ad := ad) (i := 0) h2
      rwa [Nat.zero_add] at this
    · simp only [zRe_cat]
      by_cases e : k + 1 = i
      · have : w.category ≠ 2 := fun q => h3 ⟨e, q⟩
        simp [h1, this]
      · simp [h1, e]
theorem zLoc_put2 {ad : Nat → Nat} {ls : List (Option Value)} {lr' : Array Slot} {nL i : Nat} {v : Value} (h : lv_has lr' nL ((i, zRe ad v) :: (zLv ad 0 ls).filter (fun q => !(q.1 == i) && (!(q.1 == i + 1) && !(q.1 + 1 == i && q.2.category == 2))))) : zLoc ad (zDel (zPut ls i v) (i + 1)) lr' nL := by
  refine ⟨h.1, h.2.1, fun k w hw => ?_⟩
  obtain ⟨h0, hw⟩ := zDel_get hw
  rcases zPut_get hw with ⟨rfl, rfl⟩ | ⟨h1, h2, h3⟩
  · exact h.2.2 (k, zRe ad w) List.mem_cons_self
  · refine h.2.2 (k, zRe ad w) (List.mem_cons_of_mem _ (List.mem_filter.mpr ⟨?_, ?_⟩))
    · have := zLv_mem (ad := ad) (i := 0) h2
      rwa [Nat.zero_add] at this
    · simp only [zRe_cat]
      by_cases e : k + 1 = i
      · have : w.category ≠ 2 := fun q => h3 ⟨e, q⟩
        simp [h1, h0, this]
      · simp [h1, h0, e]
theorem zLoc_ad {ad ad' : Nat → Nat} {n : Nat} (hk : ∀ k, k < n → ad' k = ad k) {ls : List (Option Value)} {lr : Array Slot} {nL : Nat} (hb : zBO n ls = true) (h : zLoc ad ls lr nL) : zLoc ad' ls lr nL := by
  refine ⟨h.1, h.2.1, fun k v hv => ?_⟩
  have key : ∀ (ls : List (Option Value)) (k : Nat), zBO n ls = true → zGet ls k = some v → zBV n v = true := by
    intro ls
    induction ls with
    | nil => intro k _ h; cases h
    | cons a r ih =>
      intro k hb hg
      cases a with
      | none =>
        cases k with
        | zero => cases hg
        | succ k => exact ih k hb hg
      | some x =>
        have h2 : zBV n x = true ∧ zBO n r = true := by simpa [zBO] using hb
        cases k with
        | zero => cases hg; exact h2.1
        | succ k => exact ih k h2.2 hg
  rw [zBV_re hk (key ls k hb hv)]
  exact h.2.2 k v hv
-- the judgement
def zCtx (g : zG) (p : Program) (s : State) (m : MethodId) (args : Array Value) (meth : Method) (c : Code) (cs : ClassId × ClassId × ClassId) (D : va_G) (A : Nat → Prop) : Prop :=
  p.tables.exec = Jvm.exec ∧ c.code = g.2.1 ∧ c.maxLocals = g.2.2.1 ∧ meth.sig.returnType = g.2.2.2.1 ∧ meth.locks = false ∧ s.vm.findClass g.1.cls = some m.cls ∧ (∀ w ∈ zWs g, w.before args s = true) ∧ zK cs D s ∧ (∀ q, s.heap.size ≤ q → A q) ∧ meth.name = g.1.name
def zQ (cs : ClassId × ClassId × ClassId) (D : va_G) (A : Nat → Prop) (ad0 : Nat → Nat) (n0 : Nat) (g : zG) (Q : Option Value → List va_E → Prop) : Array Value → State → Outcome → State → Prop := fun _ st o t =>
  (∃ (v : Option Value) (ad' : Nat → Nat) (σ' : List va_E), o = .returned (v.map (zRe ad')) ∧ Q v σ' ∧ (g.2.2.2.2.1 = 0 → ad' = ad0) ∧ (∀ k, k < n0 → ad' k = ad0 k) ∧ n0 ≤ σ'.length ∧ va_P D zCl (zW cs ad' σ') t.heap ∧ va_D A (zW cs ad' σ')) ∧ va_F A st t
def zGood (g : zG) (d : Nat) (Q : Option Value → List va_E → Prop) (pc : Nat) (ls : List (Option Value)) (st : List Value) (σ : List va_E) (uc us : Nat) : Prop :=
  ∀ (p : Program) (l : Launch) (e : Env) (s : State) (m : MethodId) (args : Array Value) (below : List Frame) (meth : Method) (c : Code) (cs : ClassId × ClassId × ClassId) (D : va_G) (A : Nat → Prop) (ad0 ad : Nat → Nat) (n0 : Nat) (H : Heap) (locs : List Loc) (lr : Array Slot),
    zCtx g p s m args meth c cs D A → ((g.2.2.2.2.1 = 0 → ad = ad0) ∧ (∀ k, k < n0 → ad k = ad0 k) ∧ n0 ≤ σ.length ∧ uc ≤ g.2.2.2.2.1 ∧ us ≤ g.2.2.2.2.2) → va_P D zCl (zW cs ad σ) H → va_D A (zW cs ad σ) → va_S A s.heap H locs → zLoc ad ls lr g.2.2.1 →
      W p l e (zRm g d) s m args below meth c H locs uc us (MQ below (zQ cs D A ad0 n0 g Q) args s g.2.2.2.2.1 g.2.2.2.2.2 A) (F0 m pc lr (st.map (zRe ad)))
def zRuns (g : zG) (d : Nat) (av : List Value) (σ : List va_E) (Q : Option Value → List va_E → Prop) : Prop :=
  ∀ (l : Launch) (cs : ClassId × ClassId × ClassId) (D : va_G) (ad : Nat → Nat) (sz : Nat), Met l g.1 (zWs g) (zRm g d)
    (va_Pc (av.map (zRe ad)) (fun U => U.heap.size = sz ∧ va_P D zCl (zW cs ad σ) U.heap ∧ zK cs D U ∧ va_D (fun _ => True) (zW cs ad σ)))
    (zQ cs D (va_A (zW cs ad σ) sz) ad σ.length g Q) g.2.2.2.2.1 g.2.2.2.2.2 (va_A (zW cs ad σ) sz)
theorem zRuns.mono {g : zG} {d : Nat} {av : List Value} {σ : List va_E} {Q Q' : Option Value → List va_E → Prop} (h : zRuns g d av σ Q) (hQ : ∀ v σ', Q v σ' → Q' v σ') : zRuns g d av σ Q' := by
  intro l cs D ad sz p e ha hc hk s m args below hf happ hP hK
  obtain ⟨k, o, h1, h2, h3, ⟨⟨v, ad', σ', q1, q2, q3⟩, q4⟩, h5⟩ := h l cs D ad sz p e ha hc hk s m args below hf happ hP hK
  exact ⟨k, o, h1, h2, h3, ⟨⟨v, ad', σ', q1, hQ v σ' q2, q3⟩, q4⟩, h5⟩
/-- a call whose answer and list are known -/
theorem zRuns.eq {g : zG} {d : Nat} {av : List Value} {σ σ1 : List va_E} {v1 : Option Value} {Q' : Option Value → List va_E → Prop} (h : zRuns g d av σ (fun v σ' => v = v1 ∧ σ' = σ1)) (hQ : Q' v1 σ1) : zRuns g d av σ Q' :=
  h.mono fun v σ' q => by rw [q.1, q.2]; exact hQ
section ZR
variable {g : zG} {d : Nat} {Q : Option Value → List va_E → Prop} {pc : Nat} {ls : List (Option Value)} {st r : List Value} {σ : List va_E} {uc us : Nat}
theorem s_iconst {n : Int} {v : Int32} (hdg : decode g.2.1 pc = .ok (.iconst n, 1)) (hv : Int32.ofInt n = v) (k : zGood g d Q (pc + 1) ls (.int v :: st) σ uc us) : zGood g d Q pc ls st σ uc us := by
  intro p l e s m args below meth c cs D A ad0 ad n0 H locs lr C hn hP hD hS hl
  exact lv_iconst C.1 C.2.1 hdg hv (k p l e s m args below meth c cs D A ad0 ad n0 H locs lr C hn hP hD hS hl)
theorem s_bipush {n : Int} {v : Int32} (hdg : decode g.2.1 pc = .ok (.bipush n, 2)) (hv : (Int8.ofInt n).toInt32 = v) (k : zGood g d Q (pc + 2) ls (.int v :: st) σ uc us) : zGood g d Q pc ls st σ uc us := by
  intro p l e s m args below meth c cs D A ad0 ad n0 H locs lr C hn hP hD hS hl
  exact lv_bipush C.1 C.2.1 hdg hv (k p l e s m args below meth c cs D A ad0 ad n0 H locs lr C hn hP hD hS hl)
theorem s_sipush {n : Int} {v : Int32} (hdg : decode g.2.1 pc = .ok (.sipush n, 3)) (hv : (Int16.ofInt n).toInt32 = v) (k : zGood g d Q (pc + 3) ls (.int v :: st) σ uc us) : zGood g d Q pc ls st σ uc us := by
  intro p l e s m args below meth c cs D A ad0 ad n0 H locs lr C hn hP hD hS hl
  exact lv_sipush C.1 C.2.1 hdg hv (k p l e s m args below meth c cs D A ad0 ad n0 H locs lr C hn hP hD hS hl)
theorem s_null (hdg : decode g.2.1 pc = .ok (.aconst_null, 1)) (k : zGood g d Q (pc + 1) ls (.null :: st) σ uc us) : zGood g d Q pc ls st σ uc us := by
  intro p l e s m args below meth c cs D A ad0 ad n0 H locs lr C hn hP hD hS hl
  exact lv_null C.1 C.2.1 hdg (k p l e s m args below meth c cs D A ad0 ad n0 H locs lr C hn hP hD hS hl)
theorem s_ldc {n : Nat} {v : Int32} (hdg : decode g.2.1 pc = .ok (.ldc n, 2)) (hv : Jvm.Cond.constant g.1.cls n v ∈ zT) (k : zGood g d Q (pc + 2) ls (.int v :: st) σ uc us) : zGood g d Q pc ls st σ uc us := by
  intro p l e s m args below meth c cs D A ad0 ad n0 H locs lr C hn hP hD hS hl
  exact W.ldc C.1 C.2.1 C.2.2.2.2.2.1 (C.2.2.2.2.2.2.1 _ (List.mem_cons_of_mem _ hv)) rfl hdg (k p l e s m args below meth c cs D A ad0 ad n0 H locs lr C hn hP hD hS hl)
theorem s_ldcw {n : Nat} {v : Int32} (hdg : decode g.2.1 pc = .ok (.ldc_w n, 3)) (hv : Jvm.Cond.constant g.1.cls n v ∈ zT) (k : zGood g d Q (pc + 3) ls (.int v :: st) σ uc us) : zGood g d Q pc ls st σ uc us := by
  intro p l e s m args below meth c cs D A ad0 ad n0 H locs lr C hn hP hD hS hl
  exact lv_ldcw C.1 C.2.1 C.2.2.2.2.2.1 (C.2.2.2.2.2.2.1 _ (List.mem_cons_of_mem _ hv)) hdg (k p l e s m args below meth c cs D A ad0 ad n0 H locs lr C hn hP hD hS hl)
theorem s_ldc2 {n : Nat} {v : Int64} (hdg : decode g.2.1 pc = .ok (.ldc2_w n, 3)) (hv : Jvm.Cond.constantLong g.1.cls n v ∈ zT) (k : zGood g d Q (pc + 3) ls (.long v :: st) σ uc us) : zGood g d Q pc ls st σ uc us := by
  intro p l e s m args below meth c cs D A ad0 ad n0 H locs lr C hn hP hD hS hl
  exact W.ldc2 C.1 C.2.1 C.2.2.2.2.2.1 (C.2.2.2.2.2.2.1 _ (List.mem_cons_of_mem _ hv)) rfl hdg (k p l e s m args below meth c cs D A ad0 ad n0 H locs lr C hn hP hD hS hl)
theorem s_iload_n {k4 : Fin 4} {x : Int32} (hdg : decode g.2.1 pc = .ok (.iload_n k4, 1)) (hx : zGet ls k4.val = some (.int x)) (k : zGood g d Q (pc + 1) ls (.int x :: st) σ uc us) : zGood g d Q pc ls st σ uc us := by
  intro p l e s m args below meth c cs D A ad0 ad n0 H locs lr C hn hP hD hS hl
  exact lv_iload_n C.1 C.2.1 hdg rfl (hl.2.2 _ _ hx) (k p l e s m args below meth c cs D A ad0 ad n0 H locs lr C hn hP hD hS hl)
theorem s_iload {i : Nat} {x : Int32} (hdg : decode g.2.1 pc = .ok (.iload i, 2)) (hx : zGet ls i = some (.int x)) (k : zGood g d Q (pc + 2) ls (.int x :: st) σ uc us) : zGood g d Q pc ls st σ uc us := by
  intro p l e s m args below meth c cs D A ad0 ad n0 H locs lr C hn hP hD hS hl
  exact lv_iload C.1 C.2.1 hdg (hl.2.2 _ _ hx) (k p l e s m args below meth c cs D A ad0 ad n0 H locs lr C hn hP hD hS hl)
theorem s_lload_n {k4 : Fin 4} {x : Int64} (hdg : decode g.2.1 pc = .ok (.lload_n k4, 1)) (hx : zGet ls k4.val = some (.long x)) (k : zGood g d Q (pc + 1) ls (.long x :: st) σ uc us) : zGood g d Q pc ls st σ uc us := by
  intro p l e s m args below meth c cs D A ad0 ad n0 H locs lr C hn hP hD hS hl
  exact lv_lload_n C.1 C.2.1 hdg rfl (hl.2.2 _ _ hx) (k p l e s m args below meth c cs D A ad0 ad n0 H locs lr C hn hP hD hS hl)
theorem s_lload {i : Nat} {x : Int64} (hdg : decode g.2.1 pc = .ok (.lload i, 2)) (hx : zGet ls i = some (.long x)) (k : zGood g d Q (pc + 2) ls (.long x :: st) σ uc us) : zGood g d Q pc ls st σ uc us := by
  intro p l e s m args below meth c cs D A ad0 ad n0 H locs lr C hn hP hD hS hl
  exact lv_lload C.1 C.2.1 hdg (hl.2.2 _ _ hx) (k p l e s m args below meth c cs D A ad0 ad n0 H locs lr C hn hP hD hS hl)
theorem s_aload_n {k4 : Fin 4} {x : Nat} (hdg : decode g.2.1 pc = .ok (.aload_n k4, 1)) (hx : zGet ls k4.val = some (.ref x)) (k : zGood g d Q (pc + 1) ls (.ref x :: st) σ uc us) : zGood g d Q pc ls st σ uc us := by
  intro p l e s m args below meth c cs D A ad0 ad n0 H locs lr C hn hP hD hS hl
  exact lv_aload_n C.1 C.2.1 hdg rfl (hl.2.2 _ _ hx) (k p l e s m args below meth c cs D A ad0 ad n0 H locs lr C hn hP hD hS hl)
theorem s_aload {i : Nat} {x : Nat} (hdg : decode g.2.1 pc = .ok (.aload i, 2)) (hx : zGet ls i = some (.ref x)) (k : zGood g d Q (pc + 2) ls (.ref x :: st) σ uc us) : zGood g d Q pc ls st σ uc us := by
  intro p l e s m args below meth c cs D A ad0 ad n0 H locs lr C hn hP hD hS hl
  exact lv_aload C.1 C.2.1 hdg (hl.2.2 _ _ hx) (k p l e s m args below meth c cs D A ad0 ad n0 H locs lr C hn hP hD hS hl)
theorem s_aload_nN {k4 : Fin 4} (hdg : decode g.2.1 pc = .ok (.aload_n k4, 1)) (hx : zGet ls k4.val = some .null) (k : zGood g d Q (pc + 1) ls (.null :: st) σ uc us) : zGood g d Q pc ls st σ uc us := by
  intro p l e s m args below meth c cs D A ad0 ad n0 H locs lr C hn hP hD hS hl
  exact lv_aload_nN C.1 C.2.1 hdg rfl (hl.2.2 _ _ hx) (k p l e s m args below meth c cs D A ad0 ad n0 H locs lr C hn hP hD hS hl)
theorem s_aloadN {i : Nat} (hdg : decode g.2.1 pc = .ok (.aload i, 2)) (hx : zGet ls i = some .null) (k : zGood g d Q (pc + 2) ls (.null :: st) σ uc us) : zGood g d Q pc ls st σ uc us := by
  intro p l e s m args below meth c cs D A ad0 ad n0 H locs lr C hn hP hD hS hl
  exact lv_aloadN C.1 C.2.1 hdg (hl.2.2 _ _ hx) (k p l e s m args below meth c cs D A ad0 ad n0 H locs lr C hn hP hD hS hl)
theorem s_istore_n {k4 : Fin 4} {x : Int32} (hdg : decode g.2.1 pc = .ok (.istore_n k4, 1)) (hx : k4.val < g.2.2.1) (k : zGood g d Q (pc + 1) (zPut ls k4.val (.int x)) st σ uc us) : zGood g d Q pc ls (.int x :: st) σ uc us := by
  intro p l e s m args below meth c cs D A ad0 ad n0 H locs lr C hn hP hD hS hl
  exact lv_istore_n C.1 C.2.1 hdg rfl (zLoc_has hl) hx rfl (fun lr2 hl2 => k p l e s m args below meth c cs D A ad0 ad n0 H locs lr2 C hn hP hD hS (zLoc_put1 hl2))
theorem s_istore {i : Nat} {x : Int32} (hdg : decode g.2.1 pc = .ok (.istore i, 2)) (hx : i < g.2.2.1) (k : zGood g d Q (pc + 2) (zPut ls i (.int x)) st σ uc us) : zGood g d Q pc ls (.int x :: st) σ uc us := by
  intro p l e s m args below meth c cs D A ad0 ad n0 H locs lr C hn hP hD hS hl
  exact lv_istore C.1 C.2.1 hdg (zLoc_has hl) hx rfl (fun lr2 hl2 => k p l e s m args below meth c cs D A ad0 ad n0 H locs lr2 C hn hP hD hS (zLoc_put1 hl2))
theorem s_astore_n {k4 : Fin 4} {x : Nat} (hdg : decode g.2.1 pc = .ok (.astore_n k4, 1)) (hx : k4.val < g.2.2.1) (k : zGood g d Q (pc + 1) (zPut ls k4.val (.ref x)) st σ uc us) : zGood g d Q pc ls (.ref x :: st) σ uc us := by
  intro p l e s m args below meth c cs D A ad0 ad n0 H locs lr C hn hP hD hS hl
  exact lv_astore_n C.1 C.2.1 hdg rfl (zLoc_has hl) hx rfl (fun lr2 hl2 => k p l e s m args below meth c cs D A ad0 ad n0 H locs lr2 C hn hP hD hS (zLoc_put1 hl2))
theorem s_astore {i : Nat} {x : Nat} (hdg : decode g.2.1 pc = .ok (.astore i, 2)) (hx : i < g.2.2.1) (k : zGood g d Q (pc + 2) (zPut ls i (.ref x)) st σ uc us) : zGood g d Q pc ls (.ref x :: st) σ uc us := by
  intro p l e s m args below meth c cs D A ad0 ad n0 H locs lr C hn hP hD hS hl
  exact lv_astore C.1 C.2.1 hdg (zLoc_has hl) hx rfl (fun lr2 hl2 => k p l e s m args below meth c cs D A ad0 ad n0 H locs lr2 C hn hP hD hS (zLoc_put1 hl2))
theorem s_astore_nN {k4 : Fin 4}  (hdg : decode g.2.1 pc = .ok (.astore_n k4, 1)) (hx : k4.val < g.2.2.1) (k : zGood g d Q (pc + 1) (zPut ls k4.val (.null)) st σ uc us) : zGood g d Q pc ls (.null :: st) σ uc us := by
  intro p l e s m args below meth c cs D A ad0 ad n0 H locs lr C hn hP hD hS hl
  exact lv_astore_nN C.1 C.2.1 hdg rfl (zLoc_has hl) hx rfl (fun lr2 hl2 => k p l e s m args below meth c cs D A ad0 ad n0 H locs lr2 C hn hP hD hS (zLoc_put1 hl2))
theorem s_astoreN {i : Nat}  (hdg : decode g.2.1 pc = .ok (.astore i, 2)) (hx : i < g.2.2.1) (k : zGood g d Q (pc + 2) (zPut ls i (.null)) st σ uc us) : zGood g d Q pc ls (.null :: st) σ uc us := by
  intro p l e s m args below meth c cs D A ad0 ad n0 H locs lr C hn hP hD hS hl
  exact lv_astoreN C.1 C.2.1 hdg (zLoc_has hl) hx rfl (fun lr2 hl2 => k p l e s m args below meth c cs D A ad0 ad n0 H locs lr2 C hn hP hD hS (zLoc_put1 hl2))
theorem s_lstore_n {k4 : Fin 4} {x : Int64} (hdg : decode g.2.1 pc = .ok (.lstore_n k4, 1)) (hx : k4.val + 1 < g.2.2.1) (k : zGood g d Q (pc + 1) (zDel (zPut ls k4.val (.long x)) (k4.val + 1)) st σ uc us) : zGood g d Q pc ls (.long x :: st) σ uc us := by
  intro p l e s m args below meth c cs D A ad0 ad n0 H locs lr C hn hP hD hS hl
  exact lv_lstore_n C.1 C.2.1 hdg rfl (zLoc_has hl) hx rfl (fun lr2 hl2 => k p l e s m args below meth c cs D A ad0 ad n0 H locs lr2 C hn hP hD hS (zLoc_put2 hl2))
theorem s_iinc {i : Nat} {n : Int} {x v : Int32} (hdg : decode g.2.1 pc = .ok (.iinc i n, 3)) (hv : Int32.ofInt n = v) (hx : zGet ls i = some (.int x)) (hi : i < g.2.2.1) (k : zGood g d Q (pc + 3) (zPut ls i (.int (x + v))) st σ uc us) : zGood g d Q pc ls st σ uc us := by
  intro p l e s m args below meth c cs D A ad0 ad n0 H locs lr C hn hP hD hS hl
  obtain ⟨k9, hk9⟩ := List.mem_iff_getElem?.mp (zLv_mem (ad := ad) (i := 0) hx)
  rw [Nat.zero_add] at hk9
  exact lv_iinc C.1 C.2.1 hdg (zLoc_has hl) (k := k9) hk9 (by rw [hv]) hi rfl (fun lr2 hl2 => k p l e s m args below meth c cs D A ad0 ad n0 H locs lr2 C hn hP hD hS (zLoc_put1 hl2))
theorem s_iadd {x y : Int32} (hdg : decode g.2.1 pc = .ok (.iadd, 1)) (k : zGood g d Q (pc + 1) ls (.int (x + y) :: st) σ uc us) : zGood g d Q pc ls (.int y :: .int x :: st) σ uc us := by
  intro p l e s m args below meth c cs D A ad0 ad n0 H locs lr C hn hP hD hS hl
  exact lv_iadd C.1 C.2.1 hdg (k p l e s m args below meth c cs D A ad0 ad n0 H locs lr C hn hP hD hS hl)
theorem s_isub {x y : Int32} (hdg : decode g.2.1 pc = .ok (.isub, 1)) (k : zGood g d Q (pc + 1) ls (.int (x - y) :: st) σ uc us) : zGood g d Q pc ls (.int y :: .int x :: st) σ uc us := by
  intro p l e s m args below meth c cs D A ad0 ad n0 H locs lr C hn hP hD hS hl
  exact lv_isub C.1 C.2.1 hdg (k p l e s m args below meth c cs D A ad0 ad n0 H locs lr C hn hP hD hS hl)
theorem s_imul {x y : Int32} (hdg : decode g.2.1 pc = .ok (.imul, 1)) (k : zGood g d Q (pc + 1) ls (.int (x * y) :: st) σ uc us) : zGood g d Q pc ls (.int y :: .int x :: st) σ uc us := by
  intro p l e s m args below meth c cs D A ad0 ad n0 H locs lr C hn hP hD hS hl
  exact lv_imul C.1 C.2.1 hdg (k p l e s m args below meth c cs D A ad0 ad n0 H locs lr C hn hP hD hS hl)
theorem s_iand {x y : Int32} (hdg : decode g.2.1 pc = .ok (.iand, 1)) (k : zGood g d Q (pc + 1) ls (.int (x &&& y) :: st) σ uc us) : zGood g d Q pc ls (.int y :: .int x :: st) σ uc us := by
  intro p l e s m args below meth c cs D A ad0 ad n0 H locs lr C hn hP hD hS hl
  exact lv_iand C.1 C.2.1 hdg (k p l e s m args below meth c cs D A ad0 ad n0 H locs lr C hn hP hD hS hl)
theorem s_ior {x y : Int32} (hdg : decode g.2.1 pc = .ok (.ior, 1)) (k : zGood g d Q (pc + 1) ls (.int (x ||| y) :: st) σ uc us) : zGood g d Q pc ls (.int y :: .int x :: st) σ uc us := by
  intro p l e s m args below meth c cs D A ad0 ad n0 H locs lr C hn hP hD hS hl
  exact lv_ior C.1 C.2.1 hdg (k p l e s m args below meth c cs D A ad0 ad n0 H locs lr C hn hP hD hS hl)
theorem s_ixor {x y : Int32} (hdg : decode g.2.1 pc = .ok (.ixor, 1)) (k : zGood g d Q (pc + 1) ls (.int (x ^^^ y) :: st) σ uc us) : zGood g d Q pc ls (.int y :: .int x :: st) σ uc us := by
  intro p l e s m args below meth c cs D A ad0 ad n0 H locs lr C hn hP hD hS hl
  exact lv_ixor C.1 C.2.1 hdg (k p l e s m args below meth c cs D A ad0 ad n0 H locs lr C hn hP hD hS hl)
theorem s_ishl {x y : Int32} (hdg : decode g.2.1 pc = .ok (.ishl, 1)) (k : zGood g d Q (pc + 1) ls (.int (x <<< (y &&& 31)) :: st) σ uc us) : zGood g d Q pc ls (.int y :: .int x :: st) σ uc us := by
  intro p l e s m args below meth c cs D A ad0 ad n0 H locs lr C hn hP hD hS hl
  exact lv_ishl C.1 C.2.1 hdg (k p l e s m args below meth c cs D A ad0 ad n0 H locs lr C hn hP hD hS hl)
theorem s_ishr {x y : Int32} (hdg : decode g.2.1 pc = .ok (.ishr, 1)) (k : zGood g d Q (pc + 1) ls (.int (x >>> (y &&& 31)) :: st) σ uc us) : zGood g d Q pc ls (.int y :: .int x :: st) σ uc us := by
  intro p l e s m args below meth c cs D A ad0 ad n0 H locs lr C hn hP hD hS hl
  exact lv_ishr C.1 C.2.1 hdg (k p l e s m args below meth c cs D A ad0 ad n0 H locs lr C hn hP hD hS hl)
theorem s_iushr {x y : Int32} (hdg : decode g.2.1 pc = .ok (.iushr, 1)) (k : zGood g d Q (pc + 1) ls (.int ((x.toUInt32 >>> (y.toUInt32 &&& Int32.toUInt32 31)).toInt32) :: st) σ uc us) : zGood g d Q pc ls (.int y :: .int x :: st) σ uc us := by
  intro p l e s m args below meth c cs D A ad0 ad n0 H locs lr C hn hP hD hS hl
  exact lv_iushr C.1 C.2.1 hdg rfl (k p l e s m args below meth c cs D A ad0 ad n0 H locs lr C hn hP hD hS hl)
theorem s_idiv {x y : Int32} (hdg : decode g.2.1 pc = .ok (.idiv, 1)) (hne : ¬ y = 0) (k : zGood g d Q (pc + 1) ls (.int (x / y) :: st) σ uc us) : zGood g d Q pc ls (.int y :: .int x :: st) σ uc us := by
  intro p l e s m args below meth c cs D A ad0 ad n0 H locs lr C hn hP hD hS hl
  exact lv_idiv C.1 C.2.1 hdg hne (k p l e s m args below meth c cs D A ad0 ad n0 H locs lr C hn hP hD hS hl)
theorem s_irem {x y : Int32} (hdg : decode g.2.1 pc = .ok (.irem, 1)) (hne : ¬ y = 0) (k : zGood g d Q (pc + 1) ls (.int (x - x / y * y) :: st) σ uc us) : zGood g d Q pc ls (.int y :: .int x :: st) σ uc us := by
  intro p l e s m args below meth c cs D A ad0 ad n0 H locs lr C hn hP hD hS hl
  exact lv_irem C.1 C.2.1 hdg hne (k p l e s m args below meth c cs D A ad0 ad n0 H locs lr C hn hP hD hS hl)
theorem s_ineg {x : Int32} (hdg : decode g.2.1 pc = .ok (.ineg, 1)) (k : zGood g d Q (pc + 1) ls (.int (-x) :: st) σ uc us) : zGood g d Q pc ls (.int x :: st) σ uc us := by
  intro p l e s m args below meth c cs D A ad0 ad n0 H locs lr C hn hP hD hS hl
  exact lv_ineg C.1 C.2.1 hdg (k p l e s m args below meth c cs D A ad0 ad n0 H locs lr C hn hP hD hS hl)
theorem s_ladd {x y : Int64} (hdg : decode g.2.1 pc = .ok (.ladd, 1)) (k : zGood g d Q (pc + 1) ls (.long (x + y) :: st) σ uc us) : zGood g d Q pc ls (.long y :: .long x :: st) σ uc us := by
  intro p l e s m args below meth c cs D A ad0 ad n0 H locs lr C hn hP hD hS hl
  exact lv_ladd C.1 C.2.1 hdg (k p l e s m args below meth c cs D A ad0 ad n0 H locs lr C hn hP hD hS hl)
theorem s_lmul {x y : Int64} (hdg : decode g.2.1 pc = .ok (.lmul, 1)) (k : zGood g d Q (pc + 1) ls (.long (x * y) :: st) σ uc us) : zGood g d Q pc ls (.long y :: .long x :: st) σ uc us := by
  intro p l e s m args below meth c cs D A ad0 ad n0 H locs lr C hn hP hD hS hl
  exact lv_lmul C.1 C.2.1 hdg (k p l e s m args below meth c cs D A ad0 ad n0 H locs lr C hn hP hD hS hl)
theorem s_land {x y : Int64} (hdg : decode g.2.1 pc = .ok (.land, 1)) (k : zGood g d Q (pc + 1) ls (.long (x &&& y) :: st) σ uc us) : zGood g d Q pc ls (.long y :: .long x :: st) σ uc us := by
  intro p l e s m args below meth c cs D A ad0 ad n0 H locs lr C hn hP hD hS hl
  exact lv_land C.1 C.2.1 hdg (k p l e s m args below meth c cs D A ad0 ad n0 H locs lr C hn hP hD hS hl)
theorem s_ldiv {x y : Int64} (hdg : decode g.2.1 pc = .ok (.ldiv, 1)) (hne : ¬ y = 0) (k : zGood g d Q (pc + 1) ls (.long (x / y) :: st) σ uc us) : zGood g d Q pc ls (.long y :: .long x :: st) σ uc us := by
  intro p l e s m args below meth c cs D A ad0 ad n0 H locs lr C hn hP hD hS hl
  exact lv_ldiv C.1 C.2.1 hdg hne (k p l e s m args below meth c cs D A ad0 ad n0 H locs lr C hn hP hD hS hl)
theorem s_i2l {x : Int32} (hdg : decode g.2.1 pc = .ok (.i2l, 1)) (k : zGood g d Q (pc + 1) ls (.long x.toInt64 :: st) σ uc us) : zGood g d Q pc ls (.int x :: st) σ uc us := by
  intro p l e s m args below meth c cs D A ad0 ad n0 H locs lr C hn hP hD hS hl
  exact lv_i2l C.1 C.2.1 hdg rfl (k p l e s m args below meth c cs D A ad0 ad n0 H locs lr C hn hP hD hS hl)
theorem s_l2i {x : Int64} (hdg : decode g.2.1 pc = .ok (.l2i, 1)) (k : zGood g d Q (pc + 1) ls (.int x.toInt32 :: st) σ uc us) : zGood g d Q pc ls (.long x :: st) σ uc us := by
  intro p l e s m args below meth c cs D A ad0 ad n0 H locs lr C hn hP hD hS hl
  exact lv_l2i C.1 C.2.1 hdg rfl (k p l e s m args below meth c cs D A ad0 ad n0 H locs lr C hn hP hD hS hl)
theorem s_dup {v : Value} (hdg : decode g.2.1 pc = .ok (.dup, 1)) (hv : v.category = 1) (k : zGood g d Q (pc + 1) ls (v :: v :: st) σ uc us) : zGood g d Q pc ls (v :: st) σ uc us := by
  intro p l e s m args below meth c cs D A ad0 ad n0 H locs lr C hn hP hD hS hl
  exact lv_dup C.1 C.2.1 hdg (by rw [zRe_cat]; exact hv) (k p l e s m args below meth c cs D A ad0 ad n0 H locs lr C hn hP hD hS hl)
theorem s_dup2 {v u : Value} (hdg : decode g.2.1 pc = .ok (.dup2, 1)) (hv : v.category = 1) (hu : u.category = 1) (k : zGood g d Q (pc + 1) ls (v :: u :: v :: u :: st) σ uc us) : zGood g d Q pc ls (v :: u :: st) σ uc us := by
  intro p l e s m args below meth c cs D A ad0 ad n0 H locs lr C hn hP hD hS hl
  exact lv_dup2_11 C.1 C.2.1 hdg (by rw [zRe_cat]; exact hv) (by rw [zRe_cat]; exact hu) (k p l e s m args below meth c cs D A ad0 ad n0 H locs lr C hn hP hD hS hl)
theorem s_pop {v : Value} (hdg : decode g.2.1 pc = .ok (.pop, 1)) (hv : v.category = 1) (k : zGood g d Q (pc + 1) ls st σ uc us) : zGood g d Q pc ls (v :: st) σ uc us := by
  intro p l e s m args below meth c cs D A ad0 ad n0 H locs lr C hn hP hD hS hl
  exact lv_pop C.1 C.2.1 hdg (by rw [zRe_cat]; exact hv) (k p l e s m args below meth c cs D A ad0 ad n0 H locs lr C hn hP hD hS hl)
theorem s_if_eq {x : Int32} {off : Int} {tgt : Nat} (hdg : decode g.2.1 pc = .ok (.ifCond .eq off, 3)) (ht : (pc : Int) + off = (tgt : Int)) (kt : x = 0 → zGood g d Q tgt ls st σ uc us) (kf : ¬ x = 0 → zGood g d Q (pc + 3) ls st σ uc us) : zGood g d Q pc ls (.int x :: st) σ uc us := by
  intro p l e s m args below meth c cs D A ad0 ad n0 H locs lr C hn hP hD hS hl
  exact lv_if_eq C.1 C.2.1 hdg ht (fun q => kt q p l e s m args below meth c cs D A ad0 ad n0 H locs lr C hn hP hD hS hl) (fun q => kf q p l e s m args below meth c cs D A ad0 ad n0 H locs lr C hn hP hD hS hl)
theorem s_icmp_eq {x y : Int32} {off : Int} {tgt : Nat} (hdg : decode g.2.1 pc = .ok (.if_icmp .eq off, 3)) (ht : (pc : Int) + off = (tgt : Int)) (kt : x = y → zGood g d Q tgt ls st σ uc us) (kf : ¬ x = y → zGood g d Q (pc + 3) ls st σ uc us) : zGood g d Q pc ls (.int y :: .int x :: st) σ uc us := by
  intro p l e s m args below meth c cs D A ad0 ad n0 H locs lr C hn hP hD hS hl
  exact lv_icmp_eq C.1 C.2.1 hdg ht (fun q => kt q p l e s m args below meth c cs D A ad0 ad n0 H locs lr C hn hP hD hS hl) (fun q => kf q p l e s m args below meth c cs D A ad0 ad n0 H locs lr C hn hP hD hS hl)
theorem s_if_ne {x : Int32} {off : Int} {tgt : Nat} (hdg : decode g.2.1 pc = .ok (.ifCond .ne off, 3)) (ht : (pc : Int) + off = (tgt : Int)) (kt : ¬ x = 0 → zGood g d Q tgt ls st σ uc us) (kf : x = 0 → zGood g d Q (pc + 3) ls st σ uc us) : zGood g d Q pc ls (.int x :: st) σ uc us := by
  intro p l e s m args below meth c cs D A ad0 ad n0 H locs lr C hn hP hD hS hl
  exact lv_if_ne C.1 C.2.1 hdg ht (fun q => kt q p l e s m args below meth c cs D A ad0 ad n0 H locs lr C hn hP hD hS hl) (fun q => kf q p l e s m args below meth c cs D A ad0 ad n0 H locs lr C hn hP hD hS hl)
theorem s_icmp_ne {x y : Int32} {off : Int} {tgt : Nat} (hdg : decode g.2.1 pc = .ok (.if_icmp .ne off, 3)) (ht : (pc : Int) + off = (tgt : Int)) (kt : ¬ x = y → zGood g d Q tgt ls st σ uc us) (kf : x = y → zGood g d Q (pc + 3) ls st σ uc us) : zGood g d Q pc ls (.int y :: .int x :: st) σ uc us := by
  intro p l e s m args below meth c cs D A ad0 ad n0 H locs lr C hn hP hD hS hl
  exact lv_icmp_ne C.1 C.2.1 hdg ht (fun q => kt q p l e s m args below meth c cs D A ad0 ad n0 H locs lr C hn hP hD hS hl) (fun q => kf q p l e s m args below meth c cs D A ad0 ad n0 H locs lr C hn hP hD hS hl)
theorem s_if_lt {x : Int32} {off : Int} {tgt : Nat} (hdg : decode g.2.1 pc = .ok (.ifCond .lt off, 3)) (ht : (pc : Int) + off = (tgt : Int)) (kt : x < 0 → zGood g d Q tgt ls st σ uc us) (kf : ¬ x < 0 → zGood g d Q (pc + 3) ls st σ uc us) : zGood g d Q pc ls (.int x :: st) σ uc us := by
  intro p l e s m args below meth c cs D A ad0 ad n0 H locs lr C hn hP hD hS hl
  exact lv_if_lt C.1 C.2.1 hdg ht (fun q => kt q p l e s m args below meth c cs D A ad0 ad n0 H locs lr C hn hP hD hS hl) (fun q => kf q p l e s m args below meth c cs D A ad0 ad n0 H locs lr C hn hP hD hS hl)
theorem s_icmp_lt {x y : Int32} {off : Int} {tgt : Nat} (hdg : decode g.2.1 pc = .ok (.if_icmp .lt off, 3)) (ht : (pc : Int) + off = (tgt : Int)) (kt : x < y → zGood g d Q tgt ls st σ uc us) (kf : ¬ x < y → zGood g d Q (pc + 3) ls st σ uc us) : zGood g d Q pc ls (.int y :: .int x :: st) σ uc us := by
  intro p l e s m args below meth c cs D A ad0 ad n0 H locs lr C hn hP hD hS hl
  exact lv_icmp_lt C.1 C.2.1 hdg ht (fun q => kt q p l e s m args below meth c cs D A ad0 ad n0 H locs lr C hn hP hD hS hl) (fun q => kf q p l e s m args below meth c cs D A ad0 ad n0 H locs lr C hn hP hD hS hl)
theorem s_if_ge {x : Int32} {off : Int} {tgt : Nat} (hdg : decode g.2.1 pc = .ok (.ifCond .ge off, 3)) (ht : (pc : Int) + off = (tgt : Int)) (kt : 0 ≤ x → zGood g d Q tgt ls st σ uc us) (kf : ¬ 0 ≤ x → zGood g d Q (pc + 3) ls st σ uc us) : zGood g d Q pc ls (.int x :: st) σ uc us := by
  intro p l e s m args below meth c cs D A ad0 ad n0 H locs lr C hn hP hD hS hl
  exact lv_if_ge C.1 C.2.1 hdg ht (fun q => kt q p l e s m args below meth c cs D A ad0 ad n0 H locs lr C hn hP hD hS hl) (fun q => kf q p l e s m args below meth c cs D A ad0 ad n0 H locs lr C hn hP hD hS hl)
theorem s_icmp_ge {x y : Int32} {off : Int} {tgt : Nat} (hdg : decode g.2.1 pc = .ok (.if_icmp .ge off, 3)) (ht : (pc : Int) + off = (tgt : Int)) (kt : y ≤ x → zGood g d Q tgt ls st σ uc us) (kf : ¬ y ≤ x → zGood g d Q (pc + 3) ls st σ uc us) : zGood g d Q pc ls (.int y :: .int x :: st) σ uc us := by
  intro p l e s m args below meth c cs D A ad0 ad n0 H locs lr C hn hP hD hS hl
  exact lv_icmp_ge C.1 C.2.1 hdg ht (fun q => kt q p l e s m args below meth c cs D A ad0 ad n0 H locs lr C hn hP hD hS hl) (fun q => kf q p l e s m args below meth c cs D A ad0 ad n0 H locs lr C hn hP hD hS hl)
theorem s_if_gt {x : Int32} {off : Int} {tgt : Nat} (hdg : decode g.2.1 pc = .ok (.ifCond .gt off, 3)) (ht : (pc : Int) + off = (tgt : Int)) (kt : 0 < x → zGood g d Q tgt ls st σ uc us) (kf : ¬ 0 < x → zGood g d Q (pc + 3) ls st σ uc us) : zGood g d Q pc ls (.int x :: st) σ uc us := by
  intro p l e s m args below meth c cs D A ad0 ad n0 H locs lr C hn hP hD hS hl
  exact lv_if_gt C.1 C.2.1 hdg ht (fun q => kt q p l e s m args below meth c cs D A ad0 ad n0 H locs lr C hn hP hD hS hl) (fun q => kf q p l e s m args below meth c cs D A ad0 ad n0 H locs lr C hn hP hD hS hl)
theorem s_icmp_gt {x y : Int32} {off : Int} {tgt : Nat} (hdg : decode g.2.1 pc = .ok (.if_icmp .gt off, 3)) (ht : (pc : Int) + off = (tgt : Int)) (kt : y < x → zGood g d Q tgt ls st σ uc us) (kf : ¬ y < x → zGood g d Q (pc + 3) ls st σ uc us) : zGood g d Q pc ls (.int y :: .int x :: st) σ uc us := by
  intro p l e s m args below meth c cs D A ad0 ad n0 H locs lr C hn hP hD hS hl
  exact lv_icmp_gt C.1 C.2.1 hdg ht (fun q => kt q p l e s m args below meth c cs D A ad0 ad n0 H locs lr C hn hP hD hS hl) (fun q => kf q p l e s m args below meth c cs D A ad0 ad n0 H locs lr C hn hP hD hS hl)
theorem s_if_le {x : Int32} {off : Int} {tgt : Nat} (hdg : decode g.2.1 pc = .ok (.ifCond .le off, 3)) (ht : (pc : Int) + off = (tgt : Int)) (kt : x ≤ 0 → zGood g d Q tgt ls st σ uc us) (kf : ¬ x ≤ 0 → zGood g d Q (pc + 3) ls st σ uc us) : zGood g d Q pc ls (.int x :: st) σ uc us := by
  intro p l e s m args below meth c cs D A ad0 ad n0 H locs lr C hn hP hD hS hl
  exact lv_if_le C.1 C.2.1 hdg ht (fun q => kt q p l e s m args below meth c cs D A ad0 ad n0 H locs lr C hn hP hD hS hl) (fun q => kf q p l e s m args below meth c cs D A ad0 ad n0 H locs lr C hn hP hD hS hl)
theorem s_icmp_le {x y : Int32} {off : Int} {tgt : Nat} (hdg : decode g.2.1 pc = .ok (.if_icmp .le off, 3)) (ht : (pc : Int) + off = (tgt : Int)) (kt : x ≤ y → zGood g d Q tgt ls st σ uc us) (kf : ¬ x ≤ y → zGood g d Q (pc + 3) ls st σ uc us) : zGood g d Q pc ls (.int y :: .int x :: st) σ uc us := by
  intro p l e s m args below meth c cs D A ad0 ad n0 H locs lr C hn hP hD hS hl
  exact lv_icmp_le C.1 C.2.1 hdg ht (fun q => kt q p l e s m args below meth c cs D A ad0 ad n0 H locs lr C hn hP hD hS hl) (fun q => kf q p l e s m args below meth c cs D A ad0 ad n0 H locs lr C hn hP hD hS hl)
theorem s_goto {off : Int} {tgt : Nat} (hdg : decode g.2.1 pc = .ok (.goto off, 3)) (ht : (pc : Int) + off = (tgt : Int)) (k : zGood g d Q tgt ls st σ uc us) : zGood g d Q pc ls st σ uc us := by
  intro p l e s m args below meth c cs D A ad0 ad n0 H locs lr C hn hP hD hS hl
  exact lv_goto C.1 C.2.1 hdg ht (k p l e s m args below meth c cs D A ad0 ad n0 H locs lr C hn hP hD hS hl)
theorem s_ifnull {x : Nat} {off : Int} (hdg : decode g.2.1 pc = .ok (.ifnull off, 3)) (k : zGood g d Q (pc + 3) ls st σ uc us) : zGood g d Q pc ls (.ref x :: st) σ uc us := by
  intro p l e s m args below meth c cs D A ad0 ad n0 H locs lr C hn hP hD hS hl
  exact lv_ifnull C.1 C.2.1 hdg (k p l e s m args below meth c cs D A ad0 ad n0 H locs lr C hn hP hD hS hl)
theorem s_ifnullN {off : Int} {tgt : Nat} (hdg : decode g.2.1 pc = .ok (.ifnull off, 3)) (ht : (pc : Int) + off = (tgt : Int)) (k : zGood g d Q tgt ls st σ uc us) : zGood g d Q pc ls (.null :: st) σ uc us := by
  intro p l e s m args below meth c cs D A ad0 ad n0 H locs lr C hn hP hD hS hl
  exact lv_ifnullN C.1 C.2.1 hdg ht (k p l e s m args below meth c cs D A ad0 ad n0 H locs lr C hn hP hD hS hl)
theorem s_ifnonnull {x : Nat} {off : Int} {tgt : Nat} (hdg : decode g.2.1 pc = .ok (.ifnonnull off, 3)) (ht : (pc : Int) + off = (tgt : Int)) (k : zGood g d Q tgt ls st σ uc us) : zGood g d Q pc ls (.ref x :: st) σ uc us := by
  intro p l e s m args below meth c cs D A ad0 ad n0 H locs lr C hn hP hD hS hl
  exact lv_ifnonnull C.1 C.2.1 hdg ht (k p l e s m args below meth c cs D A ad0 ad n0 H locs lr C hn hP hD hS hl)
theorem s_ifnonnullN {off : Int} (hdg : decode g.2.1 pc = .ok (.ifnonnull off, 3)) (k : zGood g d Q (pc + 3) ls st σ uc us) : zGood g d Q pc ls (.null :: st) σ uc us := by
  intro p l e s m args below meth c cs D A ad0 ad n0 H locs lr C hn hP hD hS hl
  exact lv_ifnonnullN C.1 C.2.1 hdg (k p l e s m args below meth c cs D A ad0 ad n0 H locs lr C hn hP hD hS hl)
theorem s_alen {a : Nat} {t n : Nat} {f : Nat → Int32} (ht : t = 0 ∨ t = 1) (hdg : decode g.2.1 pc = .ok (.arraylength, 1)) (ha : σ[a]? = some (.inl (t, n, .inl f))) (k : zGood g d Q (pc + 1) ls (.int (Int32.ofNat n) :: st) σ uc us) : zGood g d Q pc ls (.ref a :: st) σ uc us := by
  intro p l e s m args below meth c cs D A ad0 ad n0 H locs lr C hn hP hD hS hl
  rcases ht with rfl | rfl
  · exact va_alen C.1 C.2.1 C.2.2.2.2.2.2.2.1.1 hP a 0 (zW_get ha) rfl rfl hdg (k p l e s m args below meth c cs D A ad0 ad n0 H locs lr C hn hP hD hS hl)
  · exact va_alen C.1 C.2.1 C.2.2.2.2.2.2.2.1.1 hP a 1 (zW_get ha) rfl rfl hdg (k p l e s m args below meth c cs D A ad0 ad n0 H locs lr C hn hP hD hS hl)
theorem s_alenq {a : Nat} {t n : Nat} {f : Nat → Option Nat} (hdg : decode g.2.1 pc = .ok (.arraylength, 1)) (ha : σ[a]? = some (.inl (t, n, .inr (.inr (.inr (.inr f)))))) (k : zGood g d Q (pc + 1) ls (.int (Int32.ofNat n) :: st) σ uc us) : zGood g d Q pc ls (.ref a :: st) σ uc us := by
  intro p l e s m args below meth c cs D A ad0 ad n0 H locs lr C hn hP hD hS hl
  exact va_alen C.1 C.2.1 C.2.2.2.2.2.2.2.1.1 hP a 2 (zW_get ha) rfl rfl hdg (k p l e s m args below meth c cs D A ad0 ad n0 H locs lr C hn hP hD hS hl)
theorem s_iald {a n : Nat} {f : Nat → Int32} {i : Int32} (hdg : decode g.2.1 pc = .ok (.iaload, 1)) (ha : σ[a]? = some (.inl (0, n, .inl f))) (hi : vp_in i n) (k : zGood g d Q (pc + 1) ls (.int (f i.toNatClampNeg) :: st) σ uc us) : zGood g d Q pc ls (.int i :: .ref a :: st) σ uc us := by
  intro p l e s m args below meth c cs D A ad0 ad n0 H locs lr C hn hP hD hS hl
  exact va_iald C.1 C.2.1 C.2.2.2.2.2.2.2.1.1 hP a 0 (zW_get ha) rfl hi hdg (k p l e s m args below meth c cs D A ad0 ad n0 H locs lr C hn hP hD hS hl)
theorem s_zald {a n : Nat} {f : Nat → Int32} {i : Int32} (hdg : decode g.2.1 pc = .ok (.baload, 1)) (ha : σ[a]? = some (.inl (1, n, .inl f))) (hi : vp_in i n) (k : zGood g d Q (pc + 1) ls (.int (f i.toNatClampNeg) :: st) σ uc us) : zGood g d Q pc ls (.int i :: .ref a :: st) σ uc us := by
  intro p l e s m args below meth c cs D A ad0 ad n0 H locs lr C hn hP hD hS hl
  exact va_zald C.1 C.2.1 C.2.2.2.2.2.2.2.1.1 hP a 1 (zW_get ha) rfl hi hdg (k p l e s m args below meth c cs D A ad0 ad n0 H locs lr C hn hP hD hS hl)
theorem s_iast {a n : Nat} {f : Nat → Int32} {i x : Int32} (hdg : decode g.2.1 pc = .ok (.iastore, 1)) (ha : σ[a]? = some (.inl (0, n, .inl f))) (hi : vp_in i n) (k : zGood g d Q (pc + 1) ls st (σ.set a (.inl (0, n, .inl (upd f i.toNatClampNeg x)))) uc us) : zGood g d Q pc ls (.int x :: .int i :: .ref a :: st) σ uc us := by
  intro p l e s m args below meth c cs D A ad0 ad n0 H locs lr C hn hP hD hS hl
  exact va_iast C.1 C.2.1 C.2.2.2.2.2.2.2.1.1 hP hD hS a 0 (zW_get ha) rfl hi hdg (fun H1 locs1 hP1 hD1 hS1 => k p l e s m args below meth c cs D A ad0 ad n0 H1 locs1 lr C ⟨hn.1, hn.2.1, by rw [List.length_set]; exact hn.2.2.1, hn.2.2.2⟩ (by rw [zW_set]; exact hP1) (by rw [zW_set]; exact hD1) hS1 hl)
theorem s_zast {a n : Nat} {f : Nat → Int32} {i x : Int32} (hdg : decode g.2.1 pc = .ok (.bastore, 1)) (ha : σ[a]? = some (.inl (1, n, .inl f))) (hi : vp_in i n) (k : zGood g d Q (pc + 1) ls st (σ.set a (.inl (1, n, .inl (upd f i.toNatClampNeg (vp_nar .boolean x))))) uc us) : zGood g d Q pc ls (.int x :: .int i :: .ref a :: st) σ uc us := by
  intro p l e s m args below meth c cs D A ad0 ad n0 H locs lr C hn hP hD hS hl
  exact va_zast C.1 C.2.1 C.2.2.2.2.2.2.2.1.1 hP hD hS a 1 (zW_get ha) rfl hi hdg (fun H1 locs1 hP1 hD1 hS1 => k p l e s m args below meth c cs D A ad0 ad n0 H1 locs1 lr C ⟨hn.1, hn.2.1, by rw [List.length_set]; exact hn.2.2.1, hn.2.2.2⟩ (by rw [zW_set]; exact hP1) (by rw [zW_set]; exact hD1) hS1 hl)
/-- a reference out of a row of rows -/
def zRf : Option Nat → Value
  | some k => .ref k
  | none => .null
theorem zRf_re (ad : Nat → Nat) (o : Option Nat) : zRe ad (zRf o) = va_rf (o.map ad) := by cases o <;> rfl
theorem s_aald {a t n : Nat} {f : Nat → Option Nat} {i : Int32} (hdg : decode g.2.1 pc = .ok (.aaload, 1)) (ha : σ[a]? = some (.inl (t, n, .inr (.inr (.inr (.inr f)))))) (hi : vp_in i n) (k : zGood g d Q (pc + 1) ls (zRf (f i.toNatClampNeg) :: st) σ uc us) : zGood g d Q pc ls (.int i :: .ref a :: st) σ uc us := by
  intro p l e s m args below meth c cs D A ad0 ad n0 H locs lr C hn hP hD hS hl
  have hlt : i.toNatClampNeg < n := Nat.not_le.mp fun q => hi (Or.inr q)
  have hx := k p l e s m args below meth c cs D A ad0 ad n0 H locs lr C hn hP hD hS hl
  rw [List.map_cons, zRf_re] at hx
  have hc := hP a _ (zW_get ha)
  refine W.aald (v := va_rf ((f i.toNatClampNeg).map ad)) (ty := .array .int) C.1 C.2.1 hc ((C.2.2.2.2.2.2.2.1.1.2 2 _ rfl).1 n (fun j => va_rf (if j < n then (f j).map ad else none))) rfl (fun q => by cases q) (by show ¬ (i < 0 ∨ (arrV _ _ _).slots.size ≤ _); rw [arrV_size]; exact hi) (by show (arrV _ _ _).slots[_]? = _; rw [arrV_read _ _ hlt]; simp [hlt]) rfl rfl hdg hx
end ZR
