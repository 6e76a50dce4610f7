/-- a row of a method's code: where, what, how long, the number that it pushes, where it goes, a switch's places -/
abbrev zR : Type := Nat × Instr × Nat × Value × Nat × List Nat
/-- what a class's pool says: fields (index; class, place, kind, final), methods (index; how, cells popped, receiver's class, whose), numbers, classes made (index; class, how many fields, what a new one holds) -/
abbrev zC : Type := List (Nat × Nat × Nat × Nat × Bool) × List (Nat × Nat × Nat × Nat × zG) × List (Nat × Value) × List (Nat × Nat × Nat × List Value)
def zFind {α : Type} : List (Nat × α) → Nat → Option α
  | [], _ => none
  | (i, a) :: r, k => match Nat.beq i k with
    | true => some a
    | false => zFind r k
theorem zFind_mem {α : Type} : ∀ {l : List (Nat × α)} {k : Nat} {a : α}, zFind l k = some a → (k, a) ∈ l
  | [], k, a, h => by cases h
  | (i, b) :: r, k, a, h => by
    unfold zFind at h
    cases hb : Nat.beq i k with
    | true =>
      rw [hb] at h
      have h1 : i = k := Nat.eq_of_beq_eq_true hb
      have h2 : b = a := Option.some.inj h
      rw [h1, h2]
      exact List.mem_cons_self
    | false =>
      rw [hb] at h
      exact List.mem_cons_of_mem _ (zFind_mem h)
def zMem (k : Nat) : List Nat → Bool
  | [] => false
  | i :: r => match Nat.beq i k with
    | true => true
    | false => zMem k r
def zNth {α : Type} : List α → Nat → Option α
  | [], _ => none
  | a :: _, 0 => some a
  | _ :: r, k + 1 => zNth r k
theorem zNth_eq {α : Type} : ∀ (l : List α) (k : Nat), zNth l k = l[k]?
  | [], k => by simp [zNth]
  | a :: r, 0 => by simp [zNth]
  | a :: r, k + 1 => by simp [zNth, zNth_eq r k]
def zLen : Instr → Nat
  | .bipush _ => 2 | .sipush _ => 3 | .ldc _ => 2 | .ldc_w _ => 3 | .ldc2_w _ => 3 | .iload _ => 2 | .aload _ => 2 | .istore _ => 2 | .astore _ => 2 | .iinc .. => 3 | .ifCond .. => 3 | .if_icmp .. => 3 | .goto _ => 3 | .ifnull _ => 3 | .ifnonnull _ => 3
  | .getfield _ => 3 | .putfield _ => 3 | .new _ => 3 | .newarray _ => 2 | .multianewarray .. => 4 | .invokevirtual _ => 3 | .invokestatic _ => 3 | .invokespecial _ => 3 | _ => 1
def zExtra (pc : Nat) (lit : Value) (tgt : Nat) (tl : List Nat) : Instr → Bool
  | .iconst n => decide (lit = .int (Int32.ofInt n))
  | .bipush n => decide (lit = .int (Int8.ofInt n).toInt32)
  | .sipush n => decide (lit = .int (Int16.ofInt n).toInt32)
  | .iinc _ n => decide (lit = .int (Int32.ofInt n))
  | .ifCond _ off | .if_icmp _ off | .goto off | .ifnull off | .ifnonnull off => decide ((pc : Int) + off = (tgt : Int))
  | .tableswitch df lo hi offs => decide (lo = 0 ∧ hi + 1 = (tl.length : Int) ∧ (pc : Int) + df = (tgt : Int) ∧ offs.toList.map (fun o => (pc : Int) + o) = tl.map Int.ofNat ∧ tl.length ≤ 100)
  | _ => true
def zIsSw : Instr → Bool
  | .tableswitch .. => true
  | _ => false
def zOkB (q : zR) : Bool := (zIsSw q.2.1 || Nat.beq q.2.2.1 (zLen q.2.1)) && zExtra q.1 q.2.2.2.1 q.2.2.2.2.1 q.2.2.2.2.2 q.2.1
/-- the table is the code -/
def zCode (g : zG) (cd : List zR) : Prop := ∀ q ∈ cd, decode g.2.1 q.1 = .ok (q.2.1, q.2.2.1) ∧ zOkB q = true
-- pieces
def zSome {α : Type} (o : Option α) (k : α → Prop) : Prop := match o with
  | some a => k a
  | none => False
theorem zSome_e {α : Type} {o : Option α} {k : α → Prop} (h : zSome o k) : ∃ a, o = some a ∧ k a := by
  cases o with
  | none => exact h.elim
  | some a => exact ⟨a, rfl, h⟩
def zB (b : Bool) (k : Prop) : Prop := match b with
  | true => k
  | false => False
theorem zB_e {b : Bool} {k : Prop} (h : zB b k) : b = true ∧ k := by
  cases b with
  | false => exact h.elim
  | true => exact ⟨rfl, h⟩
def zVi (v : Value) (k : Int32 → Prop) : Prop := match v with
  | .int x => k x
  | _ => False
theorem zVi_e {v : Value} {k : Int32 → Prop} (h : zVi v k) : ∃ x, v = .int x ∧ k x := by
  cases v <;> first | exact ⟨_, rfl, h⟩ | exact (show False from h).elim
def zVl (v : Value) (k : Int64 → Prop) : Prop := match v with
  | .long x => k x
  | _ => False
theorem zVl_e {v : Value} {k : Int64 → Prop} (h : zVl v k) : ∃ x, v = .long x ∧ k x := by
  cases v <;> first | exact ⟨_, rfl, h⟩ | exact (show False from h).elim
def zVa (v : Value) (k : Nat → Prop) (kn : Prop) : Prop := match v with
  | .ref x => k x
  | .null => kn
  | _ => False
theorem zVa_e {v : Value} {k : Nat → Prop} {kn : Prop} (h : zVa v k kn) : (∃ x, v = .ref x ∧ k x) ∨ (v = .null ∧ kn) := by
  cases v <;> first | exact Or.inl ⟨_, rfl, h⟩ | exact Or.inr ⟨rfl, h⟩ | exact (show False from h).elim
def zV1 (v : Value) (k : Prop) : Prop := match v with
  | .long _ => False
  | .double _ => False
  | _ => k
theorem zV1_e {v : Value} {k : Prop} (h : zV1 v k) : v.category = 1 ∧ k := by
  cases v <;> first | exact ⟨rfl, h⟩ | exact (show False from h).elim
def zTop (st : List Value) (k : Value → List Value → Prop) : Prop := match st with
  | v :: r => k v r
  | [] => False
theorem zTop_e {st : List Value} {k : Value → List Value → Prop} (h : zTop st k) : ∃ v r, st = v :: r ∧ k v r := by
  cases st with
  | nil => exact h.elim
  | cons v r => exact ⟨v, r, rfl, h⟩
def zTi (st : List Value) (k : Int32 → List Value → Prop) : Prop := zTop st fun v r => zVi v fun x => k x r
theorem zTi_e {st : List Value} {k : Int32 → List Value → Prop} (h : zTi st k) : ∃ x r, st = .int x :: r ∧ k x r := by
  obtain ⟨v, r, rfl, h⟩ := zTop_e h
  obtain ⟨x, rfl, h⟩ := zVi_e h
  exact ⟨x, r, rfl, h⟩
def zTii (st : List Value) (k : Int32 → Int32 → List Value → Prop) : Prop := zTi st fun y r => zTi r fun x r => k x y r
theorem zTii_e {st : List Value} {k : Int32 → Int32 → List Value → Prop} (h : zTii st k) : ∃ x y r, st = .int y :: .int x :: r ∧ k x y r := by
  obtain ⟨y, r1, e1, h1⟩ := zTi_e h
  obtain ⟨x, r2, e2, h2⟩ := zTi_e h1
  exact ⟨x, y, r2, by rw [e1, e2], h2⟩
def zTl (st : List Value) (k : Int64 → List Value → Prop) : Prop := zTop st fun v r => zVl v fun x => k x r
theorem zTl_e {st : List Value} {k : Int64 → List Value → Prop} (h : zTl st k) : ∃ x r, st = .long x :: r ∧ k x r := by
  obtain ⟨v, r, rfl, h⟩ := zTop_e h
  obtain ⟨x, rfl, h⟩ := zVl_e h
  exact ⟨x, r, rfl, h⟩
def zTll (st : List Value) (k : Int64 → Int64 → List Value → Prop) : Prop := zTl st fun y r => zTl r fun x r => k x y r
theorem zTll_e {st : List Value} {k : Int64 → Int64 → List Value → Prop} (h : zTll st k) : ∃ x y r, st = .long y :: .long x :: r ∧ k x y r := by
  obtain ⟨y, r1, e1, h1⟩ := zTl_e h
  obtain ⟨x, r2, e2, h2⟩ := zTl_e h1
  exact ⟨x, y, r2, by rw [e1, e2], h2⟩
def zTr (st : List Value) (k : Nat → List Value → Prop) : Prop := zTop st fun v r => zVa v (fun x => k x r) False
theorem zTr_e {st : List Value} {k : Nat → List Value → Prop} (h : zTr st k) : ∃ x r, st = .ref x :: r ∧ k x r := by
  obtain ⟨v, r, rfl, h⟩ := zTop_e h
  rcases zVa_e h with ⟨x, rfl, h⟩ | ⟨-, h⟩
  · exact ⟨x, r, rfl, h⟩
  · exact h.elim
def zObj (σ : List va_E) (a ci : Nat) (k : List Value → Prop) : Prop := match zNth σ a with
  | some (.inr (c2, fs)) => zB (Nat.beq c2 ci) (k fs)
  | _ => False
theorem zObj_e {σ : List va_E} {a ci : Nat} {k : List Value → Prop} (h : zObj σ a ci k) : ∃ fs, σ[a]? = some (.inr (ci, fs)) ∧ k fs := by
  unfold zObj at h
  rw [zNth_eq] at h
  split at h
  · rename_i c2 fs e
    obtain ⟨h1, h2⟩ := zB_e h
    exact ⟨fs, by rw [e, Nat.eq_of_beq_eq_true h1], h2⟩
  · exact h.elim
def zArr (σ : List va_E) (a t : Nat) (k : Nat → (Nat → Int32) → Prop) : Prop := match zNth σ a with
  | some (.inl (t2, n, .inl f)) => zB (Nat.beq t2 t) (k n f)
  | _ => False
theorem zArr_e {σ : List va_E} {a t : Nat} {k : Nat → (Nat → Int32) → Prop} (h : zArr σ a t k) : ∃ n f, σ[a]? = some (.inl (t, n, .inl f)) ∧ k n f := by
  unfold zArr at h
  rw [zNth_eq] at h
  split at h
  · rename_i t2 n f e
    obtain ⟨h1, h2⟩ := zB_e h
    exact ⟨n, f, by rw [e, Nat.eq_of_beq_eq_true h1], h2⟩
  · exact h.elim
def zArq (σ : List va_E) (a : Nat) (k : Nat → (Nat → Option Nat) → Prop) : Prop := match zNth σ a with
  | some (.inl (_, n, .inr (.inr (.inr (.inr f))))) => k n f
  | _ => False
theorem zArq_e {σ : List va_E} {a : Nat} {k : Nat → (Nat → Option Nat) → Prop} (h : zArq σ a k) : ∃ t n f, σ[a]? = some (.inl (t, n, .inr (.inr (.inr (.inr f))))) ∧ k n f := by
  unfold zArq at h
  rw [zNth_eq] at h
  split at h
  · rename_i t n f e
    exact ⟨t, n, f, e, h⟩
  · exact h.elim
/-- an array's length -/
def zLng (σ : List va_E) (a : Nat) (k : Nat → Prop) : Prop := match zNth σ a with
  | some (.inl (t, n, .inl _)) => zB (Nat.ble t 1) (k n)
  | some (.inl (_, n, .inr (.inr (.inr (.inr _))))) => k n
  | _ => False
def zSw (x : Int32) (df : Prop) (k : Nat → Prop) : Nat → List Nat → Prop
  | _, [] => df
  | i, t :: r => (x = Int32.ofNat i → k t) ∧ (¬ x = Int32.ofNat i → zSw x df k (i + 1) r)
def zFlag : Nat → FieldType → Bool
  | 0, .int => true
  | 1, .boolean => true
  | 2, .object _ => true
  | 2, .array _ => true
  | 3, _ => true
  | _, _ => false
/-- what may be stored, by the field's kind -/
def zPutOk (fl : Nat) (v : Value) (k : Prop) : Prop := match fl with
  | 0 => zVi v fun _ => k
  | 1 => zVi v fun x => (x = 0 ∨ x = 1) ∧ k
  | 2 => zVa v (fun _ => k) k
  | _ => False
theorem zPutOk_e {fl : Nat} {v : Value} {k : Prop} {ty : FieldType} (h : zPutOk fl v k) (hf : zFlag fl ty = true) : zFits ty v ∧ k := by
  match fl, h with
  | 0, h =>
    obtain ⟨x, rfl, h⟩ := zVi_e h
    cases ty <;> first | exact ⟨⟨rfl, rfl⟩, h⟩ | cases hf
  | 1, h =>
    obtain ⟨x, e1, h0, h2⟩ := zVi_e h
    rw [e1]
    cases ty <;> first | (rcases h0 with e2 | e2 <;> rw [e2] <;> exact ⟨⟨rfl, rfl⟩, h2⟩) | cases hf
  | 2, h =>
    rcases zVa_e h with ⟨x, rfl, h⟩ | ⟨rfl, h⟩ <;> cases ty <;> first | exact ⟨⟨rfl, rfl⟩, h⟩ | cases hf
  | n + 3, h => exact h.elim
-- the pool's words
def zFOk (own : String) (q : Nat × Nat × Nat × Nat × Bool) : Prop := ∃ (Cn : String) (T : u_T) (N : Nat) (ty : FieldType), zClass q.2.1 Cn T N ∧ q.2.2.1 < N ∧ Jvm.Cond.fieldLink own q.1 (T q.2.2.1).1 (T q.2.2.1).2.1 (T q.2.2.1).2.2.1 ∈ zT ∧ parseFieldDescriptor (T q.2.2.1).2.2.1 = some ty ∧ zFlag q.2.2.2.1 ty = true ∧ ((T q.2.2.1).2.2.2 = false ∨ (q.2.2.2.2 = true ∧ (T q.2.2.1).1 = own) ∨ q.2.2.2.1 = 3)
def zMOk (own : String) (q : Nat × Nat × Nat × Nat × zG) : Prop := (q.2.1 = 4 ∧ Jvm.Cond.methodLink own q.1 objectInit ∈ zT ∧ Jvm.Cond.instanceMethod objectInit ∈ zT ∧ Jvm.Cond.code objectInit ⟨#[0xb1]⟩ 1 none ∈ zT) ∨ zMeth own q.2.2.2.2 q.1 q.2.1 q.2.2.1 q.2.2.2.1
def zKOk (own : String) (q : Nat × Value) : Prop := match q.2 with
  | .int v => Jvm.Cond.constant own q.1 v ∈ zT
  | .long v => Jvm.Cond.constantLong own q.1 v ∈ zT
  | _ => False
def zNOk (own : String) (q : Nat × Nat × Nat × List Value) : Prop := ∃ (Cn : String) (T : u_T) (ty : Nat → FieldType), zClass q.2.1 Cn T q.2.2.1 ∧ (∀ k, k < q.2.2.1 → parseFieldDescriptor (T k).2.2.1 = some (ty k)) ∧ Jvm.Cond.classLink own q.1 Cn ∈ zT ∧ Jvm.Cond.instantiable Cn q.2.2.1 ∈ zT ∧ Jvm.Cond.initialized Cn ∈ zT ∧ (∀ j, j < q.2.2.1 → defaultValue (ty j) = vp_V q.2.2.2 j) ∧ ∀ ad : Nat → Nat, q.2.2.2.map (zRe ad) = q.2.2.2
def zPool (own : String) (cp : zC) : Prop := (∀ q ∈ cp.1, zFOk own q) ∧ (∀ q ∈ cp.2.1, zMOk own q) ∧ (∀ q ∈ cp.2.2.1, zKOk own q) ∧ (∀ q ∈ cp.2.2.2, zNOk own q)
def zRt (st : List Value) (r : Option FieldType) (k : Prop) : Prop := match st, r with
  | [], none => k
  | _, _ => False
theorem zRt_e {st : List Value} {r : Option FieldType} {k : Prop} (h : zRt st r k) : st = [] ∧ r = none ∧ k := by
  cases st with
  | nil =>
    cases r with
    | none => exact ⟨rfl, rfl, h⟩
    | some t => exact h.elim
  | cons v q => exact (show False from h).elim
abbrev zNx : Type := Nat → List (Option Value) → List Value → List va_E → Nat → Nat → Prop
def zIf (c : ClassFile.Cond) (x y : Int32) (a b : Prop) : Prop := match c with
  | .eq => (x = y → a) ∧ (¬ x = y → b)
  | .ne => (x = y → b) ∧ (¬ x = y → a)
  | .lt => (x < y → a) ∧ (¬ x < y → b)
  | .ge => (y ≤ x → a) ∧ (¬ y ≤ x → b)
  | .gt => (y < x → a) ∧ (¬ y < x → b)
  | .le => (x ≤ y → a) ∧ (¬ x ≤ y → b)
/-- a call's piece -/
def zCall (d : Nat) (nx : zNx) (pc : Nat) (ls : List (Option Value)) (σ : List va_E) (uc us mc ms : Nat) (g' : zG) (av rest : List Value) : Prop := match d with
  | 0 => False
  | d + 1 => zB (Nat.ble (zCat rest) 8) (zB (Nat.ble (uc + g'.2.2.2.2.1) mc) (zB (Nat.ble (us + g'.2.2.2.2.2) ms) (zB (Nat.beq g'.2.2.2.2.1 0 || (zBO σ.length ls && zBL σ.length rest)) (True ∧ zRuns g' d av σ (fun v σ' => nx (pc + 3) ls (v.toList ++ rest) σ' (uc + g'.2.2.2.2.1) (us + g'.2.2.2.2.2))))))
def zI (g : zG) (ini : Bool) (cp : zC) (d : Nat) (Q : Option Value → List va_E → Prop) (nx : zNx) (lit : Value) (tgt : Nat) (tl : List Nat) (pc : Nat) (ls : List (Option Value)) (st : List Value) (σ : List va_E) (uc us : Nat) : Instr → Prop
  | .aconst_null => nx (pc + 1) ls (.null :: st) σ uc us
  | .iconst _ => zVi lit fun v => nx (pc + 1) ls (.int v :: st) σ uc us
  | .bipush _ => zVi lit fun v => nx (pc + 2) ls (.int v :: st) σ uc us
  | .sipush _ => zVi lit fun v => nx (pc + 3) ls (.int v :: st) σ uc us
  | .ldc i => zSome (zFind cp.2.2.1 i) fun v => zVi v fun v => nx (pc + 2) ls (.int v :: st) σ uc us
  | .ldc_w i => zSome (zFind cp.2.2.1 i) fun v => zVi v fun v => nx (pc + 3) ls (.int v :: st) σ uc us
  | .ldc2_w i => zSome (zFind cp.2.2.1 i) fun v => zVl v fun v => nx (pc + 3) ls (.long v :: st) σ uc us
  | .iload_n k => zSome (zGet ls k.val) fun v => zVi v fun x => nx (pc + 1) ls (.int x :: st) σ uc us
  | .iload k => zSome (zGet ls k) fun v => zVi v fun x => nx (pc + 2) ls (.int x :: st) σ uc us
  | .lload_n k => zSome (zGet ls k.val) fun v => zVl v fun x => nx (pc + 1) ls (.long x :: st) σ uc us
  | .aload_n k => zSome (zGet ls k.val) fun v => zVa v (fun x => nx (pc + 1) ls (.ref x :: st) σ uc us) (nx (pc + 1) ls (.null :: st) σ uc us)
  | .aload k => zSome (zGet ls k) fun v => zVa v (fun x => nx (pc + 2) ls (.ref x :: st) σ uc us) (nx (pc + 2) ls (.null :: st) σ uc us)
  | .istore_n k => zTi st fun x r => zB (Nat.blt k.val g.2.2.1) (nx (pc + 1) (zPut ls k.val (.int x)) r σ uc us)
  | .istore k => zTi st fun x r => zB (Nat.blt k g.2.2.1) (nx (pc + 2) (zPut ls k (.int x)) r σ uc us)
  | .astore_n k => zTop st fun v r => zB (Nat.blt k.val g.2.2.1) (zVa v (fun x => nx (pc + 1) (zPut ls k.val (.ref x)) r σ uc us) (nx (pc + 1) (zPut ls k.val .null) r σ uc us))
  | .astore k => zTop st fun v r => zB (Nat.blt k g.2.2.1) (zVa v (fun x => nx (pc + 2) (zPut ls k (.ref x)) r σ uc us) (nx (pc + 2) (zPut ls k .null) r σ uc us))
  | .lstore_n k => zTl st fun x r => zB (Nat.blt (k.val + 1) g.2.2.1) (nx (pc + 1) (zDel (zPut ls k.val (.long x)) (k.val + 1)) r σ uc us)
  | .iinc k _ => zSome (zGet ls k) fun v => zVi v fun x => zVi lit fun n => zB (Nat.blt k g.2.2.1) (nx (pc + 3) (zPut ls k (.int (x + n))) st σ uc us)
  | .iadd => zTii st fun x y r => nx (pc + 1) ls (.int (x + y) :: r) σ uc us
  | .isub => zTii st fun x y r => nx (pc + 1) ls (.int (x - y) :: r) σ uc us
  | .imul => zTii st fun x y r => nx (pc + 1) ls (.int (x * y) :: r) σ uc us
  | .iand => zTii st fun x y r => nx (pc + 1) ls (.int (x &&& y) :: r) σ uc us
  | .ior => zTii st fun x y r => nx (pc + 1) ls (.int (x ||| y) :: r) σ uc us
  | .ixor => zTii st fun x y r => nx (pc + 1) ls (.int (x ^^^ y) :: r) σ uc us
  | .ishl => zTii st fun x y r => nx (pc + 1) ls (.int (x <<< (y &&& 31)) :: r) σ uc us
  | .ishr => zTii st fun x y r => nx (pc + 1) ls (.int (x >>> (y &&& 31)) :: r) σ uc us
  | .iushr => zTii st fun x y r => nx (pc + 1) ls (.int ((x.toUInt32 >>> (y.toUInt32 &&& Int32.toUInt32 31)).toInt32) :: r) σ uc us
  | .idiv => zTii st fun x y r => (¬ y = 0) ∧ nx (pc + 1) ls (.int (x / y) :: r) σ uc us
  | .irem => zTii st fun x y r => (¬ y = 0) ∧ nx (pc + 1) ls (.int (x - x / y * y) :: r) σ uc us
  | .ineg => zTi st fun x r => nx (pc + 1) ls (.int (-x) :: r) σ uc us
  | .ladd => zTll st fun x y r => nx (pc + 1) ls (.long (x + y) :: r) σ uc us
  | .lmul => zTll st fun x y r => nx (pc + 1) ls (.long (x * y) :: r) σ uc us
  | .land => zTll st fun x y r => nx (pc + 1) ls (.long (x &&& y) :: r) σ uc us
  | .ldiv => zTll st fun x y r => (¬ y = 0) ∧ nx (pc + 1) ls (.long (x / y) :: r) σ uc us
  | .i2l => zTi st fun x r => nx (pc + 1) ls (.long x.toInt64 :: r) σ uc us
  | .l2i => zTl st fun x r => nx (pc + 1) ls (.int x.toInt32 :: r) σ uc us
  | .dup => zTop st fun v r => zV1 v (nx (pc + 1) ls (v :: v :: r) σ uc us)
  | .dup2 => zTop st fun v r => zTop r fun u r => zV1 v (zV1 u (nx (pc + 1) ls (v :: u :: v :: u :: r) σ uc us))
  | .pop => zTop st fun v r => zV1 v (nx (pc + 1) ls r σ uc us)
  | .ifCond c _ => zTi st fun x r => zIf c x 0 (nx tgt ls r σ uc us) (nx (pc + 3) ls r σ uc us)
  | .if_icmp c _ => zTii st fun x y r => zIf c x y (nx tgt ls r σ uc us) (nx (pc + 3) ls r σ uc us)
  | .goto _ => nx tgt ls st σ uc us
  | .ifnull _ => zTop st fun v r => zVa v (fun _ => nx (pc + 3) ls r σ uc us) (nx tgt ls r σ uc us)
  | .ifnonnull _ => zTop st fun v r => zVa v (fun _ => nx tgt ls r σ uc us) (nx (pc + 3) ls r σ uc us)
  | .tableswitch .. => zTi st fun x r => zSw x (nx tgt ls r σ uc us) (fun t => nx t ls r σ uc us) 0 tl
  | .arraylength => zTr st fun a r => zLng σ a fun n => nx (pc + 1) ls (.int (Int32.ofNat n) :: r) σ uc us
  | .iaload => zTi st fun i r => zTr r fun a r => zArr σ a 0 fun n f => vp_in i n ∧ nx (pc + 1) ls (.int (f i.toNatClampNeg) :: r) σ uc us
  | .baload => zTi st fun i r => zTr r fun a r => zArr σ a 1 fun n f => vp_in i n ∧ nx (pc + 1) ls (.int (f i.toNatClampNeg) :: r) σ uc us
  | .aaload => zTi st fun i r => zTr r fun a r => zArq σ a fun n f => vp_in i n ∧ nx (pc + 1) ls (zRf (f i.toNatClampNeg) :: r) σ uc us
  | .iastore => zTi st fun x r => zTi r fun i r => zTr r fun a r => zArr σ a 0 fun n f => vp_in i n ∧ nx (pc + 1) ls r (σ.set a (.inl (0, n, .inl (upd f i.toNatClampNeg x)))) uc us
  | .bastore => zTi st fun x r => zTi r fun i r => zTr r fun a r => zArr σ a 1 fun n f => vp_in i n ∧ nx (pc + 1) ls r (σ.set a (.inl (1, n, .inl (upd f i.toNatClampNeg (vp_nar .boolean x))))) uc us
  | .getfield i => zSome (zFind cp.1 i) fun q => zTr st fun a r => zObj σ a q.1 fun fs => zSome (zNth fs q.2.1) fun v => nx (pc + 3) ls (v :: r) σ uc us
  | .putfield i => zSome (zFind cp.1 i) fun q => zTop st fun v r => zTr r fun a r => zObj σ a q.1 fun fs => zB (Nat.blt q.2.1 fs.length) (zB (!q.2.2.2 || ini) (zPutOk q.2.2.1 v (nx (pc + 3) ls r (σ.set a (.inr (q.1, fs.set q.2.1 v))) uc us)))
  | .new i => zSome (zFind cp.2.2.2 i) fun q => zB (zBO σ.length ls && (zBL σ.length st && zBS σ.length σ)) (zB (Nat.ble (uc + 1) g.2.2.2.2.1) (zB (Nat.ble (us + q.2.1) g.2.2.2.2.2) (nx (pc + 3) ls (.ref σ.length :: st) (σ ++ [.inr (q.1, q.2.2)]) (uc + 1) (us + q.2.1))))
  | .newarray .int => zTi st fun n r => zB (decide (¬ n < 0) && Nat.ble n.toNatClampNeg 100000) (zB (zBO σ.length ls && (zBL σ.length r && zBS σ.length σ)) (zB (Nat.ble (uc + 1) g.2.2.2.2.1) (zB (Nat.ble (us + n.toNatClampNeg) g.2.2.2.2.2) (nx (pc + 2) ls (.ref σ.length :: r) (σ ++ [.inl (0, n.toNatClampNeg, .inl (fun _ => 0))]) (uc + 1) (us + n.toNatClampNeg)))))
  | .newarray .boolean => zTi st fun n r => zB (decide (¬ n < 0) && Nat.ble n.toNatClampNeg 100000) (zB (zBO σ.length ls && (zBL σ.length r && zBS σ.length σ)) (zB (Nat.ble (uc + 1) g.2.2.2.2.1) (zB (Nat.ble (us + n.toNatClampNeg) g.2.2.2.2.2) (nx (pc + 2) ls (.ref σ.length :: r) (σ ++ [.inl (1, n.toNatClampNeg, .inl (fun _ => 0))]) (uc + 1) (us + n.toNatClampNeg)))))
  | .invokevirtual i => zSome (zFind cp.2.1 i) fun q => zB (Nat.beq q.1 0) (zSome (zPop q.2.1 [] st) fun ar => zTr ar.1 fun b _ => zObj σ b q.2.2.1 fun _ => zCall d nx pc ls σ uc us g.2.2.2.2.1 g.2.2.2.2.2 q.2.2.2 ar.1 ar.2)
  | .invokestatic i => zSome (zFind cp.2.1 i) fun q => zB (Nat.beq q.1 1 || Nat.beq q.1 3) (zSome (zPop q.2.1 [] st) fun ar => zCall d nx pc ls σ uc us g.2.2.2.2.1 g.2.2.2.2.2 q.2.2.2 ar.1 ar.2)
  | .invokespecial i => zSome (zFind cp.2.1 i) fun q => match q.1 with
    | 4 => match d with
      | 0 => False
      | _ + 1 => zTr st fun _ r => zB (Nat.ble (zCat r) 8) (nx (pc + 3) ls r σ uc us)
    | 2 => zSome (zPop q.2.1 [] st) fun ar => zTr ar.1 fun b _ => zObj σ b q.2.2.1 fun _ => zCall d nx pc ls σ uc us g.2.2.2.2.1 g.2.2.2.2.2 q.2.2.2 ar.1 ar.2
    | _ => False
  | .ireturn => zTi st fun v r => match r, g.2.2.2.1 with
    | [], some .int => Q (some (.int v)) σ
    | [], some .boolean => (v &&& 1 = v) ∧ Q (some (.int v)) σ
    | _, _ => False
  | .return_ => zRt st g.2.2.2.1 (Q none σ)
  | .areturn => zTop st fun v r => match r, g.2.2.2.1 with
    | [], some (.object _) => zVa v (fun x => Q (some (.ref x)) σ) (Q (some .null) σ)
    | _, _ => False
  | _ => False
def zX (g : zG) (ini : Bool) (cp : zC) (cd : List zR) (cuts : List Nat) (d : Nat) (Q : Option Value → List va_E → Prop) : Nat → Bool → Nat → List (Option Value) → List Value → List va_E → Nat → Nat → Prop
  | 0, _, _, _, _, _, _, _ => False
  | n + 1, fresh, pc, ls, st, σ, uc, us => match fresh || !zMem pc cuts with
    | false => True ∧ zGood g d Q pc ls st σ uc us
    | true => match zFind cd pc with
      | none => False
      | some q => zI g ini cp d Q (fun pc' ls' st' σ' uc' us' => zX g ini cp cd cuts d Q n false pc' ls' st' σ' uc' us') q.2.2.1 q.2.2.2.1 q.2.2.2.2 pc ls st σ uc us q.1
theorem zIn {w : Jvm.Cond} (i : Nat) (h : lw_tbl[i]? = some w) (hg : goodWord w = true) : w ∈ zT := List.mem_filter.mpr ⟨List.mem_of_getElem? h, hg⟩
theorem zIm {w : Jvm.Cond} (i : Nat) (h : lw_tbl[i]? = some w) (hg : zIsN w = true) : w ∈ zN := List.mem_filter.mpr ⟨List.mem_of_getElem? h, hg⟩
theorem zT_int : Jvm.Cond.arrayClass (newarray.typeOf .int) ∈ zT := zIn 106 (by decide +kernel) (by decide +kernel)
theorem zT_bool : Jvm.Cond.arrayClass (newarray.typeOf .boolean) ∈ zT := zIn 983 (by decide +kernel) (by decide +kernel)

section ZS
variable {g : zG} {ini : Bool} {cp : zC} {d : Nat} {Q : Option Value → List va_E → Prop} {nx : zNx} {lit : Value} {tgt : Nat} {tl : List Nat} {pc : Nat} {ls : List (Option Value)} {st : List Value} {σ : List va_E} {uc us : Nat}
theorem zIf_eq {c : ClassFile.Cond} {x : Int32} {off : Int} {r : List Value} (hdg : decode g.2.1 pc = .ok (.ifCond c off, 3)) (ht : (pc : Int) + off = (tgt : Int)) (h : zIf c x 0 (zGood g d Q tgt ls r σ uc us) (zGood g d Q (pc + 3) ls r σ uc us)) : zGood g d Q pc ls (.int x :: r) σ uc us := by
  cases c
  · exact s_if_eq hdg ht h.1 h.2
  · exact s_if_ne hdg ht h.2 h.1
  · exact s_if_lt hdg ht h.1 h.2
  · exact s_if_ge hdg ht h.1 h.2
  · exact s_if_gt hdg ht h.1 h.2
  · exact s_if_le hdg ht h.1 h.2
theorem zIcmp_eq {c : ClassFile.Cond} {x y : Int32} {off : Int} {r : List Value} (hdg : decode g.2.1 pc = .ok (.if_icmp c off, 3)) (ht : (pc : Int) + off = (tgt : Int)) (h : zIf c x y (zGood g d Q tgt ls r σ uc us) (zGood g d Q (pc + 3) ls r σ uc us)) : zGood g d Q pc ls (.int y :: .int x :: r) σ uc us := by
  cases c
  · exact s_icmp_eq hdg ht h.1 h.2
  · exact s_icmp_ne hdg ht h.2 h.1
  · exact s_icmp_lt hdg ht h.1 h.2
  · exact s_icmp_ge hdg ht h.1 h.2
  · exact s_icmp_gt hdg ht h.1 h.2
  · exact s_icmp_le hdg ht h.1 h.2
theorem zIf_mono {c : ClassFile.Cond} {x y : Int32} {a b a' b' : Prop} (ha : a → a') (hb : b → b') (h : zIf c x y a b) : zIf c x y a' b' := by
  cases c <;> exact ⟨fun q => by first | exact ha (h.1 q) | exact hb (h.1 q), fun q => by first | exact hb (h.2 q) | exact ha (h.2 q)⟩
theorem zLng_s {a : Nat} {r : List Value} {k : Nat → Prop} (hdg : decode g.2.1 pc = .ok (.arraylength, 1)) (h : zLng σ a k) (hk : ∀ n, k n → zGood g d Q (pc + 1) ls (.int (Int32.ofNat n) :: r) σ uc us) : zGood g d Q pc ls (.ref a :: r) σ uc us := by
  unfold zLng at h
  rw [zNth_eq] at h
  split at h
  · rename_i t n f e
    obtain ⟨h1, h2⟩ := zB_e h
    have h3 : t ≤ 1 := Nat.le_of_ble_eq_true h1
    exact s_alen (t := t) (Nat.le_one_iff_eq_zero_or_eq_one.mp h3) hdg e (hk n h2)
  · rename_i t n f e
    exact s_alenq hdg e (hk n h)
  · exact h.elim
theorem zCall_s {idx kind n ci : Nat} {g' : zG} {av rest : List Value} (hm : zMeth g.1.cls g' idx kind n ci) (hdg : decode g.2.1 pc = .ok ((if kind = 0 then Instr.invokevirtual idx else if kind = 2 then Instr.invokespecial idx else Instr.invokestatic idx), 3))
    (hpop : zPop n [] st = some (av, rest)) (hrecv : (kind = 0 ∨ kind = 2) → ∃ b fs As, av = .ref b :: As ∧ σ[b]? = some (.inr (ci, fs)))
    (hnx : ∀ pc' ls' st' σ' uc' us', nx pc' ls' st' σ' uc' us' → zGood g d Q pc' ls' st' σ' uc' us')
    (h : zCall d nx pc ls σ uc us g.2.2.2.2.1 g.2.2.2.2.2 g' av rest) : zGood g d Q pc ls st σ uc us := by
  cases d with
  | zero => exact h.elim
  | succ d =>
    obtain ⟨b1, h⟩ := zB_e h
    obtain ⟨b2, h⟩ := zB_e h
    obtain ⟨b3, h⟩ := zB_e h
    obtain ⟨b4, -, h⟩ := zB_e h
    exact s_call hm hdg hpop (Nat.le_of_ble_eq_true b1) hrecv (fun hz => by
      cases hb : Nat.beq g'.2.2.2.2.1 0 with
      | true => exact absurd (Nat.eq_of_beq_eq_true hb) hz
      | false => rw [hb] at b4; exact b4) (Nat.le_of_ble_eq_true b2) (Nat.le_of_ble_eq_true b3) (h.mono fun v σ' q => hnx _ _ _ _ _ _ q)
theorem zSw_s {df lo hi : Int} {offs : Array Int} {len : Nat} {x : Int32} {r : List Value} (hdg : decode g.2.1 pc = .ok (.tableswitch df lo hi offs, len)) (hE : lo = 0 ∧ hi + 1 = (tl.length : Int) ∧ (pc : Int) + df = (tgt : Int) ∧ offs.toList.map (fun o => (pc : Int) + o) = tl.map Int.ofNat ∧ tl.length ≤ 100)
    (h : zSw x (zGood g d Q tgt ls r σ uc us) (fun t => zGood g d Q t ls r σ uc us) 0 tl) : zGood g d Q pc ls (.int x :: r) σ uc us := by
  obtain ⟨rfl, e1, e2, e3, e4⟩ := hE
  have key : ∀ (tl : List Nat) (i : Nat), i + tl.length ≤ 500 → zSw x (zGood g d Q tgt ls r σ uc us) (fun t => zGood g d Q t ls r σ uc us) i tl → (∀ k t, tl[k]? = some t → x = Int32.ofNat (i + k) → zGood g d Q t ls r σ uc us) ∧ ((∀ k, k < tl.length → ¬ x = Int32.ofNat (i + k)) → zGood g d Q tgt ls r σ uc us) := by
    intro tl
    induction tl with
    | nil => intro i _ h; exact ⟨fun k t hk => by simp at hk, fun _ => h⟩
    | cons a tl ih =>
      intro i hlim h
      rw [List.length_cons] at hlim
      by_cases hx : x = Int32.ofNat i
      · refine ⟨fun k t hk hxk => ?_, fun hno => absurd hx (by have := hno 0 (by simp); simpa using this)⟩
        cases k with
        | zero => cases hk; exact h.1 hx
        | succ k =>
          exact absurd hxk (by
            rw [hx]
            intro q
            have q2 : k < tl.length := (List.getElem?_eq_some_iff.mp (by simpa using hk)).1
            have q3 := congrArg Int32.toInt q
            have q4 : ((i : Nat) : Int) = ((i + (k + 1) : Nat) : Int) := ((nI_toInt (n := i) (by omega)).symm.trans q3).trans (nI_toInt (n := i + (k + 1)) (by omega))
            omega)
      · obtain ⟨h1, h2⟩ := ih (i + 1) (by omega) (h.2 hx)
        refine ⟨fun k t hk hxk => ?_, fun hno => h2 fun k hk => ?_⟩
        · cases k with
          | zero => exact absurd hxk hx
          | succ k => exact h1 k t (by simpa using hk) (by rw [hxk, show i + (k + 1) = i + 1 + k by omega])
        · have := hno (k + 1) (by simp; omega)
          rwa [show i + (k + 1) = i + 1 + k by omega] at this
  obtain ⟨h1, h2⟩ := key tl 0 (by omega) h
  intro p l e s m args below meth c cs D A ad0 ad n0 H locs lr C hn hP hD hS hl
  by_cases hr : x.toInt < 0 ∨ hi < x.toInt
  · refine lv_tableOut C.1 C.2.1 hdg hr e2 (h2 (fun k hk q => ?_) p l e s m args below meth c cs D A ad0 ad n0 H locs lr C hn hP hD hS hl)
    have h9 : x.toInt = (k : Int) := by rw [q, Nat.zero_add]; exact nI_toInt (n := k) (by omega)
    omega
  · have h8 : ¬ x.toInt < 0 := fun q => hr (Or.inl q)
    have h7 : ¬ hi < x.toInt := fun q => hr (Or.inr q)
    obtain ⟨k, hk⟩ : ∃ k : Nat, x.toInt = (k : Int) := ⟨x.toInt.toNat, by omega⟩
    have hkl : k < tl.length := by omega
    have hlen : offs.toList.length = tl.length := by have := congrArg List.length e3; simpa using this
    have ho : (offs.toList.map (fun o => (pc : Int) + o))[k]? = (tl.map Int.ofNat)[k]? := by rw [e3]
    rw [List.getElem?_map, List.getElem?_map, List.getElem?_eq_getElem hkl] at ho
    obtain ⟨o, ho1, ho2⟩ := Option.map_eq_some_iff.mp ho
    refine lv_tableIn (off := o) (tgt := tl[k]) C.1 C.2.1 hdg h8 h7 (by rw [← Array.getElem?_toList, hk]; simpa using ho1) ho2 ?_
    refine h1 k _ (List.getElem?_eq_getElem hkl) ?_ p l e s m args below meth c cs D A ad0 ad n0 H locs lr C hn hP hD hS hl
    rw [Nat.zero_add]
    apply Int32.toInt_inj.mp
    rw [hk]
    exact (nI_toInt (n := k) (by omega)).symm
set_option maxHeartbeats 4000000 in
theorem zI_s {i : Instr} {len : Nat} (hini : ini = true → g.1.name = "<init>") (hcp : zPool g.1.cls cp) (hdg0 : decode g.2.1 pc = .ok (i, len)) (hok : zOkB (pc, i, len, lit, tgt, tl) = true) (hnx : ∀ pc' ls' st' σ' uc' us', nx pc' ls' st' σ' uc' us' → zGood g d Q pc' ls' st' σ' uc' us')
    (h : zI g ini cp d Q nx lit tgt tl pc ls st σ uc us i) : zGood g d Q pc ls st σ uc us := by
  have hN : ∀ {pc' : Nat} {ls' : List (Option Value)} {st' : List Value} {σ' : List va_E} {uc' us' : Nat}, nx pc' ls' st' σ' uc' us' → zGood g d Q pc' ls' st' σ' uc' us' := fun q => hnx _ _ _ _ _ _ q
  obtain ⟨o1, o2⟩ := Bool.and_eq_true_iff.mp hok
  have hdg : zIsSw i = false → decode g.2.1 pc = .ok (i, zLen i) := fun q => by
    rw [hdg0]
    have o3 : (zIsSw i || Nat.beq len (zLen i)) = true := o1
    rw [q] at o3
    rw [Nat.eq_of_beq_eq_true o3]
  have blt : ∀ {a b : Nat}, Nat.blt a b = true → a < b := fun q => Nat.lt_of_lt_of_le (Nat.lt_succ_self _) (Nat.le_of_ble_eq_true q)
  cases i

  case aconst_null => exact s_null (hdg rfl) (hN h)
  case iconst n => replace h := zVi_e h; obtain ⟨v, rfl, h⟩ := h; exact s_iconst (hdg rfl) (by have := of_decide_eq_true o2; exact (Value.int.inj this).symm) (hN h)
  case bipush n => replace h := zVi_e h; obtain ⟨v, rfl, h⟩ := h; exact s_bipush (hdg rfl) (by have := of_decide_eq_true o2; exact (Value.int.inj this).symm) (hN h)
  case sipush n => replace h := zVi_e h; obtain ⟨v, rfl, h⟩ := h; exact s_sipush (hdg rfl) (by have := of_decide_eq_true o2; exact (Value.int.inj this).symm) (hN h)
  case ldc n => replace h := zSome_e h; obtain ⟨v, e, h⟩ := h; replace h := zVi_e h; obtain ⟨x, rfl, h⟩ := h; exact s_ldc (hdg rfl) (hcp.2.2.1 _ (zFind_mem e)) (hN h)
  case ldc_w n => replace h := zSome_e h; obtain ⟨v, e, h⟩ := h; replace h := zVi_e h; obtain ⟨x, rfl, h⟩ := h; exact s_ldcw (hdg rfl) (hcp.2.2.1 _ (zFind_mem e)) (hN h)
  case ldc2_w n => replace h := zSome_e h; obtain ⟨v, e, h⟩ := h; replace h := zVl_e h; obtain ⟨x, rfl, h⟩ := h; exact s_ldc2 (hdg rfl) (hcp.2.2.1 _ (zFind_mem e)) (hN h)
  case iload_n k => replace h := zSome_e h; obtain ⟨v, e, h⟩ := h; obtain ⟨x, rfl, h⟩ := zVi_e h; exact s_iload_n (hdg rfl) e (hN h)
  case iload k => replace h := zSome_e h; obtain ⟨v, e, h⟩ := h; obtain ⟨x, rfl, h⟩ := zVi_e h; exact s_iload (hdg rfl) e (hN h)
  case lload_n k => replace h := zSome_e h; obtain ⟨v, e, h⟩ := h; obtain ⟨x, rfl, h⟩ := zVl_e h; exact s_lload_n (hdg rfl) e (hN h)
  case aload_n k => replace h := zSome_e h; obtain ⟨v, e, h⟩ := h; replace h := zVa_e h; rcases h with ⟨x, rfl, h⟩ | ⟨rfl, h⟩; exact s_aload_n (hdg rfl) e (hN h); exact s_aload_nN (hdg rfl) e (hN h)
  case aload k => replace h := zSome_e h; obtain ⟨v, e, h⟩ := h; replace h := zVa_e h; rcases h with ⟨x, rfl, h⟩ | ⟨rfl, h⟩; exact s_aload (hdg rfl) e (hN h); exact s_aloadN (hdg rfl) e (hN h)
  case istore_n k => replace h := zTi_e h; obtain ⟨x, r, rfl, h⟩ := h; replace h := zB_e h; obtain ⟨hb, h⟩ := h; exact s_istore_n (hdg rfl) (blt hb) (hN h)
  case istore k => replace h := zTi_e h; obtain ⟨x, r, rfl, h⟩ := h; replace h := zB_e h; obtain ⟨hb, h⟩ := h; exact s_istore (hdg rfl) (blt hb) (hN h)
  case astore_n k => replace h := zTop_e h; obtain ⟨v, r, rfl, h⟩ := h; replace h := zB_e h; obtain ⟨hb, h⟩ := h; replace h := zVa_e h; rcases h with ⟨x, rfl, h⟩ | ⟨rfl, h⟩; exact s_astore_n (hdg rfl) (blt hb) (hN h); exact s_astore_nN (hdg rfl) (blt hb) (hN h)
  case astore k => replace h := zTop_e h; obtain ⟨v, r, rfl, h⟩ := h; replace h := zB_e h; obtain ⟨hb, h⟩ := h; replace h := zVa_e h; rcases h with ⟨x, rfl, h⟩ | ⟨rfl, h⟩; exact s_astore (hdg rfl) (blt hb) (hN h); exact s_astoreN (hdg rfl) (blt hb) (hN h)
  case lstore_n k => replace h := zTl_e h; obtain ⟨x, r, rfl, h⟩ := h; replace h := zB_e h; obtain ⟨hb, h⟩ := h; exact s_lstore_n (hdg rfl) (blt hb) (hN h)
  case iinc k n => replace h := zSome_e h; obtain ⟨v, e, h1⟩ := h; obtain ⟨x, e1, h2⟩ := zVi_e h1; obtain ⟨y, e2, h3⟩ := zVi_e h2; obtain ⟨hb, h4⟩ := zB_e h3; exact s_iinc (hdg rfl) (by have o3 := of_decide_eq_true o2; exact (Value.int.inj (e2.symm.trans o3)).symm) (by rw [e, e1]) (blt hb) (hN h4)
  case iadd => replace h := zTii_e h; obtain ⟨x, y, r, rfl, h⟩ := h; exact s_iadd (hdg rfl) (hN h)
  case isub => replace h := zTii_e h; obtain ⟨x, y, r, rfl, h⟩ := h; exact s_isub (hdg rfl) (hN h)
  case imul => replace h := zTii_e h; obtain ⟨x, y, r, rfl, h⟩ := h; exact s_imul (hdg rfl) (hN h)
  case iand => replace h := zTii_e h; obtain ⟨x, y, r, rfl, h⟩ := h; exact s_iand (hdg rfl) (hN h)
  case ior => replace h := zTii_e h; obtain ⟨x, y, r, rfl, h⟩ := h; exact s_ior (hdg rfl) (hN h)
  case ixor => replace h := zTii_e h; obtain ⟨x, y, r, rfl, h⟩ := h; exact s_ixor (hdg rfl) (hN h)
  case ishl => replace h := zTii_e h; obtain ⟨x, y, r, rfl, h⟩ := h; exact s_ishl (hdg rfl) (hN h)
  case ishr => replace h := zTii_e h; obtain ⟨x, y, r, rfl, h⟩ := h; exact s_ishr (hdg rfl) (hN h)
  case iushr => replace h := zTii_e h; obtain ⟨x, y, r, rfl, h⟩ := h; exact s_iushr (hdg rfl) (hN h)
  case idiv => replace h := zTii_e h; obtain ⟨x, y, r, rfl, h⟩ := h; exact s_idiv (hdg rfl) h.1 (hN h.2)
  case irem => replace h := zTii_e h; obtain ⟨x, y, r, rfl, h⟩ := h; exact s_irem (hdg rfl) h.1 (hN h.2)
  case ineg => replace h := zTi_e h; obtain ⟨x, r, rfl, h⟩ := h; exact s_ineg (hdg rfl) (hN h)
  case ladd => replace h := zTll_e h; obtain ⟨x, y, r, rfl, h⟩ := h; exact s_ladd (hdg rfl) (hN h)
  case lmul => replace h := zTll_e h; obtain ⟨x, y, r, rfl, h⟩ := h; exact s_lmul (hdg rfl) (hN h)
  case land => replace h := zTll_e h; obtain ⟨x, y, r, rfl, h⟩ := h; exact s_land (hdg rfl) (hN h)
  case ldiv => replace h := zTll_e h; obtain ⟨x, y, r, rfl, h⟩ := h; exact s_ldiv (hdg rfl) h.1 (hN h.2)
  case i2l => replace h := zTi_e h; obtain ⟨x, r, rfl, h⟩ := h; exact s_i2l (hdg rfl) (hN h)
  case l2i => replace h := zTl_e h; obtain ⟨x, r, rfl, h⟩ := h; exact s_l2i (hdg rfl) (hN h)
  case dup => replace h := zTop_e h; obtain ⟨v, r, rfl, h⟩ := h; replace h := zV1_e h; obtain ⟨hv, h⟩ := h; exact s_dup (hdg rfl) hv (hN h)
  case dup2 => replace h := zTop_e h; obtain ⟨v, r, rfl, h⟩ := h; replace h := zTop_e h; obtain ⟨u, r, rfl, h⟩ := h; replace h := zV1_e h; obtain ⟨hv, h⟩ := h; replace h := zV1_e h; obtain ⟨hu, h⟩ := h; exact s_dup2 (hdg rfl) hv hu (hN h)
  case pop => replace h := zTop_e h; obtain ⟨v, r, rfl, h⟩ := h; replace h := zV1_e h; obtain ⟨hv, h⟩ := h; exact s_pop (hdg rfl) hv (hN h)
  case ifCond c off => replace h := zTi_e h; obtain ⟨x, r, rfl, h⟩ := h; exact zIf_eq (hdg rfl) (of_decide_eq_true o2) (zIf_mono hN hN h)
  case if_icmp c off => replace h := zTii_e h; obtain ⟨x, y, r, rfl, h⟩ := h; exact zIcmp_eq (hdg rfl) (of_decide_eq_true o2) (zIf_mono hN hN h)
  case goto off => exact s_goto (hdg rfl) (of_decide_eq_true o2) (hN h)
  case ifnull off => replace h := zTop_e h; obtain ⟨v, r, rfl, h⟩ := h; replace h := zVa_e h; rcases h with ⟨x, rfl, h⟩ | ⟨rfl, h⟩; exact s_ifnull (hdg rfl) (hN h); exact s_ifnullN (hdg rfl) (of_decide_eq_true o2) (hN h)
  case ifnonnull off => replace h := zTop_e h; obtain ⟨v, r, rfl, h⟩ := h; replace h := zVa_e h; rcases h with ⟨x, rfl, h⟩ | ⟨rfl, h⟩; exact s_ifnonnull (hdg rfl) (of_decide_eq_true o2) (hN h); exact s_ifnonnullN (hdg rfl) (hN h)
  case tableswitch df lo hi offs => 
    replace h := zTi_e h; obtain ⟨x, r, e1, h1⟩ := h
    rw [e1]
    have hmono : ∀ (tl : List Nat) (i : Nat), zSw x (nx tgt ls r σ uc us) (fun t => nx t ls r σ uc us) i tl → zSw x (zGood g d Q tgt ls r σ uc us) (fun t => zGood g d Q t ls r σ uc us) i tl := by
      intro tl
      induction tl with
      | nil => intro i h; exact hN h
      | cons a tl ih => intro i h; exact ⟨fun q => hN (h.1 q), fun q => ih _ (h.2 q)⟩
    exact zSw_s hdg0 (of_decide_eq_true o2) (hmono tl 0 h1)
  case arraylength => replace h := zTr_e h; obtain ⟨a, r, rfl, h⟩ := h; exact zLng_s (hdg rfl) h (fun n q => hN q)
  case iaload => replace h := zTi_e h; obtain ⟨i, r, rfl, h⟩ := h; replace h := zTr_e h; obtain ⟨a, r, rfl, h⟩ := h; replace h := zArr_e h; obtain ⟨n, f, ha, h⟩ := h; exact s_iald (hdg rfl) ha h.1 (hN h.2)
  case baload => replace h := zTi_e h; obtain ⟨i, r, rfl, h⟩ := h; replace h := zTr_e h; obtain ⟨a, r, rfl, h⟩ := h; replace h := zArr_e h; obtain ⟨n, f, ha, h⟩ := h; exact s_zald (hdg rfl) ha h.1 (hN h.2)
  case aaload => replace h := zTi_e h; obtain ⟨i, r, rfl, h⟩ := h; replace h := zTr_e h; obtain ⟨a, r, rfl, h⟩ := h; replace h := zArq_e h; obtain ⟨t, n, f, ha, h⟩ := h; exact s_aald (hdg rfl) ha h.1 (hN h.2)
  case iastore => replace h := zTi_e h; obtain ⟨x, r, rfl, h⟩ := h; replace h := zTi_e h; obtain ⟨i, r, rfl, h⟩ := h; replace h := zTr_e h; obtain ⟨a, r, rfl, h⟩ := h; replace h := zArr_e h; obtain ⟨n, f, ha, h⟩ := h; exact s_iast (hdg rfl) ha h.1 (hN h.2)
  case bastore => replace h := zTi_e h; obtain ⟨x, r, rfl, h⟩ := h; replace h := zTi_e h; obtain ⟨i, r, rfl, h⟩ := h; replace h := zTr_e h; obtain ⟨a, r, rfl, h⟩ := h; replace h := zArr_e h; obtain ⟨n, f, ha, h⟩ := h; exact s_zast (hdg rfl) ha h.1 (hN h.2)
  case getfield i => 
    replace h := zSome_e h; obtain ⟨q, e, h⟩ := h; replace h := zTr_e h; obtain ⟨a, r, rfl, h⟩ := h; replace h := zObj_e h; obtain ⟨fs, ha, h⟩ := h; replace h := zSome_e h; obtain ⟨v, hv, h⟩ := h
    obtain ⟨Cn, T, N, ty, f1, f2, f3, f4, f5, f6⟩ := hcp.1 _ (zFind_mem e)
    exact s_getf f1 f2 f3 (hdg rfl) ha (by rw [← zNth_eq]; exact hv) (hN h)
  case putfield i => 
    replace h := zSome_e h; obtain ⟨q, e, h⟩ := h; replace h := zTop_e h; obtain ⟨v, r, rfl, h⟩ := h; replace h := zTr_e h; obtain ⟨a, r, rfl, h⟩ := h; replace h := zObj_e h; obtain ⟨fs, ha, h⟩ := h; replace h := zB_e h; obtain ⟨b1, h⟩ := h; replace h := zB_e h; obtain ⟨b2, h⟩ := h
    obtain ⟨Cn, T, N, ty, f1, f2, f3, f4, f5, f6⟩ := hcp.1 _ (zFind_mem e)
    have f7 : (T q.2.1).2.2.2 = false ∨ (g.1.name = "<init>" ∧ (T q.2.1).1 = g.1.cls) := by
      rcases f6 with f6 | ⟨f6, f8⟩ | f6
      · exact Or.inl f6
      · have f9 : q.2.2.2 = true := f6
        rw [f9] at b2
        exact Or.inr ⟨hini b2, f8⟩
      · have f9 : q.2.2.1 = 3 := f6
        rw [f9] at h
        exact h.elim
    obtain ⟨hv, h2⟩ := zPutOk_e h f5
    exact s_putf f1 f2 f3 f4 f7 (hdg rfl) ha hv (blt b1) (hN h2)
  case new i => 
    replace h := zSome_e h; obtain ⟨q, e, h⟩ := h; replace h := zB_e h; obtain ⟨b1, h⟩ := h; replace h := zB_e h; obtain ⟨b2, h⟩ := h; replace h := zB_e h; obtain ⟨b3, h⟩ := h
    obtain ⟨Cn, T, ty, f1, f2, f3, f4, f5, f6, f7⟩ := hcp.2.2.2 _ (zFind_mem e)
    exact s_new f1 f2 f3 f4 f5 f6 f7 (hdg rfl) b1 (Nat.le_of_ble_eq_true b2) (Nat.le_of_ble_eq_true b3) (hN h)
  case newarray t => 
    cases t
    case int =>
      replace h := zTi_e h; obtain ⟨n, r, rfl, h⟩ := h; replace h := zB_e h; obtain ⟨b0, h⟩ := h; replace h := zB_e h; obtain ⟨b1, h⟩ := h; replace h := zB_e h; obtain ⟨b2, h⟩ := h; replace h := zB_e h; obtain ⟨b3, h⟩ := h
      obtain ⟨b4, b5⟩ := Bool.and_eq_true_iff.mp b0
      exact s_newa (t := 0) (Or.inl ⟨rfl, rfl⟩) zT_int (hdg rfl) (of_decide_eq_true b4) rfl (Nat.le_of_ble_eq_true b5) b1 (Nat.le_of_ble_eq_true b2) (Nat.le_of_ble_eq_true b3) (hN h)
    case boolean =>
      replace h := zTi_e h; obtain ⟨n, r, rfl, h⟩ := h; replace h := zB_e h; obtain ⟨b0, h⟩ := h; replace h := zB_e h; obtain ⟨b1, h⟩ := h; replace h := zB_e h; obtain ⟨b2, h⟩ := h; replace h := zB_e h; obtain ⟨b3, h⟩ := h
      obtain ⟨b4, b5⟩ := Bool.and_eq_true_iff.mp b0
      exact s_newa (t := 1) (Or.inr ⟨rfl, rfl⟩) zT_bool (hdg rfl) (of_decide_eq_true b4) rfl (Nat.le_of_ble_eq_true b5) b1 (Nat.le_of_ble_eq_true b2) (Nat.le_of_ble_eq_true b3) (hN h)
    all_goals exact (show False from h).elim
  case invokevirtual i => 
    replace h := zSome_e h; obtain ⟨q, e, h⟩ := h; replace h := zB_e h; obtain ⟨b1, h⟩ := h; replace h := zSome_e h; obtain ⟨ar, hp, h⟩ := h; replace h := zTr_e h; obtain ⟨b, As, hav, h⟩ := h; replace h := zObj_e h; obtain ⟨fs, hb, h⟩ := h
    have hk : q.1 = 0 := Nat.eq_of_beq_eq_true b1
    rcases hcp.2.1 _ (zFind_mem e) with ⟨f0, -⟩ | f0
    · exact absurd (hk.symm.trans f0) (by decide)
    · exact zCall_s f0 (by rw [if_pos hk]; exact hdg rfl) hp (fun _ => ⟨b, fs, As, hav, hb⟩) hnx h
  case invokestatic i => 
    replace h := zSome_e h; obtain ⟨q, e, h⟩ := h; replace h := zB_e h; obtain ⟨b1, h⟩ := h; replace h := zSome_e h; obtain ⟨ar, hp, h⟩ := h
    have hk : q.1 = 1 ∨ q.1 = 3 := by
      rcases Bool.or_eq_true_iff.mp b1 with b | b
      · exact Or.inl (Nat.eq_of_beq_eq_true b)
      · exact Or.inr (Nat.eq_of_beq_eq_true b)
    have hk0 : q.1 ≠ 0 := by rcases hk with k | k <;> rw [k] <;> decide
    have hk2 : q.1 ≠ 2 := by rcases hk with k | k <;> rw [k] <;> decide
    rcases hcp.2.1 _ (zFind_mem e) with ⟨f0, -⟩ | f0
    · exact absurd f0 (show ¬ q.1 = 4 by rcases hk with k | k <;> rw [k] <;> decide)
    · exact zCall_s f0 (by rw [if_neg hk0, if_neg hk2]; exact hdg rfl) hp (fun z => by rcases z with z | z; exact absurd z hk0; exact absurd z hk2) hnx h
  case invokespecial i => 
    replace h := zSome_e h; obtain ⟨q, e, h⟩ := h
    split at h
    · rename_i hk
      cases d with
      | zero => exact h.elim
      | succ d =>
        replace h := zTr_e h; obtain ⟨v, r, rfl, h⟩ := h; replace h := zB_e h; obtain ⟨b1, h⟩ := h
        rcases hcp.2.1 _ (zFind_mem e) with ⟨f0, f1, f2, f3⟩ | f0
        · exact s_oinit f1 f2 f3 (hdg rfl) (Nat.le_of_ble_eq_true b1) (hN h)
        · have f1 := f0.2.2.2.2
          rw [show (i, q).2.1 = 4 from hk] at f1
          exact f1.elim
    · rename_i hk
      replace h := zSome_e h; obtain ⟨ar, hp, h⟩ := h; replace h := zTr_e h; obtain ⟨b, As, hav, h⟩ := h; replace h := zObj_e h; obtain ⟨fs, hb, h⟩ := h
      rcases hcp.2.1 _ (zFind_mem e) with ⟨f0, -⟩ | f0
      · exact absurd (hk.symm.trans f0) (by decide)
      · exact zCall_s f0 (by rw [show (i, q).2.1 = 2 from hk]; exact hdg rfl) hp (fun _ => ⟨b, fs, As, hav, hb⟩) hnx h
    · exact h.elim
  case ireturn => 
    replace h := zTi_e h; obtain ⟨v, r, rfl, h⟩ := h
    split at h
    · rename_i e1; exact s_iret e1 (hdg rfl) h
    · rename_i e1; exact s_zret e1 h.1 (hdg rfl) h.2
    · exact h.elim
  case return_ => obtain ⟨e1, e2, h1⟩ := zRt_e h; rw [e1]; exact s_vret e2 (hdg rfl) h1
  case areturn => 
    replace h := zTop_e h; obtain ⟨v, r, rfl, h⟩ := h
    split at h
    · rename_i nm e1
      replace h := zVa_e h; rcases h with ⟨x, rfl, h⟩ | ⟨rfl, h⟩
      · exact s_aret e1 (Or.inr ⟨_, rfl⟩) (hdg rfl) h
      · exact s_aret e1 (Or.inl rfl) (hdg rfl) h
    · exact h.elim
  all_goals exact (show False from h).elim
theorem zX_s {cd : List zR} {cuts : List Nat} (hini : ini = true → g.1.name = "<init>") (hcp : zPool g.1.cls cp) (hcd : zCode g cd) : ∀ (n : Nat) (fresh : Bool) (pc : Nat) (ls : List (Option Value)) (st : List Value) (σ : List va_E) (uc us : Nat), zX g ini cp cd cuts d Q n fresh pc ls st σ uc us → zGood g d Q pc ls st σ uc us
  | 0, _, _, _, _, _, _, _, h => h.elim
  | n + 1, fresh, pc, ls, st, σ, uc, us, h => by
    unfold zX at h
    split at h
    · exact h.2
    · split at h
      · exact h.elim
      · rename_i q e
        obtain ⟨h1, h2⟩ := hcd _ (zFind_mem e)
        exact zI_s hini hcp h1 h2 (fun pc' ls' st' σ' uc' us' h => zX_s hini hcp hcd n false pc' ls' st' σ' uc' us' h) h
end ZS

