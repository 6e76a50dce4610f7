/-! shared, the pure part: the first cheapest of all ways, in order; and the same with ways left out -/
def updN (s : Nat → Nat) (x o : Nat) : Nat → Nat := fun y => if y = x then o else s y
abbrev zAcc : Type := Option (Nat × (Nat → Nat))
def costU (pr : Nat → Nat → Nat) (s : Nat → Nat) : Nat → Nat
  | 0 => 0
  | x + 1 => costU pr s x + pr x (s x)
def ltA (c : Nat) : zAcc → Bool
  | none => true
  | some p => decide (c < p.1)
def leafA (pr : Nat → Nat → Nat) (ok : (Nat → Nat) → Nat → Bool) (k : Nat) (s : Nat → Nat) (a : zAcc) : zAcc := if ltA (costU pr s k) a = true ∧ allU (ok s) k = true then some (costU pr s k, s) else a
def srU (opts : Nat → List Nat) (pr : Nat → Nat → Nat) (ok : (Nat → Nat) → Nat → Bool) (k : Nat) : Nat → (Nat → Nat) → zAcc → zAcc
  | 0, s, a => leafA pr ok k s a
  | j + 1, s, a => (opts (k - (j + 1))).foldl (fun a o => srU opts pr ok k j (updN s (k - (j + 1)) o) a) a
def csU (opts : Nat → List Nat) (pr : Nat → Nat → Nat) (ok : (Nat → Nat) → Nat → Bool) (rest : Nat → Nat) (k : Nat) : Nat → (Nat → Nat) → Nat → zAcc → zAcc
  | 0, s, c, _ => some (c, s)
  | j + 1, s, c, a => (opts (k - (j + 1))).foldl (fun a o => if ltA (c + pr (k - (j + 1)) o + rest (k - (j + 1) + 1)) a = true then (if ok (updN s (k - (j + 1)) o) (k - (j + 1)) = true then csU opts pr ok rest k j (updN s (k - (j + 1)) o) (c + pr (k - (j + 1)) o) a else a) else a) a
theorem updN_s {s : Nat → Nat} {x o : Nat} : updN s x o x = o := if_pos rfl
theorem updN_n {s : Nat → Nat} {x o y : Nat} (h : y ≠ x) : updN s x o y = s y := if_neg h
theorem allU_t {p : Nat → Bool} : ∀ {n : Nat}, allU p n = true → ∀ j, j < n → p j = true
  | 0, _, j, hj => absurd hj (Nat.not_lt_zero j)
  | n + 1, h, j, hj => by
    rw [allU, Bool.and_eq_true] at h
    by_cases z : j = n
    · subst z; exact h.2
    · exact allU_t h.1 j (by omega)
theorem allU_i {p : Nat → Bool} : ∀ {n : Nat}, (∀ j, j < n → p j = true) → allU p n = true
  | 0, _ => rfl
  | n + 1, h => by
    rw [allU, Bool.and_eq_true]
    exact ⟨allU_i (fun j hj => h j (by omega)), h n (by omega)⟩
theorem costU_c {pr : Nat → Nat → Nat} {s t : Nat → Nat} : ∀ {x : Nat}, (∀ y, y < x → s y = t y) → costU pr s x = costU pr t x
  | 0, _ => rfl
  | x + 1, h => by rw [costU, costU, costU_c (x := x) (fun y hy => h y (by omega)), h x (by omega)]
theorem ltA_mono {c c' : Nat} {a : zAcc} (h : ltA c a = false) (hc : c ≤ c') : ltA c' a = false := by
  cases a with
  | none => exact h
  | some p =>
    have : ¬ c < p.1 := of_decide_eq_false h
    exact decide_eq_false (by omega)
theorem fold_id {f : zAcc → Nat → zAcc} {a : zAcc} : ∀ {l : List Nat}, (∀ o, o ∈ l → f a o = a) → l.foldl f a = a
  | [], _ => rfl
  | o :: l, h => by
    rw [List.foldl_cons, h o (List.mem_cons_self ..)]
    exact fold_id (fun o' ho' => h o' (List.mem_cons_of_mem _ ho'))
theorem fold_flt {f g : zAcc → Nat → zAcc} {p : Nat → Bool} : ∀ {l : List Nat} {a : zAcc}, (∀ o, o ∈ l → ∀ a, (p o = true → g a o = f a o) ∧ (p o = false → f a o = a)) → (l.filter p).foldl g a = l.foldl f a
  | [], _, _ => rfl
  | o :: l, a, h => by
    have hl := fun b => fold_flt (f := f) (g := g) (p := p) (l := l) (a := b) (fun o' ho' => h o' (List.mem_cons_of_mem _ ho'))
    have ho := h o (List.mem_cons_self ..) a
    cases hp : p o with
    | true => rw [List.filter_cons_of_pos hp, List.foldl_cons, List.foldl_cons, ho.1 hp]; exact hl _
    | false => rw [List.filter_cons_of_neg (by rw [hp]; decide), List.foldl_cons, ho.2 hp]; exact hl _
section G1
variable {opts : Nat → List Nat} {pr : Nat → Nat → Nat} {ok : (Nat → Nat) → Nat → Bool} {k : Nat}
theorem sr_id : ∀ j s a, j ≤ k → (∀ t : Nat → Nat, (∀ y, y < k - j → t y = s y) → (∀ y, k - j ≤ y → y < k → t y ∈ opts y) → allU (ok t) k = true → ltA (costU pr t k) a = false) → srU opts pr ok k j s a = a := by
  intro j
  induction j with
  | zero =>
    intro s a _ h
    show leafA pr ok k s a = a
    unfold leafA
    by_cases z : ltA (costU pr s k) a = true ∧ allU (ok s) k = true
    · have := h s (fun _ _ => rfl) (fun y h1 h2 => absurd h2 (by omega)) z.2
      rw [this] at z
      exact absurd z.1 (by decide)
    · rw [if_neg z]
  | succ j ih =>
    intro s a hj h
    show (opts (k - (j + 1))).foldl _ a = a
    refine fold_id (fun o ho => ?_)
    refine ih _ _ (by omega) (fun t h1 h2 h3 => ?_)
    refine h t (fun y hy => ?_) (fun y hy hk => ?_) h3
    · rw [h1 y (by omega), updN_n (by omega)]
    · by_cases z : y = k - (j + 1)
      · rw [h1 y (by omega), z, updN_s]; exact ho
      · exact h2 y (by omega) hk
theorem sr_some : ∀ j s a, a ≠ none → srU opts pr ok k j s a ≠ none := by
  intro j
  induction j with
  | zero =>
    intro s a h
    show leafA pr ok k s a ≠ none
    unfold leafA
    split
    · exact fun z => by cases z
    · exact h
  | succ j ih =>
    intro s a h
    show (opts (k - (j + 1))).foldl _ a ≠ none
    generalize opts (k - (j + 1)) = l
    induction l generalizing a with
    | nil => exact h
    | cons o l il => exact il _ (ih _ _ h)
theorem sr_first (hz : ∀ x, x < k → ∃ l, opts x = 0 :: l) (h0 : ∀ s : Nat → Nat, (∀ y, y < k → s y = 0) → allU (ok s) k = true) : ∀ j s, j ≤ k → (∀ y, y < k - j → s y = 0) → srU opts pr ok k j s none ≠ none := by
  intro j
  induction j with
  | zero =>
    intro s _ h
    show leafA pr ok k s none ≠ none
    unfold leafA
    rw [if_pos ⟨rfl, h0 s (fun y hy => h y (by omega))⟩]
    exact fun z => by cases z
  | succ j ih =>
    intro s hj h
    show (opts (k - (j + 1))).foldl _ none ≠ none
    obtain ⟨l, hl⟩ := hz (k - (j + 1)) (by omega)
    rw [hl, List.foldl_cons]
    have first := ih (updN s (k - (j + 1)) 0) (by omega) (fun y hy => by
      by_cases z : y = k - (j + 1)
      · rw [z, updN_s]
      · rw [updN_n z]; exact h y (by omega))
    revert first
    generalize srU opts pr ok k j (updN s (k - (j + 1)) 0) none = a
    intro first
    clear hl
    induction l generalizing a with
    | nil => exact first
    | cons o l il => exact il _ (sr_some _ _ _ first)
variable {pre : Nat → Nat → Bool} {rest low : Nat → Nat}
theorem rest_le (hk : rest k = 0) (hr : ∀ x, x < k → rest x = rest (x + 1) + low x) {t : Nat → Nat} : ∀ d x, x + d = k → (∀ y, x ≤ y → y < k → low y ≤ pr y (t y)) → costU pr t x + rest x ≤ costU pr t k := by
  intro d
  induction d with
  | zero =>
    intro x hx _
    have : x = k := by omega
    subst this
    omega
  | succ d ih =>
    intro x hx h
    have i := ih (x + 1) (by omega) (fun y h1 h2 => h y (by omega) h2)
    have l := h x (Nat.le_refl x) (by omega)
    have r := hr x (by omega)
    rw [costU] at i
    omega
theorem cs_sr (hloc : ∀ s t x, (∀ y, y ≤ x → s y = t y) → ok s x = ok t x) (hpre : ∀ t x, x < k → ok t x = true → pre x (t x) = true) (hk : rest k = 0) (hr : ∀ x, x < k → rest x = rest (x + 1) + low x) (hlow : ∀ y, y < k → ∀ o, o ∈ opts y → pre y o = true → low y ≤ pr y o) :
    ∀ j s c a, j ≤ k → c = costU pr s (k - j) → (∀ y, y < k - j → ok s y = true) → (j = 0 → ltA c a = true) → csU (fun x => (opts x).filter (pre x)) pr ok rest k j s c a = srU opts pr ok k j s a := by
  intro j
  induction j with
  | zero =>
    intro s c a _ hc hp ha
    show some (c, s) = leafA pr ok k s a
    unfold leafA
    have hc' : c = costU pr s k := hc
    rw [← hc', if_pos ⟨ha rfl, allU_i (fun y hy => hp y hy)⟩]
  | succ j ih =>
    intro s c a hj hc hp _
    show ((opts (k - (j + 1))).filter (pre (k - (j + 1)))).foldl _ a = (opts (k - (j + 1))).foldl _ a
    generalize hx : k - (j + 1) = x at *
    have xk : x < k := by omega
    have xj : k - j = x + 1 := by omega
    refine fold_flt (fun o ho a => ?_)
    have agree : ∀ t : Nat → Nat, (∀ y, y < k - j → t y = updN s x o y) → costU pr t (x + 1) = c + pr x o := by
      intro t ht
      rw [costU, ht x (by omega), updN_s, hc]
      rw [costU_c (s := t) (t := s) (fun y hy => by rw [ht y (by omega), updN_n (by omega)])]
    have drop : (∀ t : Nat → Nat, (∀ y, y < k - j → t y = updN s x o y) → (∀ y, k - j ≤ y → y < k → t y ∈ opts y) → allU (ok t) k = true → ltA (costU pr t k) a = false) → srU opts pr ok k j (updN s x o) a = a := sr_id j _ a (by omega)
    refine ⟨fun hpo => ?_, fun hpo => ?_⟩
    · by_cases h1 : ltA (c + pr x o + rest (x + 1)) a = true
      · rw [if_pos h1]
        by_cases h2 : ok (updN s x o) x = true
        · rw [if_pos h2]
          refine ih _ _ _ (by omega) ?_ (fun y hy => ?_) (fun hz => ?_)
          · rw [xj]; exact (agree _ (fun _ _ => rfl)).symm
          · by_cases z : y = x
            · rw [z]; exact h2
            · rw [hloc (updN s x o) s y (fun w hw => updN_n (by omega))]
              exact hp y (by omega)
          · have : x + 1 = k := by omega
            rw [this, hk] at h1
            exact h1
        · rw [if_neg h2]
          refine (drop (fun t t1 t2 t3 => ?_)).symm
          have o3 := allU_t t3 x xk
          rw [hloc t (updN s x o) x (fun w hw => t1 w (by omega))] at o3
          exact absurd o3 h2
      · rw [if_neg h1]
        refine (drop (fun t t1 t2 t3 => ?_)).symm
        refine ltA_mono (eq_false_of_ne_true h1) ?_
        have r := rest_le (pr := pr) hk hr (t := t) (k - (x + 1)) (x + 1) (by omega) (fun y h3 h4 => hlow y h4 _ (t2 y (by omega) h4) (hpre t y h4 (allU_t t3 y h4)))
        rw [agree t t1] at r
        exact r
    · refine drop (fun t t1 t2 t3 => ?_)
      have o3 := hpre t x xk (allU_t t3 x xk)
      rw [t1 x (by omega), updN_s, hpo] at o3
      cases o3
end G1
/-! the counter, that goes through all ways in order -/
def plS (opts : Nat → List Nat) (p : Nat → Nat) : Nat → Nat := fun x => (opts x).getD (p x) 0
def nxP (k : Nat) (p : Nat → Nat) (x : Nat) : Nat → Nat := fun y => if y = x then p x + 1 else if x < y ∧ y < k then 0 else p y
def topP (opts : Nat → List Nat) (k x : Nat) (p : Nat → Nat) : Nat → Nat := fun y => if x ≤ y ∧ y < k then (opts y).length - 1 else p y
section G2
variable {opts : Nat → List Nat} {pr : Nat → Nat → Nat} {ok : (Nat → Nat) → Nat → Bool} {k : Nat} {H : (Nat → Nat) → zAcc → Prop} {X : zAcc → Prop}
def ctE (opts : Nat → List Nat) (k : Nat) (H : (Nat → Nat) → zAcc → Prop) (X : zAcc → Prop) (p : Nat → Nat) (a : zAcc) : Prop :=
  (∀ x, x < k → p x + 1 < (opts x).length → (∀ y, x < y → y < k → p y + 1 = (opts y).length) → H (nxP k p x) a) ∧ ((∀ y, y < k → p y + 1 = (opts y).length) → X a)
theorem plS_upd {p : Nat → Nat} {x i : Nat} : plS opts (updN p x i) = updN (plS opts p) x ((opts x).getD i 0) := by
  funext y
  unfold plS
  by_cases z : y = x
  · subst z; rw [updN_s, updN_s]
  · rw [updN_n z, updN_n z]
theorem count_all (step : ∀ p a, (∀ y, y < k → p y < (opts y).length) → ctE opts k H X p (leafA pr ok k (plS opts p) a) → H p a) :
    ∀ j p a, j ≤ k → (∀ y, y < k → p y < (opts y).length) → (∀ y, k - j ≤ y → y < k → p y = 0) → ctE opts k H X (topP opts k (k - j) p) (srU opts pr ok k j (plS opts p) a) → H p a := by
  intro j
  induction j with
  | zero =>
    intro p a _ hp _ h
    have e : topP opts k (k - 0) p = p := by
      funext y
      unfold topP
      rw [if_neg (by omega)]
    rw [e] at h
    exact step p a hp h
  | succ j ih =>
    intro p a hj hp hz h
    have eq : srU opts pr ok k (j + 1) (plS opts p) a = (opts (k - (j + 1))).foldl (fun a o => srU opts pr ok k j (updN (plS opts p) (k - (j + 1)) o) a) a := rfl
    rw [eq] at h
    clear eq
    generalize hx : k - (j + 1) = x at *
    have xk : x < k := by omega
    have xj : k - j = x + 1 := by omega
    have inner : ∀ d i a, i + d + 1 = (opts x).length → ctE opts k H X (topP opts k x p) (((opts x).drop i).foldl (fun a o => srU opts pr ok k j (updN (plS opts p) x o) a) a) → H (updN p x i) a := by
      intro d
      induction d with
      | zero =>
        intro i a hi h
        have hd : (opts x).drop i = [(opts x).getD i 0] := by
          rw [List.drop_eq_getElem_cons (by omega), List.drop_of_length_le (by omega)]
          simp [List.getD, List.getElem?_eq_getElem (show i < (opts x).length by omega)]
        rw [hd, List.foldl_cons, List.foldl_nil, ← plS_upd] at h
        refine ih _ _ (by omega) (fun y hy => ?_) (fun y h1 h2 => ?_) ?_
        · by_cases z : y = x
          · subst z; rw [updN_s]; omega
          · rw [updN_n z]; exact hp y hy
        · rw [updN_n (by omega)]; exact hz y (by omega) h2
        · have e : topP opts k (k - j) (updN p x i) = topP opts k x p := by
            funext y
            unfold topP
            rw [xj]
            by_cases z : y = x
            · subst z
              rw [if_neg (by omega), if_pos (by omega), updN_s]; omega
            · rw [updN_n z]
              by_cases w : x ≤ y ∧ y < k
              · rw [if_pos w, if_pos (by omega)]
              · rw [if_neg w, if_neg (by omega)]
          rw [e]
          exact h
      | succ d ihd =>
        intro i a hi h
        have hd : (opts x).drop i = (opts x).getD i 0 :: (opts x).drop (i + 1) := by
          rw [List.drop_eq_getElem_cons (by omega)]
          simp [List.getD, List.getElem?_eq_getElem (show i < (opts x).length by omega)]
        rw [hd, List.foldl_cons, ← plS_upd] at h
        refine ih _ _ (by omega) (fun y hy => ?_) (fun y h1 h2 => ?_) ?_
        · by_cases z : y = x
          · subst z; rw [updN_s]; omega
          · rw [updN_n z]; exact hp y hy
        · rw [updN_n (by omega)]; exact hz y (by omega) h2
        · have ex : topP opts k (k - j) (updN p x i) x = i := by
            unfold topP
            rw [if_neg (by omega), updN_s]
          refine ⟨fun x' hx' h1 h2 => ?_, fun h1 => ?_⟩
          · have e' : x' = x := by
              by_cases w : x' < x
              · have := h2 x w xk
                rw [ex] at this
                omega
              · by_cases w2 : x < x'
                · unfold topP at h1
                  rw [if_pos (by omega)] at h1
                  have := hp x' hx'
                  omega
                · omega
            subst e'
            have e : nxP k (topP opts k (k - j) (updN p x' i)) x' = updN p x' (i + 1) := by
              funext y
              unfold nxP
              by_cases z : y = x'
              · subst z
                rw [if_pos rfl, updN_s, ex]
              · rw [if_neg z, updN_n z]
                by_cases w : x' < y ∧ y < k
                · rw [if_pos w, hz y (by omega) w.2]
                · rw [if_neg w]
                  unfold topP
                  rw [if_neg (by omega), updN_n z]
            rw [e]
            exact ihd (i + 1) _ (by omega) h
          · have := h1 x xk
            rw [ex] at this
            omega
    have h0 := inner ((opts x).length - 1) 0 a (by have := hp x xk; omega) h
    have e : updN p x 0 = p := by
      funext y
      by_cases z : y = x
      · rw [z, updN_s, hz x (by omega) xk]
      · rw [updN_n z]
    rw [e] at h0
    exact h0
theorem count_go (step : ∀ p a, (∀ y, y < k → p y < (opts y).length) → ctE opts k H X p (leafA pr ok k (plS opts p) a) → H p a) (hn : ∀ y, y < k → 0 < (opts y).length) (h : X (srU opts pr ok k k (plS opts (fun _ => 0)) none)) : H (fun _ => 0) none := by
  refine count_all step k (fun _ => 0) none (Nat.le_refl k) (fun y hy => hn y hy) (fun _ _ _ => rfl) ⟨fun x hx h1 _ => ?_, fun _ => h⟩
  unfold topP at h1
  rw [if_pos (by omega)] at h1
  omega
end G2
