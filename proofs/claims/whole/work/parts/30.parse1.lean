/-! reading, the reference: where the eye is, and the first fault -/
def lkF (T : Nat → Int32) (t a : Nat) : Int32 := if a < t then T a else -1
def skU (T : Nat → Int32) (t : Nat) : Nat → Nat → Nat
  | 0, a => a
  | f + 1, a => if lkF T t a = 32 then skU T t f (a + 1) else a
def skF (T : Nat → Int32) (t a : Nat) : Nat := skU T t (t - a) a
def isD (x : Int32) : Bool := decide (48 ≤ x ∧ x ≤ 57)
def dgU (T : Nat → Int32) (t : Nat) : Nat → Nat → Nat
  | 0, a => a
  | f + 1, a => if isD (lkF T t a) then dgU T t f (a + 1) else a
def dgF (T : Nat → Int32) (t a : Nat) : Nat := dgU T t (t - a) a
theorem lk_lt {T : Nat → Int32} {t a : Nat} (h : lkF T t a ≠ -1) : a < t := by
  by_cases z : a < t
  · exact z
  · exact absurd (if_neg z) h
theorem skF_t {T : Nat → Int32} {t a : Nat} (h : lkF T t a = 32) : skF T t a = skF T t (a + 1) := by
  have hl : a < t := lk_lt (by rw [h]; decide)
  unfold skF
  rw [show t - a = (t - (a + 1)) + 1 by omega, skU, if_pos h]
theorem skF_f {T : Nat → Int32} {t a : Nat} (h : ¬ lkF T t a = 32) : skF T t a = a := by
  unfold skF
  cases t - a with
  | zero => rfl
  | succ f => rw [skU, if_neg h]
theorem dgF_t {T : Nat → Int32} {t a : Nat} (h : isD (lkF T t a) = true) : dgF T t a = dgF T t (a + 1) := by
  have hl : a < t := lk_lt (by intro z; rw [z] at h; exact absurd h (by decide))
  unfold dgF
  rw [show t - a = (t - (a + 1)) + 1 by omega, dgU, if_pos h]
theorem dgF_f {T : Nat → Int32} {t a : Nat} (h : isD (lkF T t a) = false) : dgF T t a = a := by
  unfold dgF
  cases t - a with
  | zero => rfl
  | succ f => rw [dgU, h]; rfl
theorem skU_r {T : Nat → Int32} {t : Nat} : ∀ f a, a ≤ t → f = t - a → a ≤ skU T t f a ∧ skU T t f a ≤ t
  | 0, a, h, _ => ⟨Nat.le_refl a, h⟩
  | f + 1, a, h, hf => by
    unfold skU
    split
    · have := skU_r (T := T) (t := t) f (a + 1) (by omega) (by omega)
      exact ⟨by omega, this.2⟩
    · exact ⟨Nat.le_refl a, h⟩
theorem skF_r {T : Nat → Int32} {t a : Nat} (h : a ≤ t) : a ≤ skF T t a ∧ skF T t a ≤ t := skU_r _ a h rfl
theorem dgU_r {T : Nat → Int32} {t : Nat} : ∀ f a, a ≤ t → f = t - a → a ≤ dgU T t f a ∧ dgU T t f a ≤ t
  | 0, a, h, _ => ⟨Nat.le_refl a, h⟩
  | f + 1, a, h, hf => by
    unfold dgU
    split
    · have := dgU_r (T := T) (t := t) f (a + 1) (by omega) (by omega)
      exact ⟨by omega, this.2⟩
    · exact ⟨Nat.le_refl a, h⟩
theorem dgF_r {T : Nat → Int32} {t a : Nat} (h : a ≤ t) : a ≤ dgF T t a ∧ dgF T t a ≤ t := dgU_r _ a h rfl
/-- where the eye is; or the first fault, what and where -/
abbrev zCur : Type := Nat ⊕ (Nat × Nat)
def qw : zCur → Int32
  | .inl _ => 0
  | .inr p => nI p.1
def qa : zCur → Int32
  | .inl a => nI a
  | .inr p => nI p.2
def okQ (t : Nat) : zCur → Prop
  | .inl a => a ≤ t
  | .inr p => 1 ≤ p.1 ∧ p.1 ≤ 3 ∧ p.2 ≤ t
def mP (M : zS) (q : zCur) : zS := zU (zU M 0 30 (qw q)) 0 29 (qa q)
theorem qw_bad {t : Nat} {p : Nat × Nat} (h : okQ t (.inr p)) : ¬ qw (.inr p) = 0 := nI_ne0 h.1 (by have := h.2.1; omega)
def skQ (T : Nat → Int32) (t : Nat) : zCur → zCur
  | .inl a => .inl (skF T t a)
  | .inr p => .inr p
def wdQ (T : Nat → Int32) (t : Nat) (w : Int32) : zCur → zCur
  | .inl a => if lkF T t (skF T t a) = w then .inl (skF T t a + 1) else .inr (1, skF T t a)
  | .inr p => .inr p
def valU (T : Nat → Int32) (s : Nat) : Nat → Int32
  | 0 => 0
  | j + 1 => if j < 3 then 10 * valU T s j + T (s + j) - 48 else valU T s j
def nmQ (T : Nat → Int32) (t : Nat) (lo hi : Int32) : zCur → zCur
  | .inl a => if isD (lkF T t (skF T t a)) = false then .inr (1, skF T t a) else
      if dgF T t (skF T t a) - skF T t a ≤ 3 ∧ (lo ≤ valU T (skF T t a) (dgF T t (skF T t a) - skF T t a) ∧ valU T (skF T t a) (dgF T t (skF T t a) - skF T t a) ≤ hi) then .inl (dgF T t (skF T t a)) else .inr (2, skF T t a)
  | .inr p => .inr p
def nmV (T : Nat → Int32) (t : Nat) : zCur → Int32
  | .inl a => valU T (skF T t a) (dgF T t (skF T t a) - skF T t a)
  | .inr _ => 0
theorem wdQ_i {T : Nat → Int32} {t a : Nat} {w : Int32} : wdQ T t w (.inl a) = if lkF T t (skF T t a) = w then .inl (skF T t a + 1) else .inr (1, skF T t a) := rfl
theorem nmQ_i {T : Nat → Int32} {t a : Nat} {lo hi : Int32} : nmQ T t lo hi (.inl a) = if isD (lkF T t (skF T t a)) = false then .inr (1, skF T t a) else
      if dgF T t (skF T t a) - skF T t a ≤ 3 ∧ (lo ≤ valU T (skF T t a) (dgF T t (skF T t a) - skF T t a) ∧ valU T (skF T t a) (dgF T t (skF T t a) - skF T t a) ≤ hi) then .inl (dgF T t (skF T t a)) else .inr (2, skF T t a) := rfl
theorem nmV_i {T : Nat → Int32} {t a : Nat} : nmV T t (.inl a) = valU T (skF T t a) (dgF T t (skF T t a) - skF T t a) := rfl
theorem skQ_ok {T : Nat → Int32} {t : Nat} {q : zCur} (h : okQ t q) : okQ t (skQ T t q) := by
  cases q with
  | inl a => exact (skF_r h).2
  | inr p => exact h
theorem wdQ_ok {T : Nat → Int32} {t : Nat} {w : Int32} {q : zCur} (hw : w ≠ -1) (h : okQ t q) : okQ t (wdQ T t w q) := by
  cases q with
  | inl a =>
    unfold wdQ
    by_cases z : lkF T t (skF T t a) = w
    · simp only [if_pos z]
      exact lk_lt (by rw [z]; exact hw)
    · simp only [if_neg z]
      exact ⟨(by decide : (1 : Nat) ≤ 1), (by decide : (1 : Nat) ≤ 3), (skF_r h).2⟩
  | inr p => exact h
theorem nmQ_ok {T : Nat → Int32} {t : Nat} {lo hi : Int32} {q : zCur} (h : okQ t q) : okQ t (nmQ T t lo hi q) := by
  cases q with
  | inl a =>
    have hs := (skF_r (T := T) h).2
    unfold nmQ
    by_cases z : isD (lkF T t (skF T t a)) = false
    · simp only [if_pos z]
      exact ⟨(by decide : (1 : Nat) ≤ 1), (by decide : (1 : Nat) ≤ 3), hs⟩
    · simp only [if_neg z]
      split
      · exact (dgF_r hs).2
      · exact ⟨(by decide : (1 : Nat) ≤ 2), (by decide : (2 : Nat) ≤ 3), hs⟩
  | inr p => exact h
theorem zU_id {M : zS} {c j : Nat} {v : Int32} (h : M c j = v) : zU M c j v = M := by
  subst h
  funext a b
  by_cases z : a = c
  · subst z
    rw [zU_s]
    by_cases y : b = j
    · subst y; exact upd_s
    · exact upd_n y
  · rw [zU_k z]
theorem zU_zU {M : zS} {c j : Nat} {v w : Int32} : zU (zU M c j v) c j w = zU M c j w := by
  funext a b
  by_cases z : a = c
  · subst z
    rw [zU_s, zU_s, zU_s]
    by_cases y : b = j
    · subst y; rw [upd_s, upd_s]
    · rw [upd_n y, upd_n y, upd_n y]
  · rw [zU_k z, zU_k z, zU_k z]
section P1
variable {d : Nat} {M : zS} {t : Nat}
theorem c_M_look {a : Nat} (ht : t ≤ 230) (h1 : M 0 1 = nI t) (h2 : M 0 29 = nI a) (ha : a ≤ 1000) : zRuns gM_look d [.ref 0] (encM M) (fun v σ' => v = some (.int (lkF (M 1) t a)) ∧ σ' = encM M) := by
  refine m_M_look [] rfl (Nat.le_of_ble_eq_true rfl) ?_
  refine z_le (a := t) (b := a) h1 h2 (by omega) (by omega) (fun q => ?_) (fun q => ?_)
  · exact ⟨by unfold lkF; rw [if_neg (by omega)], rfl⟩
  · refine z_ld (k := a) h2 (by omega) (by decide) ?_
    exact ⟨by unfold lkF; rw [if_pos q], rfl⟩
theorem c_M_skips {a : Nat} (ht : t ≤ 230) (h1 : M 0 1 = nI t) (h2 : M 0 29 = nI a) (ha : a ≤ t) : zRuns gM_skips (d + 1) [.ref 0] (encM M) (fun v σ' => v = none ∧ σ' = encM (zU M 0 29 (nI (skF (M 1) t a)))) := by
  have key : ∀ b, b ≤ t → skF (M 1) t a = skF (M 1) t b → zX gM_skips false pM kM_skips [0] (d + 1) (fun v σ' => v = none ∧ σ' = encM (zU M 0 29 (nI (skF (M 1) t a)))) 400 true 0 (zArgs 1 [.ref 0]) [] (encM (zU M 0 29 (nI b))) 0 0 := by
    refine z_up (P := fun b => skF (M 1) t a = skF (M 1) t b → zX gM_skips false pM kM_skips [0] (d + 1) (fun v σ' => v = none ∧ σ' = encM (zU M 0 29 (nI (skF (M 1) t a)))) 400 true 0 (zArgs 1 [.ref 0]) [] (encM (zU M 0 29 (nI b))) 0 0) t (fun b hb ih he => ?_)
    refine z_call (c_M_look (M := zU M 0 29 (nI b)) (a := b) ht h1 rfl (by omega)) ?_
    refine ⟨fun q => ?_, fun q => ?_⟩
    · have q' : lkF (M 1) t b = 32 := q
      have hl := lk_lt (T := M 1) (t := t) (a := b) (by rw [q']; decide)
      refine ⟨trivial, w_M_skips [0] ?_⟩
      have := ih hl (he.trans (skF_t q'))
      rw [← nI_1] at this
      exact this
    · have q' : ¬ lkF (M 1) t b = 32 := q
      exact ⟨rfl, by rw [he, skF_f q']⟩
  refine m_M_skips [0] rfl (Nat.le_of_ble_eq_true rfl) ?_
  have := key a ha rfl
  rw [zU_id h2] at this
  exact this
theorem c_M_fails {c : Int32} : zRuns gM_fails d [.ref 0, .int c] (encM M) (fun v σ' => v = none ∧ σ' = encM (zU M 0 30 (if M 0 30 = 0 then c else M 0 30))) := by
  refine m_M_fails [] rfl (Nat.le_of_ble_eq_true rfl) ?_
  refine ⟨fun h => ?_, fun h => ?_⟩
  · exact ⟨rfl, by rw [if_pos h]; rfl⟩
  · exact ⟨rfl, by rw [if_neg h]; rfl⟩
theorem c_M_skipsQ {q : zCur} (ht : t ≤ 230) (h1 : M 0 1 = nI t) (hq : okQ t q) : zRuns gM_skipsIfWell (d + 2) [.ref 0] (encM (mP M q)) (fun v σ' => v = none ∧ σ' = encM (mP M (skQ (M 1) t q))) := by
  refine m_M_skipsIfWell [] rfl (Nat.le_of_ble_eq_true rfl) ?_
  cases q with
  | inl a =>
    refine br_t rfl ?_
    refine z_call (c_M_skips (M := mP M (.inl a)) (a := a) ht h1 rfl hq) ?_
    exact ⟨rfl, by unfold mP skQ; rw [zU_zU]; rfl⟩
  | inr p =>
    refine br_f (qw_bad hq) ?_
    exact ⟨rfl, rfl⟩
theorem mP_s {b : Nat} : encM (mP M (.inl (b + 1))) = encM (zU (mP M (.inl b)) 0 29 (nI b + 1)) := by
  rw [nI_1]
  unfold mP
  rw [zU_zU]
  rfl
theorem c_M_word {q : zCur} {w : Int32} (ht : t ≤ 230) (h1 : M 0 1 = nI t) (hq : okQ t q) : zRuns gM_word (d + 2) [.ref 0, .int w] (encM (mP M q)) (fun v σ' => v = none ∧ σ' = encM (mP M (wdQ (M 1) t w q))) := by
  refine m_M_word [] rfl (Nat.le_of_ble_eq_true rfl) ?_
  cases q with
  | inl a =>
    have hs := (skF_r (T := M 1) hq).2
    refine br_t rfl ?_
    refine z_call (σ1 := encM (mP M (.inl (skF (M 1) t a)))) (by
      have := c_M_skips (d := d) (M := mP M (.inl a)) (a := a) ht h1 rfl hq
      unfold mP at this ⊢
      rw [zU_zU] at this
      exact this) ?_
    refine z_call (c_M_look (M := mP M (.inl (skF (M 1) t a))) (a := skF (M 1) t a) ht h1 rfl (by omega)) ?_
    refine ⟨fun h => ?_, fun h => ?_⟩
    · have h' : lkF (M 1) t (skF (M 1) t a) = w := h
      refine ⟨rfl, ?_⟩
      rw [wdQ_i, if_pos h']
      rw [mP_s]
      rfl
    · have h' : ¬ lkF (M 1) t (skF (M 1) t a) = w := h
      refine z_call c_M_fails ?_
      refine ⟨rfl, ?_⟩
      rw [wdQ_i, if_neg h']
      rfl
  | inr p =>
    refine br_f (qw_bad hq) ?_
    exact ⟨rfl, rfl⟩
theorem isD_b {T : Nat → Int32} {t a : Nat} : decide (48 ≤ lkF T t a ∧ lkF T t a ≤ 57) = isD (lkF T t a) := rfl
theorem c_M_number {q : zCur} {lo hi : Int32} (ht : t ≤ 230) (h1 : M 0 1 = nI t) (hq : okQ t q) : zRuns gM_number (d + 2) [.ref 0, .int lo, .int hi] (encM (mP M q)) (fun v σ' => (∃ x, v = some (.int x) ∧ ((∃ a, nmQ (M 1) t lo hi q = .inl a) → x = nmV (M 1) t q)) ∧ σ' = encM (mP M (nmQ (M 1) t lo hi q))) := by
  refine m_M_number [42] rfl (Nat.le_of_ble_eq_true rfl) ?_
  cases q with
  | inr p =>
    refine br_f (qw_bad hq) ?_
    exact ⟨⟨_, rfl, fun ⟨a, h⟩ => by cases h⟩, rfl⟩
  | inl a =>
    have hs := (skF_r (T := M 1) hq).2
    refine br_t rfl ?_
    refine z_call (σ1 := encM (mP M (.inl (skF (M 1) t a)))) (by
      have := c_M_skips (d := d) (M := mP M (.inl a)) (a := a) ht h1 rfl hq
      unfold mP at this ⊢
      rw [zU_zU] at this
      exact this) ?_
    rw [nmQ_i, nmV_i]
    generalize skF (M 1) t a = s at *
    refine z_call (c_M_look (M := mP M (.inl s)) (a := s) ht h1 rfl (by omega)) ?_
    refine z_call c_M_in ?_
    refine z_b (fun h => ?_) (fun h => ?_)
    · have h' : isD (lkF (M 1) t s) = false := h
      refine z_call c_M_fails ?_
      rw [if_pos h']
      exact ⟨⟨_, rfl, fun ⟨a, h⟩ => by cases h⟩, rfl⟩
    have h' : ¬ isD (lkF (M 1) t s) = false := by
      have h'' : isD (lkF (M 1) t s) = true := h
      rw [h'']; decide
    rw [if_neg h']
    have he := dgF_r (T := M 1) hs
    generalize hE : dgF (M 1) t s = e at *
    refine ⟨trivial, ?_⟩
    refine z_up (P := fun b => ∀ y, s ≤ b → dgF (M 1) t s = dgF (M 1) t b → y = valU (M 1) s (b - s) → zGood gM_number (d + 2) (fun v σ' => (∃ x, v = some (.int x) ∧ ((∃ a, (if e - s ≤ 3 ∧ (lo ≤ valU (M 1) s (e - s) ∧ valU (M 1) s (e - s) ≤ hi) then Sum.inl e else Sum.inr (2, s) : zCur) = .inl a) → x = valU (M 1) s (e - s))) ∧ σ' = encM (mP M (if e - s ≤ 3 ∧ (lo ≤ valU (M 1) s (e - s) ∧ valU (M 1) s (e - s) ≤ hi) then Sum.inl e else Sum.inr (2, s)))) 42 [some (.ref 0), some (.int lo), some (.int hi), some (.int (nI s)), some (.int y)] [] (encM (mP M (.inl b))) 0 0) t (fun b hb ih y hsb hdg hy => ?_) s hs 0 (Nat.le_refl s) rfl (by rw [Nat.sub_self]; rfl)
    subst hy
    refine w_M_number [42] ?_
    refine z_call (c_M_look (M := mP M (.inl b)) (a := b) ht h1 rfl (by omega)) ?_
    refine z_call c_M_in ?_
    refine z_b (fun h2 => ?_) (fun h2 => ?_)
    · have h2' : isD (lkF (M 1) t b) = false := h2
      have eb : e = b := by rw [← hE, hdg, dgF_f h2']
      subst eb
      refine z_lt (x := 3) (y := nI e - nI s) (a := 3) (b := e - s) q3 (pk_sub hsb) (by decide) (by omega) (fun h3 => ?_) (fun h3 => ?_)
      · refine z_call (c_M_fails (M := mP M (.inl s))) ?_
        rw [if_neg (fun z => Nat.not_le.mpr h3 z.1)]
        exact ⟨⟨_, rfl, fun ⟨a, h⟩ => by cases h⟩, rfl⟩
      · refine z_call c_M_in ?_
        refine z_dec (fun h4 => ?_) (fun h4 => ?_)
        · refine z_call (c_M_fails (M := mP M (.inl s))) ?_
          rw [if_neg (fun z => h4 z.2)]
          exact ⟨⟨_, rfl, fun ⟨a, h⟩ => by cases h⟩, rfl⟩
        · rw [if_pos ⟨h3, h4⟩]
          exact ⟨⟨_, rfl, fun _ => rfl⟩, rfl⟩
    · have h2' : isD (lkF (M 1) t b) = true := h2
      have hl : b < t := lk_lt (T := M 1) (by intro z; rw [z] at h2'; exact absurd h2' (by decide))
      have go := ih hl
      rw [← dgF_t h2', ← hdg, show b + 1 - s = (b - s) + 1 by omega, valU] at go
      have em : encM (mP M (.inl (b + 1))) = encM (zU (mP M (.inl b)) 0 29 (nI b + 1)) := mP_s
      refine z_le (x := 3) (y := nI b - nI s) (a := 3) (b := b - s) q3 (pk_sub hsb) (by decide) (by omega) (fun h3 => ?_) (fun h3 => ?_)
      · rw [if_neg (by omega), em] at go
        exact ⟨trivial, go _ (by omega) rfl rfl⟩
      · rw [if_pos (by omega), em] at go
        refine z_call (c_M_look (M := mP M (.inl b)) (a := b) ht h1 rfl (by omega)) ?_
        have el : lkF (M 1) t b = M 1 (s + (b - s)) := by
          unfold lkF
          rw [if_pos hl, show s + (b - s) = b by omega]
        refine ⟨trivial, go _ (by omega) rfl ?_⟩
        rw [← el]
        rfl
end P1
