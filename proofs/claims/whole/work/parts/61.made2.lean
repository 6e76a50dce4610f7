/-! steps of a constructor, whatever lies ahead -/
theorem zBV_mono {n m : Nat} (h : n ≤ m) {v : Value} (hv : zBV n v = true) : zBV m v = true := by
  cases v <;> first | rfl | (rename_i k; simp only [zBV, Nat.blt_eq] at hv ⊢; omega)
theorem zBL_mono {n m : Nat} (h : n ≤ m) : ∀ {l : List Value}, zBL n l = true → zBL m l = true
  | [], _ => rfl
  | v :: r, hl => by
    have h2 : zBV n v = true ∧ zBL n r = true := by simpa [zBL] using hl
    rw [zBL, zBV_mono h h2.1, zBL_mono h h2.2]; rfl
theorem zBF_mono {n m : Nat} (h : n ≤ m) {f : Nat → Option Nat} : ∀ {k : Nat}, zBF n f k = true → zBF m f k = true
  | 0, _ => rfl
  | k + 1, hk => by
    unfold zBF at hk ⊢
    obtain ⟨h1, h2⟩ := Bool.and_eq_true_iff.mp hk
    rw [zBF_mono h h2, Bool.and_true]
    cases hf : f k with
    | none => rfl
    | some j =>
      rw [hf] at h1
      simp only [Nat.blt_eq] at h1 ⊢
      omega
theorem zBE_mono {n m : Nat} (h : n ≤ m) {e : va_E} (he : zBE n e = true) : zBE m e = true := by
  rcases e with ⟨t, k, f | f | f | f | f⟩ | ⟨ci, fs⟩
  · rfl
  · rfl
  · rfl
  · rfl
  · exact zBF_mono h (f := f) (k := k) he
  · exact zBL_mono h (l := fs) he
theorem zBS_mono {n m : Nat} (h : n ≤ m) : ∀ {σ : List va_E}, zBS n σ = true → zBS m σ = true
  | [], _ => rfl
  | e :: r, hs => by
    have h2 : zBE n e = true ∧ zBS n r = true := by simpa [zBS] using hs
    rw [zBS, zBE_mono h h2.1, zBS_mono h h2.2]; rfl
theorem zBS_app {n : Nat} : ∀ {a b : List va_E}, zBS n a = true → zBS n b = true → zBS n (a ++ b) = true
  | [], _, _, hb => hb
  | e :: r, b, ha, hb => by
    have h2 : zBE n e = true ∧ zBS n r = true := by simpa [zBS] using ha
    rw [List.cons_append, zBS, h2.1, zBS_app h2.2 hb]; rfl
section NS
variable {g : zG} {cp : zC} {d : Nat} {Q : Option Value → List va_E → Prop} {pc : Nat} {ls : List (Option Value)} {uc us : Nat} {P A : List va_E} {r ci f fl idx : Nat} {fin : Bool} {fs : List Value}
theorem n_at (hr : P.length = r) {e : va_E} : (P ++ (e :: A))[r]? = some e := by
  subst hr
  rw [List.getElem?_append_right (Nat.le_refl _), Nat.sub_self]; rfl
theorem n_set (hr : P.length = r) {e e' : va_E} : (P ++ (e :: A)).set r e' = P ++ (e' :: A) := by
  subst hr
  rw [List.set_append_right _ _ (Nat.le_refl _), Nat.sub_self]; rfl
theorem n_put0 {v : Value} {st : List Value} {σ : List va_E} (hcp : zPool g.1.cls cp) (hini : g.1.name = "<init>") (hd : decode g.2.1 pc = .ok (.putfield idx, 3)) (hf : zFind cp.1 idx = some (ci, f, fl, fin)) (hv : zPutOk fl v True) (hfl : f < fs.length) (hfin : fl ≠ 3) (ha : σ[r]? = some (.inr (ci, fs))) (kk : zGood g d Q (pc + 3) ls st (σ.set r (.inr (ci, fs.set f v))) uc us) : zGood g d Q pc ls (v :: .ref r :: st) σ uc us := by
  obtain ⟨Cn, T, N, ty, f1, f2, f3, f4, f5, f6⟩ := hcp.1 _ (zFind_mem hf)
  have f7 : (T f).2.2.2 = false ∨ (g.1.name = "<init>" ∧ (T f).1 = g.1.cls) := by
    rcases f6 with f6 | ⟨f6, f8⟩ | f6
    · exact Or.inl f6
    · exact Or.inr ⟨hini, f8⟩
    · exact absurd f6 hfin
  exact s_putf f1 f2 f3 f4 f7 hd ha (zPutOk_e hv f5).1 hfl kk
theorem n_put {v : Value} (hr : P.length = r) (hcp : zPool g.1.cls cp) (hini : g.1.name = "<init>") (hd : decode g.2.1 pc = .ok (.putfield idx, 3)) (hf : zFind cp.1 idx = some (ci, f, fl, fin)) (hv : zPutOk fl v True) (hfl : f < fs.length) (hfin : fl ≠ 3) (kk : zGood g d Q (pc + 3) ls [] (P ++ (.inr (ci, fs.set f v) :: A)) uc us) : zGood g d Q pc ls [v, .ref r] (P ++ (.inr (ci, fs) :: A)) uc us := by
  refine n_put0 hcp hini hd hf hv hfl hfin (n_at hr) ?_
  rw [n_set hr]
  exact kk
theorem n_arr {n : Int32} {N t : Nat} {aty : ArrayType} (hr : P.length = r) (hP : zBS r P = true) (hcp : zPool g.1.cls cp) (hini : g.1.name = "<init>") (ht : (t = 0 ∧ aty = .int) ∨ (t = 1 ∧ aty = .boolean)) (harr : Jvm.Cond.arrayClass (newarray.typeOf aty) ∈ zT) (h0 : ¬ n < 0) (hN : n.toNatClampNeg = N) (hsm : N ≤ 100000) (hd1 : decode g.2.1 pc = .ok (.newarray aty, 2)) (hd2 : decode g.2.1 (pc + 2) = .ok (.putfield idx, 3)) (hf : zFind cp.1 idx = some (ci, f, 2, fin)) (hfl : f < fs.length)
    (hls : zBO (r + 1) ls = true) (hA : zBS (r + 1 + A.length) (.inr (ci, fs) :: A) = true) (huc : uc + 1 ≤ g.2.2.2.2.1) (hus : us + N ≤ g.2.2.2.2.2)
    (kk : zGood g d Q (pc + 5) ls [] (P ++ (.inr (ci, fs.set f (.ref (r + 1 + A.length))) :: (A ++ [.inl (t, N, .inl (fun _ => 0))]))) (uc + 1) (us + N)) : zGood g d Q pc ls [.int n, .ref r] (P ++ (.inr (ci, fs) :: A)) uc us := by
  have hl : (P ++ ((.inr (ci, fs) : va_E) :: A)).length = r + 1 + A.length := by rw [List.length_append, hr, List.length_cons]; omega
  have hb : (zBO (P ++ ((.inr (ci, fs) : va_E) :: A)).length ls && (zBL (P ++ ((.inr (ci, fs) : va_E) :: A)).length [.ref r] && zBS (P ++ ((.inr (ci, fs) : va_E) :: A)).length (P ++ ((.inr (ci, fs) : va_E) :: A)))) = true := by
    rw [hl, zBS_app (zBS_mono (by omega) hP) hA]
    have b1 : zBL (r + 1 + A.length) [.ref r] = true := by
      simp only [zBL, zBV, Bool.and_true, Nat.blt_eq]; omega
    have b2 : zBO (r + 1 + A.length) ls = true := by
      have gen : ∀ ls : List (Option Value), zBO (r + 1) ls = true → zBO (r + 1 + A.length) ls = true := by
        intro ls
        induction ls with
        | nil => intro _; rfl
        | cons o q ih =>
          intro h
          cases o with
          | none => exact ih h
          | some v =>
            have h2 : zBV (r + 1) v = true ∧ zBO (r + 1) q = true := by simpa [zBO] using h
            rw [zBO, zBV_mono (by omega) h2.1, ih h2.2]; rfl
      exact gen ls hls
    rw [b1, b2]; rfl
  refine s_newa ht harr hd1 h0 hN hsm hb huc hus ?_
  rw [hl]
  have e1 : (P ++ ((.inr (ci, fs) : va_E) :: A)) ++ [.inl (t, N, .inl (fun _ => 0))] = P ++ (.inr (ci, fs) :: (A ++ [.inl (t, N, .inl (fun _ => 0))])) := by rw [List.append_assoc, List.cons_append]
  rw [e1]
  exact n_put (pc := pc + 2) hr hcp hini hd2 hf trivial hfl (by decide) kk
end NS
