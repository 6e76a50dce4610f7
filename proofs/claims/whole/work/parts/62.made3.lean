/-! the constructors of the class -/
section MK
variable {d : Nat} {P : List va_E}
theorem i_1 (hr : P.length = 1) (hP : zBS 1 P = true) : zRuns gTe_init (d + 1) [.ref 1] (P ++ [.inr (7, [.null, .int 0, .int 0, .int 0, .int 0, .int 0])]) (fun v σ' => v = none ∧ σ' = P ++ [.inr (7, [.ref 2, .int 0, .int (-1), .int 0, .int 0, .int 0]),
  .inl (0, 230, .inl (fun _ => 0))]) := by
  refine m_Te_init [8, 15, 20, 25, 30, 35] rfl (Nat.le_of_ble_eq_true rfl) ?_
  refine ⟨trivial, ?_⟩
  refine n_arr (cp := pTe) (idx := 9) (ci := 7) (f := 0) (fin := true) (N := 230) hr hP PTe rfl (Or.inl ⟨rfl, rfl⟩) zT_int (by decide) rfl (by decide) (show decode cX7_init 8 = _ by decide +kernel) (show decode cX7_init 10 = _ by decide +kernel) rfl (by decide) rfl (by decide +kernel) (by decide) (by decide) ?_
  refine w_Te_init [8, 15, 20, 25, 30, 35] ?_
  refine ⟨trivial, ?_⟩
  refine n_put (cp := pTe) (idx := 15) (ci := 7) (f := 1) (fl := 0) (fin := false) hr PTe rfl (show decode cX7_init 15 = _ by decide +kernel) rfl trivial (by decide) (by decide) ?_
  refine w_Te_init [8, 15, 20, 25, 30, 35] ?_
  refine ⟨trivial, ?_⟩
  refine n_put (cp := pTe) (idx := 19) (ci := 7) (f := 2) (fl := 0) (fin := false) hr PTe rfl (show decode cX7_init 20 = _ by decide +kernel) rfl trivial (by decide) (by decide) ?_
  refine w_Te_init [8, 15, 20, 25, 30, 35] ?_
  refine ⟨trivial, ?_⟩
  refine n_put (cp := pTe) (idx := 22) (ci := 7) (f := 3) (fl := 0) (fin := false) hr PTe rfl (show decode cX7_init 25 = _ by decide +kernel) rfl trivial (by decide) (by decide) ?_
  refine w_Te_init [8, 15, 20, 25, 30, 35] ?_
  refine ⟨trivial, ?_⟩
  refine n_put (cp := pTe) (idx := 25) (ci := 7) (f := 4) (fl := 0) (fin := false) hr PTe rfl (show decode cX7_init 30 = _ by decide +kernel) rfl trivial (by decide) (by decide) ?_
  refine w_Te_init [8, 15, 20, 25, 30, 35] ?_
  refine ⟨trivial, ?_⟩
  refine n_put (cp := pTe) (idx := 28) (ci := 7) (f := 5) (fl := 0) (fin := false) hr PTe rfl (show decode cX7_init 35 = _ by decide +kernel) rfl trivial (by decide) (by decide) ?_
  refine w_Te_init [8, 15, 20, 25, 30, 35] ?_
  exact ⟨rfl, rfl⟩
theorem i_3 (hr : P.length = 3) (hP : zBS 3 P = true) : zRuns gFa_init (d + 1) [.ref 3] (P ++ [.inr (1, [.int 0, .int 0, .int 0, .int 0, .int 0, .null, .null, .null, .null, .null, .null, .null, .null, .null, .null])]) (fun v σ' => v = none ∧ σ' = P ++ [.inr (1, [.int 0, .int 0, .int 0, .int 0, .int 0, .ref 4, .ref 5, .ref 6, .ref 7, .ref 8, .ref 9, .ref 10, .ref 11, .ref 12, .ref 13]),
  .inl (0, 7, .inl (fun _ => 0)),
  .inl (0, 7, .inl (fun _ => 0)),
  .inl (0, 7, .inl (fun _ => 0)),
  .inl (0, 42, .inl (fun _ => 0)),
  .inl (0, 4, .inl (fun _ => 0)),
  .inl (0, 4, .inl (fun _ => 0)),
  .inl (0, 4, .inl (fun _ => 0)),
  .inl (0, 4, .inl (fun _ => 0)),
  .inl (0, 4, .inl (fun _ => 0)),
  .inl (0, 4, .inl (fun _ => 0))]) := by
  refine m_Fa_init [6, 11, 16, 21, 26, 32, 40, 48, 56, 63, 70, 77, 84, 91, 98] rfl (Nat.le_of_ble_eq_true rfl) ?_
  refine ⟨trivial, ?_⟩
  refine n_put (cp := pFa) (idx := 9) (ci := 1) (f := 0) (fl := 1) (fin := false) hr PFa rfl (show decode cX1_init 6 = _ by decide +kernel) rfl ⟨Or.inl rfl, trivial⟩ (by decide) (by decide) ?_
  refine w_Fa_init [6, 11, 16, 21, 26, 32, 40, 48, 56, 63, 70, 77, 84, 91, 98] ?_
  refine ⟨trivial, ?_⟩
  refine n_put (cp := pFa) (idx := 15) (ci := 1) (f := 1) (fl := 0) (fin := false) hr PFa rfl (show decode cX1_init 11 = _ by decide +kernel) rfl trivial (by decide) (by decide) ?_
  refine w_Fa_init [6, 11, 16, 21, 26, 32, 40, 48, 56, 63, 70, 77, 84, 91, 98] ?_
  refine ⟨trivial, ?_⟩
  refine n_put (cp := pFa) (idx := 19) (ci := 1) (f := 2) (fl := 0) (fin := false) hr PFa rfl (show decode cX1_init 16 = _ by decide +kernel) rfl trivial (by decide) (by decide) ?_
  refine w_Fa_init [6, 11, 16, 21, 26, 32, 40, 48, 56, 63, 70, 77, 84, 91, 98] ?_
  refine ⟨trivial, ?_⟩
  refine n_put (cp := pFa) (idx := 22) (ci := 1) (f := 3) (fl := 0) (fin := false) hr PFa rfl (show decode cX1_init 21 = _ by decide +kernel) rfl trivial (by decide) (by decide) ?_
  refine w_Fa_init [6, 11, 16, 21, 26, 32, 40, 48, 56, 63, 70, 77, 84, 91, 98] ?_
  refine ⟨trivial, ?_⟩
  refine n_put (cp := pFa) (idx := 25) (ci := 1) (f := 4) (fl := 0) (fin := false) hr PFa rfl (show decode cX1_init 26 = _ by decide +kernel) rfl trivial (by decide) (by decide) ?_
  refine w_Fa_init [6, 11, 16, 21, 26, 32, 40, 48, 56, 63, 70, 77, 84, 91, 98] ?_
  refine ⟨trivial, ?_⟩
  refine n_arr (cp := pFa) (idx := 28) (ci := 1) (f := 5) (fin := true) (N := 7) hr hP PFa rfl (Or.inl ⟨rfl, rfl⟩) zT_int (by decide) rfl (by decide) (show decode cX1_init 32 = _ by decide +kernel) (show decode cX1_init 34 = _ by decide +kernel) rfl (by decide) rfl (by decide +kernel) (by decide) (by decide) ?_
  refine w_Fa_init [6, 11, 16, 21, 26, 32, 40, 48, 56, 63, 70, 77, 84, 91, 98] ?_
  refine ⟨trivial, ?_⟩
  refine n_arr (cp := pFa) (idx := 32) (ci := 1) (f := 6) (fin := true) (N := 7) hr hP PFa rfl (Or.inl ⟨rfl, rfl⟩) zT_int (by decide) rfl (by decide) (show decode cX1_init 40 = _ by decide +kernel) (show decode cX1_init 42 = _ by decide +kernel) rfl (by decide) rfl (by decide +kernel) (by decide) (by decide) ?_
  refine w_Fa_init [6, 11, 16, 21, 26, 32, 40, 48, 56, 63, 70, 77, 84, 91, 98] ?_
  refine ⟨trivial, ?_⟩
  refine n_arr (cp := pFa) (idx := 35) (ci := 1) (f := 7) (fin := true) (N := 7) hr hP PFa rfl (Or.inl ⟨rfl, rfl⟩) zT_int (by decide) rfl (by decide) (show decode cX1_init 48 = _ by decide +kernel) (show decode cX1_init 50 = _ by decide +kernel) rfl (by decide) rfl (by decide +kernel) (by decide) (by decide) ?_
  refine w_Fa_init [6, 11, 16, 21, 26, 32, 40, 48, 56, 63, 70, 77, 84, 91, 98] ?_
  refine ⟨trivial, ?_⟩
  refine n_arr (cp := pFa) (idx := 38) (ci := 1) (f := 8) (fin := true) (N := 42) hr hP PFa rfl (Or.inl ⟨rfl, rfl⟩) zT_int (by decide) rfl (by decide) (show decode cX1_init 56 = _ by decide +kernel) (show decode cX1_init 58 = _ by decide +kernel) rfl (by decide) rfl (by decide +kernel) (by decide) (by decide) ?_
  refine w_Fa_init [6, 11, 16, 21, 26, 32, 40, 48, 56, 63, 70, 77, 84, 91, 98] ?_
  refine ⟨trivial, ?_⟩
  refine n_arr (cp := pFa) (idx := 41) (ci := 1) (f := 9) (fin := true) (N := 4) hr hP PFa rfl (Or.inl ⟨rfl, rfl⟩) zT_int (by decide) rfl (by decide) (show decode cX1_init 63 = _ by decide +kernel) (show decode cX1_init 65 = _ by decide +kernel) rfl (by decide) rfl (by decide +kernel) (by decide) (by decide) ?_
  refine w_Fa_init [6, 11, 16, 21, 26, 32, 40, 48, 56, 63, 70, 77, 84, 91, 98] ?_
  refine ⟨trivial, ?_⟩
  refine n_arr (cp := pFa) (idx := 44) (ci := 1) (f := 10) (fin := true) (N := 4) hr hP PFa rfl (Or.inl ⟨rfl, rfl⟩) zT_int (by decide) rfl (by decide) (show decode cX1_init 70 = _ by decide +kernel) (show decode cX1_init 72 = _ by decide +kernel) rfl (by decide) rfl (by decide +kernel) (by decide) (by decide) ?_
  refine w_Fa_init [6, 11, 16, 21, 26, 32, 40, 48, 56, 63, 70, 77, 84, 91, 98] ?_
  refine ⟨trivial, ?_⟩
  refine n_arr (cp := pFa) (idx := 47) (ci := 1) (f := 11) (fin := true) (N := 4) hr hP PFa rfl (Or.inl ⟨rfl, rfl⟩) zT_int (by decide) rfl (by decide) (show decode cX1_init 77 = _ by decide +kernel) (show decode cX1_init 79 = _ by decide +kernel) rfl (by decide) rfl (by decide +kernel) (by decide) (by decide) ?_
  refine w_Fa_init [6, 11, 16, 21, 26, 32, 40, 48, 56, 63, 70, 77, 84, 91, 98] ?_
  refine ⟨trivial, ?_⟩
  refine n_arr (cp := pFa) (idx := 50) (ci := 1) (f := 12) (fin := true) (N := 4) hr hP PFa rfl (Or.inl ⟨rfl, rfl⟩) zT_int (by decide) rfl (by decide) (show decode cX1_init 84 = _ by decide +kernel) (show decode cX1_init 86 = _ by decide +kernel) rfl (by decide) rfl (by decide +kernel) (by decide) (by decide) ?_
  refine w_Fa_init [6, 11, 16, 21, 26, 32, 40, 48, 56, 63, 70, 77, 84, 91, 98] ?_
  refine ⟨trivial, ?_⟩
  refine n_arr (cp := pFa) (idx := 53) (ci := 1) (f := 13) (fin := true) (N := 4) hr hP PFa rfl (Or.inl ⟨rfl, rfl⟩) zT_int (by decide) rfl (by decide) (show decode cX1_init 91 = _ by decide +kernel) (show decode cX1_init 93 = _ by decide +kernel) rfl (by decide) rfl (by decide +kernel) (by decide) (by decide) ?_
  refine w_Fa_init [6, 11, 16, 21, 26, 32, 40, 48, 56, 63, 70, 77, 84, 91, 98] ?_
  refine ⟨trivial, ?_⟩
  refine n_arr (cp := pFa) (idx := 56) (ci := 1) (f := 14) (fin := true) (N := 4) hr hP PFa rfl (Or.inl ⟨rfl, rfl⟩) zT_int (by decide) rfl (by decide) (show decode cX1_init 98 = _ by decide +kernel) (show decode cX1_init 100 = _ by decide +kernel) rfl (by decide) rfl (by decide +kernel) (by decide) (by decide) ?_
  refine w_Fa_init [6, 11, 16, 21, 26, 32, 40, 48, 56, 63, 70, 77, 84, 91, 98] ?_
  exact ⟨rfl, rfl⟩
theorem i_14 (hr : P.length = 14) (hP : zBS 14 P = true) : zRuns gFa_init (d + 1) [.ref 14] (P ++ [.inr (1, [.int 0, .int 0, .int 0, .int 0, .int 0, .null, .null, .null, .null, .null, .null, .null, .null, .null, .null])]) (fun v σ' => v = none ∧ σ' = P ++ [.inr (1, [.int 0, .int 0, .int 0, .int 0, .int 0, .ref 15, .ref 16, .ref 17, .ref 18, .ref 19, .ref 20, .ref 21, .ref 22, .ref 23, .ref 24]),
  .inl (0, 7, .inl (fun _ => 0)),
  .inl (0, 7, .inl (fun _ => 0)),
  .inl (0, 7, .inl (fun _ => 0)),
  .inl (0, 42, .inl (fun _ => 0)),
  .inl (0, 4, .inl (fun _ => 0)),
  .inl (0, 4, .inl (fun _ => 0)),
  .inl (0, 4, .inl (fun _ => 0)),
  .inl (0, 4, .inl (fun _ => 0)),
  .inl (0, 4, .inl (fun _ => 0)),
  .inl (0, 4, .inl (fun _ => 0))]) := by
  refine m_Fa_init [6, 11, 16, 21, 26, 32, 40, 48, 56, 63, 70, 77, 84, 91, 98] rfl (Nat.le_of_ble_eq_true rfl) ?_
  refine ⟨trivial, ?_⟩
  refine n_put (cp := pFa) (idx := 9) (ci := 1) (f := 0) (fl := 1) (fin := false) hr PFa rfl (show decode cX1_init 6 = _ by decide +kernel) rfl ⟨Or.inl rfl, trivial⟩ (by decide) (by decide) ?_
  refine w_Fa_init [6, 11, 16, 21, 26, 32, 40, 48, 56, 63, 70, 77, 84, 91, 98] ?_
  refine ⟨trivial, ?_⟩
  refine n_put (cp := pFa) (idx := 15) (ci := 1) (f := 1) (fl := 0) (fin := false) hr PFa rfl (show decode cX1_init 11 = _ by decide +kernel) rfl trivial (by decide) (by decide) ?_
  refine w_Fa_init [6, 11, 16, 21, 26, 32, 40, 48, 56, 63, 70, 77, 84, 91, 98] ?_
  refine ⟨trivial, ?_⟩
  refine n_put (cp := pFa) (idx := 19) (ci := 1) (f := 2) (fl := 0) (fin := false) hr PFa rfl (show decode cX1_init 16 = _ by decide +kernel) rfl trivial (by decide) (by decide) ?_
  refine w_Fa_init [6, 11, 16, 21, 26, 32, 40, 48, 56, 63, 70, 77, 84, 91, 98] ?_
  refine ⟨trivial, ?_⟩
  refine n_put (cp := pFa) (idx := 22) (ci := 1) (f := 3) (fl := 0) (fin := false) hr PFa rfl (show decode cX1_init 21 = _ by decide +kernel) rfl trivial (by decide) (by decide) ?_
  refine w_Fa_init [6, 11, 16, 21, 26, 32, 40, 48, 56, 63, 70, 77, 84, 91, 98] ?_
  refine ⟨trivial, ?_⟩
  refine n_put (cp := pFa) (idx := 25) (ci := 1) (f := 4) (fl := 0) (fin := false) hr PFa rfl (show decode cX1_init 26 = _ by decide +kernel) rfl trivial (by decide) (by decide) ?_
  refine w_Fa_init [6, 11, 16, 21, 26, 32, 40, 48, 56, 63, 70, 77, 84, 91, 98] ?_
  refine ⟨trivial, ?_⟩
  refine n_arr (cp := pFa) (idx := 28) (ci := 1) (f := 5) (fin := true) (N := 7) hr hP PFa rfl (Or.inl ⟨rfl, rfl⟩) zT_int (by decide) rfl (by decide) (show decode cX1_init 32 = _ by decide +kernel) (show decode cX1_init 34 = _ by decide +kernel) rfl (by decide) rfl (by decide +kernel) (by decide) (by decide) ?_
  refine w_Fa_init [6, 11, 16, 21, 26, 32, 40, 48, 56, 63, 70, 77, 84, 91, 98] ?_
  refine ⟨trivial, ?_⟩
  refine n_arr (cp := pFa) (idx := 32) (ci := 1) (f := 6) (fin := true) (N := 7) hr hP PFa rfl (Or.inl ⟨rfl, rfl⟩) zT_int (by decide) rfl (by decide) (show decode cX1_init 40 = _ by decide +kernel) (show decode cX1_init 42 = _ by decide +kernel) rfl (by decide) rfl (by decide +kernel) (by decide) (by decide) ?_
  refine w_Fa_init [6, 11, 16, 21, 26, 32, 40, 48, 56, 63, 70, 77, 84, 91, 98] ?_
  refine ⟨trivial, ?_⟩
  refine n_arr (cp := pFa) (idx := 35) (ci := 1) (f := 7) (fin := true) (N := 7) hr hP PFa rfl (Or.inl ⟨rfl, rfl⟩) zT_int (by decide) rfl (by decide) (show decode cX1_init 48 = _ by decide +kernel) (show decode cX1_init 50 = _ by decide +kernel) rfl (by decide) rfl (by decide +kernel) (by decide) (by decide) ?_
  refine w_Fa_init [6, 11, 16, 21, 26, 32, 40, 48, 56, 63, 70, 77, 84, 91, 98] ?_
  refine ⟨trivial, ?_⟩
  refine n_arr (cp := pFa) (idx := 38) (ci := 1) (f := 8) (fin := true) (N := 42) hr hP PFa rfl (Or.inl ⟨rfl, rfl⟩) zT_int (by decide) rfl (by decide) (show decode cX1_init 56 = _ by decide +kernel) (show decode cX1_init 58 = _ by decide +kernel) rfl (by decide) rfl (by decide +kernel) (by decide) (by decide) ?_
  refine w_Fa_init [6, 11, 16, 21, 26, 32, 40, 48, 56, 63, 70, 77, 84, 91, 98] ?_
  refine ⟨trivial, ?_⟩
  refine n_arr (cp := pFa) (idx := 41) (ci := 1) (f := 9) (fin := true) (N := 4) hr hP PFa rfl (Or.inl ⟨rfl, rfl⟩) zT_int (by decide) rfl (by decide) (show decode cX1_init 63 = _ by decide +kernel) (show decode cX1_init 65 = _ by decide +kernel) rfl (by decide) rfl (by decide +kernel) (by decide) (by decide) ?_
  refine w_Fa_init [6, 11, 16, 21, 26, 32, 40, 48, 56, 63, 70, 77, 84, 91, 98] ?_
  refine ⟨trivial, ?_⟩
  refine n_arr (cp := pFa) (idx := 44) (ci := 1) (f := 10) (fin := true) (N := 4) hr hP PFa rfl (Or.inl ⟨rfl, rfl⟩) zT_int (by decide) rfl (by decide) (show decode cX1_init 70 = _ by decide +kernel) (show decode cX1_init 72 = _ by decide +kernel) rfl (by decide) rfl (by decide +kernel) (by decide) (by decide) ?_
  refine w_Fa_init [6, 11, 16, 21, 26, 32, 40, 48, 56, 63, 70, 77, 84, 91, 98] ?_
  refine ⟨trivial, ?_⟩
  refine n_arr (cp := pFa) (idx := 47) (ci := 1) (f := 11) (fin := true) (N := 4) hr hP PFa rfl (Or.inl ⟨rfl, rfl⟩) zT_int (by decide) rfl (by decide) (show decode cX1_init 77 = _ by decide +kernel) (show decode cX1_init 79 = _ by decide +kernel) rfl (by decide) rfl (by decide +kernel) (by decide) (by decide) ?_
  refine w_Fa_init [6, 11, 16, 21, 26, 32, 40, 48, 56, 63, 70, 77, 84, 91, 98] ?_
  refine ⟨trivial, ?_⟩
  refine n_arr (cp := pFa) (idx := 50) (ci := 1) (f := 12) (fin := true) (N := 4) hr hP PFa rfl (Or.inl ⟨rfl, rfl⟩) zT_int (by decide) rfl (by decide) (show decode cX1_init 84 = _ by decide +kernel) (show decode cX1_init 86 = _ by decide +kernel) rfl (by decide) rfl (by decide +kernel) (by decide) (by decide) ?_
  refine w_Fa_init [6, 11, 16, 21, 26, 32, 40, 48, 56, 63, 70, 77, 84, 91, 98] ?_
  refine ⟨trivial, ?_⟩
  refine n_arr (cp := pFa) (idx := 53) (ci := 1) (f := 13) (fin := true) (N := 4) hr hP PFa rfl (Or.inl ⟨rfl, rfl⟩) zT_int (by decide) rfl (by decide) (show decode cX1_init 91 = _ by decide +kernel) (show decode cX1_init 93 = _ by decide +kernel) rfl (by decide) rfl (by decide +kernel) (by decide) (by decide) ?_
  refine w_Fa_init [6, 11, 16, 21, 26, 32, 40, 48, 56, 63, 70, 77, 84, 91, 98] ?_
  refine ⟨trivial, ?_⟩
  refine n_arr (cp := pFa) (idx := 56) (ci := 1) (f := 14) (fin := true) (N := 4) hr hP PFa rfl (Or.inl ⟨rfl, rfl⟩) zT_int (by decide) rfl (by decide) (show decode cX1_init 98 = _ by decide +kernel) (show decode cX1_init 100 = _ by decide +kernel) rfl (by decide) rfl (by decide +kernel) (by decide) (by decide) ?_
  refine w_Fa_init [6, 11, 16, 21, 26, 32, 40, 48, 56, 63, 70, 77, 84, 91, 98] ?_
  exact ⟨rfl, rfl⟩
theorem i_25 (hr : P.length = 25) (hP : zBS 25 P = true) : zRuns gSt_init (d + 1) [.ref 25] (P ++ [.inr (6, [.null])]) (fun v σ' => v = none ∧ σ' = P ++ [.inr (6, [.ref 26]),
  .inl (0, 55, .inl (fun _ => 0))]) := by
  refine m_St_init [7] rfl (Nat.le_of_ble_eq_true rfl) ?_
  refine ⟨trivial, ?_⟩
  refine n_arr (cp := pSt) (idx := 11) (ci := 6) (f := 0) (fin := true) (N := 55) hr hP PSt rfl (Or.inl ⟨rfl, rfl⟩) zT_int (by decide) rfl (by decide) (show decode cX6_init 7 = _ by decide +kernel) (show decode cX6_init 9 = _ by decide +kernel) rfl (by decide) rfl (by decide +kernel) (by decide) (by decide) ?_
  refine w_St_init [7] ?_
  exact ⟨rfl, rfl⟩
theorem i_27 (hr : P.length = 27) (hP : zBS 27 P = true) : zRuns gCt_init (d + 1) [.ref 27, .ref 14, .ref 25] (P ++ [.inr (0, [.null, .null])]) (fun v σ' => v = none ∧ σ' = P ++ [.inr (0, [.ref 14, .ref 25])]) := by
  refine m_Ct_init [6, 11] rfl (Nat.le_of_ble_eq_true rfl) ?_
  refine ⟨trivial, ?_⟩
  refine n_put (cp := pCt) (idx := 9) (ci := 0) (f := 0) (fl := 2) (fin := true) hr PCt rfl (show decode cX0_init 6 = _ by decide +kernel) rfl trivial (by decide) (by decide) ?_
  refine w_Ct_init [6, 11] ?_
  refine ⟨trivial, ?_⟩
  refine n_put (cp := pCt) (idx := 15) (ci := 0) (f := 1) (fl := 2) (fin := true) hr PCt rfl (show decode cX0_init 11 = _ by decide +kernel) rfl trivial (by decide) (by decide) ?_
  refine w_Ct_init [6, 11] ?_
  exact ⟨rfl, rfl⟩
theorem i_28 (hr : P.length = 28) (hP : zBS 28 P = true) : zRuns gSh_init (d + 1) [.ref 28, .ref 14, .ref 25, .ref 27] (P ++ [.inr (5, [.null, .null, .null, .null, .null, .null, .null, .null, .null, .null, .null, .null, .null, .int 0])]) (fun v σ' => v = none ∧ σ' = P ++ [.inr (5, [.ref 14, .ref 25, .ref 27, .ref 29, .ref 30, .ref 31, .ref 32, .ref 33, .ref 34, .ref 35, .ref 36, .ref 37, .ref 38, .int 0]),
  .inl (0, 7, .inl (fun _ => 0)),
  .inl (0, 28, .inl (fun _ => 0)),
  .inl (0, 4, .inl (fun _ => 0)),
  .inl (0, 88, .inl (fun _ => 0)),
  .inl (0, 88, .inl (fun _ => 0)),
  .inl (0, 4, .inl (fun _ => 0)),
  .inl (0, 5, .inl (fun _ => 0)),
  .inl (0, 7, .inl (fun _ => 0)),
  .inl (0, 4, .inl (fun _ => 0)),
  .inl (0, 4, .inl (fun _ => 0))]) := by
  refine m_Sh_init [6, 11, 16, 22, 30, 37, 45, 53, 60, 67, 75, 82, 89, 96] rfl (Nat.le_of_ble_eq_true rfl) ?_
  refine ⟨trivial, ?_⟩
  refine n_put (cp := pSh) (idx := 9) (ci := 5) (f := 0) (fl := 2) (fin := true) hr PSh rfl (show decode cX5_init 6 = _ by decide +kernel) rfl trivial (by decide) (by decide) ?_
  refine w_Sh_init [6, 11, 16, 22, 30, 37, 45, 53, 60, 67, 75, 82, 89, 96] ?_
  refine ⟨trivial, ?_⟩
  refine n_put (cp := pSh) (idx := 15) (ci := 5) (f := 1) (fl := 2) (fin := true) hr PSh rfl (show decode cX5_init 11 = _ by decide +kernel) rfl trivial (by decide) (by decide) ?_
  refine w_Sh_init [6, 11, 16, 22, 30, 37, 45, 53, 60, 67, 75, 82, 89, 96] ?_
  refine ⟨trivial, ?_⟩
  refine n_put (cp := pSh) (idx := 19) (ci := 5) (f := 2) (fl := 2) (fin := true) hr PSh rfl (show decode cX5_init 16 = _ by decide +kernel) rfl trivial (by decide) (by decide) ?_
  refine w_Sh_init [6, 11, 16, 22, 30, 37, 45, 53, 60, 67, 75, 82, 89, 96] ?_
  refine ⟨trivial, ?_⟩
  refine n_arr (cp := pSh) (idx := 23) (ci := 5) (f := 3) (fin := true) (N := 7) hr hP PSh rfl (Or.inl ⟨rfl, rfl⟩) zT_int (by decide) rfl (by decide) (show decode cX5_init 22 = _ by decide +kernel) (show decode cX5_init 24 = _ by decide +kernel) rfl (by decide) rfl (by decide +kernel) (by decide) (by decide) ?_
  refine w_Sh_init [6, 11, 16, 22, 30, 37, 45, 53, 60, 67, 75, 82, 89, 96] ?_
  refine ⟨trivial, ?_⟩
  refine n_arr (cp := pSh) (idx := 27) (ci := 5) (f := 4) (fin := true) (N := 28) hr hP PSh rfl (Or.inl ⟨rfl, rfl⟩) zT_int (by decide) rfl (by decide) (show decode cX5_init 30 = _ by decide +kernel) (show decode cX5_init 32 = _ by decide +kernel) rfl (by decide) rfl (by decide +kernel) (by decide) (by decide) ?_
  refine w_Sh_init [6, 11, 16, 22, 30, 37, 45, 53, 60, 67, 75, 82, 89, 96] ?_
  refine ⟨trivial, ?_⟩
  refine n_arr (cp := pSh) (idx := 30) (ci := 5) (f := 5) (fin := true) (N := 4) hr hP PSh rfl (Or.inl ⟨rfl, rfl⟩) zT_int (by decide) rfl (by decide) (show decode cX5_init 37 = _ by decide +kernel) (show decode cX5_init 39 = _ by decide +kernel) rfl (by decide) rfl (by decide +kernel) (by decide) (by decide) ?_
  refine w_Sh_init [6, 11, 16, 22, 30, 37, 45, 53, 60, 67, 75, 82, 89, 96] ?_
  refine ⟨trivial, ?_⟩
  refine n_arr (cp := pSh) (idx := 33) (ci := 5) (f := 6) (fin := true) (N := 88) hr hP PSh rfl (Or.inl ⟨rfl, rfl⟩) zT_int (by decide) rfl (by decide) (show decode cX5_init 45 = _ by decide +kernel) (show decode cX5_init 47 = _ by decide +kernel) rfl (by decide) rfl (by decide +kernel) (by decide) (by decide) ?_
  refine w_Sh_init [6, 11, 16, 22, 30, 37, 45, 53, 60, 67, 75, 82, 89, 96] ?_
  refine ⟨trivial, ?_⟩
  refine n_arr (cp := pSh) (idx := 36) (ci := 5) (f := 7) (fin := true) (N := 88) hr hP PSh rfl (Or.inl ⟨rfl, rfl⟩) zT_int (by decide) rfl (by decide) (show decode cX5_init 53 = _ by decide +kernel) (show decode cX5_init 55 = _ by decide +kernel) rfl (by decide) rfl (by decide +kernel) (by decide) (by decide) ?_
  refine w_Sh_init [6, 11, 16, 22, 30, 37, 45, 53, 60, 67, 75, 82, 89, 96] ?_
  refine ⟨trivial, ?_⟩
  refine n_arr (cp := pSh) (idx := 39) (ci := 5) (f := 8) (fin := true) (N := 4) hr hP PSh rfl (Or.inl ⟨rfl, rfl⟩) zT_int (by decide) rfl (by decide) (show decode cX5_init 60 = _ by decide +kernel) (show decode cX5_init 62 = _ by decide +kernel) rfl (by decide) rfl (by decide +kernel) (by decide) (by decide) ?_
  refine w_Sh_init [6, 11, 16, 22, 30, 37, 45, 53, 60, 67, 75, 82, 89, 96] ?_
  refine ⟨trivial, ?_⟩
  refine n_arr (cp := pSh) (idx := 42) (ci := 5) (f := 9) (fin := true) (N := 5) hr hP PSh rfl (Or.inl ⟨rfl, rfl⟩) zT_int (by decide) rfl (by decide) (show decode cX5_init 67 = _ by decide +kernel) (show decode cX5_init 69 = _ by decide +kernel) rfl (by decide) rfl (by decide +kernel) (by decide) (by decide) ?_
  refine w_Sh_init [6, 11, 16, 22, 30, 37, 45, 53, 60, 67, 75, 82, 89, 96] ?_
  refine ⟨trivial, ?_⟩
  refine n_arr (cp := pSh) (idx := 45) (ci := 5) (f := 10) (fin := true) (N := 7) hr hP PSh rfl (Or.inl ⟨rfl, rfl⟩) zT_int (by decide) rfl (by decide) (show decode cX5_init 75 = _ by decide +kernel) (show decode cX5_init 77 = _ by decide +kernel) rfl (by decide) rfl (by decide +kernel) (by decide) (by decide) ?_
  refine w_Sh_init [6, 11, 16, 22, 30, 37, 45, 53, 60, 67, 75, 82, 89, 96] ?_
  refine ⟨trivial, ?_⟩
  refine n_arr (cp := pSh) (idx := 48) (ci := 5) (f := 11) (fin := true) (N := 4) hr hP PSh rfl (Or.inl ⟨rfl, rfl⟩) zT_int (by decide) rfl (by decide) (show decode cX5_init 82 = _ by decide +kernel) (show decode cX5_init 84 = _ by decide +kernel) rfl (by decide) rfl (by decide +kernel) (by decide) (by decide) ?_
  refine w_Sh_init [6, 11, 16, 22, 30, 37, 45, 53, 60, 67, 75, 82, 89, 96] ?_
  refine ⟨trivial, ?_⟩
  refine n_arr (cp := pSh) (idx := 51) (ci := 5) (f := 12) (fin := true) (N := 4) hr hP PSh rfl (Or.inl ⟨rfl, rfl⟩) zT_int (by decide) rfl (by decide) (show decode cX5_init 89 = _ by decide +kernel) (show decode cX5_init 91 = _ by decide +kernel) rfl (by decide) rfl (by decide +kernel) (by decide) (by decide) ?_
  refine w_Sh_init [6, 11, 16, 22, 30, 37, 45, 53, 60, 67, 75, 82, 89, 96] ?_
  refine ⟨trivial, ?_⟩
  refine n_put (cp := pSh) (idx := 54) (ci := 5) (f := 13) (fl := 0) (fin := false) hr PSh rfl (show decode cX5_init 96 = _ by decide +kernel) rfl trivial (by decide) (by decide) ?_
  refine w_Sh_init [6, 11, 16, 22, 30, 37, 45, 53, 60, 67, 75, 82, 89, 96] ?_
  exact ⟨rfl, rfl⟩
theorem i_39 (hr : P.length = 39) (hP : zBS 39 P = true) : zRuns gPs_init (d + 1) [.ref 39] (P ++ [.inr (4, [.null, .int 0, .int 0])]) (fun v σ' => v = none ∧ σ' = P ++ [.inr (4, [.ref 40, .int 0, .int 0]),
  .inl (2, 30, .inr (.inr (.inr (.inr (fun j => if j < 30 then some (41 + j) else none))))),
  .inl (0, 55, .inl (fun _ => 0)),
  .inl (0, 55, .inl (fun _ => 0)),
  .inl (0, 55, .inl (fun _ => 0)),
  .inl (0, 55, .inl (fun _ => 0)),
  .inl (0, 55, .inl (fun _ => 0)),
  .inl (0, 55, .inl (fun _ => 0)),
  .inl (0, 55, .inl (fun _ => 0)),
  .inl (0, 55, .inl (fun _ => 0)),
  .inl (0, 55, .inl (fun _ => 0)),
  .inl (0, 55, .inl (fun _ => 0)),
  .inl (0, 55, .inl (fun _ => 0)),
  .inl (0, 55, .inl (fun _ => 0)),
  .inl (0, 55, .inl (fun _ => 0)),
  .inl (0, 55, .inl (fun _ => 0)),
  .inl (0, 55, .inl (fun _ => 0)),
  .inl (0, 55, .inl (fun _ => 0)),
  .inl (0, 55, .inl (fun _ => 0)),
  .inl (0, 55, .inl (fun _ => 0)),
  .inl (0, 55, .inl (fun _ => 0)),
  .inl (0, 55, .inl (fun _ => 0)),
  .inl (0, 55, .inl (fun _ => 0)),
  .inl (0, 55, .inl (fun _ => 0)),
  .inl (0, 55, .inl (fun _ => 0)),
  .inl (0, 55, .inl (fun _ => 0)),
  .inl (0, 55, .inl (fun _ => 0)),
  .inl (0, 55, .inl (fun _ => 0)),
  .inl (0, 55, .inl (fun _ => 0)),
  .inl (0, 55, .inl (fun _ => 0)),
  .inl (0, 55, .inl (fun _ => 0)),
  .inl (0, 55, .inl (fun _ => 0))]) := by
  have hl : (P ++ [(.inr (4, [.null, .int 0, .int 0]) : va_E)]).length = 40 := by rw [List.length_append, hr]; rfl
  have hb : (zBO (P ++ [(.inr (4, [.null, .int 0, .int 0]) : va_E)]).length [some (.ref 39)] && (zBL (P ++ [(.inr (4, [.null, .int 0, .int 0]) : va_E)]).length [.ref 39] && zBS (P ++ [(.inr (4, [.null, .int 0, .int 0]) : va_E)]).length (P ++ [(.inr (4, [.null, .int 0, .int 0]) : va_E)]))) = true := by
    rw [hl, zBS_app (zBS_mono (by decide) hP) (by decide +kernel)]; decide +kernel
  refine m_Ps_init [9, 13, 18, 23] rfl (Nat.le_of_ble_eq_true rfl) ?_
  refine ⟨trivial, ?_⟩
  refine s_mna (idx := 11) (N := 30) (K := 55) zT_rows (show decode cX4_init 9 = _ by decide +kernel) (by decide) (by decide) rfl rfl (by decide) (by decide) hb (by decide) (by decide) ?_
  rw [hl, List.append_assoc, List.singleton_append]
  refine n_put (cp := pPs) (idx := 13) (ci := 4) (f := 0) (fl := 2) (fin := true) hr PPs rfl (show decode cX4_init 13 = _ by decide +kernel) rfl trivial (by decide) (by decide) ?_
  refine w_Ps_init [9, 13, 18, 23] ?_
  refine ⟨trivial, ?_⟩
  refine n_put (cp := pPs) (idx := 18) (ci := 4) (f := 1) (fl := 0) (fin := false) hr PPs rfl (show decode cX4_init 18 = _ by decide +kernel) rfl trivial (by decide) (by decide) ?_
  refine w_Ps_init [9, 13, 18, 23] ?_
  refine ⟨trivial, ?_⟩
  refine n_put (cp := pPs) (idx := 22) (ci := 4) (f := 2) (fl := 0) (fin := false) hr PPs rfl (show decode cX4_init 23 = _ by decide +kernel) rfl trivial (by decide) (by decide) ?_
  refine w_Ps_init [9, 13, 18, 23] ?_
  exact ⟨rfl, rfl⟩
theorem i_71 (hr : P.length = 71) (hP : zBS 71 P = true) : zRuns gPa_init (d + 1) [.ref 71] (P ++ [.inr (3, [.null, .null, .null, .int 0, .null, .null, .int 0])]) (fun v σ' => v = none ∧ σ' = P ++ [.inr (3, [.ref 72, .ref 73, .ref 74, .int 0, .ref 75, .ref 76, .int 0]),
  .inl (0, 6, .inl (fun _ => 0)),
  .inl (0, 6, .inl (fun _ => 0)),
  .inl (0, 6, .inl (fun _ => 0)),
  .inl (0, 20, .inl (fun _ => 0)),
  .inl (0, 20, .inl (fun _ => 0))]) := by
  refine m_Pa_init [7, 15, 23, 30, 36, 44, 51] rfl (Nat.le_of_ble_eq_true rfl) ?_
  refine ⟨trivial, ?_⟩
  refine n_arr (cp := pPa) (idx := 9) (ci := 3) (f := 0) (fin := true) (N := 6) hr hP PPa rfl (Or.inl ⟨rfl, rfl⟩) zT_int (by decide) rfl (by decide) (show decode cX3_init 7 = _ by decide +kernel) (show decode cX3_init 9 = _ by decide +kernel) rfl (by decide) rfl (by decide +kernel) (by decide) (by decide) ?_
  refine w_Pa_init [7, 15, 23, 30, 36, 44, 51] ?_
  refine ⟨trivial, ?_⟩
  refine n_arr (cp := pPa) (idx := 15) (ci := 3) (f := 1) (fin := true) (N := 6) hr hP PPa rfl (Or.inl ⟨rfl, rfl⟩) zT_int (by decide) rfl (by decide) (show decode cX3_init 15 = _ by decide +kernel) (show decode cX3_init 17 = _ by decide +kernel) rfl (by decide) rfl (by decide +kernel) (by decide) (by decide) ?_
  refine w_Pa_init [7, 15, 23, 30, 36, 44, 51] ?_
  refine ⟨trivial, ?_⟩
  refine n_arr (cp := pPa) (idx := 18) (ci := 3) (f := 2) (fin := true) (N := 6) hr hP PPa rfl (Or.inl ⟨rfl, rfl⟩) zT_int (by decide) rfl (by decide) (show decode cX3_init 23 = _ by decide +kernel) (show decode cX3_init 25 = _ by decide +kernel) rfl (by decide) rfl (by decide +kernel) (by decide) (by decide) ?_
  refine w_Pa_init [7, 15, 23, 30, 36, 44, 51] ?_
  refine ⟨trivial, ?_⟩
  refine n_put (cp := pPa) (idx := 21) (ci := 3) (f := 3) (fl := 0) (fin := false) hr PPa rfl (show decode cX3_init 30 = _ by decide +kernel) rfl trivial (by decide) (by decide) ?_
  refine w_Pa_init [7, 15, 23, 30, 36, 44, 51] ?_
  refine ⟨trivial, ?_⟩
  refine n_arr (cp := pPa) (idx := 25) (ci := 3) (f := 4) (fin := true) (N := 20) hr hP PPa rfl (Or.inl ⟨rfl, rfl⟩) zT_int (by decide) rfl (by decide) (show decode cX3_init 36 = _ by decide +kernel) (show decode cX3_init 38 = _ by decide +kernel) rfl (by decide) rfl (by decide +kernel) (by decide) (by decide) ?_
  refine w_Pa_init [7, 15, 23, 30, 36, 44, 51] ?_
  refine ⟨trivial, ?_⟩
  refine n_arr (cp := pPa) (idx := 28) (ci := 3) (f := 5) (fin := true) (N := 20) hr hP PPa rfl (Or.inl ⟨rfl, rfl⟩) zT_int (by decide) rfl (by decide) (show decode cX3_init 44 = _ by decide +kernel) (show decode cX3_init 46 = _ by decide +kernel) rfl (by decide) rfl (by decide +kernel) (by decide) (by decide) ?_
  refine w_Pa_init [7, 15, 23, 30, 36, 44, 51] ?_
  refine ⟨trivial, ?_⟩
  refine n_put (cp := pPa) (idx := 31) (ci := 3) (f := 6) (fl := 0) (fin := false) hr PPa rfl (show decode cX3_init 51 = _ by decide +kernel) rfl trivial (by decide) (by decide) ?_
  refine w_Pa_init [7, 15, 23, 30, 36, 44, 51] ?_
  exact ⟨rfl, rfl⟩
theorem i_77 (hr : P.length = 77) (hP : zBS 77 P = true) : zRuns gIm_init (d + 1) [.ref 77] (P ++ [.inr (2, [.null, .int 0, .int 0])]) (fun v σ' => v = none ∧ σ' = P ++ [.inr (2, [.ref 78, .int 0, .int 0]),
  .inl (0, 55, .inl (fun _ => 0))]) := by
  refine m_Im_init [7, 14, 19] rfl (Nat.le_of_ble_eq_true rfl) ?_
  refine ⟨trivial, ?_⟩
  refine n_arr (cp := pIm) (idx := 9) (ci := 2) (f := 0) (fin := true) (N := 55) hr hP PIm rfl (Or.inl ⟨rfl, rfl⟩) zT_int (by decide) rfl (by decide) (show decode cX2_init 7 = _ by decide +kernel) (show decode cX2_init 9 = _ by decide +kernel) rfl (by decide) rfl (by decide +kernel) (by decide) (by decide) ?_
  refine w_Im_init [7, 14, 19] ?_
  refine ⟨trivial, ?_⟩
  refine n_put (cp := pIm) (idx := 15) (ci := 2) (f := 1) (fl := 0) (fin := false) hr PIm rfl (show decode cX2_init 14 = _ by decide +kernel) rfl trivial (by decide) (by decide) ?_
  refine w_Im_init [7, 14, 19] ?_
  refine ⟨trivial, ?_⟩
  refine n_put (cp := pIm) (idx := 19) (ci := 2) (f := 2) (fl := 1) (fin := false) hr PIm rfl (show decode cX2_init 19 = _ by decide +kernel) rfl ⟨Or.inl rfl, trivial⟩ (by decide) (by decide) ?_
  refine w_Im_init [7, 14, 19] ?_
  exact ⟨rfl, rfl⟩
theorem i_79 (hr : P.length = 79) (hP : zBS 79 P = true) : zRuns gIm_init (d + 1) [.ref 79] (P ++ [.inr (2, [.null, .int 0, .int 0])]) (fun v σ' => v = none ∧ σ' = P ++ [.inr (2, [.ref 80, .int 0, .int 0]),
  .inl (0, 55, .inl (fun _ => 0))]) := by
  refine m_Im_init [7, 14, 19] rfl (Nat.le_of_ble_eq_true rfl) ?_
  refine ⟨trivial, ?_⟩
  refine n_arr (cp := pIm) (idx := 9) (ci := 2) (f := 0) (fin := true) (N := 55) hr hP PIm rfl (Or.inl ⟨rfl, rfl⟩) zT_int (by decide) rfl (by decide) (show decode cX2_init 7 = _ by decide +kernel) (show decode cX2_init 9 = _ by decide +kernel) rfl (by decide) rfl (by decide +kernel) (by decide) (by decide) ?_
  refine w_Im_init [7, 14, 19] ?_
  refine ⟨trivial, ?_⟩
  refine n_put (cp := pIm) (idx := 15) (ci := 2) (f := 1) (fl := 0) (fin := false) hr PIm rfl (show decode cX2_init 14 = _ by decide +kernel) rfl trivial (by decide) (by decide) ?_
  refine w_Im_init [7, 14, 19] ?_
  refine ⟨trivial, ?_⟩
  refine n_put (cp := pIm) (idx := 19) (ci := 2) (f := 2) (fl := 1) (fin := false) hr PIm rfl (show decode cX2_init 19 = _ by decide +kernel) rfl ⟨Or.inl rfl, trivial⟩ (by decide) (by decide) ?_
  refine w_Im_init [7, 14, 19] ?_
  exact ⟨rfl, rfl⟩
end MK
