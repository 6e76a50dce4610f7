/-! the constructor of the reference -/
section MK2
variable {d : Nat}
def M0 : zS := fun c j => match c with
  | 0 => (match j with | 2 => -1 | _ => 0)
  | _ => 0
theorem c_M_init : zRuns gM_init (d + 1) [.ref 0] ([] ++ [.inr (9, [.null, .int 0, .int 0, .int 0, .int 0, .int 0, .int 0, .int 0, .null, .null, .null, .int 0, .int 0, .int 0, .int 0, .null, .null, .null, .null, .null, .int 0, .null, .null, .null, .int 0, .null, .int 0, .null, .int 0, .int 0, .int 0, .null, .null, .null, .null, .int 0])]) (fun v σ' => v = none ∧ σ' = encM M0) := by
  have hr : ([] : List va_E).length = 0 := rfl
  have hP : zBS 0 ([] : List va_E) = true := rfl
  refine m_M_init [8, 15, 21, 29, 37, 45, 53, 61, 69, 78, 86, 93, 100, 108, 116, 124, 131, 138, 145] rfl (Nat.le_of_ble_eq_true rfl) ?_
  refine ⟨trivial, ?_⟩
  refine n_arr (cp := pM) (idx := 7) (ci := 9) (f := 0) (fin := true) (N := 230) hr hP PM rfl (Or.inl ⟨rfl, rfl⟩) zT_int (by decide) rfl (by decide) (show decode cX9_init 8 = _ by decide +kernel) (show decode cX9_init 10 = _ by decide +kernel) rfl (by decide) rfl (by decide +kernel) (by decide) (by decide) ?_
  refine w_M_init [8, 15, 21, 29, 37, 45, 53, 61, 69, 78, 86, 93, 100, 108, 116, 124, 131, 138, 145] ?_
  refine ⟨trivial, ?_⟩
  refine n_put (cp := pM) (idx := 13) (ci := 9) (f := 2) (fl := 0) (fin := false) hr PM rfl (show decode cX9_init 15 = _ by decide +kernel) rfl trivial (by decide) (by decide) ?_
  refine w_M_init [8, 15, 21, 29, 37, 45, 53, 61, 69, 78, 86, 93, 100, 108, 116, 124, 131, 138, 145] ?_
  refine ⟨trivial, ?_⟩
  refine n_arr (cp := pM) (idx := 17) (ci := 9) (f := 8) (fin := true) (N := 21) hr hP PM rfl (Or.inl ⟨rfl, rfl⟩) zT_int (by decide) rfl (by decide) (show decode cX9_init 21 = _ by decide +kernel) (show decode cX9_init 23 = _ by decide +kernel) rfl (by decide) rfl (by decide +kernel) (by decide) (by decide) ?_
  refine w_M_init [8, 15, 21, 29, 37, 45, 53, 61, 69, 78, 86, 93, 100, 108, 116, 124, 131, 138, 145] ?_
  refine ⟨trivial, ?_⟩
  refine n_arr (cp := pM) (idx := 20) (ci := 9) (f := 9) (fin := true) (N := 42) hr hP PM rfl (Or.inl ⟨rfl, rfl⟩) zT_int (by decide) rfl (by decide) (show decode cX9_init 29 = _ by decide +kernel) (show decode cX9_init 31 = _ by decide +kernel) rfl (by decide) rfl (by decide +kernel) (by decide) (by decide) ?_
  refine w_M_init [8, 15, 21, 29, 37, 45, 53, 61, 69, 78, 86, 93, 100, 108, 116, 124, 131, 138, 145] ?_
  refine ⟨trivial, ?_⟩
  refine n_arr (cp := pM) (idx := 23) (ci := 9) (f := 10) (fin := true) (N := 24) hr hP PM rfl (Or.inl ⟨rfl, rfl⟩) zT_int (by decide) rfl (by decide) (show decode cX9_init 37 = _ by decide +kernel) (show decode cX9_init 39 = _ by decide +kernel) rfl (by decide) rfl (by decide +kernel) (by decide) (by decide) ?_
  refine w_M_init [8, 15, 21, 29, 37, 45, 53, 61, 69, 78, 86, 93, 100, 108, 116, 124, 131, 138, 145] ?_
  refine ⟨trivial, ?_⟩
  refine n_arr (cp := pM) (idx := 26) (ci := 9) (f := 15) (fin := true) (N := 21) hr hP PM rfl (Or.inl ⟨rfl, rfl⟩) zT_int (by decide) rfl (by decide) (show decode cX9_init 45 = _ by decide +kernel) (show decode cX9_init 47 = _ by decide +kernel) rfl (by decide) rfl (by decide +kernel) (by decide) (by decide) ?_
  refine w_M_init [8, 15, 21, 29, 37, 45, 53, 61, 69, 78, 86, 93, 100, 108, 116, 124, 131, 138, 145] ?_
  refine ⟨trivial, ?_⟩
  refine n_arr (cp := pM) (idx := 29) (ci := 9) (f := 16) (fin := true) (N := 42) hr hP PM rfl (Or.inl ⟨rfl, rfl⟩) zT_int (by decide) rfl (by decide) (show decode cX9_init 53 = _ by decide +kernel) (show decode cX9_init 55 = _ by decide +kernel) rfl (by decide) rfl (by decide +kernel) (by decide) (by decide) ?_
  refine w_M_init [8, 15, 21, 29, 37, 45, 53, 61, 69, 78, 86, 93, 100, 108, 116, 124, 131, 138, 145] ?_
  refine ⟨trivial, ?_⟩
  refine n_arr (cp := pM) (idx := 32) (ci := 9) (f := 17) (fin := true) (N := 24) hr hP PM rfl (Or.inl ⟨rfl, rfl⟩) zT_int (by decide) rfl (by decide) (show decode cX9_init 61 = _ by decide +kernel) (show decode cX9_init 63 = _ by decide +kernel) rfl (by decide) rfl (by decide +kernel) (by decide) (by decide) ?_
  refine w_M_init [8, 15, 21, 29, 37, 45, 53, 61, 69, 78, 86, 93, 100, 108, 116, 124, 131, 138, 145] ?_
  refine ⟨trivial, ?_⟩
  refine n_arr (cp := pM) (idx := 35) (ci := 9) (f := 18) (fin := true) (N := 55) hr hP PM rfl (Or.inl ⟨rfl, rfl⟩) zT_int (by decide) rfl (by decide) (show decode cX9_init 69 = _ by decide +kernel) (show decode cX9_init 71 = _ by decide +kernel) rfl (by decide) rfl (by decide +kernel) (by decide) (by decide) ?_
  refine w_M_init [8, 15, 21, 29, 37, 45, 53, 61, 69, 78, 86, 93, 100, 108, 116, 124, 131, 138, 145] ?_
  refine ⟨trivial, ?_⟩
  refine n_arr (cp := pM) (idx := 38) (ci := 9) (f := 19) (fin := true) (N := 1650) hr hP PM rfl (Or.inl ⟨rfl, rfl⟩) zT_int (by decide) rfl (by decide) (show decode cX9_init 78 = _ by decide +kernel) (show decode cX9_init 80 = _ by decide +kernel) rfl (by decide) rfl (by decide +kernel) (by decide) (by decide) ?_
  refine w_M_init [8, 15, 21, 29, 37, 45, 53, 61, 69, 78, 86, 93, 100, 108, 116, 124, 131, 138, 145] ?_
  refine ⟨trivial, ?_⟩
  refine n_arr (cp := pM) (idx := 41) (ci := 9) (f := 21) (fin := true) (N := 110) hr hP PM rfl (Or.inl ⟨rfl, rfl⟩) zT_int (by decide) rfl (by decide) (show decode cX9_init 86 = _ by decide +kernel) (show decode cX9_init 88 = _ by decide +kernel) rfl (by decide) rfl (by decide +kernel) (by decide) (by decide) ?_
  refine w_M_init [8, 15, 21, 29, 37, 45, 53, 61, 69, 78, 86, 93, 100, 108, 116, 124, 131, 138, 145] ?_
  refine ⟨trivial, ?_⟩
  refine n_arr (cp := pM) (idx := 44) (ci := 9) (f := 22) (fin := true) (N := 2) hr hP PM rfl (Or.inl ⟨rfl, rfl⟩) zT_int (by decide) rfl (by decide) (show decode cX9_init 93 = _ by decide +kernel) (show decode cX9_init 95 = _ by decide +kernel) rfl (by decide) rfl (by decide +kernel) (by decide) (by decide) ?_
  refine w_M_init [8, 15, 21, 29, 37, 45, 53, 61, 69, 78, 86, 93, 100, 108, 116, 124, 131, 138, 145] ?_
  refine ⟨trivial, ?_⟩
  refine n_arr (cp := pM) (idx := 47) (ci := 9) (f := 23) (fin := true) (N := 2) hr hP PM rfl (Or.inr ⟨rfl, rfl⟩) zT_bool (by decide) rfl (by decide) (show decode cX9_init 100 = _ by decide +kernel) (show decode cX9_init 102 = _ by decide +kernel) rfl (by decide) rfl (by decide +kernel) (by decide) (by decide) ?_
  refine w_M_init [8, 15, 21, 29, 37, 45, 53, 61, 69, 78, 86, 93, 100, 108, 116, 124, 131, 138, 145] ?_
  refine ⟨trivial, ?_⟩
  refine n_arr (cp := pM) (idx := 51) (ci := 9) (f := 25) (fin := true) (N := 18) hr hP PM rfl (Or.inl ⟨rfl, rfl⟩) zT_int (by decide) rfl (by decide) (show decode cX9_init 108 = _ by decide +kernel) (show decode cX9_init 110 = _ by decide +kernel) rfl (by decide) rfl (by decide +kernel) (by decide) (by decide) ?_
  refine w_M_init [8, 15, 21, 29, 37, 45, 53, 61, 69, 78, 86, 93, 100, 108, 116, 124, 131, 138, 145] ?_
  refine ⟨trivial, ?_⟩
  refine n_arr (cp := pM) (idx := 54) (ci := 9) (f := 27) (fin := true) (N := 40) hr hP PM rfl (Or.inl ⟨rfl, rfl⟩) zT_int (by decide) rfl (by decide) (show decode cX9_init 116 = _ by decide +kernel) (show decode cX9_init 118 = _ by decide +kernel) rfl (by decide) rfl (by decide +kernel) (by decide) (by decide) ?_
  refine w_M_init [8, 15, 21, 29, 37, 45, 53, 61, 69, 78, 86, 93, 100, 108, 116, 124, 131, 138, 145] ?_
  refine ⟨trivial, ?_⟩
  refine n_arr (cp := pM) (idx := 57) (ci := 9) (f := 31) (fin := true) (N := 92) hr hP PM rfl (Or.inl ⟨rfl, rfl⟩) zT_int (by decide) rfl (by decide) (show decode cX9_init 124 = _ by decide +kernel) (show decode cX9_init 126 = _ by decide +kernel) rfl (by decide) rfl (by decide +kernel) (by decide) (by decide) ?_
  refine w_M_init [8, 15, 21, 29, 37, 45, 53, 61, 69, 78, 86, 93, 100, 108, 116, 124, 131, 138, 145] ?_
  refine ⟨trivial, ?_⟩
  refine n_arr (cp := pM) (idx := 60) (ci := 9) (f := 32) (fin := true) (N := 4) hr hP PM rfl (Or.inl ⟨rfl, rfl⟩) zT_int (by decide) rfl (by decide) (show decode cX9_init 131 = _ by decide +kernel) (show decode cX9_init 133 = _ by decide +kernel) rfl (by decide) rfl (by decide +kernel) (by decide) (by decide) ?_
  refine w_M_init [8, 15, 21, 29, 37, 45, 53, 61, 69, 78, 86, 93, 100, 108, 116, 124, 131, 138, 145] ?_
  refine ⟨trivial, ?_⟩
  refine n_arr (cp := pM) (idx := 63) (ci := 9) (f := 33) (fin := true) (N := 4) hr hP PM rfl (Or.inl ⟨rfl, rfl⟩) zT_int (by decide) rfl (by decide) (show decode cX9_init 138 = _ by decide +kernel) (show decode cX9_init 140 = _ by decide +kernel) rfl (by decide) rfl (by decide +kernel) (by decide) (by decide) ?_
  refine w_M_init [8, 15, 21, 29, 37, 45, 53, 61, 69, 78, 86, 93, 100, 108, 116, 124, 131, 138, 145] ?_
  refine ⟨trivial, ?_⟩
  refine n_arr (cp := pM) (idx := 66) (ci := 9) (f := 34) (fin := true) (N := 4) hr hP PM rfl (Or.inl ⟨rfl, rfl⟩) zT_int (by decide) rfl (by decide) (show decode cX9_init 145 = _ by decide +kernel) (show decode cX9_init 147 = _ by decide +kernel) rfl (by decide) rfl (by decide +kernel) (by decide) (by decide) ?_
  refine w_M_init [8, 15, 21, 29, 37, 45, 53, 61, 69, 78, 86, 93, 100, 108, 116, 124, 131, 138, 145] ?_
  exact ⟨rfl, rfl⟩
end MK2
