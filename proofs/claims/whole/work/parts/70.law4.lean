/-! the law: its thirty cases -/
section LK
variable {p : Program} {l : Launch} {e : Env} {s : State} {m : MethodId} {below : List Frame} {meth : Method} {c : Code} {b L : Nat} {xs : Nat → Int32} {cs : ClassId × ClassId × ClassId} {D : va_G} {S M : zS} {i : Int32} {j : Nat}
theorem k_feed (C0 : lw_At p s m meth c b L xs) (hL : L ≤ 256) (hK : zK cs D s) (h : Inv S M) (hi : i = nI j) (hj : j + 3 < L) (next : ∀ S' M', Inv S' M' → lG p l e s m below meth c b cs D 928 i S' M') : lG p l e s m below meth c b cs D 168 i S M := by
  intro ad ad2 H locs lr hP hD hS hl
  obtain ⟨hx, hb, hr, hml, hown, hts, hX, hbl, hlocks, hgv⟩ := id C0
  obtain ⟨QB, QM, hB, hM, hq⟩ := p_feed h (a := xs (j + 1))
  refine lv_aload_n hx hb (show decode code 168 = .ok (.aload_n 1, 1) by decide +kernel) rfl (lv_at hl 1 rfl) ?_
  refine l_arg C0 hL hS hl hi (k := 1) (by omega) (by decide) (show decode code 169 = _ by decide +kernel) (show decode code 170 = _ by decide +kernel) (show decode code 171 = _ by decide +kernel) (show decode code 172 = _ by decide +kernel) (show decode code 173 = _ by decide +kernel) ?_
  refine l_call (kind := 0) (idx := 13) (n := 2) (ci := 8) (σ := encC S) (r := zW cs ad2 (encM M)) (ad := ad) (k0 := 0) (As := [.int (xs (j + 1))]) (av := [.ref 0, .int (xs (j + 1))]) (rest := []) C0 hK zm_B_feed (Or.inl rfl) (show decode code 174 = _ by decide +kernel) rfl rfl rfl (by decide) (by decide) (cells := 100) (slots := 5048) ⟨by decide, by decide⟩ hl.1 hB hP hD hS (fun v ad' σ' H1 locs1 q1 q2 q3 hP1 hD1 hS1 => ?_)
  have e1 := q2 rfl
  subst e1
  refine lv_aload_n hx hb (show decode code 177 = .ok (.aload_n 2, 1) by decide +kernel) rfl (lv_at hl 2 rfl) ?_
  refine l_arg C0 hL hS1 hl hi (k := 1) (by omega) (by decide) (show decode code 178 = _ by decide +kernel) (show decode code 179 = _ by decide +kernel) (show decode code 180 = _ by decide +kernel) (show decode code 181 = _ by decide +kernel) (show decode code 182 = _ by decide +kernel) ?_
  refine l_call (kind := 0) (idx := 17) (n := 2) (ci := 9) (σ := encM M) (r := zW cs ad' σ') (ad := ad2) (k0 := 0) (As := [.int (xs (j + 1))]) (av := [.ref 0, .int (xs (j + 1))]) (rest := (v.map (zRe ad')).toList ++ []) C0 hK zm_M_feed (Or.inl rfl) (show decode code 183 = _ by decide +kernel) rfl rfl rfl l_cat (by decide) (cells := 100) (slots := 5048) ⟨by decide, by decide⟩ hl.1 hM (lP_sw hP1) (lD_sw hD1) hS1 (fun v2 ad2' σ2 H2 locs2 r1 r2 r3 hP2 hD2 hS2 => ?_)
  have e2 := r2 rfl
  subst e2
  obtain ⟨x, S', M', rfl, rfl, rfl, rfl, hI⟩ := hq _ _ _ _ q1 r1
  refine lv_icmp_eq (tgt := 928) hx hb (show decode code 186 = .ok (.if_icmp .eq 742, 3) by decide +kernel) (by decide) (fun _ => ?_) (fun h => absurd rfl h)
  exact next S' M' hI _ _ H2 locs2 lr (lP_sw hP2) (lD_sw hD2) hS2 hl
theorem k_town (C0 : lw_At p s m meth c b L xs) (hL : L ≤ 256) (hK : zK cs D s) (h : Inv S M) (hi : i = nI j) (hj : j + 3 < L) (next : ∀ S' M', Inv S' M' → lG p l e s m below meth c b cs D 928 i S' M') : lG p l e s m below meth c b cs D 191 i S M := by
  intro ad ad2 H locs lr hP hD hS hl
  obtain ⟨hx, hb, hr, hml, hown, hts, hX, hbl, hlocks, hgv⟩ := id C0
  obtain ⟨QB, QM, hB, hM, hq⟩ := p_town h 
  refine lv_aload_n hx hb (show decode code 191 = .ok (.aload_n 1, 1) by decide +kernel) rfl (lv_at hl 1 rfl) ?_
  refine l_call (kind := 0) (idx := 18) (n := 1) (ci := 8) (σ := encC S) (r := zW cs ad2 (encM M)) (ad := ad) (k0 := 0) (As := []) (av := [.ref 0]) (rest := []) C0 hK zm_B_town (Or.inl rfl) (show decode code 192 = _ by decide +kernel) rfl rfl rfl (by decide) (by decide) (cells := 100) (slots := 5048) ⟨by decide, by decide⟩ hl.1 hB hP hD hS (fun v ad' σ' H1 locs1 q1 q2 q3 hP1 hD1 hS1 => ?_)
  have e1 := q2 rfl
  subst e1
  refine lv_aload_n hx hb (show decode code 195 = .ok (.aload_n 2, 1) by decide +kernel) rfl (lv_at hl 2 rfl) ?_
  refine l_call (kind := 0) (idx := 22) (n := 1) (ci := 9) (σ := encM M) (r := zW cs ad' σ') (ad := ad2) (k0 := 0) (As := []) (av := [.ref 0]) (rest := (v.map (zRe ad')).toList ++ []) C0 hK zm_M_town (Or.inl rfl) (show decode code 196 = _ by decide +kernel) rfl rfl rfl l_cat (by decide) (cells := 100) (slots := 5048) ⟨by decide, by decide⟩ hl.1 hM (lP_sw hP1) (lD_sw hD1) hS1 (fun v2 ad2' σ2 H2 locs2 r1 r2 r3 hP2 hD2 hS2 => ?_)
  have e2 := r2 rfl
  subst e2
  obtain ⟨x, S', M', rfl, rfl, rfl, rfl, hI⟩ := hq _ _ _ _ q1 r1
  refine lv_icmp_eq (tgt := 928) hx hb (show decode code 199 = .ok (.if_icmp .eq 729, 3) by decide +kernel) (by decide) (fun _ => ?_) (fun h => absurd rfl h)
  exact next S' M' hI _ _ H2 locs2 lr (lP_sw hP2) (lD_sw hD2) hS2 hl
theorem k_fault (C0 : lw_At p s m meth c b L xs) (hL : L ≤ 256) (hK : zK cs D s) (h : Inv S M) (hi : i = nI j) (hj : j + 3 < L) (next : ∀ S' M', Inv S' M' → lG p l e s m below meth c b cs D 928 i S' M') : lG p l e s m below meth c b cs D 204 i S M := by
  intro ad ad2 H locs lr hP hD hS hl
  obtain ⟨hx, hb, hr, hml, hown, hts, hX, hbl, hlocks, hgv⟩ := id C0
  obtain ⟨QB, QM, hB, hM, hq⟩ := p_fault h 
  refine lv_aload_n hx hb (show decode code 204 = .ok (.aload_n 1, 1) by decide +kernel) rfl (lv_at hl 1 rfl) ?_
  refine l_call (kind := 0) (idx := 23) (n := 1) (ci := 8) (σ := encC S) (r := zW cs ad2 (encM M)) (ad := ad) (k0 := 0) (As := []) (av := [.ref 0]) (rest := []) C0 hK zm_B_fault (Or.inl rfl) (show decode code 205 = _ by decide +kernel) rfl rfl rfl (by decide) (by decide) (cells := 100) (slots := 5048) ⟨by decide, by decide⟩ hl.1 hB hP hD hS (fun v ad' σ' H1 locs1 q1 q2 q3 hP1 hD1 hS1 => ?_)
  have e1 := q2 rfl
  subst e1
  refine lv_aload_n hx hb (show decode code 208 = .ok (.aload_n 2, 1) by decide +kernel) rfl (lv_at hl 2 rfl) ?_
  refine l_call (kind := 0) (idx := 26) (n := 1) (ci := 9) (σ := encM M) (r := zW cs ad' σ') (ad := ad2) (k0 := 0) (As := []) (av := [.ref 0]) (rest := (v.map (zRe ad')).toList ++ []) C0 hK zm_M_fault (Or.inl rfl) (show decode code 209 = _ by decide +kernel) rfl rfl rfl l_cat (by decide) (cells := 100) (slots := 5048) ⟨by decide, by decide⟩ hl.1 hM (lP_sw hP1) (lD_sw hD1) hS1 (fun v2 ad2' σ2 H2 locs2 r1 r2 r3 hP2 hD2 hS2 => ?_)
  have e2 := r2 rfl
  subst e2
  obtain ⟨x, S', M', rfl, rfl, rfl, rfl, hI⟩ := hq _ _ _ _ q1 r1
  refine lv_icmp_eq (tgt := 928) hx hb (show decode code 212 = .ok (.if_icmp .eq 716, 3) by decide +kernel) (by decide) (fun _ => ?_) (fun h => absurd rfl h)
  exact next S' M' hI _ _ H2 locs2 lr (lP_sw hP2) (lD_sw hD2) hS2 hl
theorem k_told (C0 : lw_At p s m meth c b L xs) (hL : L ≤ 256) (hK : zK cs D s) (h : Inv S M) (hi : i = nI j) (hj : j + 3 < L) (next : ∀ S' M', Inv S' M' → lG p l e s m below meth c b cs D 928 i S' M') : lG p l e s m below meth c b cs D 217 i S M := by
  intro ad ad2 H locs lr hP hD hS hl
  obtain ⟨hx, hb, hr, hml, hown, hts, hX, hbl, hlocks, hgv⟩ := id C0
  obtain ⟨QB, QM, hB, hM, hq⟩ := p_told h (a := xs (j + 1))
  refine lv_aload_n hx hb (show decode code 217 = .ok (.aload_n 1, 1) by decide +kernel) rfl (lv_at hl 1 rfl) ?_
  refine l_arg C0 hL hS hl hi (k := 1) (by omega) (by decide) (show decode code 218 = _ by decide +kernel) (show decode code 219 = _ by decide +kernel) (show decode code 220 = _ by decide +kernel) (show decode code 221 = _ by decide +kernel) (show decode code 222 = _ by decide +kernel) ?_
  refine l_call (kind := 0) (idx := 27) (n := 2) (ci := 8) (σ := encC S) (r := zW cs ad2 (encM M)) (ad := ad) (k0 := 0) (As := [.int (xs (j + 1))]) (av := [.ref 0, .int (xs (j + 1))]) (rest := []) C0 hK zm_B_told (Or.inl rfl) (show decode code 223 = _ by decide +kernel) rfl rfl rfl (by decide) (by decide) (cells := 100) (slots := 5048) ⟨by decide, by decide⟩ hl.1 hB hP hD hS (fun v ad' σ' H1 locs1 q1 q2 q3 hP1 hD1 hS1 => ?_)
  have e1 := q2 rfl
  subst e1
  refine lv_aload_n hx hb (show decode code 226 = .ok (.aload_n 2, 1) by decide +kernel) rfl (lv_at hl 2 rfl) ?_
  refine l_arg C0 hL hS1 hl hi (k := 1) (by omega) (by decide) (show decode code 227 = _ by decide +kernel) (show decode code 228 = _ by decide +kernel) (show decode code 229 = _ by decide +kernel) (show decode code 230 = _ by decide +kernel) (show decode code 231 = _ by decide +kernel) ?_
  refine l_call (kind := 0) (idx := 30) (n := 2) (ci := 9) (σ := encM M) (r := zW cs ad' σ') (ad := ad2) (k0 := 0) (As := [.int (xs (j + 1))]) (av := [.ref 0, .int (xs (j + 1))]) (rest := (v.map (zRe ad')).toList ++ []) C0 hK zm_M_told (Or.inl rfl) (show decode code 232 = _ by decide +kernel) rfl rfl rfl l_cat (by decide) (cells := 100) (slots := 5048) ⟨by decide, by decide⟩ hl.1 hM (lP_sw hP1) (lD_sw hD1) hS1 (fun v2 ad2' σ2 H2 locs2 r1 r2 r3 hP2 hD2 hS2 => ?_)
  have e2 := r2 rfl
  subst e2
  obtain ⟨x, S', M', rfl, rfl, rfl, rfl, hI⟩ := hq _ _ _ _ q1 r1
  refine lv_icmp_eq (tgt := 928) hx hb (show decode code 235 = .ok (.if_icmp .eq 693, 3) by decide +kernel) (by decide) (fun _ => ?_) (fun h => absurd rfl h)
  exact next S' M' hI _ _ H2 locs2 lr (lP_sw hP2) (lD_sw hD2) hS2 hl
theorem k_man (C0 : lw_At p s m meth c b L xs) (hL : L ≤ 256) (hK : zK cs D s) (h : Inv S M) (hi : i = nI j) (hj : j + 3 < L) (next : ∀ S' M', Inv S' M' → lG p l e s m below meth c b cs D 928 i S' M') : lG p l e s m below meth c b cs D 240 i S M := by
  intro ad ad2 H locs lr hP hD hS hl
  obtain ⟨hx, hb, hr, hml, hown, hts, hX, hbl, hlocks, hgv⟩ := id C0
  obtain ⟨QB, QM, hB, hM, hq⟩ := p_man h (a := xs (j + 1)) (b := xs (j + 2))
  refine lv_aload_n hx hb (show decode code 240 = .ok (.aload_n 1, 1) by decide +kernel) rfl (lv_at hl 1 rfl) ?_
  refine l_arg C0 hL hS hl hi (k := 1) (by omega) (by decide) (show decode code 241 = _ by decide +kernel) (show decode code 242 = _ by decide +kernel) (show decode code 243 = _ by decide +kernel) (show decode code 244 = _ by decide +kernel) (show decode code 245 = _ by decide +kernel) ?_
  refine l_arg C0 hL hS hl hi (k := 2) (by omega) (by decide) (show decode code 246 = _ by decide +kernel) (show decode code 247 = _ by decide +kernel) (show decode code 248 = _ by decide +kernel) (show decode code 249 = _ by decide +kernel) (show decode code 250 = _ by decide +kernel) ?_
  refine l_call (kind := 0) (idx := 31) (n := 3) (ci := 8) (σ := encC S) (r := zW cs ad2 (encM M)) (ad := ad) (k0 := 0) (As := [.int (xs (j + 1)), .int (xs (j + 2))]) (av := [.ref 0, .int (xs (j + 1)), .int (xs (j + 2))]) (rest := []) C0 hK zm_B_man (Or.inl rfl) (show decode code 251 = _ by decide +kernel) rfl rfl rfl (by decide) (by decide) (cells := 100) (slots := 5048) ⟨by decide, by decide⟩ hl.1 hB hP hD hS (fun v ad' σ' H1 locs1 q1 q2 q3 hP1 hD1 hS1 => ?_)
  have e1 := q2 rfl
  subst e1
  refine lv_aload_n hx hb (show decode code 254 = .ok (.aload_n 2, 1) by decide +kernel) rfl (lv_at hl 2 rfl) ?_
  refine l_arg C0 hL hS1 hl hi (k := 1) (by omega) (by decide) (show decode code 255 = _ by decide +kernel) (show decode code 256 = _ by decide +kernel) (show decode code 257 = _ by decide +kernel) (show decode code 258 = _ by decide +kernel) (show decode code 259 = _ by decide +kernel) ?_
  refine l_arg C0 hL hS1 hl hi (k := 2) (by omega) (by decide) (show decode code 260 = _ by decide +kernel) (show decode code 261 = _ by decide +kernel) (show decode code 262 = _ by decide +kernel) (show decode code 263 = _ by decide +kernel) (show decode code 264 = _ by decide +kernel) ?_
  refine l_call (kind := 0) (idx := 35) (n := 3) (ci := 9) (σ := encM M) (r := zW cs ad' σ') (ad := ad2) (k0 := 0) (As := [.int (xs (j + 1)), .int (xs (j + 2))]) (av := [.ref 0, .int (xs (j + 1)), .int (xs (j + 2))]) (rest := (v.map (zRe ad')).toList ++ []) C0 hK zm_M_man (Or.inl rfl) (show decode code 265 = _ by decide +kernel) rfl rfl rfl l_cat (by decide) (cells := 100) (slots := 5048) ⟨by decide, by decide⟩ hl.1 hM (lP_sw hP1) (lD_sw hD1) hS1 (fun v2 ad2' σ2 H2 locs2 r1 r2 r3 hP2 hD2 hS2 => ?_)
  have e2 := r2 rfl
  subst e2
  obtain ⟨x, S', M', rfl, rfl, rfl, rfl, hI⟩ := hq _ _ _ _ q1 r1
  refine lv_icmp_eq (tgt := 928) hx hb (show decode code 268 = .ok (.if_icmp .eq 660, 3) by decide +kernel) (by decide) (fun _ => ?_) (fun h => absurd rfl h)
  exact next S' M' hI _ _ H2 locs2 lr (lP_sw hP2) (lD_sw hD2) hS2 hl
theorem k_mishap (C0 : lw_At p s m meth c b L xs) (hL : L ≤ 256) (hK : zK cs D s) (h : Inv S M) (hi : i = nI j) (hj : j + 3 < L) (next : ∀ S' M', Inv S' M' → lG p l e s m below meth c b cs D 928 i S' M') : lG p l e s m below meth c b cs D 273 i S M := by
  intro ad ad2 H locs lr hP hD hS hl
  obtain ⟨hx, hb, hr, hml, hown, hts, hX, hbl, hlocks, hgv⟩ := id C0
  obtain ⟨QB, QM, hB, hM, hq⟩ := p_mishap h (a := xs (j + 1)) (b := xs (j + 2))
  refine lv_aload_n hx hb (show decode code 273 = .ok (.aload_n 1, 1) by decide +kernel) rfl (lv_at hl 1 rfl) ?_
  refine l_arg C0 hL hS hl hi (k := 1) (by omega) (by decide) (show decode code 274 = _ by decide +kernel) (show decode code 275 = _ by decide +kernel) (show decode code 276 = _ by decide +kernel) (show decode code 277 = _ by decide +kernel) (show decode code 278 = _ by decide +kernel) ?_
  refine l_arg C0 hL hS hl hi (k := 2) (by omega) (by decide) (show decode code 279 = _ by decide +kernel) (show decode code 280 = _ by decide +kernel) (show decode code 281 = _ by decide +kernel) (show decode code 282 = _ by decide +kernel) (show decode code 283 = _ by decide +kernel) ?_
  refine l_call (kind := 0) (idx := 36) (n := 3) (ci := 8) (σ := encC S) (r := zW cs ad2 (encM M)) (ad := ad) (k0 := 0) (As := [.int (xs (j + 1)), .int (xs (j + 2))]) (av := [.ref 0, .int (xs (j + 1)), .int (xs (j + 2))]) (rest := []) C0 hK zm_B_mishap (Or.inl rfl) (show decode code 284 = _ by decide +kernel) rfl rfl rfl (by decide) (by decide) (cells := 100) (slots := 5048) ⟨by decide, by decide⟩ hl.1 hB hP hD hS (fun v ad' σ' H1 locs1 q1 q2 q3 hP1 hD1 hS1 => ?_)
  have e1 := q2 rfl
  subst e1
  refine lv_aload_n hx hb (show decode code 287 = .ok (.aload_n 2, 1) by decide +kernel) rfl (lv_at hl 2 rfl) ?_
  refine l_arg C0 hL hS1 hl hi (k := 1) (by omega) (by decide) (show decode code 288 = _ by decide +kernel) (show decode code 289 = _ by decide +kernel) (show decode code 290 = _ by decide +kernel) (show decode code 291 = _ by decide +kernel) (show decode code 292 = _ by decide +kernel) ?_
  refine l_arg C0 hL hS1 hl hi (k := 2) (by omega) (by decide) (show decode code 293 = _ by decide +kernel) (show decode code 294 = _ by decide +kernel) (show decode code 295 = _ by decide +kernel) (show decode code 296 = _ by decide +kernel) (show decode code 297 = _ by decide +kernel) ?_
  refine l_call (kind := 0) (idx := 39) (n := 3) (ci := 9) (σ := encM M) (r := zW cs ad' σ') (ad := ad2) (k0 := 0) (As := [.int (xs (j + 1)), .int (xs (j + 2))]) (av := [.ref 0, .int (xs (j + 1)), .int (xs (j + 2))]) (rest := (v.map (zRe ad')).toList ++ []) C0 hK zm_M_mishap (Or.inl rfl) (show decode code 298 = _ by decide +kernel) rfl rfl rfl l_cat (by decide) (cells := 100) (slots := 5048) ⟨by decide, by decide⟩ hl.1 hM (lP_sw hP1) (lD_sw hD1) hS1 (fun v2 ad2' σ2 H2 locs2 r1 r2 r3 hP2 hD2 hS2 => ?_)
  have e2 := r2 rfl
  subst e2
  obtain ⟨x, S', M', rfl, rfl, rfl, rfl, hI⟩ := hq _ _ _ _ q1 r1
  refine lv_icmp_eq (tgt := 928) hx hb (show decode code 301 = .ok (.if_icmp .eq 627, 3) by decide +kernel) (by decide) (fun _ => ?_) (fun h => absurd rfl h)
  exact next S' M' hI _ _ H2 locs2 lr (lP_sw hP2) (lD_sw hD2) hS2 hl
theorem k_belief (C0 : lw_At p s m meth c b L xs) (hL : L ≤ 256) (hK : zK cs D s) (h : Inv S M) (hi : i = nI j) (hj : j + 3 < L) (next : ∀ S' M', Inv S' M' → lG p l e s m below meth c b cs D 928 i S' M') : lG p l e s m below meth c b cs D 306 i S M := by
  intro ad ad2 H locs lr hP hD hS hl
  obtain ⟨hx, hb, hr, hml, hown, hts, hX, hbl, hlocks, hgv⟩ := id C0
  obtain ⟨QB, QM, hB, hM, hq⟩ := p_belief h (a := xs (j + 1)) (b := xs (j + 2))
  refine lv_aload_n hx hb (show decode code 306 = .ok (.aload_n 1, 1) by decide +kernel) rfl (lv_at hl 1 rfl) ?_
  refine l_arg C0 hL hS hl hi (k := 1) (by omega) (by decide) (show decode code 307 = _ by decide +kernel) (show decode code 308 = _ by decide +kernel) (show decode code 309 = _ by decide +kernel) (show decode code 310 = _ by decide +kernel) (show decode code 311 = _ by decide +kernel) ?_
  refine l_arg C0 hL hS hl hi (k := 2) (by omega) (by decide) (show decode code 312 = _ by decide +kernel) (show decode code 313 = _ by decide +kernel) (show decode code 314 = _ by decide +kernel) (show decode code 315 = _ by decide +kernel) (show decode code 316 = _ by decide +kernel) ?_
  refine l_call (kind := 0) (idx := 40) (n := 3) (ci := 8) (σ := encC S) (r := zW cs ad2 (encM M)) (ad := ad) (k0 := 0) (As := [.int (xs (j + 1)), .int (xs (j + 2))]) (av := [.ref 0, .int (xs (j + 1)), .int (xs (j + 2))]) (rest := []) C0 hK zm_B_belief (Or.inl rfl) (show decode code 317 = _ by decide +kernel) rfl rfl rfl (by decide) (by decide) (cells := 100) (slots := 5048) ⟨by decide, by decide⟩ hl.1 hB hP hD hS (fun v ad' σ' H1 locs1 q1 q2 q3 hP1 hD1 hS1 => ?_)
  have e1 := q2 rfl
  subst e1
  refine lv_aload_n hx hb (show decode code 320 = .ok (.aload_n 2, 1) by decide +kernel) rfl (lv_at hl 2 rfl) ?_
  refine l_arg C0 hL hS1 hl hi (k := 1) (by omega) (by decide) (show decode code 321 = _ by decide +kernel) (show decode code 322 = _ by decide +kernel) (show decode code 323 = _ by decide +kernel) (show decode code 324 = _ by decide +kernel) (show decode code 325 = _ by decide +kernel) ?_
  refine l_arg C0 hL hS1 hl hi (k := 2) (by omega) (by decide) (show decode code 326 = _ by decide +kernel) (show decode code 327 = _ by decide +kernel) (show decode code 328 = _ by decide +kernel) (show decode code 329 = _ by decide +kernel) (show decode code 330 = _ by decide +kernel) ?_
  refine l_call (kind := 0) (idx := 43) (n := 3) (ci := 9) (σ := encM M) (r := zW cs ad' σ') (ad := ad2) (k0 := 0) (As := [.int (xs (j + 1)), .int (xs (j + 2))]) (av := [.ref 0, .int (xs (j + 1)), .int (xs (j + 2))]) (rest := (v.map (zRe ad')).toList ++ []) C0 hK zm_M_belief (Or.inl rfl) (show decode code 331 = _ by decide +kernel) rfl rfl rfl l_cat (by decide) (cells := 100) (slots := 5048) ⟨by decide, by decide⟩ hl.1 hM (lP_sw hP1) (lD_sw hD1) hS1 (fun v2 ad2' σ2 H2 locs2 r1 r2 r3 hP2 hD2 hS2 => ?_)
  have e2 := r2 rfl
  subst e2
  obtain ⟨x, S', M', rfl, rfl, rfl, rfl, hI⟩ := hq _ _ _ _ q1 r1
  refine lv_icmp_eq (tgt := 928) hx hb (show decode code 334 = .ok (.if_icmp .eq 594, 3) by decide +kernel) (by decide) (fun _ => ?_) (fun h => absurd rfl h)
  exact next S' M' hI _ _ H2 locs2 lr (lP_sw hP2) (lD_sw hD2) hS2 hl
theorem k_blame (C0 : lw_At p s m meth c b L xs) (hL : L ≤ 256) (hK : zK cs D s) (h : Inv S M) (hi : i = nI j) (hj : j + 3 < L) (next : ∀ S' M', Inv S' M' → lG p l e s m below meth c b cs D 928 i S' M') : lG p l e s m below meth c b cs D 339 i S M := by
  intro ad ad2 H locs lr hP hD hS hl
  obtain ⟨hx, hb, hr, hml, hown, hts, hX, hbl, hlocks, hgv⟩ := id C0
  obtain ⟨QB, QM, hB, hM, hq⟩ := p_blame h (a := xs (j + 1)) (b := xs (j + 2))
  refine lv_aload_n hx hb (show decode code 339 = .ok (.aload_n 1, 1) by decide +kernel) rfl (lv_at hl 1 rfl) ?_
  refine l_arg C0 hL hS hl hi (k := 1) (by omega) (by decide) (show decode code 340 = _ by decide +kernel) (show decode code 341 = _ by decide +kernel) (show decode code 342 = _ by decide +kernel) (show decode code 343 = _ by decide +kernel) (show decode code 344 = _ by decide +kernel) ?_
  refine l_arg C0 hL hS hl hi (k := 2) (by omega) (by decide) (show decode code 345 = _ by decide +kernel) (show decode code 346 = _ by decide +kernel) (show decode code 347 = _ by decide +kernel) (show decode code 348 = _ by decide +kernel) (show decode code 349 = _ by decide +kernel) ?_
  refine l_call (kind := 0) (idx := 44) (n := 3) (ci := 8) (σ := encC S) (r := zW cs ad2 (encM M)) (ad := ad) (k0 := 0) (As := [.int (xs (j + 1)), .int (xs (j + 2))]) (av := [.ref 0, .int (xs (j + 1)), .int (xs (j + 2))]) (rest := []) C0 hK zm_B_blame (Or.inl rfl) (show decode code 350 = _ by decide +kernel) rfl rfl rfl (by decide) (by decide) (cells := 100) (slots := 5048) ⟨by decide, by decide⟩ hl.1 hB hP hD hS (fun v ad' σ' H1 locs1 q1 q2 q3 hP1 hD1 hS1 => ?_)
  have e1 := q2 rfl
  subst e1
  refine lv_aload_n hx hb (show decode code 353 = .ok (.aload_n 2, 1) by decide +kernel) rfl (lv_at hl 2 rfl) ?_
  refine l_arg C0 hL hS1 hl hi (k := 1) (by omega) (by decide) (show decode code 354 = _ by decide +kernel) (show decode code 355 = _ by decide +kernel) (show decode code 356 = _ by decide +kernel) (show decode code 357 = _ by decide +kernel) (show decode code 358 = _ by decide +kernel) ?_
  refine l_arg C0 hL hS1 hl hi (k := 2) (by omega) (by decide) (show decode code 359 = _ by decide +kernel) (show decode code 360 = _ by decide +kernel) (show decode code 361 = _ by decide +kernel) (show decode code 362 = _ by decide +kernel) (show decode code 363 = _ by decide +kernel) ?_
  refine l_call (kind := 0) (idx := 47) (n := 3) (ci := 9) (σ := encM M) (r := zW cs ad' σ') (ad := ad2) (k0 := 0) (As := [.int (xs (j + 1)), .int (xs (j + 2))]) (av := [.ref 0, .int (xs (j + 1)), .int (xs (j + 2))]) (rest := (v.map (zRe ad')).toList ++ []) C0 hK zm_M_blame (Or.inl rfl) (show decode code 364 = _ by decide +kernel) rfl rfl rfl l_cat (by decide) (cells := 100) (slots := 5048) ⟨by decide, by decide⟩ hl.1 hM (lP_sw hP1) (lD_sw hD1) hS1 (fun v2 ad2' σ2 H2 locs2 r1 r2 r3 hP2 hD2 hS2 => ?_)
  have e2 := r2 rfl
  subst e2
  obtain ⟨x, S', M', rfl, rfl, rfl, rfl, hI⟩ := hq _ _ _ _ q1 r1
  refine lv_icmp_eq (tgt := 928) hx hb (show decode code 367 = .ok (.if_icmp .eq 561, 3) by decide +kernel) (by decide) (fun _ => ?_) (fun h => absurd rfl h)
  exact next S' M' hI _ _ H2 locs2 lr (lP_sw hP2) (lD_sw hD2) hS2 hl
theorem k_clear (C0 : lw_At p s m meth c b L xs) (hL : L ≤ 256) (hK : zK cs D s) (h : Inv S M) (hi : i = nI j) (hj : j + 3 < L) (next : ∀ S' M', Inv S' M' → lG p l e s m below meth c b cs D 928 i S' M') : lG p l e s m below meth c b cs D 372 i S M := by
  intro ad ad2 H locs lr hP hD hS hl
  obtain ⟨hx, hb, hr, hml, hown, hts, hX, hbl, hlocks, hgv⟩ := id C0
  obtain ⟨QB, QM, hB, hM, hq⟩ := p_clear h (a := xs (j + 1)) (b := xs (j + 2))
  refine lv_aload_n hx hb (show decode code 372 = .ok (.aload_n 1, 1) by decide +kernel) rfl (lv_at hl 1 rfl) ?_
  refine l_arg C0 hL hS hl hi (k := 1) (by omega) (by decide) (show decode code 373 = _ by decide +kernel) (show decode code 374 = _ by decide +kernel) (show decode code 375 = _ by decide +kernel) (show decode code 376 = _ by decide +kernel) (show decode code 377 = _ by decide +kernel) ?_
  refine l_arg C0 hL hS hl hi (k := 2) (by omega) (by decide) (show decode code 378 = _ by decide +kernel) (show decode code 379 = _ by decide +kernel) (show decode code 380 = _ by decide +kernel) (show decode code 381 = _ by decide +kernel) (show decode code 382 = _ by decide +kernel) ?_
  refine l_call (kind := 0) (idx := 48) (n := 3) (ci := 8) (σ := encC S) (r := zW cs ad2 (encM M)) (ad := ad) (k0 := 0) (As := [.int (xs (j + 1)), .int (xs (j + 2))]) (av := [.ref 0, .int (xs (j + 1)), .int (xs (j + 2))]) (rest := []) C0 hK zm_B_clear (Or.inl rfl) (show decode code 383 = _ by decide +kernel) rfl rfl rfl (by decide) (by decide) (cells := 100) (slots := 5048) ⟨by decide, by decide⟩ hl.1 hB hP hD hS (fun v ad' σ' H1 locs1 q1 q2 q3 hP1 hD1 hS1 => ?_)
  have e1 := q2 rfl
  subst e1
  refine lv_aload_n hx hb (show decode code 386 = .ok (.aload_n 2, 1) by decide +kernel) rfl (lv_at hl 2 rfl) ?_
  refine l_arg C0 hL hS1 hl hi (k := 1) (by omega) (by decide) (show decode code 387 = _ by decide +kernel) (show decode code 388 = _ by decide +kernel) (show decode code 389 = _ by decide +kernel) (show decode code 390 = _ by decide +kernel) (show decode code 391 = _ by decide +kernel) ?_
  refine l_arg C0 hL hS1 hl hi (k := 2) (by omega) (by decide) (show decode code 392 = _ by decide +kernel) (show decode code 393 = _ by decide +kernel) (show decode code 394 = _ by decide +kernel) (show decode code 395 = _ by decide +kernel) (show decode code 396 = _ by decide +kernel) ?_
  refine l_call (kind := 0) (idx := 51) (n := 3) (ci := 9) (σ := encM M) (r := zW cs ad' σ') (ad := ad2) (k0 := 0) (As := [.int (xs (j + 1)), .int (xs (j + 2))]) (av := [.ref 0, .int (xs (j + 1)), .int (xs (j + 2))]) (rest := (v.map (zRe ad')).toList ++ []) C0 hK zm_M_clear (Or.inl rfl) (show decode code 397 = _ by decide +kernel) rfl rfl rfl l_cat (by decide) (cells := 100) (slots := 5048) ⟨by decide, by decide⟩ hl.1 hM (lP_sw hP1) (lD_sw hD1) hS1 (fun v2 ad2' σ2 H2 locs2 r1 r2 r3 hP2 hD2 hS2 => ?_)
  have e2 := r2 rfl
  subst e2
  obtain ⟨x, S', M', rfl, rfl, rfl, rfl, hI⟩ := hq _ _ _ _ q1 r1
  refine lv_icmp_eq (tgt := 928) hx hb (show decode code 400 = .ok (.if_icmp .eq 528, 3) by decide +kernel) (by decide) (fun _ => ?_) (fun h => absurd rfl h)
  exact next S' M' hI _ _ H2 locs2 lr (lP_sw hP2) (lD_sw hD2) hS2 hl
theorem k_walk (C0 : lw_At p s m meth c b L xs) (hL : L ≤ 256) (hK : zK cs D s) (h : Inv S M) (hi : i = nI j) (hj : j + 3 < L) (next : ∀ S' M', Inv S' M' → lG p l e s m below meth c b cs D 928 i S' M') : lG p l e s m below meth c b cs D 405 i S M := by
  intro ad ad2 H locs lr hP hD hS hl
  obtain ⟨hx, hb, hr, hml, hown, hts, hX, hbl, hlocks, hgv⟩ := id C0
  obtain ⟨QB, QM, hB, hM, hq⟩ := p_walk h (a := xs (j + 1)) (b := xs (j + 2)) (c := xs (j + 3))
  refine lv_aload_n hx hb (show decode code 405 = .ok (.aload_n 1, 1) by decide +kernel) rfl (lv_at hl 1 rfl) ?_
  refine l_arg C0 hL hS hl hi (k := 1) (by omega) (by decide) (show decode code 406 = _ by decide +kernel) (show decode code 407 = _ by decide +kernel) (show decode code 408 = _ by decide +kernel) (show decode code 409 = _ by decide +kernel) (show decode code 410 = _ by decide +kernel) ?_
  refine l_arg C0 hL hS hl hi (k := 2) (by omega) (by decide) (show decode code 411 = _ by decide +kernel) (show decode code 412 = _ by decide +kernel) (show decode code 413 = _ by decide +kernel) (show decode code 414 = _ by decide +kernel) (show decode code 415 = _ by decide +kernel) ?_
  refine l_arg C0 hL hS hl hi (k := 3) (by omega) (by decide) (show decode code 416 = _ by decide +kernel) (show decode code 417 = _ by decide +kernel) (show decode code 418 = _ by decide +kernel) (show decode code 419 = _ by decide +kernel) (show decode code 420 = _ by decide +kernel) ?_
  refine l_call (kind := 0) (idx := 52) (n := 4) (ci := 8) (σ := encC S) (r := zW cs ad2 (encM M)) (ad := ad) (k0 := 0) (As := [.int (xs (j + 1)), .int (xs (j + 2)), .int (xs (j + 3))]) (av := [.ref 0, .int (xs (j + 1)), .int (xs (j + 2)), .int (xs (j + 3))]) (rest := []) C0 hK zm_B_walk (Or.inl rfl) (show decode code 421 = _ by decide +kernel) rfl rfl rfl (by decide) (by decide) (cells := 100) (slots := 5048) ⟨by decide, by decide⟩ hl.1 hB hP hD hS (fun v ad' σ' H1 locs1 q1 q2 q3 hP1 hD1 hS1 => ?_)
  have e1 := q2 rfl
  subst e1
  refine lv_aload_n hx hb (show decode code 424 = .ok (.aload_n 2, 1) by decide +kernel) rfl (lv_at hl 2 rfl) ?_
  refine l_arg C0 hL hS1 hl hi (k := 1) (by omega) (by decide) (show decode code 425 = _ by decide +kernel) (show decode code 426 = _ by decide +kernel) (show decode code 427 = _ by decide +kernel) (show decode code 428 = _ by decide +kernel) (show decode code 429 = _ by decide +kernel) ?_
  refine l_arg C0 hL hS1 hl hi (k := 2) (by omega) (by decide) (show decode code 430 = _ by decide +kernel) (show decode code 431 = _ by decide +kernel) (show decode code 432 = _ by decide +kernel) (show decode code 433 = _ by decide +kernel) (show decode code 434 = _ by decide +kernel) ?_
  refine l_arg C0 hL hS1 hl hi (k := 3) (by omega) (by decide) (show decode code 435 = _ by decide +kernel) (show decode code 436 = _ by decide +kernel) (show decode code 437 = _ by decide +kernel) (show decode code 438 = _ by decide +kernel) (show decode code 439 = _ by decide +kernel) ?_
  refine l_call (kind := 0) (idx := 56) (n := 4) (ci := 9) (σ := encM M) (r := zW cs ad' σ') (ad := ad2) (k0 := 0) (As := [.int (xs (j + 1)), .int (xs (j + 2)), .int (xs (j + 3))]) (av := [.ref 0, .int (xs (j + 1)), .int (xs (j + 2)), .int (xs (j + 3))]) (rest := (v.map (zRe ad')).toList ++ []) C0 hK zm_M_walk (Or.inl rfl) (show decode code 440 = _ by decide +kernel) rfl rfl rfl l_cat (by decide) (cells := 100) (slots := 5048) ⟨by decide, by decide⟩ hl.1 hM (lP_sw hP1) (lD_sw hD1) hS1 (fun v2 ad2' σ2 H2 locs2 r1 r2 r3 hP2 hD2 hS2 => ?_)
  have e2 := r2 rfl
  subst e2
  obtain ⟨x, S', M', rfl, rfl, rfl, rfl, hI⟩ := hq _ _ _ _ q1 r1
  refine lv_icmp_eq (tgt := 928) hx hb (show decode code 443 = .ok (.if_icmp .eq 485, 3) by decide +kernel) (by decide) (fun _ => ?_) (fun h => absurd rfl h)
  exact next S' M' hI _ _ H2 locs2 lr (lP_sw hP2) (lD_sw hD2) hS2 hl
theorem k_sunset (C0 : lw_At p s m meth c b L xs) (hL : L ≤ 256) (hK : zK cs D s) (h : Inv S M) (hi : i = nI j) (hj : j + 3 < L) (next : ∀ S' M', Inv S' M' → lG p l e s m below meth c b cs D 928 i S' M') : lG p l e s m below meth c b cs D 448 i S M := by
  intro ad ad2 H locs lr hP hD hS hl
  obtain ⟨hx, hb, hr, hml, hown, hts, hX, hbl, hlocks, hgv⟩ := id C0
  obtain ⟨QB, QM, hB, hM, hq⟩ := p_sunset h 
  refine lv_aload_n hx hb (show decode code 448 = .ok (.aload_n 1, 1) by decide +kernel) rfl (lv_at hl 1 rfl) ?_
  refine l_call (kind := 0) (idx := 57) (n := 1) (ci := 8) (σ := encC S) (r := zW cs ad2 (encM M)) (ad := ad) (k0 := 0) (As := []) (av := [.ref 0]) (rest := []) C0 hK zm_B_sunset (Or.inl rfl) (show decode code 449 = _ by decide +kernel) rfl rfl rfl (by decide) (by decide) (cells := 100) (slots := 5048) ⟨by decide, by decide⟩ hl.1 hB hP hD hS (fun v ad' σ' H1 locs1 q1 q2 q3 hP1 hD1 hS1 => ?_)
  have e1 := q2 rfl
  subst e1
  refine lv_aload_n hx hb (show decode code 452 = .ok (.aload_n 2, 1) by decide +kernel) rfl (lv_at hl 2 rfl) ?_
  refine l_call (kind := 0) (idx := 60) (n := 1) (ci := 9) (σ := encM M) (r := zW cs ad' σ') (ad := ad2) (k0 := 0) (As := []) (av := [.ref 0]) (rest := (v.map (zRe ad')).toList ++ []) C0 hK zm_M_sunset (Or.inl rfl) (show decode code 453 = _ by decide +kernel) rfl rfl rfl l_cat (by decide) (cells := 100) (slots := 5048) ⟨by decide, by decide⟩ hl.1 hM (lP_sw hP1) (lD_sw hD1) hS1 (fun v2 ad2' σ2 H2 locs2 r1 r2 r3 hP2 hD2 hS2 => ?_)
  have e2 := r2 rfl
  subst e2
  obtain ⟨x, S', M', rfl, rfl, rfl, rfl, hI⟩ := hq _ _ _ _ q1 r1
  refine lv_icmp_eq (tgt := 928) hx hb (show decode code 456 = .ok (.if_icmp .eq 472, 3) by decide +kernel) (by decide) (fun _ => ?_) (fun h => absurd rfl h)
  exact next S' M' hI _ _ H2 locs2 lr (lP_sw hP2) (lD_sw hD2) hS2 hl
theorem k_drift (C0 : lw_At p s m meth c b L xs) (hL : L ≤ 256) (hK : zK cs D s) (h : Inv S M) (hi : i = nI j) (hj : j + 3 < L) (next : ∀ S' M', Inv S' M' → lG p l e s m below meth c b cs D 928 i S' M') : lG p l e s m below meth c b cs D 461 i S M := by
  intro ad ad2 H locs lr hP hD hS hl
  obtain ⟨hx, hb, hr, hml, hown, hts, hX, hbl, hlocks, hgv⟩ := id C0
  obtain ⟨QB, QM, hB, hM, hq⟩ := p_drift h (a := xs (j + 1))
  refine lv_aload_n hx hb (show decode code 461 = .ok (.aload_n 1, 1) by decide +kernel) rfl (lv_at hl 1 rfl) ?_
  refine l_arg C0 hL hS hl hi (k := 1) (by omega) (by decide) (show decode code 462 = _ by decide +kernel) (show decode code 463 = _ by decide +kernel) (show decode code 464 = _ by decide +kernel) (show decode code 465 = _ by decide +kernel) (show decode code 466 = _ by decide +kernel) ?_
  refine l_call (kind := 0) (idx := 61) (n := 2) (ci := 8) (σ := encC S) (r := zW cs ad2 (encM M)) (ad := ad) (k0 := 0) (As := [.int (xs (j + 1))]) (av := [.ref 0, .int (xs (j + 1))]) (rest := []) C0 hK zm_B_drift (Or.inl rfl) (show decode code 467 = _ by decide +kernel) rfl rfl rfl (by decide) (by decide) (cells := 100) (slots := 5048) ⟨by decide, by decide⟩ hl.1 hB hP hD hS (fun v ad' σ' H1 locs1 q1 q2 q3 hP1 hD1 hS1 => ?_)
  have e1 := q2 rfl
  subst e1
  refine lv_aload_n hx hb (show decode code 470 = .ok (.aload_n 2, 1) by decide +kernel) rfl (lv_at hl 2 rfl) ?_
  refine l_arg C0 hL hS1 hl hi (k := 1) (by omega) (by decide) (show decode code 471 = _ by decide +kernel) (show decode code 472 = _ by decide +kernel) (show decode code 473 = _ by decide +kernel) (show decode code 474 = _ by decide +kernel) (show decode code 475 = _ by decide +kernel) ?_
  refine l_call (kind := 0) (idx := 64) (n := 2) (ci := 9) (σ := encM M) (r := zW cs ad' σ') (ad := ad2) (k0 := 0) (As := [.int (xs (j + 1))]) (av := [.ref 0, .int (xs (j + 1))]) (rest := (v.map (zRe ad')).toList ++ []) C0 hK zm_M_drift (Or.inl rfl) (show decode code 476 = _ by decide +kernel) rfl rfl rfl l_cat (by decide) (cells := 100) (slots := 5048) ⟨by decide, by decide⟩ hl.1 hM (lP_sw hP1) (lD_sw hD1) hS1 (fun v2 ad2' σ2 H2 locs2 r1 r2 r3 hP2 hD2 hS2 => ?_)
  have e2 := r2 rfl
  subst e2
  obtain ⟨x, S', M', rfl, rfl, rfl, rfl, hI⟩ := hq _ _ _ _ q1 r1
  refine lv_icmp_eq (tgt := 928) hx hb (show decode code 479 = .ok (.if_icmp .eq 449, 3) by decide +kernel) (by decide) (fun _ => ?_) (fun h => absurd rfl h)
  exact next S' M' hI _ _ H2 locs2 lr (lP_sw hP2) (lD_sw hD2) hS2 hl
theorem k_undo (C0 : lw_At p s m meth c b L xs) (hL : L ≤ 256) (hK : zK cs D s) (h : Inv S M) (hi : i = nI j) (hj : j + 3 < L) (next : ∀ S' M', Inv S' M' → lG p l e s m below meth c b cs D 928 i S' M') : lG p l e s m below meth c b cs D 484 i S M := by
  intro ad ad2 H locs lr hP hD hS hl
  obtain ⟨hx, hb, hr, hml, hown, hts, hX, hbl, hlocks, hgv⟩ := id C0
  obtain ⟨QB, QM, hB, hM, hq⟩ := p_undo h (a := xs (j + 1))
  refine lv_aload_n hx hb (show decode code 484 = .ok (.aload_n 1, 1) by decide +kernel) rfl (lv_at hl 1 rfl) ?_
  refine l_arg C0 hL hS hl hi (k := 1) (by omega) (by decide) (show decode code 485 = _ by decide +kernel) (show decode code 486 = _ by decide +kernel) (show decode code 487 = _ by decide +kernel) (show decode code 488 = _ by decide +kernel) (show decode code 489 = _ by decide +kernel) ?_
  refine l_call (kind := 0) (idx := 65) (n := 2) (ci := 8) (σ := encC S) (r := zW cs ad2 (encM M)) (ad := ad) (k0 := 0) (As := [.int (xs (j + 1))]) (av := [.ref 0, .int (xs (j + 1))]) (rest := []) C0 hK zm_B_undo (Or.inl rfl) (show decode code 490 = _ by decide +kernel) rfl rfl rfl (by decide) (by decide) (cells := 100) (slots := 5048) ⟨by decide, by decide⟩ hl.1 hB hP hD hS (fun v ad' σ' H1 locs1 q1 q2 q3 hP1 hD1 hS1 => ?_)
  have e1 := q2 rfl
  subst e1
  refine lv_aload_n hx hb (show decode code 493 = .ok (.aload_n 2, 1) by decide +kernel) rfl (lv_at hl 2 rfl) ?_
  refine l_arg C0 hL hS1 hl hi (k := 1) (by omega) (by decide) (show decode code 494 = _ by decide +kernel) (show decode code 495 = _ by decide +kernel) (show decode code 496 = _ by decide +kernel) (show decode code 497 = _ by decide +kernel) (show decode code 498 = _ by decide +kernel) ?_
  refine l_call (kind := 0) (idx := 68) (n := 2) (ci := 9) (σ := encM M) (r := zW cs ad' σ') (ad := ad2) (k0 := 0) (As := [.int (xs (j + 1))]) (av := [.ref 0, .int (xs (j + 1))]) (rest := (v.map (zRe ad')).toList ++ []) C0 hK zm_M_undo (Or.inl rfl) (show decode code 499 = _ by decide +kernel) rfl rfl rfl l_cat (by decide) (cells := 100) (slots := 5048) ⟨by decide, by decide⟩ hl.1 hM (lP_sw hP1) (lD_sw hD1) hS1 (fun v2 ad2' σ2 H2 locs2 r1 r2 r3 hP2 hD2 hS2 => ?_)
  have e2 := r2 rfl
  subst e2
  obtain ⟨x, S', M', rfl, rfl, rfl, rfl, hI⟩ := hq _ _ _ _ q1 r1
  refine lv_icmp_eq (tgt := 928) hx hb (show decode code 502 = .ok (.if_icmp .eq 426, 3) by decide +kernel) (by decide) (fun _ => ?_) (fun h => absurd rfl h)
  exact next S' M' hI _ _ H2 locs2 lr (lP_sw hP2) (lD_sw hD2) hS2 hl
theorem k_may (C0 : lw_At p s m meth c b L xs) (hL : L ≤ 256) (hK : zK cs D s) (h : Inv S M) (hi : i = nI j) (hj : j + 3 < L) (next : ∀ S' M', Inv S' M' → lG p l e s m below meth c b cs D 928 i S' M') : lG p l e s m below meth c b cs D 507 i S M := by
  intro ad ad2 H locs lr hP hD hS hl
  obtain ⟨hx, hb, hr, hml, hown, hts, hX, hbl, hlocks, hgv⟩ := id C0
  obtain ⟨QB, QM, hB, hM, hq⟩ := p_may h (a := xs (j + 1))
  refine lv_aload_n hx hb (show decode code 507 = .ok (.aload_n 1, 1) by decide +kernel) rfl (lv_at hl 1 rfl) ?_
  refine l_arg C0 hL hS hl hi (k := 1) (by omega) (by decide) (show decode code 508 = _ by decide +kernel) (show decode code 509 = _ by decide +kernel) (show decode code 510 = _ by decide +kernel) (show decode code 511 = _ by decide +kernel) (show decode code 512 = _ by decide +kernel) ?_
  refine l_call (kind := 0) (idx := 69) (n := 2) (ci := 8) (σ := encC S) (r := zW cs ad2 (encM M)) (ad := ad) (k0 := 0) (As := [.int (xs (j + 1))]) (av := [.ref 0, .int (xs (j + 1))]) (rest := []) C0 hK zm_B_may (Or.inl rfl) (show decode code 513 = _ by decide +kernel) rfl rfl rfl (by decide) (by decide) (cells := 100) (slots := 5048) ⟨by decide, by decide⟩ hl.1 hB hP hD hS (fun v ad' σ' H1 locs1 q1 q2 q3 hP1 hD1 hS1 => ?_)
  have e1 := q2 rfl
  subst e1
  refine lv_aload_n hx hb (show decode code 516 = .ok (.aload_n 2, 1) by decide +kernel) rfl (lv_at hl 2 rfl) ?_
  refine l_arg C0 hL hS1 hl hi (k := 1) (by omega) (by decide) (show decode code 517 = _ by decide +kernel) (show decode code 518 = _ by decide +kernel) (show decode code 519 = _ by decide +kernel) (show decode code 520 = _ by decide +kernel) (show decode code 521 = _ by decide +kernel) ?_
  refine l_call (kind := 0) (idx := 72) (n := 2) (ci := 9) (σ := encM M) (r := zW cs ad' σ') (ad := ad2) (k0 := 0) (As := [.int (xs (j + 1))]) (av := [.ref 0, .int (xs (j + 1))]) (rest := (v.map (zRe ad')).toList ++ []) C0 hK zm_M_may (Or.inl rfl) (show decode code 522 = _ by decide +kernel) rfl rfl rfl l_cat (by decide) (cells := 100) (slots := 5048) ⟨by decide, by decide⟩ hl.1 hM (lP_sw hP1) (lD_sw hD1) hS1 (fun v2 ad2' σ2 H2 locs2 r1 r2 r3 hP2 hD2 hS2 => ?_)
  have e2 := r2 rfl
  subst e2
  obtain ⟨x, S', M', rfl, rfl, rfl, rfl, hI⟩ := hq _ _ _ _ q1 r1
  refine lv_icmp_eq (tgt := 928) hx hb (show decode code 525 = .ok (.if_icmp .eq 403, 3) by decide +kernel) (by decide) (fun _ => ?_) (fun h => absurd rfl h)
  exact next S' M' hI _ _ H2 locs2 lr (lP_sw hP2) (lD_sw hD2) hS2 hl
theorem k_orphans (C0 : lw_At p s m meth c b L xs) (hL : L ≤ 256) (hK : zK cs D s) (h : Inv S M) (hi : i = nI j) (hj : j + 3 < L) (next : ∀ S' M', Inv S' M' → lG p l e s m below meth c b cs D 928 i S' M') : lG p l e s m below meth c b cs D 530 i S M := by
  intro ad ad2 H locs lr hP hD hS hl
  obtain ⟨hx, hb, hr, hml, hown, hts, hX, hbl, hlocks, hgv⟩ := id C0
  obtain ⟨QB, QM, hB, hM, hq⟩ := p_orphans h 
  refine lv_aload_n hx hb (show decode code 530 = .ok (.aload_n 1, 1) by decide +kernel) rfl (lv_at hl 1 rfl) ?_
  refine l_call (kind := 0) (idx := 73) (n := 1) (ci := 8) (σ := encC S) (r := zW cs ad2 (encM M)) (ad := ad) (k0 := 0) (As := []) (av := [.ref 0]) (rest := []) C0 hK zm_B_orphans (Or.inl rfl) (show decode code 531 = _ by decide +kernel) rfl rfl rfl (by decide) (by decide) (cells := 100) (slots := 5048) ⟨by decide, by decide⟩ hl.1 hB hP hD hS (fun v ad' σ' H1 locs1 q1 q2 q3 hP1 hD1 hS1 => ?_)
  have e1 := q2 rfl
  subst e1
  refine lv_aload_n hx hb (show decode code 534 = .ok (.aload_n 2, 1) by decide +kernel) rfl (lv_at hl 2 rfl) ?_
  refine l_call (kind := 0) (idx := 76) (n := 1) (ci := 9) (σ := encM M) (r := zW cs ad' σ') (ad := ad2) (k0 := 0) (As := []) (av := [.ref 0]) (rest := (v.map (zRe ad')).toList ++ []) C0 hK zm_M_orphans (Or.inl rfl) (show decode code 535 = _ by decide +kernel) rfl rfl rfl l_cat (by decide) (cells := 100) (slots := 5048) ⟨by decide, by decide⟩ hl.1 hM (lP_sw hP1) (lD_sw hD1) hS1 (fun v2 ad2' σ2 H2 locs2 r1 r2 r3 hP2 hD2 hS2 => ?_)
  have e2 := r2 rfl
  subst e2
  obtain ⟨x, S', M', rfl, rfl, rfl, rfl, hI⟩ := hq _ _ _ _ q1 r1
  refine lv_icmp_eq (tgt := 928) hx hb (show decode code 538 = .ok (.if_icmp .eq 390, 3) by decide +kernel) (by decide) (fun _ => ?_) (fun h => absurd rfl h)
  exact next S' M' hI _ _ H2 locs2 lr (lP_sw hP2) (lD_sw hD2) hS2 hl
theorem k_shared (C0 : lw_At p s m meth c b L xs) (hL : L ≤ 256) (hK : zK cs D s) (h : Inv S M) (hi : i = nI j) (hj : j + 3 < L) (next : ∀ S' M', Inv S' M' → lG p l e s m below meth c b cs D 928 i S' M') : lG p l e s m below meth c b cs D 543 i S M := by
  intro ad ad2 H locs lr hP hD hS hl
  obtain ⟨hx, hb, hr, hml, hown, hts, hX, hbl, hlocks, hgv⟩ := id C0
  obtain ⟨QB, QM, hB, hM, hq⟩ := p_shared h (a := xs (j + 1))
  refine lv_aload_n hx hb (show decode code 543 = .ok (.aload_n 1, 1) by decide +kernel) rfl (lv_at hl 1 rfl) ?_
  refine l_arg C0 hL hS hl hi (k := 1) (by omega) (by decide) (show decode code 544 = _ by decide +kernel) (show decode code 545 = _ by decide +kernel) (show decode code 546 = _ by decide +kernel) (show decode code 547 = _ by decide +kernel) (show decode code 548 = _ by decide +kernel) ?_
  refine l_call (kind := 0) (idx := 77) (n := 2) (ci := 8) (σ := encC S) (r := zW cs ad2 (encM M)) (ad := ad) (k0 := 0) (As := [.int (xs (j + 1))]) (av := [.ref 0, .int (xs (j + 1))]) (rest := []) C0 hK zm_B_shared (Or.inl rfl) (show decode code 549 = _ by decide +kernel) rfl rfl rfl (by decide) (by decide) (cells := 100) (slots := 5048) ⟨by decide, by decide⟩ hl.1 hB hP hD hS (fun v ad' σ' H1 locs1 q1 q2 q3 hP1 hD1 hS1 => ?_)
  have e1 := q2 rfl
  subst e1
  refine lv_aload_n hx hb (show decode code 552 = .ok (.aload_n 2, 1) by decide +kernel) rfl (lv_at hl 2 rfl) ?_
  refine l_arg C0 hL hS1 hl hi (k := 1) (by omega) (by decide) (show decode code 553 = _ by decide +kernel) (show decode code 554 = _ by decide +kernel) (show decode code 555 = _ by decide +kernel) (show decode code 556 = _ by decide +kernel) (show decode code 557 = _ by decide +kernel) ?_
  refine l_call (kind := 0) (idx := 80) (n := 2) (ci := 9) (σ := encM M) (r := zW cs ad' σ') (ad := ad2) (k0 := 0) (As := [.int (xs (j + 1))]) (av := [.ref 0, .int (xs (j + 1))]) (rest := (v.map (zRe ad')).toList ++ []) C0 hK zm_M_shared (Or.inl rfl) (show decode code 558 = _ by decide +kernel) rfl rfl rfl l_cat (by decide) (cells := 100) (slots := 5048) ⟨by decide, by decide⟩ hl.1 hM (lP_sw hP1) (lD_sw hD1) hS1 (fun v2 ad2' σ2 H2 locs2 r1 r2 r3 hP2 hD2 hS2 => ?_)
  have e2 := r2 rfl
  subst e2
  obtain ⟨x, S', M', rfl, rfl, rfl, rfl, hI⟩ := hq _ _ _ _ q1 r1
  refine lv_icmp_eq (tgt := 928) hx hb (show decode code 561 = .ok (.if_icmp .eq 367, 3) by decide +kernel) (by decide) (fun _ => ?_) (fun h => absurd rfl h)
  exact next S' M' hI _ _ H2 locs2 lr (lP_sw hP2) (lD_sw hD2) hS2 hl
theorem k_cheapest (C0 : lw_At p s m meth c b L xs) (hL : L ≤ 256) (hK : zK cs D s) (h : Inv S M) (hi : i = nI j) (hj : j + 3 < L) (next : ∀ S' M', Inv S' M' → lG p l e s m below meth c b cs D 928 i S' M') : lG p l e s m below meth c b cs D 566 i S M := by
  intro ad ad2 H locs lr hP hD hS hl
  obtain ⟨hx, hb, hr, hml, hown, hts, hX, hbl, hlocks, hgv⟩ := id C0
  obtain ⟨QB, QM, hB, hM, hq⟩ := p_cheapest h (a := xs (j + 1))
  refine lv_aload_n hx hb (show decode code 566 = .ok (.aload_n 1, 1) by decide +kernel) rfl (lv_at hl 1 rfl) ?_
  refine l_arg C0 hL hS hl hi (k := 1) (by omega) (by decide) (show decode code 567 = _ by decide +kernel) (show decode code 568 = _ by decide +kernel) (show decode code 569 = _ by decide +kernel) (show decode code 570 = _ by decide +kernel) (show decode code 571 = _ by decide +kernel) ?_
  refine l_call (kind := 0) (idx := 81) (n := 2) (ci := 8) (σ := encC S) (r := zW cs ad2 (encM M)) (ad := ad) (k0 := 0) (As := [.int (xs (j + 1))]) (av := [.ref 0, .int (xs (j + 1))]) (rest := []) C0 hK zm_B_cheapest (Or.inl rfl) (show decode code 572 = _ by decide +kernel) rfl rfl rfl (by decide) (by decide) (cells := 100) (slots := 5048) ⟨by decide, by decide⟩ hl.1 hB hP hD hS (fun v ad' σ' H1 locs1 q1 q2 q3 hP1 hD1 hS1 => ?_)
  have e1 := q2 rfl
  subst e1
  refine lv_aload_n hx hb (show decode code 575 = .ok (.aload_n 2, 1) by decide +kernel) rfl (lv_at hl 2 rfl) ?_
  refine l_arg C0 hL hS1 hl hi (k := 1) (by omega) (by decide) (show decode code 576 = _ by decide +kernel) (show decode code 577 = _ by decide +kernel) (show decode code 578 = _ by decide +kernel) (show decode code 579 = _ by decide +kernel) (show decode code 580 = _ by decide +kernel) ?_
  refine l_call (kind := 0) (idx := 84) (n := 2) (ci := 9) (σ := encM M) (r := zW cs ad' σ') (ad := ad2) (k0 := 0) (As := [.int (xs (j + 1))]) (av := [.ref 0, .int (xs (j + 1))]) (rest := (v.map (zRe ad')).toList ++ []) C0 hK zm_M_cheapest (Or.inl rfl) (show decode code 581 = _ by decide +kernel) rfl rfl rfl l_cat (by decide) (cells := 100) (slots := 5048) ⟨by decide, by decide⟩ hl.1 hM (lP_sw hP1) (lD_sw hD1) hS1 (fun v2 ad2' σ2 H2 locs2 r1 r2 r3 hP2 hD2 hS2 => ?_)
  have e2 := r2 rfl
  subst e2
  obtain ⟨x, S', M', rfl, rfl, rfl, rfl, hI⟩ := hq _ _ _ _ q1 r1
  refine lv_icmp_eq (tgt := 928) hx hb (show decode code 584 = .ok (.if_icmp .eq 344, 3) by decide +kernel) (by decide) (fun _ => ?_) (fun h => absurd rfl h)
  exact next S' M' hI _ _ H2 locs2 lr (lP_sw hP2) (lD_sw hD2) hS2 hl
theorem k_culprits (C0 : lw_At p s m meth c b L xs) (hL : L ≤ 256) (hK : zK cs D s) (h : Inv S M) (hi : i = nI j) (hj : j + 3 < L) (next : ∀ S' M', Inv S' M' → lG p l e s m below meth c b cs D 928 i S' M') : lG p l e s m below meth c b cs D 589 i S M := by
  intro ad ad2 H locs lr hP hD hS hl
  obtain ⟨hx, hb, hr, hml, hown, hts, hX, hbl, hlocks, hgv⟩ := id C0
  obtain ⟨QB, QM, hB, hM, hq⟩ := p_culprits h (a := xs (j + 1))
  refine lv_aload_n hx hb (show decode code 589 = .ok (.aload_n 1, 1) by decide +kernel) rfl (lv_at hl 1 rfl) ?_
  refine l_arg C0 hL hS hl hi (k := 1) (by omega) (by decide) (show decode code 590 = _ by decide +kernel) (show decode code 591 = _ by decide +kernel) (show decode code 592 = _ by decide +kernel) (show decode code 593 = _ by decide +kernel) (show decode code 594 = _ by decide +kernel) ?_
  refine l_call (kind := 0) (idx := 85) (n := 2) (ci := 8) (σ := encC S) (r := zW cs ad2 (encM M)) (ad := ad) (k0 := 0) (As := [.int (xs (j + 1))]) (av := [.ref 0, .int (xs (j + 1))]) (rest := []) C0 hK zm_B_culprits (Or.inl rfl) (show decode code 595 = _ by decide +kernel) rfl rfl rfl (by decide) (by decide) (cells := 100) (slots := 5048) ⟨by decide, by decide⟩ hl.1 hB hP hD hS (fun v ad' σ' H1 locs1 q1 q2 q3 hP1 hD1 hS1 => ?_)
  have e1 := q2 rfl
  subst e1
  refine lv_aload_n hx hb (show decode code 598 = .ok (.aload_n 2, 1) by decide +kernel) rfl (lv_at hl 2 rfl) ?_
  refine l_arg C0 hL hS1 hl hi (k := 1) (by omega) (by decide) (show decode code 599 = _ by decide +kernel) (show decode code 600 = _ by decide +kernel) (show decode code 601 = _ by decide +kernel) (show decode code 602 = _ by decide +kernel) (show decode code 603 = _ by decide +kernel) ?_
  refine l_call (kind := 0) (idx := 88) (n := 2) (ci := 9) (σ := encM M) (r := zW cs ad' σ') (ad := ad2) (k0 := 0) (As := [.int (xs (j + 1))]) (av := [.ref 0, .int (xs (j + 1))]) (rest := (v.map (zRe ad')).toList ++ []) C0 hK zm_M_culprits (Or.inl rfl) (show decode code 604 = _ by decide +kernel) rfl rfl rfl l_cat (by decide) (cells := 100) (slots := 5048) ⟨by decide, by decide⟩ hl.1 hM (lP_sw hP1) (lD_sw hD1) hS1 (fun v2 ad2' σ2 H2 locs2 r1 r2 r3 hP2 hD2 hS2 => ?_)
  have e2 := r2 rfl
  subst e2
  obtain ⟨x, S', M', rfl, rfl, rfl, rfl, hI⟩ := hq _ _ _ _ q1 r1
  refine lv_icmp_eq (tgt := 928) hx hb (show decode code 607 = .ok (.if_icmp .eq 321, 3) by decide +kernel) (by decide) (fun _ => ?_) (fun h => absurd rfl h)
  exact next S' M' hI _ _ H2 locs2 lr (lP_sw hP2) (lD_sw hD2) hS2 hl
theorem k_idle (C0 : lw_At p s m meth c b L xs) (hL : L ≤ 256) (hK : zK cs D s) (h : Inv S M) (hi : i = nI j) (hj : j + 3 < L) (next : ∀ S' M', Inv S' M' → lG p l e s m below meth c b cs D 928 i S' M') : lG p l e s m below meth c b cs D 612 i S M := by
  intro ad ad2 H locs lr hP hD hS hl
  obtain ⟨hx, hb, hr, hml, hown, hts, hX, hbl, hlocks, hgv⟩ := id C0
  obtain ⟨QB, QM, hB, hM, hq⟩ := p_idle h 
  refine lv_aload_n hx hb (show decode code 612 = .ok (.aload_n 1, 1) by decide +kernel) rfl (lv_at hl 1 rfl) ?_
  refine l_call (kind := 0) (idx := 89) (n := 1) (ci := 8) (σ := encC S) (r := zW cs ad2 (encM M)) (ad := ad) (k0 := 0) (As := []) (av := [.ref 0]) (rest := []) C0 hK zm_B_idle (Or.inl rfl) (show decode code 613 = _ by decide +kernel) rfl rfl rfl (by decide) (by decide) (cells := 100) (slots := 5048) ⟨by decide, by decide⟩ hl.1 hB hP hD hS (fun v ad' σ' H1 locs1 q1 q2 q3 hP1 hD1 hS1 => ?_)
  have e1 := q2 rfl
  subst e1
  refine lv_aload_n hx hb (show decode code 616 = .ok (.aload_n 2, 1) by decide +kernel) rfl (lv_at hl 2 rfl) ?_
  refine l_call (kind := 0) (idx := 92) (n := 1) (ci := 9) (σ := encM M) (r := zW cs ad' σ') (ad := ad2) (k0 := 0) (As := []) (av := [.ref 0]) (rest := (v.map (zRe ad')).toList ++ []) C0 hK zm_M_idle (Or.inl rfl) (show decode code 617 = _ by decide +kernel) rfl rfl rfl l_cat (by decide) (cells := 100) (slots := 5048) ⟨by decide, by decide⟩ hl.1 hM (lP_sw hP1) (lD_sw hD1) hS1 (fun v2 ad2' σ2 H2 locs2 r1 r2 r3 hP2 hD2 hS2 => ?_)
  have e2 := r2 rfl
  subst e2
  obtain ⟨x, S', M', rfl, rfl, rfl, rfl, hI⟩ := hq _ _ _ _ q1 r1
  refine lv_icmp_eq (tgt := 928) hx hb (show decode code 620 = .ok (.if_icmp .eq 308, 3) by decide +kernel) (by decide) (fun _ => ?_) (fun h => absurd rfl h)
  exact next S' M' hI _ _ H2 locs2 lr (lP_sw hP2) (lD_sw hD2) hS2 hl
theorem k_nearer (C0 : lw_At p s m meth c b L xs) (hL : L ≤ 256) (hK : zK cs D s) (h : Inv S M) (hi : i = nI j) (hj : j + 3 < L) (next : ∀ S' M', Inv S' M' → lG p l e s m below meth c b cs D 928 i S' M') : lG p l e s m below meth c b cs D 625 i S M := by
  intro ad ad2 H locs lr hP hD hS hl
  obtain ⟨hx, hb, hr, hml, hown, hts, hX, hbl, hlocks, hgv⟩ := id C0
  obtain ⟨QB, QM, hB, hM, hq⟩ := p_nearer h (a := xs (j + 1)) (b := xs (j + 2)) (c := xs (j + 3))
  refine lv_aload_n hx hb (show decode code 625 = .ok (.aload_n 1, 1) by decide +kernel) rfl (lv_at hl 1 rfl) ?_
  refine l_arg C0 hL hS hl hi (k := 1) (by omega) (by decide) (show decode code 626 = _ by decide +kernel) (show decode code 627 = _ by decide +kernel) (show decode code 628 = _ by decide +kernel) (show decode code 629 = _ by decide +kernel) (show decode code 630 = _ by decide +kernel) ?_
  refine l_arg C0 hL hS hl hi (k := 2) (by omega) (by decide) (show decode code 631 = _ by decide +kernel) (show decode code 632 = _ by decide +kernel) (show decode code 633 = _ by decide +kernel) (show decode code 634 = _ by decide +kernel) (show decode code 635 = _ by decide +kernel) ?_
  refine l_arg C0 hL hS hl hi (k := 3) (by omega) (by decide) (show decode code 636 = _ by decide +kernel) (show decode code 637 = _ by decide +kernel) (show decode code 638 = _ by decide +kernel) (show decode code 639 = _ by decide +kernel) (show decode code 640 = _ by decide +kernel) ?_
  refine l_call (kind := 0) (idx := 93) (n := 4) (ci := 8) (σ := encC S) (r := zW cs ad2 (encM M)) (ad := ad) (k0 := 0) (As := [.int (xs (j + 1)), .int (xs (j + 2)), .int (xs (j + 3))]) (av := [.ref 0, .int (xs (j + 1)), .int (xs (j + 2)), .int (xs (j + 3))]) (rest := []) C0 hK zm_B_nearer (Or.inl rfl) (show decode code 641 = _ by decide +kernel) rfl rfl rfl (by decide) (by decide) (cells := 100) (slots := 5048) ⟨by decide, by decide⟩ hl.1 hB hP hD hS (fun v ad' σ' H1 locs1 q1 q2 q3 hP1 hD1 hS1 => ?_)
  have e1 := q2 rfl
  subst e1
  refine lv_aload_n hx hb (show decode code 644 = .ok (.aload_n 2, 1) by decide +kernel) rfl (lv_at hl 2 rfl) ?_
  refine l_arg C0 hL hS1 hl hi (k := 1) (by omega) (by decide) (show decode code 645 = _ by decide +kernel) (show decode code 646 = _ by decide +kernel) (show decode code 647 = _ by decide +kernel) (show decode code 648 = _ by decide +kernel) (show decode code 649 = _ by decide +kernel) ?_
  refine l_arg C0 hL hS1 hl hi (k := 2) (by omega) (by decide) (show decode code 650 = _ by decide +kernel) (show decode code 651 = _ by decide +kernel) (show decode code 652 = _ by decide +kernel) (show decode code 653 = _ by decide +kernel) (show decode code 654 = _ by decide +kernel) ?_
  refine l_arg C0 hL hS1 hl hi (k := 3) (by omega) (by decide) (show decode code 655 = _ by decide +kernel) (show decode code 656 = _ by decide +kernel) (show decode code 657 = _ by decide +kernel) (show decode code 658 = _ by decide +kernel) (show decode code 659 = _ by decide +kernel) ?_
  refine l_call (kind := 0) (idx := 96) (n := 4) (ci := 9) (σ := encM M) (r := zW cs ad' σ') (ad := ad2) (k0 := 0) (As := [.int (xs (j + 1)), .int (xs (j + 2)), .int (xs (j + 3))]) (av := [.ref 0, .int (xs (j + 1)), .int (xs (j + 2)), .int (xs (j + 3))]) (rest := (v.map (zRe ad')).toList ++ []) C0 hK zm_M_nearer (Or.inl rfl) (show decode code 660 = _ by decide +kernel) rfl rfl rfl l_cat (by decide) (cells := 100) (slots := 5048) ⟨by decide, by decide⟩ hl.1 hM (lP_sw hP1) (lD_sw hD1) hS1 (fun v2 ad2' σ2 H2 locs2 r1 r2 r3 hP2 hD2 hS2 => ?_)
  have e2 := r2 rfl
  subst e2
  obtain ⟨x, S', M', rfl, rfl, rfl, rfl, hI⟩ := hq _ _ _ _ q1 r1
  refine lv_icmp_eq (tgt := 928) hx hb (show decode code 663 = .ok (.if_icmp .eq 265, 3) by decide +kernel) (by decide) (fun _ => ?_) (fun h => absurd rfl h)
  exact next S' M' hI _ _ H2 locs2 lr (lP_sw hP2) (lD_sw hD2) hS2 hl
theorem k_chain (C0 : lw_At p s m meth c b L xs) (hL : L ≤ 256) (hK : zK cs D s) (h : Inv S M) (hi : i = nI j) (hj : j + 3 < L) (next : ∀ S' M', Inv S' M' → lG p l e s m below meth c b cs D 928 i S' M') : lG p l e s m below meth c b cs D 668 i S M := by
  intro ad ad2 H locs lr hP hD hS hl
  obtain ⟨hx, hb, hr, hml, hown, hts, hX, hbl, hlocks, hgv⟩ := id C0
  obtain ⟨QB, QM, hB, hM, hq⟩ := p_chain h (a := xs (j + 1)) (b := xs (j + 2))
  refine lv_aload_n hx hb (show decode code 668 = .ok (.aload_n 1, 1) by decide +kernel) rfl (lv_at hl 1 rfl) ?_
  refine l_arg C0 hL hS hl hi (k := 1) (by omega) (by decide) (show decode code 669 = _ by decide +kernel) (show decode code 670 = _ by decide +kernel) (show decode code 671 = _ by decide +kernel) (show decode code 672 = _ by decide +kernel) (show decode code 673 = _ by decide +kernel) ?_
  refine l_arg C0 hL hS hl hi (k := 2) (by omega) (by decide) (show decode code 674 = _ by decide +kernel) (show decode code 675 = _ by decide +kernel) (show decode code 676 = _ by decide +kernel) (show decode code 677 = _ by decide +kernel) (show decode code 678 = _ by decide +kernel) ?_
  refine l_call (kind := 0) (idx := 97) (n := 3) (ci := 8) (σ := encC S) (r := zW cs ad2 (encM M)) (ad := ad) (k0 := 0) (As := [.int (xs (j + 1)), .int (xs (j + 2))]) (av := [.ref 0, .int (xs (j + 1)), .int (xs (j + 2))]) (rest := []) C0 hK zm_B_chain (Or.inl rfl) (show decode code 679 = _ by decide +kernel) rfl rfl rfl (by decide) (by decide) (cells := 100) (slots := 5048) ⟨by decide, by decide⟩ hl.1 hB hP hD hS (fun v ad' σ' H1 locs1 q1 q2 q3 hP1 hD1 hS1 => ?_)
  have e1 := q2 rfl
  subst e1
  refine lv_aload_n hx hb (show decode code 682 = .ok (.aload_n 2, 1) by decide +kernel) rfl (lv_at hl 2 rfl) ?_
  refine l_arg C0 hL hS1 hl hi (k := 1) (by omega) (by decide) (show decode code 683 = _ by decide +kernel) (show decode code 684 = _ by decide +kernel) (show decode code 685 = _ by decide +kernel) (show decode code 686 = _ by decide +kernel) (show decode code 687 = _ by decide +kernel) ?_
  refine l_arg C0 hL hS1 hl hi (k := 2) (by omega) (by decide) (show decode code 688 = _ by decide +kernel) (show decode code 689 = _ by decide +kernel) (show decode code 690 = _ by decide +kernel) (show decode code 691 = _ by decide +kernel) (show decode code 692 = _ by decide +kernel) ?_
  refine l_call (kind := 0) (idx := 100) (n := 3) (ci := 9) (σ := encM M) (r := zW cs ad' σ') (ad := ad2) (k0 := 0) (As := [.int (xs (j + 1)), .int (xs (j + 2))]) (av := [.ref 0, .int (xs (j + 1)), .int (xs (j + 2))]) (rest := (v.map (zRe ad')).toList ++ []) C0 hK zm_M_chain (Or.inl rfl) (show decode code 693 = _ by decide +kernel) rfl rfl rfl l_cat (by decide) (cells := 100) (slots := 5048) ⟨by decide, by decide⟩ hl.1 hM (lP_sw hP1) (lD_sw hD1) hS1 (fun v2 ad2' σ2 H2 locs2 r1 r2 r3 hP2 hD2 hS2 => ?_)
  have e2 := r2 rfl
  subst e2
  obtain ⟨x, S', M', rfl, rfl, rfl, rfl, hI⟩ := hq _ _ _ _ q1 r1
  refine lv_icmp_eq (tgt := 928) hx hb (show decode code 696 = .ok (.if_icmp .eq 232, 3) by decide +kernel) (by decide) (fun _ => ?_) (fun h => absurd rfl h)
  exact next S' M' hI _ _ H2 locs2 lr (lP_sw hP2) (lD_sw hD2) hS2 hl
theorem k_quiet (C0 : lw_At p s m meth c b L xs) (hL : L ≤ 256) (hK : zK cs D s) (h : Inv S M) (hi : i = nI j) (hj : j + 3 < L) (next : ∀ S' M', Inv S' M' → lG p l e s m below meth c b cs D 928 i S' M') : lG p l e s m below meth c b cs D 701 i S M := by
  intro ad ad2 H locs lr hP hD hS hl
  obtain ⟨hx, hb, hr, hml, hown, hts, hX, hbl, hlocks, hgv⟩ := id C0
  obtain ⟨QB, QM, hB, hM, hq⟩ := p_quiet h (a := xs (j + 1)) (b := xs (j + 2))
  refine lv_aload_n hx hb (show decode code 701 = .ok (.aload_n 1, 1) by decide +kernel) rfl (lv_at hl 1 rfl) ?_
  refine l_arg C0 hL hS hl hi (k := 1) (by omega) (by decide) (show decode code 702 = _ by decide +kernel) (show decode code 703 = _ by decide +kernel) (show decode code 704 = _ by decide +kernel) (show decode code 705 = _ by decide +kernel) (show decode code 706 = _ by decide +kernel) ?_
  refine l_arg C0 hL hS hl hi (k := 2) (by omega) (by decide) (show decode code 707 = _ by decide +kernel) (show decode code 708 = _ by decide +kernel) (show decode code 709 = _ by decide +kernel) (show decode code 710 = _ by decide +kernel) (show decode code 711 = _ by decide +kernel) ?_
  refine l_call (kind := 0) (idx := 101) (n := 3) (ci := 8) (σ := encC S) (r := zW cs ad2 (encM M)) (ad := ad) (k0 := 0) (As := [.int (xs (j + 1)), .int (xs (j + 2))]) (av := [.ref 0, .int (xs (j + 1)), .int (xs (j + 2))]) (rest := []) C0 hK zm_B_quiet (Or.inl rfl) (show decode code 712 = _ by decide +kernel) rfl rfl rfl (by decide) (by decide) (cells := 100) (slots := 5048) ⟨by decide, by decide⟩ hl.1 hB hP hD hS (fun v ad' σ' H1 locs1 q1 q2 q3 hP1 hD1 hS1 => ?_)
  have e1 := q2 rfl
  subst e1
  refine lv_aload_n hx hb (show decode code 715 = .ok (.aload_n 2, 1) by decide +kernel) rfl (lv_at hl 2 rfl) ?_
  refine l_arg C0 hL hS1 hl hi (k := 1) (by omega) (by decide) (show decode code 716 = _ by decide +kernel) (show decode code 717 = _ by decide +kernel) (show decode code 718 = _ by decide +kernel) (show decode code 719 = _ by decide +kernel) (show decode code 720 = _ by decide +kernel) ?_
  refine l_arg C0 hL hS1 hl hi (k := 2) (by omega) (by decide) (show decode code 721 = _ by decide +kernel) (show decode code 722 = _ by decide +kernel) (show decode code 723 = _ by decide +kernel) (show decode code 724 = _ by decide +kernel) (show decode code 725 = _ by decide +kernel) ?_
  refine l_call (kind := 0) (idx := 104) (n := 3) (ci := 9) (σ := encM M) (r := zW cs ad' σ') (ad := ad2) (k0 := 0) (As := [.int (xs (j + 1)), .int (xs (j + 2))]) (av := [.ref 0, .int (xs (j + 1)), .int (xs (j + 2))]) (rest := (v.map (zRe ad')).toList ++ []) C0 hK zm_M_quiet (Or.inl rfl) (show decode code 726 = _ by decide +kernel) rfl rfl rfl l_cat (by decide) (cells := 100) (slots := 5048) ⟨by decide, by decide⟩ hl.1 hM (lP_sw hP1) (lD_sw hD1) hS1 (fun v2 ad2' σ2 H2 locs2 r1 r2 r3 hP2 hD2 hS2 => ?_)
  have e2 := r2 rfl
  subst e2
  obtain ⟨x, S', M', rfl, rfl, rfl, rfl, hI⟩ := hq _ _ _ _ q1 r1
  refine lv_icmp_eq (tgt := 928) hx hb (show decode code 729 = .ok (.if_icmp .eq 199, 3) by decide +kernel) (by decide) (fun _ => ?_) (fun h => absurd rfl h)
  exact next S' M' hI _ _ H2 locs2 lr (lP_sw hP2) (lD_sw hD2) hS2 hl
theorem k_see (C0 : lw_At p s m meth c b L xs) (hL : L ≤ 256) (hK : zK cs D s) (h : Inv S M) (hi : i = nI j) (hj : j + 3 < L) (next : ∀ S' M', Inv S' M' → lG p l e s m below meth c b cs D 928 i S' M') : lG p l e s m below meth c b cs D 734 i S M := by
  intro ad ad2 H locs lr hP hD hS hl
  obtain ⟨hx, hb, hr, hml, hown, hts, hX, hbl, hlocks, hgv⟩ := id C0
  obtain ⟨QB, QM, hB, hM, hq⟩ := p_see h (a := xs (j + 1)) (b := xs (j + 2)) (c := xs (j + 3))
  refine lv_aload_n hx hb (show decode code 734 = .ok (.aload_n 1, 1) by decide +kernel) rfl (lv_at hl 1 rfl) ?_
  refine l_arg C0 hL hS hl hi (k := 1) (by omega) (by decide) (show decode code 735 = _ by decide +kernel) (show decode code 736 = _ by decide +kernel) (show decode code 737 = _ by decide +kernel) (show decode code 738 = _ by decide +kernel) (show decode code 739 = _ by decide +kernel) ?_
  refine l_arg C0 hL hS hl hi (k := 2) (by omega) (by decide) (show decode code 740 = _ by decide +kernel) (show decode code 741 = _ by decide +kernel) (show decode code 742 = _ by decide +kernel) (show decode code 743 = _ by decide +kernel) (show decode code 744 = _ by decide +kernel) ?_
  refine l_arg C0 hL hS hl hi (k := 3) (by omega) (by decide) (show decode code 745 = _ by decide +kernel) (show decode code 746 = _ by decide +kernel) (show decode code 747 = _ by decide +kernel) (show decode code 748 = _ by decide +kernel) (show decode code 749 = _ by decide +kernel) ?_
  refine l_call (kind := 0) (idx := 105) (n := 4) (ci := 8) (σ := encC S) (r := zW cs ad2 (encM M)) (ad := ad) (k0 := 0) (As := [.int (xs (j + 1)), .int (xs (j + 2)), .int (xs (j + 3))]) (av := [.ref 0, .int (xs (j + 1)), .int (xs (j + 2)), .int (xs (j + 3))]) (rest := []) C0 hK zm_B_see (Or.inl rfl) (show decode code 750 = _ by decide +kernel) rfl rfl rfl (by decide) (by decide) (cells := 100) (slots := 5048) ⟨by decide, by decide⟩ hl.1 hB hP hD hS (fun v ad' σ' H1 locs1 q1 q2 q3 hP1 hD1 hS1 => ?_)
  have e1 := q2 rfl
  subst e1
  refine lv_aload_n hx hb (show decode code 753 = .ok (.aload_n 2, 1) by decide +kernel) rfl (lv_at hl 2 rfl) ?_
  refine l_arg C0 hL hS1 hl hi (k := 1) (by omega) (by decide) (show decode code 754 = _ by decide +kernel) (show decode code 755 = _ by decide +kernel) (show decode code 756 = _ by decide +kernel) (show decode code 757 = _ by decide +kernel) (show decode code 758 = _ by decide +kernel) ?_
  refine l_arg C0 hL hS1 hl hi (k := 2) (by omega) (by decide) (show decode code 759 = _ by decide +kernel) (show decode code 760 = _ by decide +kernel) (show decode code 761 = _ by decide +kernel) (show decode code 762 = _ by decide +kernel) (show decode code 763 = _ by decide +kernel) ?_
  refine l_arg C0 hL hS1 hl hi (k := 3) (by omega) (by decide) (show decode code 764 = _ by decide +kernel) (show decode code 765 = _ by decide +kernel) (show decode code 766 = _ by decide +kernel) (show decode code 767 = _ by decide +kernel) (show decode code 768 = _ by decide +kernel) ?_
  refine l_call (kind := 0) (idx := 108) (n := 4) (ci := 9) (σ := encM M) (r := zW cs ad' σ') (ad := ad2) (k0 := 0) (As := [.int (xs (j + 1)), .int (xs (j + 2)), .int (xs (j + 3))]) (av := [.ref 0, .int (xs (j + 1)), .int (xs (j + 2)), .int (xs (j + 3))]) (rest := (v.map (zRe ad')).toList ++ []) C0 hK zm_M_see (Or.inl rfl) (show decode code 769 = _ by decide +kernel) rfl rfl rfl l_cat (by decide) (cells := 100) (slots := 5048) ⟨by decide, by decide⟩ hl.1 hM (lP_sw hP1) (lD_sw hD1) hS1 (fun v2 ad2' σ2 H2 locs2 r1 r2 r3 hP2 hD2 hS2 => ?_)
  have e2 := r2 rfl
  subst e2
  obtain ⟨x, S', M', rfl, rfl, rfl, rfl, hI⟩ := hq _ _ _ _ q1 r1
  refine lv_icmp_eq (tgt := 928) hx hb (show decode code 772 = .ok (.if_icmp .eq 156, 3) by decide +kernel) (by decide) (fun _ => ?_) (fun h => absurd rfl h)
  exact next S' M' hI _ _ H2 locs2 lr (lP_sw hP2) (lD_sw hD2) hS2 hl
theorem k_alibi (C0 : lw_At p s m meth c b L xs) (hL : L ≤ 256) (hK : zK cs D s) (h : Inv S M) (hi : i = nI j) (hj : j + 3 < L) (next : ∀ S' M', Inv S' M' → lG p l e s m below meth c b cs D 928 i S' M') : lG p l e s m below meth c b cs D 777 i S M := by
  intro ad ad2 H locs lr hP hD hS hl
  obtain ⟨hx, hb, hr, hml, hown, hts, hX, hbl, hlocks, hgv⟩ := id C0
  obtain ⟨QB, QM, hB, hM, hq⟩ := p_alibi h (a := xs (j + 1))
  refine lv_aload_n hx hb (show decode code 777 = .ok (.aload_n 1, 1) by decide +kernel) rfl (lv_at hl 1 rfl) ?_
  refine l_arg C0 hL hS hl hi (k := 1) (by omega) (by decide) (show decode code 778 = _ by decide +kernel) (show decode code 779 = _ by decide +kernel) (show decode code 780 = _ by decide +kernel) (show decode code 781 = _ by decide +kernel) (show decode code 782 = _ by decide +kernel) ?_
  refine l_call (kind := 0) (idx := 109) (n := 2) (ci := 8) (σ := encC S) (r := zW cs ad2 (encM M)) (ad := ad) (k0 := 0) (As := [.int (xs (j + 1))]) (av := [.ref 0, .int (xs (j + 1))]) (rest := []) C0 hK zm_B_alibi (Or.inl rfl) (show decode code 783 = _ by decide +kernel) rfl rfl rfl (by decide) (by decide) (cells := 100) (slots := 5048) ⟨by decide, by decide⟩ hl.1 hB hP hD hS (fun v ad' σ' H1 locs1 q1 q2 q3 hP1 hD1 hS1 => ?_)
  have e1 := q2 rfl
  subst e1
  refine lv_aload_n hx hb (show decode code 786 = .ok (.aload_n 2, 1) by decide +kernel) rfl (lv_at hl 2 rfl) ?_
  refine l_arg C0 hL hS1 hl hi (k := 1) (by omega) (by decide) (show decode code 787 = _ by decide +kernel) (show decode code 788 = _ by decide +kernel) (show decode code 789 = _ by decide +kernel) (show decode code 790 = _ by decide +kernel) (show decode code 791 = _ by decide +kernel) ?_
  refine l_call (kind := 0) (idx := 112) (n := 2) (ci := 9) (σ := encM M) (r := zW cs ad' σ') (ad := ad2) (k0 := 0) (As := [.int (xs (j + 1))]) (av := [.ref 0, .int (xs (j + 1))]) (rest := (v.map (zRe ad')).toList ++ []) C0 hK zm_M_alibi (Or.inl rfl) (show decode code 792 = _ by decide +kernel) rfl rfl rfl l_cat (by decide) (cells := 100) (slots := 5048) ⟨by decide, by decide⟩ hl.1 hM (lP_sw hP1) (lD_sw hD1) hS1 (fun v2 ad2' σ2 H2 locs2 r1 r2 r3 hP2 hD2 hS2 => ?_)
  have e2 := r2 rfl
  subst e2
  obtain ⟨x, S', M', rfl, rfl, rfl, rfl, hI⟩ := hq _ _ _ _ q1 r1
  refine lv_icmp_eq (tgt := 928) hx hb (show decode code 795 = .ok (.if_icmp .eq 133, 3) by decide +kernel) (by decide) (fun _ => ?_) (fun h => absurd rfl h)
  exact next S' M' hI _ _ H2 locs2 lr (lP_sw hP2) (lD_sw hD2) hS2 hl
theorem k_write (C0 : lw_At p s m meth c b L xs) (hL : L ≤ 256) (hK : zK cs D s) (h : Inv S M) (hi : i = nI j) (hj : j + 3 < L) (next : ∀ S' M', Inv S' M' → lG p l e s m below meth c b cs D 928 i S' M') : lG p l e s m below meth c b cs D 800 i S M := by
  intro ad ad2 H locs lr hP hD hS hl
  obtain ⟨hx, hb, hr, hml, hown, hts, hX, hbl, hlocks, hgv⟩ := id C0
  obtain ⟨QB, QM, hB, hM, hq⟩ := p_write h (a := xs (j + 1)) (b := xs (j + 2))
  refine lv_aload_n hx hb (show decode code 800 = .ok (.aload_n 1, 1) by decide +kernel) rfl (lv_at hl 1 rfl) ?_
  refine l_arg C0 hL hS hl hi (k := 1) (by omega) (by decide) (show decode code 801 = _ by decide +kernel) (show decode code 802 = _ by decide +kernel) (show decode code 803 = _ by decide +kernel) (show decode code 804 = _ by decide +kernel) (show decode code 805 = _ by decide +kernel) ?_
  refine l_arg C0 hL hS hl hi (k := 2) (by omega) (by decide) (show decode code 806 = _ by decide +kernel) (show decode code 807 = _ by decide +kernel) (show decode code 808 = _ by decide +kernel) (show decode code 809 = _ by decide +kernel) (show decode code 810 = _ by decide +kernel) ?_
  refine l_call (kind := 0) (idx := 113) (n := 3) (ci := 8) (σ := encC S) (r := zW cs ad2 (encM M)) (ad := ad) (k0 := 0) (As := [.int (xs (j + 1)), .int (xs (j + 2))]) (av := [.ref 0, .int (xs (j + 1)), .int (xs (j + 2))]) (rest := []) C0 hK zm_B_write (Or.inl rfl) (show decode code 811 = _ by decide +kernel) rfl rfl rfl (by decide) (by decide) (cells := 100) (slots := 5048) ⟨by decide, by decide⟩ hl.1 hB hP hD hS (fun v ad' σ' H1 locs1 q1 q2 q3 hP1 hD1 hS1 => ?_)
  have e1 := q2 rfl
  subst e1
  refine lv_aload_n hx hb (show decode code 814 = .ok (.aload_n 2, 1) by decide +kernel) rfl (lv_at hl 2 rfl) ?_
  refine l_arg C0 hL hS1 hl hi (k := 1) (by omega) (by decide) (show decode code 815 = _ by decide +kernel) (show decode code 816 = _ by decide +kernel) (show decode code 817 = _ by decide +kernel) (show decode code 818 = _ by decide +kernel) (show decode code 819 = _ by decide +kernel) ?_
  refine l_arg C0 hL hS1 hl hi (k := 2) (by omega) (by decide) (show decode code 820 = _ by decide +kernel) (show decode code 821 = _ by decide +kernel) (show decode code 822 = _ by decide +kernel) (show decode code 823 = _ by decide +kernel) (show decode code 824 = _ by decide +kernel) ?_
  refine l_call (kind := 0) (idx := 116) (n := 3) (ci := 9) (σ := encM M) (r := zW cs ad' σ') (ad := ad2) (k0 := 0) (As := [.int (xs (j + 1)), .int (xs (j + 2))]) (av := [.ref 0, .int (xs (j + 1)), .int (xs (j + 2))]) (rest := (v.map (zRe ad')).toList ++ []) C0 hK zm_M_write (Or.inl rfl) (show decode code 825 = _ by decide +kernel) rfl rfl rfl l_cat (by decide) (cells := 100) (slots := 5048) ⟨by decide, by decide⟩ hl.1 hM (lP_sw hP1) (lD_sw hD1) hS1 (fun v2 ad2' σ2 H2 locs2 r1 r2 r3 hP2 hD2 hS2 => ?_)
  have e2 := r2 rfl
  subst e2
  obtain ⟨x, S', M', rfl, rfl, rfl, rfl, hI⟩ := hq _ _ _ _ q1 r1
  refine lv_icmp_eq (tgt := 928) hx hb (show decode code 828 = .ok (.if_icmp .eq 100, 3) by decide +kernel) (by decide) (fun _ => ?_) (fun h => absurd rfl h)
  exact next S' M' hI _ _ H2 locs2 lr (lP_sw hP2) (lD_sw hD2) hS2 hl
theorem k_judge (C0 : lw_At p s m meth c b L xs) (hL : L ≤ 256) (hK : zK cs D s) (h : Inv S M) (hi : i = nI j) (hj : j + 3 < L) (next : ∀ S' M', Inv S' M' → lG p l e s m below meth c b cs D 928 i S' M') : lG p l e s m below meth c b cs D 833 i S M := by
  intro ad ad2 H locs lr hP hD hS hl
  obtain ⟨hx, hb, hr, hml, hown, hts, hX, hbl, hlocks, hgv⟩ := id C0
  obtain ⟨QB, QM, hB, hM, hq⟩ := p_judge h 
  refine lv_aload_n hx hb (show decode code 833 = .ok (.aload_n 1, 1) by decide +kernel) rfl (lv_at hl 1 rfl) ?_
  refine l_call (kind := 0) (idx := 117) (n := 1) (ci := 8) (σ := encC S) (r := zW cs ad2 (encM M)) (ad := ad) (k0 := 0) (As := []) (av := [.ref 0]) (rest := []) C0 hK zm_B_judge (Or.inl rfl) (show decode code 834 = _ by decide +kernel) rfl rfl rfl (by decide) (by decide) (cells := 100) (slots := 5048) ⟨by decide, by decide⟩ hl.1 hB hP hD hS (fun v ad' σ' H1 locs1 q1 q2 q3 hP1 hD1 hS1 => ?_)
  have e1 := q2 rfl
  subst e1
  refine lv_aload_n hx hb (show decode code 837 = .ok (.aload_n 2, 1) by decide +kernel) rfl (lv_at hl 2 rfl) ?_
  refine l_call (kind := 0) (idx := 120) (n := 1) (ci := 9) (σ := encM M) (r := zW cs ad' σ') (ad := ad2) (k0 := 0) (As := []) (av := [.ref 0]) (rest := (v.map (zRe ad')).toList ++ []) C0 hK zm_M_judge (Or.inl rfl) (show decode code 838 = _ by decide +kernel) rfl rfl rfl l_cat (by decide) (cells := 100) (slots := 5048) ⟨by decide, by decide⟩ hl.1 hM (lP_sw hP1) (lD_sw hD1) hS1 (fun v2 ad2' σ2 H2 locs2 r1 r2 r3 hP2 hD2 hS2 => ?_)
  have e2 := r2 rfl
  subst e2
  obtain ⟨x, S', M', rfl, rfl, rfl, rfl, hI⟩ := hq _ _ _ _ q1 r1
  refine lv_icmp_eq (tgt := 928) hx hb (show decode code 841 = .ok (.if_icmp .eq 87, 3) by decide +kernel) (by decide) (fun _ => ?_) (fun h => absurd rfl h)
  exact next S' M' hI _ _ H2 locs2 lr (lP_sw hP2) (lD_sw hD2) hS2 hl
theorem k_tear (C0 : lw_At p s m meth c b L xs) (hL : L ≤ 256) (hK : zK cs D s) (h : Inv S M) (hi : i = nI j) (hj : j + 3 < L) (next : ∀ S' M', Inv S' M' → lG p l e s m below meth c b cs D 928 i S' M') : lG p l e s m below meth c b cs D 846 i S M := by
  intro ad ad2 H locs lr hP hD hS hl
  obtain ⟨hx, hb, hr, hml, hown, hts, hX, hbl, hlocks, hgv⟩ := id C0
  obtain ⟨QB, QM, hB, hM, hq⟩ := p_tear h 
  refine lv_aload_n hx hb (show decode code 846 = .ok (.aload_n 1, 1) by decide +kernel) rfl (lv_at hl 1 rfl) ?_
  refine l_call (kind := 0) (idx := 121) (n := 1) (ci := 8) (σ := encC S) (r := zW cs ad2 (encM M)) (ad := ad) (k0 := 0) (As := []) (av := [.ref 0]) (rest := []) C0 hK zm_B_tear (Or.inl rfl) (show decode code 847 = _ by decide +kernel) rfl rfl rfl (by decide) (by decide) (cells := 100) (slots := 5048) ⟨by decide, by decide⟩ hl.1 hB hP hD hS (fun v ad' σ' H1 locs1 q1 q2 q3 hP1 hD1 hS1 => ?_)
  have e1 := q2 rfl
  subst e1
  refine lv_aload_n hx hb (show decode code 850 = .ok (.aload_n 2, 1) by decide +kernel) rfl (lv_at hl 2 rfl) ?_
  refine l_call (kind := 0) (idx := 124) (n := 1) (ci := 9) (σ := encM M) (r := zW cs ad' σ') (ad := ad2) (k0 := 0) (As := []) (av := [.ref 0]) (rest := (v.map (zRe ad')).toList ++ []) C0 hK zm_M_tear (Or.inl rfl) (show decode code 851 = _ by decide +kernel) rfl rfl rfl l_cat (by decide) (cells := 100) (slots := 5048) ⟨by decide, by decide⟩ hl.1 hM (lP_sw hP1) (lD_sw hD1) hS1 (fun v2 ad2' σ2 H2 locs2 r1 r2 r3 hP2 hD2 hS2 => ?_)
  have e2 := r2 rfl
  subst e2
  obtain ⟨x, S', M', rfl, rfl, rfl, rfl, hI⟩ := hq _ _ _ _ q1 r1
  refine lv_icmp_eq (tgt := 928) hx hb (show decode code 854 = .ok (.if_icmp .eq 74, 3) by decide +kernel) (by decide) (fun _ => ?_) (fun h => absurd rfl h)
  exact next S' M' hI _ _ H2 locs2 lr (lP_sw hP2) (lD_sw hD2) hS2 hl
theorem k_seed (C0 : lw_At p s m meth c b L xs) (hL : L ≤ 256) (hK : zK cs D s) (h : Inv S M) (hi : i = nI j) (hj : j + 3 < L) (next : ∀ S' M', Inv S' M' → lG p l e s m below meth c b cs D 928 i S' M') : lG p l e s m below meth c b cs D 859 i S M := by
  intro ad ad2 H locs lr hP hD hS hl
  obtain ⟨hx, hb, hr, hml, hown, hts, hX, hbl, hlocks, hgv⟩ := id C0
  obtain ⟨QB, QM, hB, hM, hq⟩ := p_seed h (a := xs (j + 1))
  refine lv_aload_n hx hb (show decode code 859 = .ok (.aload_n 1, 1) by decide +kernel) rfl (lv_at hl 1 rfl) ?_
  refine l_arg C0 hL hS hl hi (k := 1) (by omega) (by decide) (show decode code 860 = _ by decide +kernel) (show decode code 861 = _ by decide +kernel) (show decode code 862 = _ by decide +kernel) (show decode code 863 = _ by decide +kernel) (show decode code 864 = _ by decide +kernel) ?_
  refine l_call (kind := 0) (idx := 125) (n := 2) (ci := 8) (σ := encC S) (r := zW cs ad2 (encM M)) (ad := ad) (k0 := 0) (As := [.int (xs (j + 1))]) (av := [.ref 0, .int (xs (j + 1))]) (rest := []) C0 hK zm_B_seed (Or.inl rfl) (show decode code 865 = _ by decide +kernel) rfl rfl rfl (by decide) (by decide) (cells := 100) (slots := 5048) ⟨by decide, by decide⟩ hl.1 hB hP hD hS (fun v ad' σ' H1 locs1 q1 q2 q3 hP1 hD1 hS1 => ?_)
  have e1 := q2 rfl
  subst e1
  refine lv_aload_n hx hb (show decode code 868 = .ok (.aload_n 2, 1) by decide +kernel) rfl (lv_at hl 2 rfl) ?_
  refine l_arg C0 hL hS1 hl hi (k := 1) (by omega) (by decide) (show decode code 869 = _ by decide +kernel) (show decode code 870 = _ by decide +kernel) (show decode code 871 = _ by decide +kernel) (show decode code 872 = _ by decide +kernel) (show decode code 873 = _ by decide +kernel) ?_
  refine l_call (kind := 0) (idx := 128) (n := 2) (ci := 9) (σ := encM M) (r := zW cs ad' σ') (ad := ad2) (k0 := 0) (As := [.int (xs (j + 1))]) (av := [.ref 0, .int (xs (j + 1))]) (rest := (v.map (zRe ad')).toList ++ []) C0 hK zm_M_seed (Or.inl rfl) (show decode code 874 = _ by decide +kernel) rfl rfl rfl l_cat (by decide) (cells := 100) (slots := 5048) ⟨by decide, by decide⟩ hl.1 hM (lP_sw hP1) (lD_sw hD1) hS1 (fun v2 ad2' σ2 H2 locs2 r1 r2 r3 hP2 hD2 hS2 => ?_)
  have e2 := r2 rfl
  subst e2
  obtain ⟨x, S', M', rfl, rfl, rfl, rfl, hI⟩ := hq _ _ _ _ q1 r1
  refine lv_icmp_eq (tgt := 928) hx hb (show decode code 877 = .ok (.if_icmp .eq 51, 3) by decide +kernel) (by decide) (fun _ => ?_) (fun h => absurd rfl h)
  exact next S' M' hI _ _ H2 locs2 lr (lP_sw hP2) (lD_sw hD2) hS2 hl
theorem k_keep (C0 : lw_At p s m meth c b L xs) (hL : L ≤ 256) (hK : zK cs D s) (h : Inv S M) (hi : i = nI j) (hj : j + 3 < L) (next : ∀ S' M', Inv S' M' → lG p l e s m below meth c b cs D 928 i S' M') : lG p l e s m below meth c b cs D 882 i S M := by
  intro ad ad2 H locs lr hP hD hS hl
  obtain ⟨hx, hb, hr, hml, hown, hts, hX, hbl, hlocks, hgv⟩ := id C0
  obtain ⟨QB, QM, hB, hM, hq⟩ := p_keep h (a := xs (j + 1))
  refine lv_aload_n hx hb (show decode code 882 = .ok (.aload_n 1, 1) by decide +kernel) rfl (lv_at hl 1 rfl) ?_
  refine l_arg C0 hL hS hl hi (k := 1) (by omega) (by decide) (show decode code 883 = _ by decide +kernel) (show decode code 884 = _ by decide +kernel) (show decode code 885 = _ by decide +kernel) (show decode code 886 = _ by decide +kernel) (show decode code 887 = _ by decide +kernel) ?_
  refine l_call (kind := 0) (idx := 129) (n := 2) (ci := 8) (σ := encC S) (r := zW cs ad2 (encM M)) (ad := ad) (k0 := 0) (As := [.int (xs (j + 1))]) (av := [.ref 0, .int (xs (j + 1))]) (rest := []) C0 hK zm_B_keep (Or.inl rfl) (show decode code 888 = _ by decide +kernel) rfl rfl rfl (by decide) (by decide) (cells := 100) (slots := 5048) ⟨by decide, by decide⟩ hl.1 hB hP hD hS (fun v ad' σ' H1 locs1 q1 q2 q3 hP1 hD1 hS1 => ?_)
  have e1 := q2 rfl
  subst e1
  refine lv_aload_n hx hb (show decode code 891 = .ok (.aload_n 2, 1) by decide +kernel) rfl (lv_at hl 2 rfl) ?_
  refine l_arg C0 hL hS1 hl hi (k := 1) (by omega) (by decide) (show decode code 892 = _ by decide +kernel) (show decode code 893 = _ by decide +kernel) (show decode code 894 = _ by decide +kernel) (show decode code 895 = _ by decide +kernel) (show decode code 896 = _ by decide +kernel) ?_
  refine l_call (kind := 0) (idx := 132) (n := 2) (ci := 9) (σ := encM M) (r := zW cs ad' σ') (ad := ad2) (k0 := 0) (As := [.int (xs (j + 1))]) (av := [.ref 0, .int (xs (j + 1))]) (rest := (v.map (zRe ad')).toList ++ []) C0 hK zm_M_keep (Or.inl rfl) (show decode code 897 = _ by decide +kernel) rfl rfl rfl l_cat (by decide) (cells := 100) (slots := 5048) ⟨by decide, by decide⟩ hl.1 hM (lP_sw hP1) (lD_sw hD1) hS1 (fun v2 ad2' σ2 H2 locs2 r1 r2 r3 hP2 hD2 hS2 => ?_)
  have e2 := r2 rfl
  subst e2
  obtain ⟨x, S', M', rfl, rfl, rfl, rfl, hI⟩ := hq _ _ _ _ q1 r1
  refine lv_icmp_eq (tgt := 928) hx hb (show decode code 900 = .ok (.if_icmp .eq 28, 3) by decide +kernel) (by decide) (fun _ => ?_) (fun h => absurd rfl h)
  exact next S' M' hI _ _ H2 locs2 lr (lP_sw hP2) (lD_sw hD2) hS2 hl
theorem k_goBack (C0 : lw_At p s m meth c b L xs) (hL : L ≤ 256) (hK : zK cs D s) (h : Inv S M) (hi : i = nI j) (hj : j + 3 < L) (next : ∀ S' M', Inv S' M' → lG p l e s m below meth c b cs D 928 i S' M') : lG p l e s m below meth c b cs D 905 i S M := by
  intro ad ad2 H locs lr hP hD hS hl
  obtain ⟨hx, hb, hr, hml, hown, hts, hX, hbl, hlocks, hgv⟩ := id C0
  obtain ⟨QB, QM, hB, hM, hq⟩ := p_goBack h (a := xs (j + 1))
  refine lv_aload_n hx hb (show decode code 905 = .ok (.aload_n 1, 1) by decide +kernel) rfl (lv_at hl 1 rfl) ?_
  refine l_arg C0 hL hS hl hi (k := 1) (by omega) (by decide) (show decode code 906 = _ by decide +kernel) (show decode code 907 = _ by decide +kernel) (show decode code 908 = _ by decide +kernel) (show decode code 909 = _ by decide +kernel) (show decode code 910 = _ by decide +kernel) ?_
  refine l_call (kind := 0) (idx := 133) (n := 2) (ci := 8) (σ := encC S) (r := zW cs ad2 (encM M)) (ad := ad) (k0 := 0) (As := [.int (xs (j + 1))]) (av := [.ref 0, .int (xs (j + 1))]) (rest := []) C0 hK zm_B_goBack (Or.inl rfl) (show decode code 911 = _ by decide +kernel) rfl rfl rfl (by decide) (by decide) (cells := 100) (slots := 5048) ⟨by decide, by decide⟩ hl.1 hB hP hD hS (fun v ad' σ' H1 locs1 q1 q2 q3 hP1 hD1 hS1 => ?_)
  have e1 := q2 rfl
  subst e1
  refine lv_aload_n hx hb (show decode code 914 = .ok (.aload_n 2, 1) by decide +kernel) rfl (lv_at hl 2 rfl) ?_
  refine l_arg C0 hL hS1 hl hi (k := 1) (by omega) (by decide) (show decode code 915 = _ by decide +kernel) (show decode code 916 = _ by decide +kernel) (show decode code 917 = _ by decide +kernel) (show decode code 918 = _ by decide +kernel) (show decode code 919 = _ by decide +kernel) ?_
  refine l_call (kind := 0) (idx := 136) (n := 2) (ci := 9) (σ := encM M) (r := zW cs ad' σ') (ad := ad2) (k0 := 0) (As := [.int (xs (j + 1))]) (av := [.ref 0, .int (xs (j + 1))]) (rest := (v.map (zRe ad')).toList ++ []) C0 hK zm_M_goBack (Or.inl rfl) (show decode code 920 = _ by decide +kernel) rfl rfl rfl l_cat (by decide) (cells := 100) (slots := 5048) ⟨by decide, by decide⟩ hl.1 hM (lP_sw hP1) (lD_sw hD1) hS1 (fun v2 ad2' σ2 H2 locs2 r1 r2 r3 hP2 hD2 hS2 => ?_)
  have e2 := r2 rfl
  subst e2
  obtain ⟨x, S', M', rfl, rfl, rfl, rfl, hI⟩ := hq _ _ _ _ q1 r1
  refine lv_icmp_eq (tgt := 928) hx hb (show decode code 923 = .ok (.if_icmp .eq 5, 3) by decide +kernel) (by decide) (fun _ => ?_) (fun h => absurd rfl h)
  exact next S' M' hI _ _ H2 locs2 lr (lP_sw hP2) (lD_sw hD2) hS2 hl
end LK
