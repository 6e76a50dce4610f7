/-! the law: what the tables say at its entry -/
theorem l_known {A : Array Value} {s : State} (hts : ∀ w ∈ lw_tbl, w.before A s = true) : ∃ (cs : ClassId × ClassId × ClassId) (D : va_G), zK cs D s := by
  have hk : ∀ k : Nat, ∃ (cC : ClassId) (iS : Nat → Nat), ∀ q : vw_C, zCl[k]? = some q → u_Kn s q.1 q.2.1 q.2.2 cC iS := by
    intro k
    match k with
    | 0 =>
      obtain ⟨a, b, h⟩ := u_known (C := RX0) (T := TX0) (N := 2) (n := 2) hts (fun w hw => (zT_good (zCla0.2.1 w hw)).1) (hts (.instantiable RX0 2) (by decide +kernel))
      exact ⟨a, b, fun q hq => by cases hq; exact h⟩
    | 1 =>
      obtain ⟨a, b, h⟩ := u_known (C := RX1) (T := TX1) (N := 15) (n := 15) hts (fun w hw => (zT_good (zCla1.2.1 w hw)).1) (hts (.instantiable RX1 15) (by decide +kernel))
      exact ⟨a, b, fun q hq => by cases hq; exact h⟩
    | 2 =>
      obtain ⟨a, b, h⟩ := u_known (C := RX2) (T := TX2) (N := 3) (n := 3) hts (fun w hw => (zT_good (zCla2.2.1 w hw)).1) (hts (.instantiable RX2 3) (by decide +kernel))
      exact ⟨a, b, fun q hq => by cases hq; exact h⟩
    | 3 =>
      obtain ⟨a, b, h⟩ := u_known (C := RX3) (T := TX3) (N := 7) (n := 7) hts (fun w hw => (zT_good (zCla3.2.1 w hw)).1) (hts (.instantiable RX3 7) (by decide +kernel))
      exact ⟨a, b, fun q hq => by cases hq; exact h⟩
    | 4 =>
      obtain ⟨a, b, h⟩ := u_known (C := RX4) (T := TX4) (N := 3) (n := 3) hts (fun w hw => (zT_good (zCla4.2.1 w hw)).1) (hts (.instantiable RX4 3) (by decide +kernel))
      exact ⟨a, b, fun q hq => by cases hq; exact h⟩
    | 5 =>
      obtain ⟨a, b, h⟩ := u_known (C := RX5) (T := TX5) (N := 14) (n := 14) hts (fun w hw => (zT_good (zCla5.2.1 w hw)).1) (hts (.instantiable RX5 14) (by decide +kernel))
      exact ⟨a, b, fun q hq => by cases hq; exact h⟩
    | 6 =>
      obtain ⟨a, b, h⟩ := u_known (C := RX6) (T := TX6) (N := 1) (n := 1) hts (fun w hw => (zT_good (zCla6.2.1 w hw)).1) (hts (.instantiable RX6 1) (by decide +kernel))
      exact ⟨a, b, fun q hq => by cases hq; exact h⟩
    | 7 =>
      obtain ⟨a, b, h⟩ := u_known (C := RX7) (T := TX7) (N := 6) (n := 6) hts (fun w hw => (zT_good (zCla7.2.1 w hw)).1) (hts (.instantiable RX7 6) (by decide +kernel))
      exact ⟨a, b, fun q hq => by cases hq; exact h⟩
    | 8 =>
      obtain ⟨a, b, h⟩ := u_known (C := RX8) (T := TX8) (N := 12) (n := 12) hts (fun w hw => (zT_good (zCla8.2.1 w hw)).1) (hts (.instantiable RX8 12) (by decide +kernel))
      exact ⟨a, b, fun q hq => by cases hq; exact h⟩
    | 9 =>
      obtain ⟨a, b, h⟩ := u_known (C := RX9) (T := TX9) (N := 36) (n := 36) hts (fun w hw => (zT_good (zCla9.2.1 w hw)).1) (hts (.instantiable RX9 36) (by decide +kernel))
      exact ⟨a, b, fun q hq => by cases hq; exact h⟩
    | k + 10 =>
      obtain ⟨a, b, h⟩ := u_known (C := RX0) (T := TX0) (N := 2) (n := 2) hts (fun w hw => (zT_good (zCla0.2.1 w hw)).1) (hts (.instantiable RX0 2) (by decide +kernel))
      exact ⟨a, b, fun q hq => by simp [zCl] at hq⟩
  obtain ⟨f, hf⟩ := Classical.axiomOfChoice hk
  obtain ⟨f2, hf2⟩ := Classical.axiomOfChoice hf
  obtain ⟨c1, k1, p1, a1, a2, a3⟩ := Jvm.Cond.arrayClass_spec (hts _ (zT_good zT_int).1)
  obtain ⟨c2, k2, p2, b1, b2, b3⟩ := Jvm.Cond.arrayClass_spec (hts _ (zT_good zT_bool).1)
  have hao : zAO s := hts (Jvm.Cond.arrayOver (.array .int)) (by decide +kernel)
  obtain ⟨p3, c3, k3, d1, d2, d3, d4, d5⟩ := arrayOverA_spec hao
  refine ⟨(c1, c2, c3), (f, f2), ⟨fun k q hq => hf2 k q hq, fun k q hq => ?_⟩, fun w hw => ?_, hao⟩
  · match k, hq with
    | 0, hq => cases hq; exact ⟨fun N z => ⟨(fun q hq => by cases hq), k1, a2, p1, a3⟩, a1⟩
    | 1, hq => cases hq; exact ⟨fun N z => ⟨(fun q hq => by cases hq), k2, b2, p2, b3⟩, b1⟩
    | 2, hq => cases hq; exact ⟨fun N z => ⟨(fun q hq => by cases hq), k3, d3, p3, d4⟩, d5⟩
    | k + 3, hq => simp [zTy] at hq
  · obtain ⟨h1, h2⟩ := List.mem_filter.mp hw
    have hb := hts w h1
    cases w <;> first | exact va_Nw.of rfl hb | (exact absurd h2 (by simp [zIsN]))
