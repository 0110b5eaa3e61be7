/-! WHAT THE STATEMENT GIVES AT THE LAW'S ENTRY -/
theorem start_tr {l : Launch} (hflags : l.flags = flags0) : l.stackTraces = false := by
  unfold Launch.stackTraces
  rw [hflags]
  decide +kernel
section S28
variable {p : Program} {s : State} {m : MethodId} {meth : Method} {c : Code} {b L : Nat} {xs : Nat → Int32}
theorem start_sub {w : Cond} (C0 : lw_At p s m meth c b L xs) (h : decide (w ∈ flatC (Jvm.Cond.and given_1 narrow_1)) = true) : w.before #[Value.ref b] s = true := flat_of_before _ C0.2.2.2.2.2.2.2.2.2 w (of_decide_eq_true h)
theorem start_tb {w : Cond} (C0 : lw_At p s m meth c b L xs) (h : decide (w ∈ lw_tbl) = true) : w.before #[Value.ref b] s = true := C0.2.2.2.2.2.1 w (of_decide_eq_true h)
theorem start_out (s : State) : ∀ a : Nat, a < s.heap.size → ¬ (fun q : Nat => s.heap.size ≤ q) a := fun a h => Nat.not_le.mpr h
theorem start_NW (C0 : lw_At p s m meth c b L xs) : NW s := fun w hw hn => by
  have h := C0.2.2.2.2.2.1 w hw
  rcases isNest_cases hn with ⟨a, i, b, n, d, k, rfl⟩ | ⟨a, i, b, k, rfl⟩ | ⟨a, rfl⟩ | ⟨a, b, rfl⟩ | ⟨a, rfl⟩
  · exact va_Nw.of rfl h
  · exact va_Nw.of rfl h
  · exact va_Nw.of rfl h
  · exact va_Nw.of rfl h
  · exact h
theorem start_arr {ty : FieldType} (C0 : lw_At p s m meth c b L xs) (h : decide (Cond.arrayClass ty ∈ lw_tbl) = true) : ∃ cA : ClassId, ArrOfT s cA ty ∧ s.vm.findClass ("[" ++ ty.toString) = some cA := by
  obtain ⟨cA, kA, comp, h1, h2, h3⟩ := Cond.arrayClass_spec (start_tb C0 h)
  exact ⟨cA, fun n z => ⟨fun k h => (by cases h), kA, h2, comp, h3⟩, h1⟩
theorem start_arrO (C0 : lw_At p s m meth c b L xs) : ∃ cA : ClassId, ArrOfT s cA (.object "ForAllGame$State") ∧ va_RA s cA (.object "ForAllGame$State") := by
  obtain ⟨comp, cA, kA, h1, h2, h3, h4, h5⟩ := Cond.arrayOver_spec (start_tb (w := Cond.arrayOver (.object "ForAllGame$State")) C0 (by decide +kernel))
  exact ⟨cA, fun n z => ⟨fun k h => (by cases h), kA, h3, comp, h4⟩, kA, comp, h3, h4, h1, h5⟩
theorem start_T (C0 : lw_At p s m meth c b L xs) : ∃ tW : Nat, ST s.heap.size tW s := by
  obtain ⟨t, ht, hT⟩ := va_Tof (args := #[Value.ref b]) (s := s) (tm := .static "ForAllGame$BeatenSets" "WITHOUT" "[J") (ty := .long) (N := 6) (f := fun j => .long (WO j)) (A := fun q => s.heap.size ≤ q) (by decide) (start_sub C0 (by decide +kernel)) (va_eqt (start_sub C0 (by decide +kernel))) (fun j hj => by
    match j, hj with
    | 0, _ => exact va_eqtl (start_sub C0 (by decide +kernel))
    | 1, _ => exact va_eqtl (start_sub C0 (by decide +kernel))
    | 2, _ => exact va_eqtl (start_sub C0 (by decide +kernel))
    | 3, _ => exact va_eqtl (start_sub C0 (by decide +kernel))
    | 4, _ => exact va_eqtl (start_sub C0 (by decide +kernel))
    | 5, _ => exact va_eqtl (start_sub C0 (by decide +kernel))) (start_out s)
  exact ⟨t, va_Zref (start_tb C0 (by decide +kernel)) (start_tb C0 (by decide +kernel)) ht (start_out s), hT⟩
theorem start_EV (C0 : lw_At p s m meth c b L xs) : ∃ (D : va_G) (cy : Nat → ClassId) (tW : Nat), EV D cy s.heap.size tW s := by
  have hts : ∀ w ∈ wAll, w.before #[Value.ref b] s = true := fun w h => C0.2.2.2.2.2.1 w (wAll_tbl w h)
  obtain ⟨c0, i0, k0⟩ := u_known (n := 2) hts inX0 (start_tb (w := Cond.instantiable RX0 2) C0 (by decide +kernel))
  obtain ⟨c1, i1, k1⟩ := u_known (n := 8) hts inX1 (start_tb (w := Cond.instantiable RX1 8) C0 (by decide +kernel))
  obtain ⟨c2, i2, k2⟩ := u_known (n := 3) hts inX2 (start_tb (w := Cond.instantiable RX2 3) C0 (by decide +kernel))
  obtain ⟨c3, i3, k3⟩ := u_known (n := 7) hts inX3 (start_tb (w := Cond.instantiable RX3 7) C0 (by decide +kernel))
  obtain ⟨c4, i4, k4⟩ := u_known (n := 4) hts inX4 (start_tb (w := Cond.instantiable RX4 4) C0 (by decide +kernel))
  obtain ⟨cI, aI, nI⟩ := start_arr (ty := .int) C0 (by decide +kernel)
  obtain ⟨cJ, aJ, nJ⟩ := start_arr (ty := .long) C0 (by decide +kernel)
  obtain ⟨cS, aS, nS⟩ := start_arrO C0
  obtain ⟨tW, hST⟩ := start_T C0
  refine ⟨(fun k => match k with | 0 => c0 | 1 => c1 | 2 => c2 | 3 => c3 | _ => c4, fun k => match k with | 0 => i0 | 1 => i1 | 2 => i2 | 3 => i3 | _ => i4), (fun k => match k with | 0 => cI | 1 => cJ | _ => cS), tW, ⟨fun k q hq => ?_, fun k q hq => ?_⟩, start_NW C0, hST⟩
  · match k, hq with
    | 0, hq => cases hq; exact k0
    | 1, hq => cases hq; exact k1
    | 2, hq => cases hq; exact k2
    | 3, hq => cases hq; exact k3
    | 4, hq => cases hq; exact k4
    | k + 5, hq => simp [vwCl] at hq
  · match k, hq with
    | 0, hq => cases hq; exact ⟨aI, nI⟩
    | 1, hq => cases hq; exact ⟨aJ, nJ⟩
    | 2, hq => cases hq; exact ⟨aS, nS⟩
    | k + 3, hq => simp [tysAll] at hq
theorem start_str {k : Nat} {tx : String} (C0 : lw_At p s m meth c b L xs) (h1 : decide (Cond.stringRef "ForAllGame" k tx ∈ lw_tbl) = true) (h2 : decide (Cond.exactly (.string "ForAllGame" k) "java/lang/String" ∈ flatC (Jvm.Cond.and given_1 narrow_1)) = true) : ∃ sa, vk_R RX4 k tx sa s := by
  obtain ⟨a2, c, cA, kA, q1, -⟩ := Cond.exactly_spec (args := #[Value.ref b]) (first := s) (o := none) (s := s) (idx := []) (t := .string "ForAllGame" k) (cls := "java/lang/String") (start_sub C0 h2)
  exact ⟨a2, vk_R.of (start_tb C0 h1) q1⟩
theorem start_XS (C0 : lw_At p s m meth c b L xs) : XS s.heap.size s := by
  refine ⟨vx_Zqof (start_tb C0 (by decide +kernel)) (start_tb C0 (by decide +kernel)) (start_sub C0 (by decide +kernel)) (start_out s), vx_Zqof (start_tb C0 (by decide +kernel)) (start_tb C0 (by decide +kernel)) (start_sub C0 (by decide +kernel)) (start_out s), ?_⟩
  intro q hq
  simp only [strs, List.mem_cons, List.not_mem_nil, or_false] at hq
  subst hq; exact start_str C0 (by decide +kernel) (by decide +kernel)
end S28
