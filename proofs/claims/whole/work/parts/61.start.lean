theorem na_1 : (Cond.arrayOf (Term.static "OnlyMovesHisLips$Choir" "ABOVE" "[I") .int) ∈ flatC (Jvm.Cond.and given_1 narrow_1) := by decide +kernel
theorem na_2 : (Cond.eq (Term.length (Term.static "OnlyMovesHisLips$Choir" "ABOVE" "[I")) (Term.int 7)) ∈ flatC (Jvm.Cond.and given_1 narrow_1) := by decide +kernel
theorem na_3 : (Cond.eq (Term.elem (Term.static "OnlyMovesHisLips$Choir" "ABOVE" "[I") (Term.int 0)) (Term.int (-1))) ∈ flatC (Jvm.Cond.and given_1 narrow_1) := by decide +kernel
theorem na_4 : (Cond.eq (Term.elem (Term.static "OnlyMovesHisLips$Choir" "ABOVE" "[I") (Term.int 1)) (Term.int 0)) ∈ flatC (Jvm.Cond.and given_1 narrow_1) := by decide +kernel
theorem na_5 : (Cond.eq (Term.elem (Term.static "OnlyMovesHisLips$Choir" "ABOVE" "[I") (Term.int 2)) (Term.int 0)) ∈ flatC (Jvm.Cond.and given_1 narrow_1) := by decide +kernel
theorem na_6 : (Cond.eq (Term.elem (Term.static "OnlyMovesHisLips$Choir" "ABOVE" "[I") (Term.int 3)) (Term.int 1)) ∈ flatC (Jvm.Cond.and given_1 narrow_1) := by decide +kernel
theorem na_7 : (Cond.eq (Term.elem (Term.static "OnlyMovesHisLips$Choir" "ABOVE" "[I") (Term.int 4)) (Term.int 0)) ∈ flatC (Jvm.Cond.and given_1 narrow_1) := by decide +kernel
theorem na_8 : (Cond.eq (Term.elem (Term.static "OnlyMovesHisLips$Choir" "ABOVE" "[I") (Term.int 5)) (Term.int 2)) ∈ flatC (Jvm.Cond.and given_1 narrow_1) := by decide +kernel
theorem na_9 : (Cond.eq (Term.elem (Term.static "OnlyMovesHisLips$Choir" "ABOVE" "[I") (Term.int 6)) (Term.int 4)) ∈ flatC (Jvm.Cond.and given_1 narrow_1) := by decide +kernel
theorem start_A0 {s : State} {b : Nat} (hts : ∀ w ∈ lw_tbl, w.before #[Value.ref b] s = true) (hgv : (Jvm.Cond.and given_1 narrow_1).before #[Value.ref b] s = true) : ∃ t : Nat, va_Z "OnlyMovesHisLips$Choir" "ABOVE" "[I" (.ref t) (fun q : Nat => s.heap.size ≤ q) s s.heap ∧ va_T .int t 7 (fun j => .int (sf 0 j)) (fun q : Nat => s.heap.size ≤ q) s s.heap := by
  have hs := flat_of_before _ hgv
  have hel : ∀ j : Nat, j < 7 → (Term.elem (Term.static "OnlyMovesHisLips$Choir" "ABOVE" "[I") (.int (Int32.ofNat j))).eval #[Value.ref b] s none [] s = some (.int (sf 0 j)) := by
    intro j hj
    rcases (show j = 0 ∨ j = 1 ∨ j = 2 ∨ j = 3 ∨ j = 4 ∨ j = 5 ∨ j = 6 by omega) with rfl | rfl | rfl | rfl | rfl | rfl | rfl
    · exact va_eqt (hs _ na_3)
    · exact va_eqt (hs _ na_4)
    · exact va_eqt (hs _ na_5)
    · exact va_eqt (hs _ na_6)
    · exact va_eqt (hs _ na_7)
    · exact va_eqt (hs _ na_8)
    · exact va_eqt (hs _ na_9)
  obtain ⟨t, ht, hT⟩ := va_Tof (A := (fun q : Nat => s.heap.size ≤ q)) (tm := (Term.static "OnlyMovesHisLips$Choir" "ABOVE" "[I")) (ty := .int) (N := 7) (f := fun j => .int (sf 0 j)) (by decide) (hs _ na_1) (va_eqt (hs _ na_2)) hel (fun a h => Nat.not_le.mpr h)
  exact ⟨t, va_Zref (hts _ (List.mem_append_right _ ((List.mem_append_right _ (List.mem_append_left _ (List.mem_of_getElem? (i := 159) rfl)))))) (hts _ (List.mem_append_right _ (List.mem_append_left _ (List.mem_of_getElem? (i := 7) rfl)))) ht (fun a h => Nat.not_le.mpr h), hT⟩
theorem na_10 : (Cond.arrayOf (Term.static "OnlyMovesHisLips$Hall" "FEWEST" "[I") .int) ∈ flatC (Jvm.Cond.and given_1 narrow_1) := by decide +kernel
theorem na_11 : (Cond.eq (Term.length (Term.static "OnlyMovesHisLips$Hall" "FEWEST" "[I")) (Term.int 4)) ∈ flatC (Jvm.Cond.and given_1 narrow_1) := by decide +kernel
theorem na_12 : (Cond.eq (Term.elem (Term.static "OnlyMovesHisLips$Hall" "FEWEST" "[I") (Term.int 0)) (Term.int 1)) ∈ flatC (Jvm.Cond.and given_1 narrow_1) := by decide +kernel
theorem na_13 : (Cond.eq (Term.elem (Term.static "OnlyMovesHisLips$Hall" "FEWEST" "[I") (Term.int 1)) (Term.int 1)) ∈ flatC (Jvm.Cond.and given_1 narrow_1) := by decide +kernel
theorem na_14 : (Cond.eq (Term.elem (Term.static "OnlyMovesHisLips$Hall" "FEWEST" "[I") (Term.int 2)) (Term.int 0)) ∈ flatC (Jvm.Cond.and given_1 narrow_1) := by decide +kernel
theorem na_15 : (Cond.eq (Term.elem (Term.static "OnlyMovesHisLips$Hall" "FEWEST" "[I") (Term.int 3)) (Term.int 0)) ∈ flatC (Jvm.Cond.and given_1 narrow_1) := by decide +kernel
theorem start_A1 {s : State} {b : Nat} (hts : ∀ w ∈ lw_tbl, w.before #[Value.ref b] s = true) (hgv : (Jvm.Cond.and given_1 narrow_1).before #[Value.ref b] s = true) : ∃ t : Nat, va_Z "OnlyMovesHisLips$Hall" "FEWEST" "[I" (.ref t) (fun q : Nat => s.heap.size ≤ q) s s.heap ∧ va_T .int t 4 (fun j => .int (sf 1 j)) (fun q : Nat => s.heap.size ≤ q) s s.heap := by
  have hs := flat_of_before _ hgv
  have hel : ∀ j : Nat, j < 4 → (Term.elem (Term.static "OnlyMovesHisLips$Hall" "FEWEST" "[I") (.int (Int32.ofNat j))).eval #[Value.ref b] s none [] s = some (.int (sf 1 j)) := by
    intro j hj
    rcases (show j = 0 ∨ j = 1 ∨ j = 2 ∨ j = 3 by omega) with rfl | rfl | rfl | rfl
    · exact va_eqt (hs _ na_12)
    · exact va_eqt (hs _ na_13)
    · exact va_eqt (hs _ na_14)
    · exact va_eqt (hs _ na_15)
  obtain ⟨t, ht, hT⟩ := va_Tof (A := (fun q : Nat => s.heap.size ≤ q)) (tm := (Term.static "OnlyMovesHisLips$Hall" "FEWEST" "[I")) (ty := .int) (N := 4) (f := fun j => .int (sf 1 j)) (by decide) (hs _ na_10) (va_eqt (hs _ na_11)) hel (fun a h => Nat.not_le.mpr h)
  exact ⟨t, va_Zref (hts _ (List.mem_append_right _ ((List.mem_append_right _ (List.mem_append_right _ (List.mem_append_left _ (List.mem_of_getElem? (i := 14) rfl))))))) (hts _ (List.mem_append_right _ (List.mem_append_left _ (List.mem_of_getElem? (i := 6) rfl)))) ht (fun a h => Nat.not_le.mpr h), hT⟩
theorem na_16 : (Cond.arrayOf (Term.static "OnlyMovesHisLips$Hall" "GREATEST" "[I") .int) ∈ flatC (Jvm.Cond.and given_1 narrow_1) := by decide +kernel
theorem na_17 : (Cond.eq (Term.length (Term.static "OnlyMovesHisLips$Hall" "GREATEST" "[I")) (Term.int 4)) ∈ flatC (Jvm.Cond.and given_1 narrow_1) := by decide +kernel
theorem na_18 : (Cond.eq (Term.elem (Term.static "OnlyMovesHisLips$Hall" "GREATEST" "[I") (Term.int 0)) (Term.int 3)) ∈ flatC (Jvm.Cond.and given_1 narrow_1) := by decide +kernel
theorem na_19 : (Cond.eq (Term.elem (Term.static "OnlyMovesHisLips$Hall" "GREATEST" "[I") (Term.int 1)) (Term.int 8)) ∈ flatC (Jvm.Cond.and given_1 narrow_1) := by decide +kernel
theorem na_20 : (Cond.eq (Term.elem (Term.static "OnlyMovesHisLips$Hall" "GREATEST" "[I") (Term.int 2)) (Term.int 1)) ∈ flatC (Jvm.Cond.and given_1 narrow_1) := by decide +kernel
theorem na_21 : (Cond.eq (Term.elem (Term.static "OnlyMovesHisLips$Hall" "GREATEST" "[I") (Term.int 3)) (Term.int 50)) ∈ flatC (Jvm.Cond.and given_1 narrow_1) := by decide +kernel
theorem start_A2 {s : State} {b : Nat} (hts : ∀ w ∈ lw_tbl, w.before #[Value.ref b] s = true) (hgv : (Jvm.Cond.and given_1 narrow_1).before #[Value.ref b] s = true) : ∃ t : Nat, va_Z "OnlyMovesHisLips$Hall" "GREATEST" "[I" (.ref t) (fun q : Nat => s.heap.size ≤ q) s s.heap ∧ va_T .int t 4 (fun j => .int (sf 2 j)) (fun q : Nat => s.heap.size ≤ q) s s.heap := by
  have hs := flat_of_before _ hgv
  have hel : ∀ j : Nat, j < 4 → (Term.elem (Term.static "OnlyMovesHisLips$Hall" "GREATEST" "[I") (.int (Int32.ofNat j))).eval #[Value.ref b] s none [] s = some (.int (sf 2 j)) := by
    intro j hj
    rcases (show j = 0 ∨ j = 1 ∨ j = 2 ∨ j = 3 by omega) with rfl | rfl | rfl | rfl
    · exact va_eqt (hs _ na_18)
    · exact va_eqt (hs _ na_19)
    · exact va_eqt (hs _ na_20)
    · exact va_eqt (hs _ na_21)
  obtain ⟨t, ht, hT⟩ := va_Tof (A := (fun q : Nat => s.heap.size ≤ q)) (tm := (Term.static "OnlyMovesHisLips$Hall" "GREATEST" "[I")) (ty := .int) (N := 4) (f := fun j => .int (sf 2 j)) (by decide) (hs _ na_16) (va_eqt (hs _ na_17)) hel (fun a h => Nat.not_le.mpr h)
  exact ⟨t, va_Zref (hts _ (List.mem_append_right _ ((List.mem_append_right _ (List.mem_append_right _ (List.mem_append_left _ (List.mem_of_getElem? (i := 16) rfl))))))) (hts _ (List.mem_append_right _ (List.mem_append_left _ (List.mem_of_getElem? (i := 6) rfl)))) ht (fun a h => Nat.not_le.mpr h), hT⟩
theorem na_22 : (Cond.arrayOf (Term.static "OnlyMovesHisLips$Reader" "WANTED" "[I") .int) ∈ flatC (Jvm.Cond.and given_1 narrow_1) := by decide +kernel
theorem na_23 : (Cond.eq (Term.length (Term.static "OnlyMovesHisLips$Reader" "WANTED" "[I")) (Term.int 7)) ∈ flatC (Jvm.Cond.and given_1 narrow_1) := by decide +kernel
theorem na_24 : (Cond.eq (Term.elem (Term.static "OnlyMovesHisLips$Reader" "WANTED" "[I") (Term.int 0)) (Term.int 3)) ∈ flatC (Jvm.Cond.and given_1 narrow_1) := by decide +kernel
theorem na_25 : (Cond.eq (Term.elem (Term.static "OnlyMovesHisLips$Reader" "WANTED" "[I") (Term.int 1)) (Term.int 1)) ∈ flatC (Jvm.Cond.and given_1 narrow_1) := by decide +kernel
theorem na_26 : (Cond.eq (Term.elem (Term.static "OnlyMovesHisLips$Reader" "WANTED" "[I") (Term.int 2)) (Term.int 1)) ∈ flatC (Jvm.Cond.and given_1 narrow_1) := by decide +kernel
theorem na_27 : (Cond.eq (Term.elem (Term.static "OnlyMovesHisLips$Reader" "WANTED" "[I") (Term.int 3)) (Term.int 1)) ∈ flatC (Jvm.Cond.and given_1 narrow_1) := by decide +kernel
theorem na_28 : (Cond.eq (Term.elem (Term.static "OnlyMovesHisLips$Reader" "WANTED" "[I") (Term.int 4)) (Term.int 1)) ∈ flatC (Jvm.Cond.and given_1 narrow_1) := by decide +kernel
theorem na_29 : (Cond.eq (Term.elem (Term.static "OnlyMovesHisLips$Reader" "WANTED" "[I") (Term.int 5)) (Term.int 2)) ∈ flatC (Jvm.Cond.and given_1 narrow_1) := by decide +kernel
theorem na_30 : (Cond.eq (Term.elem (Term.static "OnlyMovesHisLips$Reader" "WANTED" "[I") (Term.int 6)) (Term.int 2)) ∈ flatC (Jvm.Cond.and given_1 narrow_1) := by decide +kernel
theorem start_A3 {s : State} {b : Nat} (hts : ∀ w ∈ lw_tbl, w.before #[Value.ref b] s = true) (hgv : (Jvm.Cond.and given_1 narrow_1).before #[Value.ref b] s = true) : ∃ t : Nat, va_Z "OnlyMovesHisLips$Reader" "WANTED" "[I" (.ref t) (fun q : Nat => s.heap.size ≤ q) s s.heap ∧ va_T .int t 7 (fun j => .int (sf 3 j)) (fun q : Nat => s.heap.size ≤ q) s s.heap := by
  have hs := flat_of_before _ hgv
  have hel : ∀ j : Nat, j < 7 → (Term.elem (Term.static "OnlyMovesHisLips$Reader" "WANTED" "[I") (.int (Int32.ofNat j))).eval #[Value.ref b] s none [] s = some (.int (sf 3 j)) := by
    intro j hj
    rcases (show j = 0 ∨ j = 1 ∨ j = 2 ∨ j = 3 ∨ j = 4 ∨ j = 5 ∨ j = 6 by omega) with rfl | rfl | rfl | rfl | rfl | rfl | rfl
    · exact va_eqt (hs _ na_24)
    · exact va_eqt (hs _ na_25)
    · exact va_eqt (hs _ na_26)
    · exact va_eqt (hs _ na_27)
    · exact va_eqt (hs _ na_28)
    · exact va_eqt (hs _ na_29)
    · exact va_eqt (hs _ na_30)
  obtain ⟨t, ht, hT⟩ := va_Tof (A := (fun q : Nat => s.heap.size ≤ q)) (tm := (Term.static "OnlyMovesHisLips$Reader" "WANTED" "[I")) (ty := .int) (N := 7) (f := fun j => .int (sf 3 j)) (by decide) (hs _ na_22) (va_eqt (hs _ na_23)) hel (fun a h => Nat.not_le.mpr h)
  exact ⟨t, va_Zref (hts _ (List.mem_append_right _ ((List.mem_append_right _ (List.mem_append_right _ (List.mem_append_left _ (List.mem_of_getElem? (i := 134) rfl))))))) (hts _ (List.mem_append_right _ (List.mem_append_left _ (List.mem_of_getElem? (i := 3) rfl)))) ht (fun a h => Nat.not_le.mpr h), hT⟩
theorem na_31 : (Cond.arrayOf (Term.static "OnlyMovesHisLips$Voice" "BODIES" "[I") .int) ∈ flatC (Jvm.Cond.and given_1 narrow_1) := by decide +kernel
theorem na_32 : (Cond.eq (Term.length (Term.static "OnlyMovesHisLips$Voice" "BODIES" "[I")) (Term.int 21)) ∈ flatC (Jvm.Cond.and given_1 narrow_1) := by decide +kernel
theorem na_33 : (Cond.eq (Term.elem (Term.static "OnlyMovesHisLips$Voice" "BODIES" "[I") (Term.int 0)) (Term.int 10)) ∈ flatC (Jvm.Cond.and given_1 narrow_1) := by decide +kernel
theorem na_34 : (Cond.eq (Term.elem (Term.static "OnlyMovesHisLips$Voice" "BODIES" "[I") (Term.int 1)) (Term.int 11)) ∈ flatC (Jvm.Cond.and given_1 narrow_1) := by decide +kernel
theorem na_35 : (Cond.eq (Term.elem (Term.static "OnlyMovesHisLips$Voice" "BODIES" "[I") (Term.int 2)) (Term.int 12)) ∈ flatC (Jvm.Cond.and given_1 narrow_1) := by decide +kernel
theorem na_36 : (Cond.eq (Term.elem (Term.static "OnlyMovesHisLips$Voice" "BODIES" "[I") (Term.int 3)) (Term.int 20)) ∈ flatC (Jvm.Cond.and given_1 narrow_1) := by decide +kernel
theorem na_37 : (Cond.eq (Term.elem (Term.static "OnlyMovesHisLips$Voice" "BODIES" "[I") (Term.int 4)) (Term.int 0)) ∈ flatC (Jvm.Cond.and given_1 narrow_1) := by decide +kernel
theorem na_38 : (Cond.eq (Term.elem (Term.static "OnlyMovesHisLips$Voice" "BODIES" "[I") (Term.int 5)) (Term.int 0)) ∈ flatC (Jvm.Cond.and given_1 narrow_1) := by decide +kernel
theorem na_39 : (Cond.eq (Term.elem (Term.static "OnlyMovesHisLips$Voice" "BODIES" "[I") (Term.int 6)) (Term.int 0)) ∈ flatC (Jvm.Cond.and given_1 narrow_1) := by decide +kernel
theorem na_40 : (Cond.eq (Term.elem (Term.static "OnlyMovesHisLips$Voice" "BODIES" "[I") (Term.int 7)) (Term.int 30)) ∈ flatC (Jvm.Cond.and given_1 narrow_1) := by decide +kernel
theorem na_41 : (Cond.eq (Term.elem (Term.static "OnlyMovesHisLips$Voice" "BODIES" "[I") (Term.int 8)) (Term.int 0)) ∈ flatC (Jvm.Cond.and given_1 narrow_1) := by decide +kernel
theorem na_42 : (Cond.eq (Term.elem (Term.static "OnlyMovesHisLips$Voice" "BODIES" "[I") (Term.int 9)) (Term.int 0)) ∈ flatC (Jvm.Cond.and given_1 narrow_1) := by decide +kernel
theorem na_43 : (Cond.eq (Term.elem (Term.static "OnlyMovesHisLips$Voice" "BODIES" "[I") (Term.int 10)) (Term.int 40)) ∈ flatC (Jvm.Cond.and given_1 narrow_1) := by decide +kernel
theorem na_44 : (Cond.eq (Term.elem (Term.static "OnlyMovesHisLips$Voice" "BODIES" "[I") (Term.int 11)) (Term.int 0)) ∈ flatC (Jvm.Cond.and given_1 narrow_1) := by decide +kernel
theorem na_45 : (Cond.eq (Term.elem (Term.static "OnlyMovesHisLips$Voice" "BODIES" "[I") (Term.int 12)) (Term.int 51)) ∈ flatC (Jvm.Cond.and given_1 narrow_1) := by decide +kernel
theorem na_46 : (Cond.eq (Term.elem (Term.static "OnlyMovesHisLips$Voice" "BODIES" "[I") (Term.int 13)) (Term.int 0)) ∈ flatC (Jvm.Cond.and given_1 narrow_1) := by decide +kernel
theorem na_47 : (Cond.eq (Term.elem (Term.static "OnlyMovesHisLips$Voice" "BODIES" "[I") (Term.int 14)) (Term.int 50)) ∈ flatC (Jvm.Cond.and given_1 narrow_1) := by decide +kernel
theorem na_48 : (Cond.eq (Term.elem (Term.static "OnlyMovesHisLips$Voice" "BODIES" "[I") (Term.int 15)) (Term.int 0)) ∈ flatC (Jvm.Cond.and given_1 narrow_1) := by decide +kernel
theorem na_49 : (Cond.eq (Term.elem (Term.static "OnlyMovesHisLips$Voice" "BODIES" "[I") (Term.int 16)) (Term.int 0)) ∈ flatC (Jvm.Cond.and given_1 narrow_1) := by decide +kernel
theorem na_50 : (Cond.eq (Term.elem (Term.static "OnlyMovesHisLips$Voice" "BODIES" "[I") (Term.int 17)) (Term.int 60)) ∈ flatC (Jvm.Cond.and given_1 narrow_1) := by decide +kernel
theorem na_51 : (Cond.eq (Term.elem (Term.static "OnlyMovesHisLips$Voice" "BODIES" "[I") (Term.int 18)) (Term.int 70)) ∈ flatC (Jvm.Cond.and given_1 narrow_1) := by decide +kernel
theorem na_52 : (Cond.eq (Term.elem (Term.static "OnlyMovesHisLips$Voice" "BODIES" "[I") (Term.int 19)) (Term.int 71)) ∈ flatC (Jvm.Cond.and given_1 narrow_1) := by decide +kernel
theorem na_53 : (Cond.eq (Term.elem (Term.static "OnlyMovesHisLips$Voice" "BODIES" "[I") (Term.int 20)) (Term.int 0)) ∈ flatC (Jvm.Cond.and given_1 narrow_1) := by decide +kernel
theorem start_A4 {s : State} {b : Nat} (hts : ∀ w ∈ lw_tbl, w.before #[Value.ref b] s = true) (hgv : (Jvm.Cond.and given_1 narrow_1).before #[Value.ref b] s = true) : ∃ t : Nat, va_Z "OnlyMovesHisLips$Voice" "BODIES" "[I" (.ref t) (fun q : Nat => s.heap.size ≤ q) s s.heap ∧ va_T .int t 21 (fun j => .int (sf 4 j)) (fun q : Nat => s.heap.size ≤ q) s s.heap := by
  have hs := flat_of_before _ hgv
  have hel : ∀ j : Nat, j < 21 → (Term.elem (Term.static "OnlyMovesHisLips$Voice" "BODIES" "[I") (.int (Int32.ofNat j))).eval #[Value.ref b] s none [] s = some (.int (sf 4 j)) := by
    intro j hj
    rcases (show j = 0 ∨ j = 1 ∨ j = 2 ∨ j = 3 ∨ j = 4 ∨ j = 5 ∨ j = 6 ∨ j = 7 ∨ j = 8 ∨ j = 9 ∨ j = 10 ∨ j = 11 ∨ j = 12 ∨ j = 13 ∨ j = 14 ∨ j = 15 ∨ j = 16 ∨ j = 17 ∨ j = 18 ∨ j = 19 ∨ j = 20 by omega) with rfl | rfl | rfl | rfl | rfl | rfl | rfl | rfl | rfl | rfl | rfl | rfl | rfl | rfl | rfl | rfl | rfl | rfl | rfl | rfl | rfl
    · exact va_eqt (hs _ na_33)
    · exact va_eqt (hs _ na_34)
    · exact va_eqt (hs _ na_35)
    · exact va_eqt (hs _ na_36)
    · exact va_eqt (hs _ na_37)
    · exact va_eqt (hs _ na_38)
    · exact va_eqt (hs _ na_39)
    · exact va_eqt (hs _ na_40)
    · exact va_eqt (hs _ na_41)
    · exact va_eqt (hs _ na_42)
    · exact va_eqt (hs _ na_43)
    · exact va_eqt (hs _ na_44)
    · exact va_eqt (hs _ na_45)
    · exact va_eqt (hs _ na_46)
    · exact va_eqt (hs _ na_47)
    · exact va_eqt (hs _ na_48)
    · exact va_eqt (hs _ na_49)
    · exact va_eqt (hs _ na_50)
    · exact va_eqt (hs _ na_51)
    · exact va_eqt (hs _ na_52)
    · exact va_eqt (hs _ na_53)
  obtain ⟨t, ht, hT⟩ := va_Tof (A := (fun q : Nat => s.heap.size ≤ q)) (tm := (Term.static "OnlyMovesHisLips$Voice" "BODIES" "[I")) (ty := .int) (N := 21) (f := fun j => .int (sf 4 j)) (by decide) (hs _ na_31) (va_eqt (hs _ na_32)) hel (fun a h => Nat.not_le.mpr h)
  exact ⟨t, va_Zref (hts _ (List.mem_append_right _ ((List.mem_append_right _ (List.mem_append_right _ (List.mem_append_right _ (List.mem_append_right _ (List.mem_append_left _ (List.mem_of_getElem? (i := 34) rfl))))))))) (hts _ (List.mem_append_right _ (List.mem_append_left _ (List.mem_of_getElem? (i := 2) rfl)))) ht (fun a h => Nat.not_le.mpr h), hT⟩
theorem na_54 : (Cond.exactly (Term.string "OnlyMovesHisLips$Reader" 77) "java/lang/String") ∈ flatC (Jvm.Cond.and given_1 narrow_1) := by decide +kernel
theorem na_55 : (Cond.exactly (Term.string "OnlyMovesHisLips$Reader" 79) "java/lang/String") ∈ flatC (Jvm.Cond.and given_1 narrow_1) := by decide +kernel
theorem na_56 : (Cond.exactly (Term.string "OnlyMovesHisLips$Reader" 81) "java/lang/String") ∈ flatC (Jvm.Cond.and given_1 narrow_1) := by decide +kernel
theorem na_57 : (Cond.exactly (Term.string "OnlyMovesHisLips$Reader" 83) "java/lang/String") ∈ flatC (Jvm.Cond.and given_1 narrow_1) := by decide +kernel
theorem na_58 : (Cond.exactly (Term.string "OnlyMovesHisLips$Reader" 85) "java/lang/String") ∈ flatC (Jvm.Cond.and given_1 narrow_1) := by decide +kernel
theorem na_59 : (Cond.exactly (Term.string "OnlyMovesHisLips$Reader" 87) "java/lang/String") ∈ flatC (Jvm.Cond.and given_1 narrow_1) := by decide +kernel
theorem na_60 : (Cond.exactly (Term.string "OnlyMovesHisLips$Reader" 89) "java/lang/String") ∈ flatC (Jvm.Cond.and given_1 narrow_1) := by decide +kernel
theorem start_e1 {s : State} {b : Nat} (hts : ∀ w ∈ lw_tbl, w.before #[Value.ref b] s = true) (hgv : (Jvm.Cond.and given_1 narrow_1).before #[Value.ref b] s = true) : ∀ i : Nat, i < 7 → (Cond.exactly ((fun i => Term.string "OnlyMovesHisLips$Reader" (77 + 2 * i)) i) "java/lang/String").before #[Value.ref b] s = true := by
  have hs := flat_of_before _ hgv
  intro i hi
  rcases (show i = 0 ∨ i = 1 ∨ i = 2 ∨ i = 3 ∨ i = 4 ∨ i = 5 ∨ i = 6 by omega) with rfl | rfl | rfl | rfl | rfl | rfl | rfl
  · exact (hs _ na_54)
  · exact (hs _ na_55)
  · exact (hs _ na_56)
  · exact (hs _ na_57)
  · exact (hs _ na_58)
  · exact (hs _ na_59)
  · exact (hs _ na_60)
theorem na_61 : (Cond.eq (.field (Term.string "OnlyMovesHisLips$Reader" 77) "java/lang/String" "coder" "B") (.int 0)) ∈ flatC (Jvm.Cond.and given_1 narrow_1) := by decide +kernel
theorem na_62 : (Cond.eq (.field (Term.string "OnlyMovesHisLips$Reader" 79) "java/lang/String" "coder" "B") (.int 0)) ∈ flatC (Jvm.Cond.and given_1 narrow_1) := by decide +kernel
theorem na_63 : (Cond.eq (.field (Term.string "OnlyMovesHisLips$Reader" 81) "java/lang/String" "coder" "B") (.int 0)) ∈ flatC (Jvm.Cond.and given_1 narrow_1) := by decide +kernel
theorem na_64 : (Cond.eq (.field (Term.string "OnlyMovesHisLips$Reader" 83) "java/lang/String" "coder" "B") (.int 0)) ∈ flatC (Jvm.Cond.and given_1 narrow_1) := by decide +kernel
theorem na_65 : (Cond.eq (.field (Term.string "OnlyMovesHisLips$Reader" 85) "java/lang/String" "coder" "B") (.int 0)) ∈ flatC (Jvm.Cond.and given_1 narrow_1) := by decide +kernel
theorem na_66 : (Cond.eq (.field (Term.string "OnlyMovesHisLips$Reader" 87) "java/lang/String" "coder" "B") (.int 0)) ∈ flatC (Jvm.Cond.and given_1 narrow_1) := by decide +kernel
theorem na_67 : (Cond.eq (.field (Term.string "OnlyMovesHisLips$Reader" 89) "java/lang/String" "coder" "B") (.int 0)) ∈ flatC (Jvm.Cond.and given_1 narrow_1) := by decide +kernel
theorem start_e2 {s : State} {b : Nat} (hts : ∀ w ∈ lw_tbl, w.before #[Value.ref b] s = true) (hgv : (Jvm.Cond.and given_1 narrow_1).before #[Value.ref b] s = true) : ∀ i : Nat, i < 7 → (Cond.eq (.field ((fun i => Term.string "OnlyMovesHisLips$Reader" (77 + 2 * i)) i) "java/lang/String" "coder" "B") (.int 0)).before #[Value.ref b] s = true := by
  have hs := flat_of_before _ hgv
  intro i hi
  rcases (show i = 0 ∨ i = 1 ∨ i = 2 ∨ i = 3 ∨ i = 4 ∨ i = 5 ∨ i = 6 by omega) with rfl | rfl | rfl | rfl | rfl | rfl | rfl
  · exact (hs _ na_61)
  · exact (hs _ na_62)
  · exact (hs _ na_63)
  · exact (hs _ na_64)
  · exact (hs _ na_65)
  · exact (hs _ na_66)
  · exact (hs _ na_67)
theorem na_68 : (Cond.arrayOf (.field (Term.string "OnlyMovesHisLips$Reader" 77) "java/lang/String" "value" "[B") .byte) ∈ flatC (Jvm.Cond.and given_1 narrow_1) := by decide +kernel
theorem na_69 : (Cond.arrayOf (.field (Term.string "OnlyMovesHisLips$Reader" 79) "java/lang/String" "value" "[B") .byte) ∈ flatC (Jvm.Cond.and given_1 narrow_1) := by decide +kernel
theorem na_70 : (Cond.arrayOf (.field (Term.string "OnlyMovesHisLips$Reader" 81) "java/lang/String" "value" "[B") .byte) ∈ flatC (Jvm.Cond.and given_1 narrow_1) := by decide +kernel
theorem na_71 : (Cond.arrayOf (.field (Term.string "OnlyMovesHisLips$Reader" 83) "java/lang/String" "value" "[B") .byte) ∈ flatC (Jvm.Cond.and given_1 narrow_1) := by decide +kernel
theorem na_72 : (Cond.arrayOf (.field (Term.string "OnlyMovesHisLips$Reader" 85) "java/lang/String" "value" "[B") .byte) ∈ flatC (Jvm.Cond.and given_1 narrow_1) := by decide +kernel
theorem na_73 : (Cond.arrayOf (.field (Term.string "OnlyMovesHisLips$Reader" 87) "java/lang/String" "value" "[B") .byte) ∈ flatC (Jvm.Cond.and given_1 narrow_1) := by decide +kernel
theorem na_74 : (Cond.arrayOf (.field (Term.string "OnlyMovesHisLips$Reader" 89) "java/lang/String" "value" "[B") .byte) ∈ flatC (Jvm.Cond.and given_1 narrow_1) := by decide +kernel
theorem start_e3 {s : State} {b : Nat} (hts : ∀ w ∈ lw_tbl, w.before #[Value.ref b] s = true) (hgv : (Jvm.Cond.and given_1 narrow_1).before #[Value.ref b] s = true) : ∀ i : Nat, i < 7 → (Cond.arrayOf (.field ((fun i => Term.string "OnlyMovesHisLips$Reader" (77 + 2 * i)) i) "java/lang/String" "value" "[B") .byte).before #[Value.ref b] s = true := by
  have hs := flat_of_before _ hgv
  intro i hi
  rcases (show i = 0 ∨ i = 1 ∨ i = 2 ∨ i = 3 ∨ i = 4 ∨ i = 5 ∨ i = 6 by omega) with rfl | rfl | rfl | rfl | rfl | rfl | rfl
  · exact (hs _ na_68)
  · exact (hs _ na_69)
  · exact (hs _ na_70)
  · exact (hs _ na_71)
  · exact (hs _ na_72)
  · exact (hs _ na_73)
  · exact (hs _ na_74)
theorem na_75 : (Cond.eq (.length (.field (Term.string "OnlyMovesHisLips$Reader" 77) "java/lang/String" "value" "[B")) (.int 6)) ∈ flatC (Jvm.Cond.and given_1 narrow_1) := by decide +kernel
theorem na_76 : (Cond.eq (.length (.field (Term.string "OnlyMovesHisLips$Reader" 79) "java/lang/String" "value" "[B")) (.int 4)) ∈ flatC (Jvm.Cond.and given_1 narrow_1) := by decide +kernel
theorem na_77 : (Cond.eq (.length (.field (Term.string "OnlyMovesHisLips$Reader" 81) "java/lang/String" "value" "[B")) (.int 5)) ∈ flatC (Jvm.Cond.and given_1 narrow_1) := by decide +kernel
theorem na_78 : (Cond.eq (.length (.field (Term.string "OnlyMovesHisLips$Reader" 83) "java/lang/String" "value" "[B")) (.int 4)) ∈ flatC (Jvm.Cond.and given_1 narrow_1) := by decide +kernel
theorem na_79 : (Cond.eq (.length (.field (Term.string "OnlyMovesHisLips$Reader" 85) "java/lang/String" "value" "[B")) (.int 3)) ∈ flatC (Jvm.Cond.and given_1 narrow_1) := by decide +kernel
theorem na_80 : (Cond.eq (.length (.field (Term.string "OnlyMovesHisLips$Reader" 87) "java/lang/String" "value" "[B")) (.int 5)) ∈ flatC (Jvm.Cond.and given_1 narrow_1) := by decide +kernel
theorem na_81 : (Cond.eq (.length (.field (Term.string "OnlyMovesHisLips$Reader" 89) "java/lang/String" "value" "[B")) (.int 4)) ∈ flatC (Jvm.Cond.and given_1 narrow_1) := by decide +kernel
theorem start_e4 {s : State} {b : Nat} (hts : ∀ w ∈ lw_tbl, w.before #[Value.ref b] s = true) (hgv : (Jvm.Cond.and given_1 narrow_1).before #[Value.ref b] s = true) : ∀ i : Nat, i < 7 → (Cond.eq (.length (.field ((fun i => Term.string "OnlyMovesHisLips$Reader" (77 + 2 * i)) i) "java/lang/String" "value" "[B")) (.int (Int32.ofNat (lenJ.getD i 0)))).before #[Value.ref b] s = true := by
  have hs := flat_of_before _ hgv
  intro i hi
  rcases (show i = 0 ∨ i = 1 ∨ i = 2 ∨ i = 3 ∨ i = 4 ∨ i = 5 ∨ i = 6 by omega) with rfl | rfl | rfl | rfl | rfl | rfl | rfl
  · exact (hs _ na_75)
  · exact (hs _ na_76)
  · exact (hs _ na_77)
  · exact (hs _ na_78)
  · exact (hs _ na_79)
  · exact (hs _ na_80)
  · exact (hs _ na_81)
theorem na_82 : (Cond.eq (.elem (.field (Term.string "OnlyMovesHisLips$Reader" 77) "java/lang/String" "value" "[B") (.int 0)) (.int 115)) ∈ flatC (Jvm.Cond.and given_1 narrow_1) := by decide +kernel
theorem na_83 : (Cond.eq (.elem (.field (Term.string "OnlyMovesHisLips$Reader" 77) "java/lang/String" "value" "[B") (.int 1)) (.int 105)) ∈ flatC (Jvm.Cond.and given_1 narrow_1) := by decide +kernel
theorem na_84 : (Cond.eq (.elem (.field (Term.string "OnlyMovesHisLips$Reader" 77) "java/lang/String" "value" "[B") (.int 2)) (.int 110)) ∈ flatC (Jvm.Cond.and given_1 narrow_1) := by decide +kernel
theorem na_85 : (Cond.eq (.elem (.field (Term.string "OnlyMovesHisLips$Reader" 77) "java/lang/String" "value" "[B") (.int 3)) (.int 103)) ∈ flatC (Jvm.Cond.and given_1 narrow_1) := by decide +kernel
theorem na_86 : (Cond.eq (.elem (.field (Term.string "OnlyMovesHisLips$Reader" 77) "java/lang/String" "value" "[B") (.int 4)) (.int 101)) ∈ flatC (Jvm.Cond.and given_1 narrow_1) := by decide +kernel
theorem na_87 : (Cond.eq (.elem (.field (Term.string "OnlyMovesHisLips$Reader" 77) "java/lang/String" "value" "[B") (.int 5)) (.int 114)) ∈ flatC (Jvm.Cond.and given_1 narrow_1) := by decide +kernel
theorem start_e5_0 {s : State} {b : Nat} (hts : ∀ w ∈ lw_tbl, w.before #[Value.ref b] s = true) (hgv : (Jvm.Cond.and given_1 narrow_1).before #[Value.ref b] s = true) : ∀ j : Nat, j < 6 → (Cond.eq (.elem (.field (Term.string "OnlyMovesHisLips$Reader" 77) "java/lang/String" "value" "[B") (.int (Int32.ofNat j))) (.int ((bytJ.getD 0 []).getD j 0))).before #[Value.ref b] s = true := by
  have hs := flat_of_before _ hgv
  intro j hj
  rcases (show j = 0 ∨ j = 1 ∨ j = 2 ∨ j = 3 ∨ j = 4 ∨ j = 5 by omega) with rfl | rfl | rfl | rfl | rfl | rfl
  · exact (hs _ na_82)
  · exact (hs _ na_83)
  · exact (hs _ na_84)
  · exact (hs _ na_85)
  · exact (hs _ na_86)
  · exact (hs _ na_87)
theorem na_88 : (Cond.eq (.elem (.field (Term.string "OnlyMovesHisLips$Reader" 79) "java/lang/String" "value" "[B") (.int 0)) (.int 109)) ∈ flatC (Jvm.Cond.and given_1 narrow_1) := by decide +kernel
theorem na_89 : (Cond.eq (.elem (.field (Term.string "OnlyMovesHisLips$Reader" 79) "java/lang/String" "value" "[B") (.int 1)) (.int 111)) ∈ flatC (Jvm.Cond.and given_1 narrow_1) := by decide +kernel
theorem na_90 : (Cond.eq (.elem (.field (Term.string "OnlyMovesHisLips$Reader" 79) "java/lang/String" "value" "[B") (.int 2)) (.int 115)) ∈ flatC (Jvm.Cond.and given_1 narrow_1) := by decide +kernel
theorem na_91 : (Cond.eq (.elem (.field (Term.string "OnlyMovesHisLips$Reader" 79) "java/lang/String" "value" "[B") (.int 3)) (.int 116)) ∈ flatC (Jvm.Cond.and given_1 narrow_1) := by decide +kernel
theorem start_e5_1 {s : State} {b : Nat} (hts : ∀ w ∈ lw_tbl, w.before #[Value.ref b] s = true) (hgv : (Jvm.Cond.and given_1 narrow_1).before #[Value.ref b] s = true) : ∀ j : Nat, j < 4 → (Cond.eq (.elem (.field (Term.string "OnlyMovesHisLips$Reader" 79) "java/lang/String" "value" "[B") (.int (Int32.ofNat j))) (.int ((bytJ.getD 1 []).getD j 0))).before #[Value.ref b] s = true := by
  have hs := flat_of_before _ hgv
  intro j hj
  rcases (show j = 0 ∨ j = 1 ∨ j = 2 ∨ j = 3 by omega) with rfl | rfl | rfl | rfl
  · exact (hs _ na_88)
  · exact (hs _ na_89)
  · exact (hs _ na_90)
  · exact (hs _ na_91)
theorem na_92 : (Cond.eq (.elem (.field (Term.string "OnlyMovesHisLips$Reader" 81) "java/lang/String" "value" "[B") (.int 0)) (.int 108)) ∈ flatC (Jvm.Cond.and given_1 narrow_1) := by decide +kernel
theorem na_93 : (Cond.eq (.elem (.field (Term.string "OnlyMovesHisLips$Reader" 81) "java/lang/String" "value" "[B") (.int 1)) (.int 101)) ∈ flatC (Jvm.Cond.and given_1 narrow_1) := by decide +kernel
theorem na_94 : (Cond.eq (.elem (.field (Term.string "OnlyMovesHisLips$Reader" 81) "java/lang/String" "value" "[B") (.int 2)) (.int 97)) ∈ flatC (Jvm.Cond.and given_1 narrow_1) := by decide +kernel
theorem na_95 : (Cond.eq (.elem (.field (Term.string "OnlyMovesHisLips$Reader" 81) "java/lang/String" "value" "[B") (.int 3)) (.int 115)) ∈ flatC (Jvm.Cond.and given_1 narrow_1) := by decide +kernel
theorem na_96 : (Cond.eq (.elem (.field (Term.string "OnlyMovesHisLips$Reader" 81) "java/lang/String" "value" "[B") (.int 4)) (.int 116)) ∈ flatC (Jvm.Cond.and given_1 narrow_1) := by decide +kernel
theorem start_e5_2 {s : State} {b : Nat} (hts : ∀ w ∈ lw_tbl, w.before #[Value.ref b] s = true) (hgv : (Jvm.Cond.and given_1 narrow_1).before #[Value.ref b] s = true) : ∀ j : Nat, j < 5 → (Cond.eq (.elem (.field (Term.string "OnlyMovesHisLips$Reader" 81) "java/lang/String" "value" "[B") (.int (Int32.ofNat j))) (.int ((bytJ.getD 2 []).getD j 0))).before #[Value.ref b] s = true := by
  have hs := flat_of_before _ hgv
  intro j hj
  rcases (show j = 0 ∨ j = 1 ∨ j = 2 ∨ j = 3 ∨ j = 4 by omega) with rfl | rfl | rfl | rfl | rfl
  · exact (hs _ na_92)
  · exact (hs _ na_93)
  · exact (hs _ na_94)
  · exact (hs _ na_95)
  · exact (hs _ na_96)
theorem na_97 : (Cond.eq (.elem (.field (Term.string "OnlyMovesHisLips$Reader" 83) "java/lang/String" "value" "[B") (.int 0)) (.int 110)) ∈ flatC (Jvm.Cond.and given_1 narrow_1) := by decide +kernel
theorem na_98 : (Cond.eq (.elem (.field (Term.string "OnlyMovesHisLips$Reader" 83) "java/lang/String" "value" "[B") (.int 1)) (.int 101)) ∈ flatC (Jvm.Cond.and given_1 narrow_1) := by decide +kernel
theorem na_99 : (Cond.eq (.elem (.field (Term.string "OnlyMovesHisLips$Reader" 83) "java/lang/String" "value" "[B") (.int 2)) (.int 97)) ∈ flatC (Jvm.Cond.and given_1 narrow_1) := by decide +kernel
theorem na_100 : (Cond.eq (.elem (.field (Term.string "OnlyMovesHisLips$Reader" 83) "java/lang/String" "value" "[B") (.int 3)) (.int 114)) ∈ flatC (Jvm.Cond.and given_1 narrow_1) := by decide +kernel
theorem start_e5_3 {s : State} {b : Nat} (hts : ∀ w ∈ lw_tbl, w.before #[Value.ref b] s = true) (hgv : (Jvm.Cond.and given_1 narrow_1).before #[Value.ref b] s = true) : ∀ j : Nat, j < 4 → (Cond.eq (.elem (.field (Term.string "OnlyMovesHisLips$Reader" 83) "java/lang/String" "value" "[B") (.int (Int32.ofNat j))) (.int ((bytJ.getD 3 []).getD j 0))).before #[Value.ref b] s = true := by
  have hs := flat_of_before _ hgv
  intro j hj
  rcases (show j = 0 ∨ j = 1 ∨ j = 2 ∨ j = 3 by omega) with rfl | rfl | rfl | rfl
  · exact (hs _ na_97)
  · exact (hs _ na_98)
  · exact (hs _ na_99)
  · exact (hs _ na_100)
theorem na_101 : (Cond.eq (.elem (.field (Term.string "OnlyMovesHisLips$Reader" 85) "java/lang/String" "value" "[B") (.int 0)) (.int 101)) ∈ flatC (Jvm.Cond.and given_1 narrow_1) := by decide +kernel
theorem na_102 : (Cond.eq (.elem (.field (Term.string "OnlyMovesHisLips$Reader" 85) "java/lang/String" "value" "[B") (.int 1)) (.int 97)) ∈ flatC (Jvm.Cond.and given_1 narrow_1) := by decide +kernel
theorem na_103 : (Cond.eq (.elem (.field (Term.string "OnlyMovesHisLips$Reader" 85) "java/lang/String" "value" "[B") (.int 2)) (.int 114)) ∈ flatC (Jvm.Cond.and given_1 narrow_1) := by decide +kernel
theorem start_e5_4 {s : State} {b : Nat} (hts : ∀ w ∈ lw_tbl, w.before #[Value.ref b] s = true) (hgv : (Jvm.Cond.and given_1 narrow_1).before #[Value.ref b] s = true) : ∀ j : Nat, j < 3 → (Cond.eq (.elem (.field (Term.string "OnlyMovesHisLips$Reader" 85) "java/lang/String" "value" "[B") (.int (Int32.ofNat j))) (.int ((bytJ.getD 4 []).getD j 0))).before #[Value.ref b] s = true := by
  have hs := flat_of_before _ hgv
  intro j hj
  rcases (show j = 0 ∨ j = 1 ∨ j = 2 by omega) with rfl | rfl | rfl
  · exact (hs _ na_101)
  · exact (hs _ na_102)
  · exact (hs _ na_103)
theorem na_104 : (Cond.eq (.elem (.field (Term.string "OnlyMovesHisLips$Reader" 87) "java/lang/String" "value" "[B") (.int 0)) (.int 104)) ∈ flatC (Jvm.Cond.and given_1 narrow_1) := by decide +kernel
theorem na_105 : (Cond.eq (.elem (.field (Term.string "OnlyMovesHisLips$Reader" 87) "java/lang/String" "value" "[B") (.int 1)) (.int 101)) ∈ flatC (Jvm.Cond.and given_1 narrow_1) := by decide +kernel
theorem na_106 : (Cond.eq (.elem (.field (Term.string "OnlyMovesHisLips$Reader" 87) "java/lang/String" "value" "[B") (.int 2)) (.int 97)) ∈ flatC (Jvm.Cond.and given_1 narrow_1) := by decide +kernel
theorem na_107 : (Cond.eq (.elem (.field (Term.string "OnlyMovesHisLips$Reader" 87) "java/lang/String" "value" "[B") (.int 3)) (.int 114)) ∈ flatC (Jvm.Cond.and given_1 narrow_1) := by decide +kernel
theorem na_108 : (Cond.eq (.elem (.field (Term.string "OnlyMovesHisLips$Reader" 87) "java/lang/String" "value" "[B") (.int 4)) (.int 100)) ∈ flatC (Jvm.Cond.and given_1 narrow_1) := by decide +kernel
theorem start_e5_5 {s : State} {b : Nat} (hts : ∀ w ∈ lw_tbl, w.before #[Value.ref b] s = true) (hgv : (Jvm.Cond.and given_1 narrow_1).before #[Value.ref b] s = true) : ∀ j : Nat, j < 5 → (Cond.eq (.elem (.field (Term.string "OnlyMovesHisLips$Reader" 87) "java/lang/String" "value" "[B") (.int (Int32.ofNat j))) (.int ((bytJ.getD 5 []).getD j 0))).before #[Value.ref b] s = true := by
  have hs := flat_of_before _ hgv
  intro j hj
  rcases (show j = 0 ∨ j = 1 ∨ j = 2 ∨ j = 3 ∨ j = 4 by omega) with rfl | rfl | rfl | rfl | rfl
  · exact (hs _ na_104)
  · exact (hs _ na_105)
  · exact (hs _ na_106)
  · exact (hs _ na_107)
  · exact (hs _ na_108)
theorem na_109 : (Cond.eq (.elem (.field (Term.string "OnlyMovesHisLips$Reader" 89) "java/lang/String" "value" "[B") (.int 0)) (.int 115)) ∈ flatC (Jvm.Cond.and given_1 narrow_1) := by decide +kernel
theorem na_110 : (Cond.eq (.elem (.field (Term.string "OnlyMovesHisLips$Reader" 89) "java/lang/String" "value" "[B") (.int 1)) (.int 119)) ∈ flatC (Jvm.Cond.and given_1 narrow_1) := by decide +kernel
theorem na_111 : (Cond.eq (.elem (.field (Term.string "OnlyMovesHisLips$Reader" 89) "java/lang/String" "value" "[B") (.int 2)) (.int 97)) ∈ flatC (Jvm.Cond.and given_1 narrow_1) := by decide +kernel
theorem na_112 : (Cond.eq (.elem (.field (Term.string "OnlyMovesHisLips$Reader" 89) "java/lang/String" "value" "[B") (.int 3)) (.int 112)) ∈ flatC (Jvm.Cond.and given_1 narrow_1) := by decide +kernel
theorem start_e5_6 {s : State} {b : Nat} (hts : ∀ w ∈ lw_tbl, w.before #[Value.ref b] s = true) (hgv : (Jvm.Cond.and given_1 narrow_1).before #[Value.ref b] s = true) : ∀ j : Nat, j < 4 → (Cond.eq (.elem (.field (Term.string "OnlyMovesHisLips$Reader" 89) "java/lang/String" "value" "[B") (.int (Int32.ofNat j))) (.int ((bytJ.getD 6 []).getD j 0))).before #[Value.ref b] s = true := by
  have hs := flat_of_before _ hgv
  intro j hj
  rcases (show j = 0 ∨ j = 1 ∨ j = 2 ∨ j = 3 by omega) with rfl | rfl | rfl | rfl
  · exact (hs _ na_109)
  · exact (hs _ na_110)
  · exact (hs _ na_111)
  · exact (hs _ na_112)
theorem start_e5 {s : State} {b : Nat} (hts : ∀ w ∈ lw_tbl, w.before #[Value.ref b] s = true) (hgv : (Jvm.Cond.and given_1 narrow_1).before #[Value.ref b] s = true) : ∀ i : Nat, i < 7 → ∀ j : Nat, j < lenJ.getD i 0 → (Cond.eq (.elem (.field ((fun i => Term.string "OnlyMovesHisLips$Reader" (77 + 2 * i)) i) "java/lang/String" "value" "[B") (.int (Int32.ofNat j))) (.int ((bytJ.getD i []).getD j 0))).before #[Value.ref b] s = true := by
  intro i hi
  rcases (show i = 0 ∨ i = 1 ∨ i = 2 ∨ i = 3 ∨ i = 4 ∨ i = 5 ∨ i = 6 by omega) with rfl | rfl | rfl | rfl | rfl | rfl | rfl
  · exact start_e5_0 hts hgv
  · exact start_e5_1 hts hgv
  · exact start_e5_2 hts hgv
  · exact start_e5_3 hts hgv
  · exact start_e5_4 hts hgv
  · exact start_e5_5 hts hgv
  · exact start_e5_6 hts hgv
theorem na_113 : (Cond.not (Cond.eq (Term.string "OnlyMovesHisLips$Reader" 77) (Term.string "OnlyMovesHisLips$Reader" 79))) ∈ flatC (Jvm.Cond.and given_1 narrow_1) := by decide +kernel
theorem start_e6_1 {s : State} {b : Nat} (hts : ∀ w ∈ lw_tbl, w.before #[Value.ref b] s = true) (hgv : (Jvm.Cond.and given_1 narrow_1).before #[Value.ref b] s = true) : ∀ i : Nat, i < 1 → (Cond.not (Cond.eq ((fun i => Term.string "OnlyMovesHisLips$Reader" (77 + 2 * i)) i) (Term.string "OnlyMovesHisLips$Reader" 79))).before #[Value.ref b] s = true := by
  have hs := flat_of_before _ hgv
  intro i hi
  rcases (show i = 0 by omega) with rfl
  · exact (hs _ na_113)
theorem na_114 : (Cond.not (Cond.eq (Term.string "OnlyMovesHisLips$Reader" 77) (Term.string "OnlyMovesHisLips$Reader" 81))) ∈ flatC (Jvm.Cond.and given_1 narrow_1) := by decide +kernel
theorem na_115 : (Cond.not (Cond.eq (Term.string "OnlyMovesHisLips$Reader" 79) (Term.string "OnlyMovesHisLips$Reader" 81))) ∈ flatC (Jvm.Cond.and given_1 narrow_1) := by decide +kernel
theorem start_e6_2 {s : State} {b : Nat} (hts : ∀ w ∈ lw_tbl, w.before #[Value.ref b] s = true) (hgv : (Jvm.Cond.and given_1 narrow_1).before #[Value.ref b] s = true) : ∀ i : Nat, i < 2 → (Cond.not (Cond.eq ((fun i => Term.string "OnlyMovesHisLips$Reader" (77 + 2 * i)) i) (Term.string "OnlyMovesHisLips$Reader" 81))).before #[Value.ref b] s = true := by
  have hs := flat_of_before _ hgv
  intro i hi
  rcases (show i = 0 ∨ i = 1 by omega) with rfl | rfl
  · exact (hs _ na_114)
  · exact (hs _ na_115)
theorem na_116 : (Cond.not (Cond.eq (Term.string "OnlyMovesHisLips$Reader" 77) (Term.string "OnlyMovesHisLips$Reader" 83))) ∈ flatC (Jvm.Cond.and given_1 narrow_1) := by decide +kernel
theorem na_117 : (Cond.not (Cond.eq (Term.string "OnlyMovesHisLips$Reader" 79) (Term.string "OnlyMovesHisLips$Reader" 83))) ∈ flatC (Jvm.Cond.and given_1 narrow_1) := by decide +kernel
theorem na_118 : (Cond.not (Cond.eq (Term.string "OnlyMovesHisLips$Reader" 81) (Term.string "OnlyMovesHisLips$Reader" 83))) ∈ flatC (Jvm.Cond.and given_1 narrow_1) := by decide +kernel
theorem start_e6_3 {s : State} {b : Nat} (hts : ∀ w ∈ lw_tbl, w.before #[Value.ref b] s = true) (hgv : (Jvm.Cond.and given_1 narrow_1).before #[Value.ref b] s = true) : ∀ i : Nat, i < 3 → (Cond.not (Cond.eq ((fun i => Term.string "OnlyMovesHisLips$Reader" (77 + 2 * i)) i) (Term.string "OnlyMovesHisLips$Reader" 83))).before #[Value.ref b] s = true := by
  have hs := flat_of_before _ hgv
  intro i hi
  rcases (show i = 0 ∨ i = 1 ∨ i = 2 by omega) with rfl | rfl | rfl
  · exact (hs _ na_116)
  · exact (hs _ na_117)
  · exact (hs _ na_118)
theorem na_119 : (Cond.not (Cond.eq (Term.string "OnlyMovesHisLips$Reader" 77) (Term.string "OnlyMovesHisLips$Reader" 85))) ∈ flatC (Jvm.Cond.and given_1 narrow_1) := by decide +kernel
theorem na_120 : (Cond.not (Cond.eq (Term.string "OnlyMovesHisLips$Reader" 79) (Term.string "OnlyMovesHisLips$Reader" 85))) ∈ flatC (Jvm.Cond.and given_1 narrow_1) := by decide +kernel
theorem na_121 : (Cond.not (Cond.eq (Term.string "OnlyMovesHisLips$Reader" 81) (Term.string "OnlyMovesHisLips$Reader" 85))) ∈ flatC (Jvm.Cond.and given_1 narrow_1) := by decide +kernel
theorem na_122 : (Cond.not (Cond.eq (Term.string "OnlyMovesHisLips$Reader" 83) (Term.string "OnlyMovesHisLips$Reader" 85))) ∈ flatC (Jvm.Cond.and given_1 narrow_1) := by decide +kernel
theorem start_e6_4 {s : State} {b : Nat} (hts : ∀ w ∈ lw_tbl, w.before #[Value.ref b] s = true) (hgv : (Jvm.Cond.and given_1 narrow_1).before #[Value.ref b] s = true) : ∀ i : Nat, i < 4 → (Cond.not (Cond.eq ((fun i => Term.string "OnlyMovesHisLips$Reader" (77 + 2 * i)) i) (Term.string "OnlyMovesHisLips$Reader" 85))).before #[Value.ref b] s = true := by
  have hs := flat_of_before _ hgv
  intro i hi
  rcases (show i = 0 ∨ i = 1 ∨ i = 2 ∨ i = 3 by omega) with rfl | rfl | rfl | rfl
  · exact (hs _ na_119)
  · exact (hs _ na_120)
  · exact (hs _ na_121)
  · exact (hs _ na_122)
theorem na_123 : (Cond.not (Cond.eq (Term.string "OnlyMovesHisLips$Reader" 77) (Term.string "OnlyMovesHisLips$Reader" 87))) ∈ flatC (Jvm.Cond.and given_1 narrow_1) := by decide +kernel
theorem na_124 : (Cond.not (Cond.eq (Term.string "OnlyMovesHisLips$Reader" 79) (Term.string "OnlyMovesHisLips$Reader" 87))) ∈ flatC (Jvm.Cond.and given_1 narrow_1) := by decide +kernel
theorem na_125 : (Cond.not (Cond.eq (Term.string "OnlyMovesHisLips$Reader" 81) (Term.string "OnlyMovesHisLips$Reader" 87))) ∈ flatC (Jvm.Cond.and given_1 narrow_1) := by decide +kernel
theorem na_126 : (Cond.not (Cond.eq (Term.string "OnlyMovesHisLips$Reader" 83) (Term.string "OnlyMovesHisLips$Reader" 87))) ∈ flatC (Jvm.Cond.and given_1 narrow_1) := by decide +kernel
theorem na_127 : (Cond.not (Cond.eq (Term.string "OnlyMovesHisLips$Reader" 85) (Term.string "OnlyMovesHisLips$Reader" 87))) ∈ flatC (Jvm.Cond.and given_1 narrow_1) := by decide +kernel
theorem start_e6_5 {s : State} {b : Nat} (hts : ∀ w ∈ lw_tbl, w.before #[Value.ref b] s = true) (hgv : (Jvm.Cond.and given_1 narrow_1).before #[Value.ref b] s = true) : ∀ i : Nat, i < 5 → (Cond.not (Cond.eq ((fun i => Term.string "OnlyMovesHisLips$Reader" (77 + 2 * i)) i) (Term.string "OnlyMovesHisLips$Reader" 87))).before #[Value.ref b] s = true := by
  have hs := flat_of_before _ hgv
  intro i hi
  rcases (show i = 0 ∨ i = 1 ∨ i = 2 ∨ i = 3 ∨ i = 4 by omega) with rfl | rfl | rfl | rfl | rfl
  · exact (hs _ na_123)
  · exact (hs _ na_124)
  · exact (hs _ na_125)
  · exact (hs _ na_126)
  · exact (hs _ na_127)
theorem na_128 : (Cond.not (Cond.eq (Term.string "OnlyMovesHisLips$Reader" 77) (Term.string "OnlyMovesHisLips$Reader" 89))) ∈ flatC (Jvm.Cond.and given_1 narrow_1) := by decide +kernel
theorem na_129 : (Cond.not (Cond.eq (Term.string "OnlyMovesHisLips$Reader" 79) (Term.string "OnlyMovesHisLips$Reader" 89))) ∈ flatC (Jvm.Cond.and given_1 narrow_1) := by decide +kernel
theorem na_130 : (Cond.not (Cond.eq (Term.string "OnlyMovesHisLips$Reader" 81) (Term.string "OnlyMovesHisLips$Reader" 89))) ∈ flatC (Jvm.Cond.and given_1 narrow_1) := by decide +kernel
theorem na_131 : (Cond.not (Cond.eq (Term.string "OnlyMovesHisLips$Reader" 83) (Term.string "OnlyMovesHisLips$Reader" 89))) ∈ flatC (Jvm.Cond.and given_1 narrow_1) := by decide +kernel
theorem na_132 : (Cond.not (Cond.eq (Term.string "OnlyMovesHisLips$Reader" 85) (Term.string "OnlyMovesHisLips$Reader" 89))) ∈ flatC (Jvm.Cond.and given_1 narrow_1) := by decide +kernel
theorem na_133 : (Cond.not (Cond.eq (Term.string "OnlyMovesHisLips$Reader" 87) (Term.string "OnlyMovesHisLips$Reader" 89))) ∈ flatC (Jvm.Cond.and given_1 narrow_1) := by decide +kernel
theorem start_e6_6 {s : State} {b : Nat} (hts : ∀ w ∈ lw_tbl, w.before #[Value.ref b] s = true) (hgv : (Jvm.Cond.and given_1 narrow_1).before #[Value.ref b] s = true) : ∀ i : Nat, i < 6 → (Cond.not (Cond.eq ((fun i => Term.string "OnlyMovesHisLips$Reader" (77 + 2 * i)) i) (Term.string "OnlyMovesHisLips$Reader" 89))).before #[Value.ref b] s = true := by
  have hs := flat_of_before _ hgv
  intro i hi
  rcases (show i = 0 ∨ i = 1 ∨ i = 2 ∨ i = 3 ∨ i = 4 ∨ i = 5 by omega) with rfl | rfl | rfl | rfl | rfl | rfl
  · exact (hs _ na_128)
  · exact (hs _ na_129)
  · exact (hs _ na_130)
  · exact (hs _ na_131)
  · exact (hs _ na_132)
  · exact (hs _ na_133)
theorem start_e6l {s : State} {b : Nat} (hts : ∀ w ∈ lw_tbl, w.before #[Value.ref b] s = true) (hgv : (Jvm.Cond.and given_1 narrow_1).before #[Value.ref b] s = true) : ∀ i j : Nat, i < j → j < 7 → (Cond.not (Cond.eq ((fun i => Term.string "OnlyMovesHisLips$Reader" (77 + 2 * i)) i) ((fun i => Term.string "OnlyMovesHisLips$Reader" (77 + 2 * i)) j))).before #[Value.ref b] s = true := by
  intro i j hij hj
  rcases (show j = 1 ∨ j = 2 ∨ j = 3 ∨ j = 4 ∨ j = 5 ∨ j = 6 by omega) with rfl | rfl | rfl | rfl | rfl | rfl
  · exact start_e6_1 hts hgv i hij
  · exact start_e6_2 hts hgv i hij
  · exact start_e6_3 hts hgv i hij
  · exact start_e6_4 hts hgv i hij
  · exact start_e6_5 hts hgv i hij
  · exact start_e6_6 hts hgv i hij
theorem na_134 : (Cond.eq (Term.static "java/lang/String" "COMPACT_STRINGS" "Z") (Term.int 1)) ∈ flatC (Jvm.Cond.and given_1 narrow_1) := by decide +kernel
theorem na_135 : (Cond.isRef (Term.static "jdk/internal/util/Preconditions" "SIOOBE_FORMATTER" "Ljava/util/function/BiFunction;")) ∈ flatC (Jvm.Cond.and given_1 narrow_1) := by decide +kernel
def saOf (t0 t1 t2 t3 t4 : Nat) (f g : Nat → Nat) (k : Nat) : Nat := if k < 5 then ([t0, t1, t2, t3, t4] : List Nat).getD k 0 else if k < 12 then f (k - 5) else g (k - 12)
theorem saOf_f {t0 t1 t2 t3 t4 : Nat} {f g : Nat → Nat} {i : Nat} (h : i < 7) : saOf t0 t1 t2 t3 t4 f g (5 + i) = f i := by unfold saOf; rw [if_neg (by omega), if_pos (by omega), show 5 + i - 5 = i by omega]
theorem saOf_g {t0 t1 t2 t3 t4 : Nat} {f g : Nat → Nat} {i : Nat} (h : i < 7) : saOf t0 t1 t2 t3 t4 f g (12 + i) = g i := by unfold saOf; rw [if_neg (by omega), if_neg (by omega), show 12 + i - 12 = i by omega]
theorem start_r0 {s : State} {b : Nat} (hts : ∀ w ∈ lw_tbl, w.before #[Value.ref b] s = true) (hgv : (Jvm.Cond.and given_1 narrow_1).before #[Value.ref b] s = true) {q : Nat} (h : (Term.string "OnlyMovesHisLips$Reader" 77).eval #[Value.ref b] s none [] s = some (.ref q)) : vk_R RX3 77 "singer" q s := vk_R.of (A := #[Value.ref b]) (hts _ (List.mem_append_right _ ((List.mem_append_right _ (List.mem_append_right _ (List.mem_append_left _ (List.mem_of_getElem? (i := 60) rfl))))))) h
theorem start_r1 {s : State} {b : Nat} (hts : ∀ w ∈ lw_tbl, w.before #[Value.ref b] s = true) (hgv : (Jvm.Cond.and given_1 narrow_1).before #[Value.ref b] s = true) {q : Nat} (h : (Term.string "OnlyMovesHisLips$Reader" 79).eval #[Value.ref b] s none [] s = some (.ref q)) : vk_R RX3 79 "most" q s := vk_R.of (A := #[Value.ref b]) (hts _ (List.mem_append_right _ ((List.mem_append_right _ (List.mem_append_right _ (List.mem_append_left _ (List.mem_of_getElem? (i := 61) rfl))))))) h
theorem start_r2 {s : State} {b : Nat} (hts : ∀ w ∈ lw_tbl, w.before #[Value.ref b] s = true) (hgv : (Jvm.Cond.and given_1 narrow_1).before #[Value.ref b] s = true) {q : Nat} (h : (Term.string "OnlyMovesHisLips$Reader" 81).eval #[Value.ref b] s none [] s = some (.ref q)) : vk_R RX3 81 "least" q s := vk_R.of (A := #[Value.ref b]) (hts _ (List.mem_append_right _ ((List.mem_append_right _ (List.mem_append_right _ (List.mem_append_left _ (List.mem_of_getElem? (i := 62) rfl))))))) h
theorem start_r3 {s : State} {b : Nat} (hts : ∀ w ∈ lw_tbl, w.before #[Value.ref b] s = true) (hgv : (Jvm.Cond.and given_1 narrow_1).before #[Value.ref b] s = true) {q : Nat} (h : (Term.string "OnlyMovesHisLips$Reader" 83).eval #[Value.ref b] s none [] s = some (.ref q)) : vk_R RX3 83 "near" q s := vk_R.of (A := #[Value.ref b]) (hts _ (List.mem_append_right _ ((List.mem_append_right _ (List.mem_append_right _ (List.mem_append_left _ (List.mem_of_getElem? (i := 63) rfl))))))) h
theorem start_r4 {s : State} {b : Nat} (hts : ∀ w ∈ lw_tbl, w.before #[Value.ref b] s = true) (hgv : (Jvm.Cond.and given_1 narrow_1).before #[Value.ref b] s = true) {q : Nat} (h : (Term.string "OnlyMovesHisLips$Reader" 85).eval #[Value.ref b] s none [] s = some (.ref q)) : vk_R RX3 85 "ear" q s := vk_R.of (A := #[Value.ref b]) (hts _ (List.mem_append_right _ ((List.mem_append_right _ (List.mem_append_right _ (List.mem_append_left _ (List.mem_of_getElem? (i := 64) rfl))))))) h
theorem start_r5 {s : State} {b : Nat} (hts : ∀ w ∈ lw_tbl, w.before #[Value.ref b] s = true) (hgv : (Jvm.Cond.and given_1 narrow_1).before #[Value.ref b] s = true) {q : Nat} (h : (Term.string "OnlyMovesHisLips$Reader" 87).eval #[Value.ref b] s none [] s = some (.ref q)) : vk_R RX3 87 "heard" q s := vk_R.of (A := #[Value.ref b]) (hts _ (List.mem_append_right _ ((List.mem_append_right _ (List.mem_append_right _ (List.mem_append_left _ (List.mem_of_getElem? (i := 65) rfl))))))) h
theorem start_r6 {s : State} {b : Nat} (hts : ∀ w ∈ lw_tbl, w.before #[Value.ref b] s = true) (hgv : (Jvm.Cond.and given_1 narrow_1).before #[Value.ref b] s = true) {q : Nat} (h : (Term.string "OnlyMovesHisLips$Reader" 89).eval #[Value.ref b] s none [] s = some (.ref q)) : vk_R RX3 89 "swap" q s := vk_R.of (A := #[Value.ref b]) (hts _ (List.mem_append_right _ ((List.mem_append_right _ (List.mem_append_right _ (List.mem_append_left _ (List.mem_of_getElem? (i := 66) rfl))))))) h
theorem start_S {s : State} {b : Nat} (hts : ∀ w ∈ lw_tbl, w.before #[Value.ref b] s = true) (hgv : (Jvm.Cond.and given_1 narrow_1).before #[Value.ref b] s = true) : ∃ sa : Nat → Nat, ST (fun q : Nat => s.heap.size ≤ q) sa s s.heap := by
  have hs := flat_of_before _ hgv
  obtain ⟨t0, hZ0, hT0⟩ := start_A0 hts hgv
  obtain ⟨t1, hZ1, hT1⟩ := start_A1 hts hgv
  obtain ⟨t2, hZ2, hT2⟩ := start_A2 hts hgv
  obtain ⟨t3, hZ3, hT3⟩ := start_A3 hts hgv
  obtain ⟨t4, hZ4, hT4⟩ := start_A4 hts hgv
  obtain ⟨adK, adV, hV, hK⟩ := vk_Sof (A := (fun q : Nat => s.heap.size ≤ q)) (N := 7) (tm := (fun i => Term.string "OnlyMovesHisLips$Reader" (77 + 2 * i))) (len := lenJ) (byt := bytJ) lenJ_lt (start_e1 hts hgv) (start_e2 hts hgv) (start_e3 hts hgv) (start_e4 hts hgv) (start_e5 hts hgv) (fun i j hi hj hne => by
    rcases Nat.lt_or_gt_of_ne hne with h | h
    · exact Or.inl (start_e6l hts hgv i j h hj)
    · exact Or.inr (start_e6l hts hgv j i h hi)) (fun a h => Nat.not_le.mpr h)
  have hC := va_Zof (A := (fun q : Nat => s.heap.size ≤ q)) (hts _ (List.mem_append_right _ ((List.mem_append_right _ (List.mem_append_right _ (List.mem_append_left _ (List.mem_of_getElem? (i := 76) rfl))))))) (hts _ (List.mem_append_right _ (List.mem_append_left _ (List.mem_of_getElem? (i := 14) rfl)))) (va_eqt (hs _ na_134)) (fun a h => Nat.not_le.mpr h)
  have hF := va_Zqof (A := (fun q : Nat => s.heap.size ≤ q)) (hts _ (List.mem_append_right _ ((List.mem_append_right _ (List.mem_append_right _ (List.mem_append_left _ (List.mem_of_getElem? (i := 100) rfl))))))) (hts _ (List.mem_append_right _ (List.mem_append_left _ (List.mem_of_getElem? (i := 16) rfl)))) (hs _ na_135) (fun a h => Nat.not_le.mpr h)
  refine ⟨saOf t0 t1 t2 t3 t4 adK adV, ⟨hZ0, hT0⟩, ⟨hZ1, hT1⟩, ⟨hZ2, hT2⟩, ⟨hZ3, hT3⟩, ⟨hZ4, hT4⟩, ⟨fun i hi => ?_, fun i j hi hj he => ?_⟩, fun i hi => ?_, hC, hF⟩
  · show va_O _ (saOf t0 t1 t2 t3 t4 adK adV (5 + i)) _ _ _ ∧ va_OF _ _ _ _ (saOf t0 t1 t2 t3 t4 adK adV (5 + i)) _ _ _ ∧ va_OF _ _ _ (.ref (saOf t0 t1 t2 t3 t4 adK adV (12 + i))) (saOf t0 t1 t2 t3 t4 adK adV (5 + i)) _ _ _ ∧ va_T _ (saOf t0 t1 t2 t3 t4 adK adV (12 + i)) _ _ _ _ _
    rw [saOf_f hi, saOf_g hi]; exact hV.1 i hi
  · have he : saOf t0 t1 t2 t3 t4 adK adV (5 + i) = saOf t0 t1 t2 t3 t4 adK adV (5 + j) := he
    rw [saOf_f hi, saOf_f hj] at he; exact hV.2 i j hi hj he
  · rw [saOf_f hi]
    have hk := hK i hi
    rcases (show i = 0 ∨ i = 1 ∨ i = 2 ∨ i = 3 ∨ i = 4 ∨ i = 5 ∨ i = 6 by omega) with rfl | rfl | rfl | rfl | rfl | rfl | rfl
    · exact start_r0 hts hgv hk
    · exact start_r1 hts hgv hk
    · exact start_r2 hts hgv hk
    · exact start_r3 hts hgv hk
    · exact start_r4 hts hgv hk
    · exact start_r5 hts hgv hk
    · exact start_r6 hts hgv hk
theorem start_K {s : State} {av : Array Value} (hts : ∀ w ∈ TB, w.before av s = true) (hO : (Cond.arrayOver (.object "OnlyMovesHisLips$Shelf")).before av s = true) : ∃ (D : va_G) (cA : Nat → ClassId), va_K D vwCl (tyL cA) s ∧ va_AO "OnlyMovesHisLips$Shelf" s := by
  obtain ⟨c0, iS0, hKn0⟩ := u_known (C := RX0) (T := TX0) (N := 6) (n := 6) hts ku_X0 (hts _ ka_X0)
  obtain ⟨c1, iS1, hKn1⟩ := u_known (C := RX1) (T := TX1) (N := 8) (n := 8) hts ku_X1 (hts _ ka_X1)
  obtain ⟨c2, iS2, hKn2⟩ := u_known (C := RX2) (T := TX2) (N := 9) (n := 9) hts ku_X2 (hts _ ka_X2)
  obtain ⟨c3, iS3, hKn3⟩ := u_known (C := RX3) (T := TX3) (N := 4) (n := 4) hts ku_X3 (hts _ ka_X3)
  obtain ⟨c4, iS4, hKn4⟩ := u_known (C := RX4) (T := TX4) (N := 3) (n := 3) hts ku_X4 (hts _ ka_X4)
  obtain ⟨c5, iS5, hKn5⟩ := u_known (C := RX5) (T := TX5) (N := 6) (n := 6) hts ku_X5 (hts _ ka_X5)
  obtain ⟨c6, iS6, hKn6⟩ := u_known (C := RX6) (T := TX6) (N := 5) (n := 5) hts ku_X6 (hts _ ka_X6)
  obtain ⟨c7, iS7, hKn7⟩ := u_known (C := RX7) (T := TX7) (N := 9) (n := 9) hts ku_X7 (hts _ ka_X7)
  obtain ⟨c8, iS8, hKn8⟩ := u_known (C := RX8) (T := TX8) (N := 11) (n := 11) hts ku_X8 (hts _ ka_X8)
  obtain ⟨c9, iS9, hKn9⟩ := u_known (C := RX9) (T := TX9) (N := 45) (n := 45) hts ku_X9 (hts _ ka_X9)
  obtain ⟨k0, ck0, cmp0, x0, y0, z0⟩ := Cond.arrayClass_spec (hts _ ky_int)
  obtain ⟨k1, ck1, cmp1, x1, y1, z1⟩ := Cond.arrayClass_spec (hts _ ky_long)
  obtain ⟨k2, ck2, cmp2, x2, y2, z2⟩ := Cond.arrayClass_spec (hts _ ky_boolean)
  obtain ⟨cmp3, k3, ck3, x3, -, y3, z3, w3⟩ := Cond.arrayOver_spec hO
  refine ⟨(fun k => ([c0, c1, c2, c3, c4, c5, c6, c7, c8, c9] : List ClassId).getD k c0, fun k => ([iS0, iS1, iS2, iS3, iS4, iS5, iS6, iS7, iS8, iS9] : List (Nat → Nat)).getD k iS0), fun k => ([k0, k1, k2, k3] : List ClassId).getD k k0, ⟨fun k q hq => ?_, fun k q hq => ?_⟩, va_AO.of hO⟩
  · match k, hq with
    | 0, hq => cases hq; exact hKn0
    | 1, hq => cases hq; exact hKn1
    | 2, hq => cases hq; exact hKn2
    | 3, hq => cases hq; exact hKn3
    | 4, hq => cases hq; exact hKn4
    | 5, hq => cases hq; exact hKn5
    | 6, hq => cases hq; exact hKn6
    | 7, hq => cases hq; exact hKn7
    | 8, hq => cases hq; exact hKn8
    | 9, hq => cases hq; exact hKn9
    | k + 10, hq => simp [vwCl] at hq
  · match k, hq with
    | 0, hq => cases hq; exact ⟨fun n z => ⟨fun k h => (by cases h), ck0, y0, cmp0, z0⟩, x0⟩
    | 1, hq => cases hq; exact ⟨fun n z => ⟨fun k h => (by cases h), ck1, y1, cmp1, z1⟩, x1⟩
    | 2, hq => cases hq; exact ⟨fun n z => ⟨fun k h => (by cases h), ck2, y2, cmp2, z2⟩, x2⟩
    | 3, hq => cases hq; exact ⟨fun n z => ⟨fun k h => (by cases h), ck3, y3, cmp3, z3⟩, ck3, cmp3, y3, z3, x3, w3⟩
    | k + 4, hq => simp [tyL] at hq
