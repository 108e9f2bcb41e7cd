/-! THE LAW'S ENTRY: what the Statement gives of the start is the link's environment -/
noncomputable def wE_i (ci : Nat) : Bool := lw_tbl.contains (.instantiable (dm_cn ci) (dm_fN ci))
theorem wE_is : (List.range 12).all wE_i = true := by decide +kernel
noncomputable def wE_f (q : Nat × Nat × Nat × Nat) : Bool := lw_tbl.contains (.fieldLinkNest (dm_on q.1) q.2.1 (dm_cn q.2.2.1) (dm_ff q.2.2.1 q.2.2.2).2.1 (dm_ff q.2.2.1 q.2.2.2).2.2.1 "DatalogMill")
theorem wE_fs : dm_fkn.all wE_f = true := by decide +kernel
noncomputable def wE_u (q : Nat × Nat) : Bool := lw_tbl.contains (.fieldLinkNest (dm_on q.1) q.2 "DatalogMill" "UNITS" "[I" "DatalogMill")
theorem wE_us : dm_ukn.all wE_u = true := by decide +kernel
noncomputable def wE_m (q : Nat × Nat × Nat × Nat × List Nat) : Bool := lw_tbl.contains (.methodLinkNest (dm_on q.1) q.2.1 (dm_y q.2.2.1) "DatalogMill")
theorem wE_ms : (dm_mk2 ++ dm_mk6 ++ dm_mk9).all wE_m = true := by decide +kernel
noncomputable def wE_g : List Cond := flatC (Jvm.Cond.and given_1 narrow_1)
noncomputable def wE_t (q : Nat × Nat × Nat × Nat × Nat × Nat × String × Nat) : Bool := lw_tbl.contains (.stringRef (dm_on (dm_o q.1)) q.2.2.2.1 q.2.2.2.2.2.2.1) && wE_g.contains (.exactly (.string (dm_on (dm_o q.1)) q.2.2.2.1) "java/lang/String")
theorem wE_ts : dm_tk.all wE_t = true := by decide +kernel
theorem wE_ns : (List.range 3).all (fun E => (List.range 3).all (fun F => Nat.beq E F || wE_g.contains (.not (.castable (dm_xn E) (dm_xn F))))) = true := by decide +kernel
theorem wE_mem {w : Cond} (h : lw_tbl.contains w = true) : w ∈ lw_tbl := List.contains_iff_mem.mp h
theorem wE_mg {w : Cond} (h : wE_g.contains w = true) : w ∈ wE_g := List.contains_iff_mem.mp h
section WE
variable {s : State} {b L : Nat} {xs : Nat → Int32}
theorem wE_cls (hts : ∀ w ∈ lw_tbl, w.before #[Value.ref b] s = true) : ∃ (dC : Nat → ClassId) (dI : Nat → Nat → Nat), ∀ ci, ci < 12 → u_Kn s (dm_cn ci) (dm_ff ci) (dm_fN ci) (dC ci) (dI ci) := by
  have h0 : ∀ ci : Nat, ∃ q : ClassId × (Nat → Nat), ci < 12 → u_Kn s (dm_cn ci) (dm_ff ci) (dm_fN ci) q.1 q.2 := by
    intro ci
    by_cases h : ci < 12
    · have hi := List.all_eq_true.mp wE_is ci (List.mem_range.mpr h)
      obtain ⟨cC, iS, k⟩ := u_known (ws := lw_tbl) (n := dm_fN ci) hts (fun w hw => (List.mem_filter.mp (df_in h w hw)).1) (hts _ (wE_mem (by unfold wE_i at hi; exact hi)))
      exact ⟨(cC, iS), fun _ => k⟩
    · exact ⟨(0, fun _ => 0), fun q => absurd q h⟩
  obtain ⟨f, hf⟩ := Classical.axiomOfChoice h0
  exact ⟨fun ci => (f ci).1, fun ci => (f ci).2, hf⟩
theorem wE_arr {ty : FieldType} (h : (Cond.arrayClass ty).before #[Value.ref b] s = true) : ∃ cA, ArrOfT s cA ty ∧ s.vm.findClass ("[" ++ ty.toString) = some cA := by
  obtain ⟨cA, kA, comp, h1, h2, h3⟩ := Cond.arrayClass_spec h
  exact ⟨cA, fun n z => ⟨fun k h => (by cases h), kA, h2, comp, h3⟩, h1⟩
theorem wE_A2 (h : dm_A2 s) : ∃ cA, ArrOfT s cA (.array .int) ∧ s.vm.findClass ("[" ++ (FieldType.array .int).toString) = some cA := by
  unfold dm_A2 Cond.before Cond.holds at h
  simp only [Cond.value, beq_iff_eq] at h
  cases hc : s.vm.findClass (FieldType.array .int).toString with
  | none => rw [hc] at h; cases h
  | some comp =>
  rw [hc, Option.bind_some] at h
  obtain ⟨c, h2, h3⟩ := Option.bind_eq_some_iff.mp h
  obtain ⟨k, h4, h5⟩ := Option.map_eq_some_iff.mp h3
  cases hk : k.kind with
  | array comp' ty =>
    simp only [hk, Bool.and_eq_true, decide_eq_true_eq] at h5
    exact ⟨c, fun n z => ⟨fun k h => (by cases h), k, h4, comp', by rw [hk, h5.1]⟩, h5.2⟩
  | _ => simp [hk] at h5
theorem wE_Ev (hts : ∀ w ∈ lw_tbl, w.before #[Value.ref b] s = true) (hgv : (Jvm.Cond.and given_1 narrow_1).before #[Value.ref b] s = true) : ∃ G : dm_G, dm_Ev G s := by
  have hg : ∀ w ∈ wE_g, w.before #[Value.ref b] s = true := flat_of_before _ hgv
  obtain ⟨dC, dI, hK⟩ := wE_cls hts
  obtain ⟨c2, a2, n2⟩ := wE_arr (ty := .int) (hts _ (List.mem_of_getElem? (i := 184) (by decide +kernel)))
  obtain ⟨c3, a3, n3⟩ := wE_arr (ty := .boolean) (hts _ (List.mem_of_getElem? (i := 321) (by decide +kernel)))
  obtain ⟨c4, a4, n4⟩ := wE_arr (ty := .long) (hts _ (List.mem_of_getElem? (i := 1974) (by decide +kernel)))
  have o5 : va_AO "DatalogMill$Rule" s := va_AO.of (hts (.arrayOver (.object "DatalogMill$Rule")) (List.mem_of_getElem? (i := 224) (by decide +kernel)))
  have o6 : dm_A2 s := hts (.arrayOver (.array .int)) (List.mem_of_getElem? (i := 353) (by decide +kernel))
  obtain ⟨comp5, c5, k5, m1, m2, m3, m4, m5⟩ := Cond.arrayOver_spec o5
  obtain ⟨c6, a6, n6⟩ := wE_A2 o6
  refine ⟨(dC, dI, fun k => if k = 2 then c2 else if k = 3 then c3 else if k = 4 then c4 else if k = 5 then c5 else c6), ⟨?_, ?_⟩, ?_, ?_, ?_, ⟨o5, o6⟩, ?_, ?_, ?_⟩
  · intro c q hq
    by_cases h : c < 12
    · rw [df_cl h] at hq
      cases hq
      exact hK c h
    · unfold dm_cl at hq
      rw [List.getElem?_eq_none (by simp; omega)] at hq
      cases hq
  · intro k q hq
    match k, hq with
    | 0, hq => cases hq; exact ⟨a2, n2⟩
    | 1, hq => cases hq; exact ⟨a3, n3⟩
    | 2, hq => cases hq; exact ⟨a4, n4⟩
    | 3, hq => cases hq; exact ⟨fun N z => ⟨(fun k h => by cases h), k5, m3, comp5, m4⟩, k5, comp5, m3, m4, m1, m5⟩
    | 4, hq => cases hq; exact ⟨a6, n6⟩
    | k + 5, hq => cases hq
  · intro q hq
    have h := List.all_eq_true.mp wE_fs q hq
    unfold wE_f at h
    exact va_Nw.of rfl (hts _ (wE_mem h))
  · intro q hq
    have h := List.all_eq_true.mp wE_us q hq
    unfold wE_u at h
    exact va_Nw.of rfl (hts _ (wE_mem h))
  · intro q hq
    have h := List.all_eq_true.mp wE_ms q hq
    unfold wE_m at h
    exact va_Nw.of rfl (hts _ (wE_mem h))
  · intro w hw
    obtain ⟨h1, h2⟩ := List.mem_filter.mp hw
    have h3 := hts w h1
    unfold dm_isn at h2
    split at h2
    · exact va_Nw.of rfl h3
    · exact va_Nw.of rfl h3
    · cases h2
  · intro q hq
    have h := List.all_eq_true.mp wE_ts q hq
    unfold wE_t at h
    obtain ⟨h1, h2⟩ := Bool.and_eq_true_iff.mp h
    obtain ⟨a, c, cA, kA, q1, -⟩ := Cond.exactly_spec (args := #[Value.ref b]) (first := s) (o := none) (s := s) (idx := []) (t := .string (dm_on (dm_o q.1)) q.2.2.2.1) (cls := "java/lang/String") (hg _ (wE_mg h2))
    exact ⟨a, vk_R.of (hts _ (wE_mem h1)) q1⟩
  · intro E F h1 h2 h3
    have h := List.all_eq_true.mp (List.all_eq_true.mp wE_ns E (List.mem_range.mpr h1)) F (List.mem_range.mpr h2)
    rcases Bool.or_eq_true_iff.mp h with h | h
    · exact absurd (Nat.eq_of_beq_eq_true h) h3
    · exact va_Nc.of (hg _ (wE_mg h))
theorem wE_St (hts : ∀ w ∈ lw_tbl, w.before #[Value.ref b] s = true) (hgv : (Jvm.Cond.and given_1 narrow_1).before #[Value.ref b] s = true) (hX : va_X b L xs s s.heap) (hbl : b < s.heap.size) : ∃ u, dm_St s.heap.size b L u (fun j => (xs j).toInt) s s.heap := by
  have hg : ∀ w ∈ flatC (Jvm.Cond.and given_1 narrow_1), w.before #[Value.ref b] s = true := flat_of_before _ hgv
  have hA : ∀ a : Nat, a < s.heap.size → ¬ dm_A s.heap.size a := fun a h => Nat.not_le.mpr h
  have e0 : Int32.ofInt (dm_unit ((0 : Nat) : Int)) = 10000 := by decide +kernel
  have e1 : Int32.ofInt (dm_unit ((1 : Nat) : Int)) = 100 := by decide +kernel
  have e2 : Int32.ofInt (dm_unit ((2 : Nat) : Int)) = 1 := by decide +kernel
  obtain ⟨t, ht, cell, c1, c2, c3, c4, -, c5, -⟩ := va_Tof (tm := .static "DatalogMill" "UNITS" "[I") (ty := .int) (N := 3) (f := fun j => .int (Int32.ofInt (dm_unit j))) (A := dm_A s.heap.size) (by decide) (hg (.arrayOf (.static "DatalogMill" "UNITS" "[I") .int) (by decide +kernel)) (va_eqt (z := 3) (hg (.eq (.length (.static "DatalogMill" "UNITS" "[I")) (.int 3)) (by decide +kernel))) (fun j hj => by
    match j, hj with
    | 0, _ => exact (va_eqt (z := 10000) (hg (.eq (.elem (.static "DatalogMill" "UNITS" "[I") (.int 0)) (.int 10000)) (by decide +kernel))).trans (congrArg (fun z => some (Value.int z)) e0.symm)
    | 1, _ => exact (va_eqt (z := 100) (hg (.eq (.elem (.static "DatalogMill" "UNITS" "[I") (.int 1)) (.int 100)) (by decide +kernel))).trans (congrArg (fun z => some (Value.int z)) e1.symm)
    | 2, _ => exact (va_eqt (z := 1) (hg (.eq (.elem (.static "DatalogMill" "UNITS" "[I") (.int 2)) (.int 1)) (by decide +kernel))).trans (congrArg (fun z => some (Value.int z)) e2.symm)
    | j + 3, h => omega) hA
  refine ⟨t, ?_, ⟨cell, c1, c2, c3, c4, c5⟩, hbl, (Array.getElem?_eq_some_iff.mp c1).1, ?_, ?_, ?_⟩
  · have e : (fun j => Int32.ofInt ((xs j).toInt)) = xs := funext fun j => Int32.ofInt_toInt (xs j)
    rw [e]
    exact hX
  · exact va_Zref (hts (.laysStatic "DatalogMill" "UNITS" "[I") (List.mem_of_getElem? (i := 704) (by decide +kernel))) (hts (.initialized "DatalogMill") (List.mem_of_getElem? (i := 112) (by decide +kernel))) ht hA
  · exact vx_Zqof (hts (.laysStatic Bundle.tN "UNASSIGNED_STACK" Bundle.steD) (List.mem_of_getElem? (i := 919) (by decide +kernel))) (hts (.initialized Bundle.tN) (List.mem_of_getElem? (i := 125) (by decide +kernel))) (hg (.isRef (.static Bundle.tN "UNASSIGNED_STACK" Bundle.steD)) (by decide +kernel)) hA
  · exact vx_Zqof (hts (.laysStatic Bundle.tN "SUPPRESSED_SENTINEL" Bundle.listD) (List.mem_of_getElem? (i := 921) (by decide +kernel))) (hts (.initialized Bundle.tN) (List.mem_of_getElem? (i := 125) (by decide +kernel))) (hg (.isRef (.static Bundle.tN "SUPPRESSED_SENTINEL" Bundle.listD)) (by decide +kernel)) hA
end WE
