/-! ALL STEPS AT ONCE: text by wip/whole/gen/simm.py -/
theorem bd {a b : Bool} (h : (a && b) = true) : a = true ∧ b = true := by simpa using h
theorem bdn {b : Bool} {n m : Nat} (h : (Nat.beq n m && b) = true) : n = m ∧ b = true := ⟨Nat.eq_of_beq_eq_true (bd h).1, (bd h).2⟩
theorem bn {n m : Nat} (h : Nat.beq n m = true) : n = m := Nat.eq_of_beq_eq_true h
theorem bl {n m : Nat} (h : Nat.blt n m = true) : n < m := Nat.le_of_ble_eq_true h
theorem dq_mfacts {cc : ByteArray} : ∀ (C : List dm_E1) (pc : Nat), Jvm.Free.DS.Facts cc pc (C.map (fun e => (e.2.1, e.2.2.1))) → dq_ctg pc C = true → ∀ e ∈ C, decode cc e.1 = .ok (e.2.1, e.2.2.1)
  | [], _, _, _ => fun _ h => nomatch h
  | (q, i, n, d, cs) :: C, pc, h1, h2 => by
    have h1 : decode cc pc = .ok (i, n) ∧ Jvm.Free.DS.Facts cc (pc + n) (C.map (fun e => (e.2.1, e.2.2.1))) := h1
    have h2 : (Nat.beq q pc && dq_ctg (pc + n) C) = true := h2
    obtain ⟨h3, h4⟩ := bdn h2
    subst h3
    exact List.forall_mem_cons.mpr ⟨h1.1, dq_mfacts C _ h1.2 h4⟩
theorem dq_m1s {y : Nat} {cc : ByteArray} (h : dq_m1 y cc.data.toList = true) : ∀ e ∈ (dm_P y).1, decode cc e.1 = .ok (e.2.1, e.2.2.1) := by
  unfold dq_m1 at h
  obtain ⟨h, h3⟩ := bd h
  obtain ⟨h1, h2⟩ := bd h
  have h2 := Nat.le_of_ble_eq_true h2
  refine dq_mfacts _ 0 (Jvm.Free.DS.facts 0 _ h1 ?_) h3
  rw [Nat.zero_add]
  exact h2
theorem dq_b {y : Nat} (hy : y ≤ dm_law) : ∀ e ∈ (dm_P y).1, decode (dm_b y) e.1 = .ok (e.2.1, e.2.2.1) := by
  rcases Nat.lt_or_ge y dm_law with h | h
  · have h3 := dq_dok h
    unfold dq_m3 at h3
    unfold dm_b
    rw [if_neg (Nat.ne_of_lt h)]
    split at h3
    · rename_i n b mL rt h9
      rw [h9]
      exact dq_m1s h3
    · rename_i n b mL rt hh h9
      rw [h9]
      exact dq_m1s h3
    · cases h3
  · have : y = dm_law := Nat.le_antisymm hy h
    subst this
    unfold dm_b
    rw [if_pos rfl]
    exact dq_m1s dq_dlaw
theorem dq_m2a {y : Nat} (hy : y ≤ dm_law) : dq_m2 y = true := by
  rcases Nat.lt_or_ge y dm_law with h | h
  · exact dq_eok h
  · have : y = dm_law := Nat.le_antisymm hy h
    subst this
    exact dq_elaw
theorem dq_atm {f : Nat → Instr → Nat → List Nat → List dm_E1 → Bool} {pc n : Nat} {i : Instr} {d cs : List Nat} : ∀ C : List dm_E1, dm_at C pc = some (i, n, d, cs) → dq_es f C = true → ∃ nx, f pc i n d nx = true ∧ (∀ e ∈ nx, e ∈ C) ∧ (pc, i, n, d, cs) ∈ C
  | [], h, _ => nomatch h
  | (q, r) :: C, h, h2 => by
    have h : (match Nat.beq q pc with
      | true => some r
      | false => dm_at C pc) = some (i, n, d, cs) := h
    obtain ⟨h3, h4⟩ := bd h2
    cases hq : Nat.beq q pc with
    | true =>
      rw [hq] at h
      have := bn hq
      subst this
      cases h
      exact ⟨C, h3, fun e he => List.mem_cons_of_mem _ he, List.mem_cons_self⟩
    | false =>
      rw [hq] at h
      obtain ⟨nx, a1, a2, a3⟩ := dq_atm C h h4
      exact ⟨nx, a1, fun e he => List.mem_cons_of_mem _ (a2 e he), List.mem_cons_of_mem _ a3⟩
theorem dq_ent {y pc n : Nat} {i : Instr} {d cs : List Nat} (hy : y ≤ dm_law) (h : dm_at (dm_P y).1 pc = some (i, n, d, cs)) : decode (dm_b y) pc = .ok (i, n) ∧ ∃ nx, dq_ei y (dm_o y) (dm_P y).2.2.2 (dm_rt y) (decide ((dm_y y).name = "<init>")) (dm_hh y).isEmpty pc i n d nx = true ∧ ∀ e ∈ nx, decode (dm_b y) e.1 = .ok (e.2.1, e.2.2.1) := by
  have h1 := dq_m2a hy
  unfold dq_m2 at h1
  have h2 : dq_es (dq_ei y (dm_o y) (dm_P y).2.2.2 (dm_rt y) (decide ((dm_y y).name = "<init>")) (dm_hh y).isEmpty) (dm_P y).1 = true := (bd (bd (bd h1).1).1).1
  clear h1
  obtain ⟨nx, a1, a2, a3⟩ := dq_atm (f := dq_ei y (dm_o y) (dm_P y).2.2.2 (dm_rt y) (decide ((dm_y y).name = "<init>")) (dm_hh y).isEmpty) (dm_P y).1 h h2
  have a4 : decode (dm_b y) pc = .ok (i, n) := dq_b hy (pc, i, n, d, cs) a3
  exact ⟨a4, nx, a1, fun e he => dq_b hy e (a2 e he)⟩
theorem dq_own {y : Nat} (hy : y ≤ dm_law) : (dm_y y).cls = dm_on (dm_o y) ∧ plainName (dm_y y).cls = true := by
  have h1 := dq_m2a hy
  unfold dq_m2 at h1
  exact ⟨of_decide_eq_true (bd (bd h1).1).2, (bd h1).2⟩
theorem dq_colw {ci : Nat} (h : ci < 12) : dm_cn ci = dm_on (dq_col.getD ci 99) := of_decide_eq_true (List.all_eq_true.mp dq_cols ci (List.mem_range.mpr h))
theorem dq_any1 {α : Type} {f : α → Bool} {L : List α} (h : L.any f = true) : ∃ q ∈ L, f q = true := List.any_eq_true.mp h
theorem dq_mkq {L : List (Nat × Nat × Nat × Nat × List Nat)} {o idx y n : Nat} {own : String} (hown : own = dm_on o) (h : dq_mka L o idx y n = true) : y < dm_law ∧ n ≤ dm_nl y ∧ ∃ q ∈ L, own = dm_on q.1 ∧ idx = q.2.1 ∧ y = q.2.2.1 ∧ n = q.2.2.2.1 := by
  obtain ⟨h, h3⟩ := bd h
  obtain ⟨h1, h2⟩ := bd h
  obtain ⟨q, hq, h4⟩ := dq_any1 h3
  obtain ⟨h4, e4⟩ := bd h4
  obtain ⟨h4, e3⟩ := bd h4
  obtain ⟨e1, e2⟩ := bd h4
  exact ⟨bl h1, Nat.le_of_ble_eq_true h2, q, hq, by rw [bn e1]; exact hown, (bn e2).symm, (bn e3).symm, (bn e4).symm⟩
theorem dq_mk3q {L : List (Nat × Nat × List Nat)} {o idx : Nat} {own : String} (hown : own = dm_on o) (h : dq_mk3a L o idx = true) : ∃ q ∈ L, own = dm_on q.1 ∧ idx = q.2.1 := by
  obtain ⟨q, hq, h4⟩ := dq_any1 h
  obtain ⟨e1, e2⟩ := bd h4
  exact ⟨q, hq, by rw [bn e1]; exact hown, (bn e2).symm⟩
theorem dq_fkna_s {o idx ci j : Nat} {own : String} (hown : own = dm_on o) (h : dq_fkna o idx ci j = true) : ∃ q ∈ dm_fkn, own = dm_on q.1 ∧ idx = q.2.1 ∧ ci = q.2.2.1 ∧ j = q.2.2.2 := by
  obtain ⟨q, hq, h4⟩ := dq_any1 h
  obtain ⟨h4, e4⟩ := bd h4
  obtain ⟨h4, e3⟩ := bd h4
  obtain ⟨e1, e2⟩ := bd h4
  exact ⟨q, hq, by rw [bn e1]; exact hown, (bn e2).symm, (bn e3).symm, (bn e4).symm⟩
theorem dq_flk {o idx ci j : Nat} {own : String} (hown : own = dm_on o) (h : (dq_fka o idx ci j || dq_fkna o idx ci j) = true) : (Cond.fieldLink own idx (dm_cn ci) (dm_ff ci j).2.1 (dm_ff ci j).2.2.1 ∈ dm_ws) ∨ ∃ q ∈ dm_fkn, own = dm_on q.1 ∧ idx = q.2.1 ∧ ci = q.2.2.1 ∧ j = q.2.2.2 := by
  rcases Bool.or_eq_true_iff.mp h with h | h
  · obtain ⟨q, hq, h4⟩ := dq_any1 h
    obtain ⟨h4, e3⟩ := bd h4
    obtain ⟨e1, e2⟩ := bd h4
    have e1 := bn e1
    have e2 := bn e2
    have e3 := bn e3
    subst e1 e2 e3
    rw [hown]
    exact Or.inl (dq_fwin hq)
  · exact Or.inr (dq_fkna_s hown h)
theorem dq_onj : (List.range 15).all (fun a => (List.range 15).all (fun b => decide (dm_on a = dm_on b → a = b))) = true := by decide +kernel
theorem dq_fkn15 : dm_fkn.all (fun q => Nat.blt q.1 15) = true := by decide +kernel
theorem dq_fkna_n {o idx ci j : Nat} {own : String} (hown : own = dm_on o) (ho : o < 15) (h : dq_fkna o idx ci j = false) : ∀ q ∈ dm_fkn, ¬ (own = dm_on q.1 ∧ idx = q.2.1 ∧ ci = q.2.2.1 ∧ j = q.2.2.2) := by
  rintro q hq ⟨e1, e2, e3, e4⟩
  have h1 := List.any_eq_false.mp h q hq
  have ho2 := bl (List.all_eq_true.mp dq_fkn15 q hq)
  have := of_decide_eq_true (List.all_eq_true.mp (List.all_eq_true.mp dq_onj o (List.mem_range.mpr ho)) q.1 (List.mem_range.mpr ho2)) (by rw [← hown]; exact e1)
  refine h1 ?_
  have bb : ∀ a : Nat, Nat.beq a a = true := fun a => Nat.beq_refl a
  rw [← this, ← e2, ← e3, ← e4, bb, bb, bb, bb]
  rfl
theorem dq_o15 : (List.range 276).all (fun y => Nat.blt (dm_o y) 15) = true := by decide +kernel
theorem dq_offs {pc : Nat} {off : Int} (h : dq_off pc off = true) : 0 ≤ (pc : Int) + off := of_decide_eq_true h
theorem dq_lkq {o z q : Nat} {own : String} (hown : own = dm_on o) (h : dq_lka dm_lk o z [q] = true) : dm_in (q : Int) ∧ Cond.constant own z (Int32.ofInt (q : Int)) ∈ dm_ws := by
  obtain ⟨w, hw, h4⟩ := dq_any1 (h : dm_lk.any (fun w => Nat.beq w.1 o && Nat.beq w.2.1 z && Nat.beq w.2.2 q) = true)
  obtain ⟨h4, e3⟩ := bd h4
  obtain ⟨e1, e2⟩ := bd h4
  have e1 := bn e1
  have e2 := bn e2
  have e3 := bn e3
  subst e1 e2 e3
  obtain ⟨g1, g2⟩ := bd (List.all_eq_true.mp dq_lks w hw)
  rw [hown]
  refine ⟨?_, dq_any g1⟩
  have := of_decide_eq_true g2
  unfold dm_in
  omega
theorem dq_castIn : (List.range 3).all (fun E => lw_tbl.contains (Cond.castable (dm_xn E) (dm_xn E))) = true := by decide +kernel
theorem dq_xnj {E : Nat} (h : E < 3) : Cond.castable (dm_xn E) (dm_xn E) ∈ dm_nw := List.mem_filter.mpr ⟨List.contains_iff_mem.mp (List.all_eq_true.mp dq_castIn E (List.mem_range.mpr h)), rfl⟩
/-- handlers -/
theorem dq_thand {G : dm_G} {s : State} {args : Array Value} {own : String} {cc : ByteArray} {o : Nat} {C : List dm_E1} {pc : Nat} (hown : own = dm_on o) (hts : ∀ w ∈ dm_ws, w.before args s = true) (hEv : dm_Ev G s) (hdec : ∀ q i n d cs, dm_at C q = some (i, n, d, cs) → decode cc q = .ok (i, n)) (E : Nat) (hE : E < 3) : ∀ (hh : List (Nat × Nat × Nat × Nat)) (T : dm_T), dq_hc o C hh T = true → match dm_find T pc E with
    | none => ∀ z ∈ tableOf hh, covers z pc = false ∨ (z.catchType ≠ 0 ∧ ∃ nm : String, (Cond.classLink own z.catchType nm).before args s = true ∧ va_Nc (dm_xn E) nm s)
    | some (g, j, n) => (∃ (pre : List ExceptionTableEntry) (z : ExceptionTableEntry) (suf : List ExceptionTableEntry), tableOf hh = pre ++ z :: suf ∧ (∀ y ∈ pre, covers y pc = false ∨ (y.catchType ≠ 0 ∧ ∃ nm : String, (Cond.classLink own y.catchType nm).before args s = true ∧ va_Nc (dm_xn E) nm s)) ∧
        covers z pc = true ∧ z.catchType ≠ 0 ∧ (Cond.classLink own z.catchType (dm_xn E)).before args s = true ∧ z.handlerPc = g) ∧ (Cond.castable (dm_xn E) (dm_xn E)).before args s = true ∧
        ((n = 2 ∧ decode cc g = .ok (.astore j, 2)) ∨ (n = 1 ∧ ∃ j4 : Fin 4, (j4 : Nat) = j ∧ decode cc g = .ok (.astore_n j4, 1)))
  | [], [], _ => fun z hz => nomatch hz
  | [], _ :: _, h => nomatch h
  | _ :: _, [], h => nomatch h
  | (h1, h2, h3, h4) :: hh, (t1, t2, t3, t4, t5, t6) :: T, h => by
    obtain ⟨h, k3⟩ := bd h
    obtain ⟨k1, k2⟩ := bd h
    obtain ⟨k1, e5⟩ := bd k1
    obtain ⟨k1, e4⟩ := bd k1
    obtain ⟨k1, e3⟩ := bd k1
    obtain ⟨e1, e2⟩ := bd k1
    have E1 : h1 = t1 := bn e1
    have E2 : h2 = t2 := bn e2
    have E3 : h3 = t3 := bn e3
    have E4 : t4 < 3 := bl e4
    have E5 : h4 ≠ 0 := by
      rintro rfl
      cases e5
    clear e1 e2 e3 e4 e5
    subst E1 E2 E3
    obtain ⟨k2, k4⟩ := bd k2
    have hcl : (Cond.classLink own h4 (dm_xn t4)).before args s = true := by
      rw [hown]
      exact hts _ (dq_any k2)
    have ih := dq_thand (pc := pc) hown hts hEv hdec E hE hh T k3
    have htab : tableOf ((h1, h2, h3, h4) :: hh) = ⟨h1, h2, h3, h4⟩ :: tableOf hh := rfl
    rw [htab]
    have hfe : dm_find ((h1, h2, h3, t4, t5, t6) :: T) pc E = if h1 ≤ pc ∧ pc < h2 ∧ t4 = E then some (h3, t5, t6) else dm_find T pc E := rfl
    rw [hfe]
    by_cases hc : h1 ≤ pc ∧ pc < h2 ∧ t4 = E
    · rw [if_pos hc]
      obtain ⟨c1, c2, rfl⟩ := hc
      refine ⟨⟨[], _, _, rfl, (fun _ z => nomatch z), by simp [covers, c1, c2], E5, hcl, rfl⟩, dm_nw_use rfl (hEv.2.2.2.2.2.1 _ (dq_xnj hE)), ?_⟩
      have k4 : (match dm_at C h3 with
        | some (.astore j, 2, _) => Nat.beq t6 2 && Nat.beq t5 j
        | some (.astore_n j, 1, _) => Nat.beq t6 1 && Nat.beq t5 j
        | _ => false) = true := k4
      split at k4
      · rename_i j r hat
        obtain ⟨a1, a2⟩ := bd k4
        have a1 := bn a1
        have a2 := bn a2
        subst a1 a2
        exact Or.inl ⟨rfl, hdec _ _ _ _ _ hat⟩
      · rename_i j r hat
        obtain ⟨a1, a2⟩ := bd k4
        have a1 := bn a1
        have a2 := bn a2
        subst a1 a2
        exact Or.inr ⟨rfl, j, rfl, hdec _ _ _ _ _ hat⟩
      · cases k4
    · rw [if_neg hc]
      have hbad : covers ⟨h1, h2, h3, h4⟩ pc = false ∨ ((⟨h1, h2, h3, h4⟩ : ExceptionTableEntry).catchType ≠ 0 ∧ ∃ nm : String, (Cond.classLink own (⟨h1, h2, h3, h4⟩ : ExceptionTableEntry).catchType nm).before args s = true ∧ va_Nc (dm_xn E) nm s) := by
        by_cases c1 : h1 ≤ pc ∧ pc < h2
        · right
          exact ⟨E5, _, hcl, hEv.2.2.2.2.2.2.2 E t4 hE E4 (fun q => hc ⟨c1.1, c1.2, q.symm⟩)⟩
        · left
          simp only [covers, Bool.and_eq_false_iff, decide_eq_false_iff_not]
          omega
      cases hf : dm_find T pc E with
      | none =>
        rw [hf] at ih
        exact List.forall_mem_cons.mpr ⟨hbad, ih⟩
      | some w =>
        obtain ⟨g, j, n⟩ := w
        rw [hf] at ih
        obtain ⟨⟨pre, z, suf, a1, a2, a3⟩, a4⟩ := ih
        exact ⟨⟨_ :: pre, z, suf, by rw [a1]; rfl, List.forall_mem_cons.mpr ⟨hbad, a2⟩, a3⟩, a4⟩

theorem dq_nxf {cc : ByteArray} {pc : Nat} {q : Nat × Nat × Nat × Nat × Nat × Nat × String × Nat} {nx : List dm_E1} (h : dq_nx pc q nx = true) (hnx : ∀ e ∈ nx, decode cc e.1 = .ok (e.2.1, e.2.2.1)) : (decode cc (pc + 3) = .ok (.dup, 1) ∧ decode cc (pc + 4) = .ok (.ldc q.2.2.2.1, 2) ∧ decode cc (pc + 6) = .ok (.invokespecial q.2.2.2.2.1, 3) ∧ decode cc (pc + 9) = .ok (.athrow, 1)) ∨ (decode cc (pc + 3) = .ok (.dup, 1) ∧ decode cc (pc + 4) = .ok (.ldc_w q.2.2.2.1, 3) ∧ decode cc (pc + 7) = .ok (.invokespecial q.2.2.2.2.1, 3) ∧ decode cc (pc + 10) = .ok (.athrow, 1)) := by
  unfold dq_nx at h
  split at h
  · rename_i p1 r1 p2 a r2 p3 b9 r3 p4 r4 nx'
    have g1 := hnx (p1, .dup, 1, r1) List.mem_cons_self
    have g2 := hnx (p2, .ldc a, 2, r2) (List.mem_cons_of_mem _ List.mem_cons_self)
    have g3 := hnx (p3, .invokespecial b9, 3, r3) (List.mem_cons_of_mem _ (List.mem_cons_of_mem _ List.mem_cons_self))
    have g4 := hnx (p4, .athrow, 1, r4) (List.mem_cons_of_mem _ (List.mem_cons_of_mem _ (List.mem_cons_of_mem _ List.mem_cons_self)))
    obtain ⟨h, f6⟩ := bd h
    obtain ⟨h, f5⟩ := bd h
    obtain ⟨h, f4⟩ := bd h
    obtain ⟨h, f3⟩ := bd h
    obtain ⟨f1, f2⟩ := bd h
    have F1 := bn f1
    have F2 := bn f2
    have F3 := bn f3
    have F4 := bn f4
    have F5 := bn f5
    have F6 := bn f6
    clear f1 f2 f3 f4 f5 f6 h hnx
    subst F1 F2 F3 F4 F5 F6
    exact Or.inl ⟨g1, g2, g3, g4⟩
  · rename_i p1 r1 p2 a r2 p3 b9 r3 p4 r4 nx'
    have g1 := hnx (p1, .dup, 1, r1) List.mem_cons_self
    have g2 := hnx (p2, .ldc_w a, 3, r2) (List.mem_cons_of_mem _ List.mem_cons_self)
    have g3 := hnx (p3, .invokespecial b9, 3, r3) (List.mem_cons_of_mem _ (List.mem_cons_of_mem _ List.mem_cons_self))
    have g4 := hnx (p4, .athrow, 1, r4) (List.mem_cons_of_mem _ (List.mem_cons_of_mem _ (List.mem_cons_of_mem _ List.mem_cons_self)))
    obtain ⟨h, f6⟩ := bd h
    obtain ⟨h, f5⟩ := bd h
    obtain ⟨h, f4⟩ := bd h
    obtain ⟨h, f3⟩ := bd h
    obtain ⟨f1, f2⟩ := bd h
    have F1 := bn f1
    have F2 := bn f2
    have F3 := bn f3
    have F4 := bn f4
    have F5 := bn f5
    have F6 := bn f6
    clear f1 f2 f3 f4 f5 f6 h hnx
    subst F1 F2 F3 F4 F5 F6
    exact Or.inr ⟨g1, g2, g3, g4⟩
  · cases h
theorem dq_lo4 (dep : Nat) {r : Nat} (h : 59 + dq_lo dep ≤ r) : 400 ≤ r := by
  exact Nat.le_trans (Nat.le_trans (Nat.le_add_left 400 (64 * dep)) (Nat.le_add_left _ 59)) h
theorem dq_fr2 (dep : Nat) {r : Nat} (h : dq_fr dep + 1 ≤ r) : 20 ≤ r := by
  unfold dq_fr at h
  omega
section DQM
variable {p : Program} {l : Launch} {e : Env} {R : Room} {s : State} {m : MethodId} {args : Array Value} {below : List Frame} {meth : Method} {c : Code} {Q : State → Prop}
variable {own : String} {cc : ByteArray} {nL : Nat} {G : dm_G} {base b L u : Nat} {xs : Nat → Int} {sv : Bool} {h0 h : dm_H} {ad0 : Nat → Nat} {x : dm_X} {wrp pc : Nat} {call : Nat → List dm_V → dm_H → dm_O} {k : dm_K} {T : dm_T} {d cs : List Nat} {Lc : dm_L} {S : List dm_V}
variable {dep y n : Nat} {i : Instr}
set_option maxHeartbeats 2000000 in
theorem dq_s_iconst {z : _} {nx : List dm_E1} (hy : y ≤ dm_law) (hown : own = dm_on (dm_o y)) (hcc : cc = dm_b y) (hdg : decode cc pc = .ok (.iconst z, n)) (hk : dq_ei y (dm_o y) (dm_P y).2.2.2 (dm_rt y) (decide ((dm_y y).name = "<init>")) (dm_hh y).isEmpty pc (.iconst z) n d nx = true) (hnx : ∀ e ∈ nx, decode (dm_b y) e.1 = .ok (e.2.1, e.2.2.1)) (C : dq_C p l s m args meth c own cc nL G base b L u xs) (he : dm_exec sv (dm_P y).2.2.2 dm_sh call k T pc n (.iconst z) d cs Lc S h = some x) (hs : dq_os sv L xs h0 h Lc S)
    (Hk : ∀ (pc' : Nat) (Lc' : dm_L) (S' : List dm_V) (h' : dm_H), k pc' Lc' S' h' = some x → dq_os sv L xs h0 h' Lc' S' → dq_okx sv L xs h' x ∧ dq_Go p l e R s m args below meth c (dq_Q below G base h0 ad0 x args s) nL G base b u h0 ad0 pc' Lc' S' h') (IH : dq_IH l G base b L u xs sv dep call) (hT : dq_Th s args c own cc T pc) (hR1 : R.cells = gc x.2 - gc h0) (hR2 : R.slots = gs x.2 - gs h0) (hR3 : dq_fr dep + 1 ≤ R.frames) (hR4 : 59 + dq_lo dep ≤ R.locals)
    (hret : meth.sig.returnType = dm_rt y) (hname : (dm_y y).name = "<init>" → meth.name = "<init>") (hexc : (dm_hh y).isEmpty = true → ∀ z ∈ c.exceptionTable.toList, False) (hLL : L ≤ 3584) (hlaw : sv = false → y ≠ dm_law) : dq_okx sv L xs h x ∧ dq_Go p l e R s m args below meth c (dq_Q below G base h0 ad0 x args s) nL G base b u h0 ad0 pc Lc S h := by
  obtain ⟨⟨hn, h1⟩, h2⟩ := And.intro (bd (bd hk).1) (bd hk).2
  have hn := bn hn
  subst hn
  have h1 := of_decide_eq_true h1
  have h2 := of_decide_eq_true h2
  exact dx_iconst (by unfold dm_in; omega) C hdg he hs Hk
set_option maxHeartbeats 2000000 in
theorem dq_s_bipush {z : _} {nx : List dm_E1} (hy : y ≤ dm_law) (hown : own = dm_on (dm_o y)) (hcc : cc = dm_b y) (hdg : decode cc pc = .ok (.bipush z, n)) (hk : dq_ei y (dm_o y) (dm_P y).2.2.2 (dm_rt y) (decide ((dm_y y).name = "<init>")) (dm_hh y).isEmpty pc (.bipush z) n d nx = true) (hnx : ∀ e ∈ nx, decode (dm_b y) e.1 = .ok (e.2.1, e.2.2.1)) (C : dq_C p l s m args meth c own cc nL G base b L u xs) (he : dm_exec sv (dm_P y).2.2.2 dm_sh call k T pc n (.bipush z) d cs Lc S h = some x) (hs : dq_os sv L xs h0 h Lc S)
    (Hk : ∀ (pc' : Nat) (Lc' : dm_L) (S' : List dm_V) (h' : dm_H), k pc' Lc' S' h' = some x → dq_os sv L xs h0 h' Lc' S' → dq_okx sv L xs h' x ∧ dq_Go p l e R s m args below meth c (dq_Q below G base h0 ad0 x args s) nL G base b u h0 ad0 pc' Lc' S' h') (IH : dq_IH l G base b L u xs sv dep call) (hT : dq_Th s args c own cc T pc) (hR1 : R.cells = gc x.2 - gc h0) (hR2 : R.slots = gs x.2 - gs h0) (hR3 : dq_fr dep + 1 ≤ R.frames) (hR4 : 59 + dq_lo dep ≤ R.locals)
    (hret : meth.sig.returnType = dm_rt y) (hname : (dm_y y).name = "<init>" → meth.name = "<init>") (hexc : (dm_hh y).isEmpty = true → ∀ z ∈ c.exceptionTable.toList, False) (hLL : L ≤ 3584) (hlaw : sv = false → y ≠ dm_law) : dq_okx sv L xs h x ∧ dq_Go p l e R s m args below meth c (dq_Q below G base h0 ad0 x args s) nL G base b u h0 ad0 pc Lc S h := by
  obtain ⟨⟨hn, h1⟩, h2⟩ := And.intro (bd (bd hk).1) (bd hk).2
  have hn := bn hn
  subst hn
  exact dx_bipush ⟨of_decide_eq_true h1, of_decide_eq_true h2⟩ C hdg he hs Hk
set_option maxHeartbeats 2000000 in
theorem dq_s_sipush {z : _} {nx : List dm_E1} (hy : y ≤ dm_law) (hown : own = dm_on (dm_o y)) (hcc : cc = dm_b y) (hdg : decode cc pc = .ok (.sipush z, n)) (hk : dq_ei y (dm_o y) (dm_P y).2.2.2 (dm_rt y) (decide ((dm_y y).name = "<init>")) (dm_hh y).isEmpty pc (.sipush z) n d nx = true) (hnx : ∀ e ∈ nx, decode (dm_b y) e.1 = .ok (e.2.1, e.2.2.1)) (C : dq_C p l s m args meth c own cc nL G base b L u xs) (he : dm_exec sv (dm_P y).2.2.2 dm_sh call k T pc n (.sipush z) d cs Lc S h = some x) (hs : dq_os sv L xs h0 h Lc S)
    (Hk : ∀ (pc' : Nat) (Lc' : dm_L) (S' : List dm_V) (h' : dm_H), k pc' Lc' S' h' = some x → dq_os sv L xs h0 h' Lc' S' → dq_okx sv L xs h' x ∧ dq_Go p l e R s m args below meth c (dq_Q below G base h0 ad0 x args s) nL G base b u h0 ad0 pc' Lc' S' h') (IH : dq_IH l G base b L u xs sv dep call) (hT : dq_Th s args c own cc T pc) (hR1 : R.cells = gc x.2 - gc h0) (hR2 : R.slots = gs x.2 - gs h0) (hR3 : dq_fr dep + 1 ≤ R.frames) (hR4 : 59 + dq_lo dep ≤ R.locals)
    (hret : meth.sig.returnType = dm_rt y) (hname : (dm_y y).name = "<init>" → meth.name = "<init>") (hexc : (dm_hh y).isEmpty = true → ∀ z ∈ c.exceptionTable.toList, False) (hLL : L ≤ 3584) (hlaw : sv = false → y ≠ dm_law) : dq_okx sv L xs h x ∧ dq_Go p l e R s m args below meth c (dq_Q below G base h0 ad0 x args s) nL G base b u h0 ad0 pc Lc S h := by
  obtain ⟨⟨hn, h1⟩, h2⟩ := And.intro (bd (bd hk).1) (bd hk).2
  have hn := bn hn
  subst hn
  exact dx_sipush ⟨of_decide_eq_true h1, of_decide_eq_true h2⟩ C hdg he hs Hk
set_option maxHeartbeats 2000000 in
theorem dq_s_ldc {z : _} {nx : List dm_E1} (hy : y ≤ dm_law) (hown : own = dm_on (dm_o y)) (hcc : cc = dm_b y) (hdg : decode cc pc = .ok (.ldc z, n)) (hk : dq_ei y (dm_o y) (dm_P y).2.2.2 (dm_rt y) (decide ((dm_y y).name = "<init>")) (dm_hh y).isEmpty pc (.ldc z) n d nx = true) (hnx : ∀ e ∈ nx, decode (dm_b y) e.1 = .ok (e.2.1, e.2.2.1)) (C : dq_C p l s m args meth c own cc nL G base b L u xs) (he : dm_exec sv (dm_P y).2.2.2 dm_sh call k T pc n (.ldc z) d cs Lc S h = some x) (hs : dq_os sv L xs h0 h Lc S)
    (Hk : ∀ (pc' : Nat) (Lc' : dm_L) (S' : List dm_V) (h' : dm_H), k pc' Lc' S' h' = some x → dq_os sv L xs h0 h' Lc' S' → dq_okx sv L xs h' x ∧ dq_Go p l e R s m args below meth c (dq_Q below G base h0 ad0 x args s) nL G base b u h0 ad0 pc' Lc' S' h') (IH : dq_IH l G base b L u xs sv dep call) (hT : dq_Th s args c own cc T pc) (hR1 : R.cells = gc x.2 - gc h0) (hR2 : R.slots = gs x.2 - gs h0) (hR3 : dq_fr dep + 1 ≤ R.frames) (hR4 : 59 + dq_lo dep ≤ R.locals)
    (hret : meth.sig.returnType = dm_rt y) (hname : (dm_y y).name = "<init>" → meth.name = "<init>") (hexc : (dm_hh y).isEmpty = true → ∀ z ∈ c.exceptionTable.toList, False) (hLL : L ≤ 3584) (hlaw : sv = false → y ≠ dm_law) : dq_okx sv L xs h x ∧ dq_Go p l e R s m args below meth c (dq_Q below G base h0 ad0 x args s) nL G base b u h0 ad0 pc Lc S h := by
  have hn := (bdn hk).1
  replace hk := (bdn hk).2
  subst hn
  match d, hk, he with
  | [], _, he => exact nomatch (show none = some x from he)
  | [q], hk, he =>
    obtain ⟨h1, h2⟩ := dq_lkq hown hk
    exact dx_ldc rfl h1 (C.2.2.2.2.1 _ h2) C hdg he hs Hk
  | _ :: _ :: _, hk, _ => exact nomatch (show false = true from hk)
set_option maxHeartbeats 2000000 in
theorem dq_s_ldc_w {z : _} {nx : List dm_E1} (hy : y ≤ dm_law) (hown : own = dm_on (dm_o y)) (hcc : cc = dm_b y) (hdg : decode cc pc = .ok (.ldc_w z, n)) (hk : dq_ei y (dm_o y) (dm_P y).2.2.2 (dm_rt y) (decide ((dm_y y).name = "<init>")) (dm_hh y).isEmpty pc (.ldc_w z) n d nx = true) (hnx : ∀ e ∈ nx, decode (dm_b y) e.1 = .ok (e.2.1, e.2.2.1)) (C : dq_C p l s m args meth c own cc nL G base b L u xs) (he : dm_exec sv (dm_P y).2.2.2 dm_sh call k T pc n (.ldc_w z) d cs Lc S h = some x) (hs : dq_os sv L xs h0 h Lc S)
    (Hk : ∀ (pc' : Nat) (Lc' : dm_L) (S' : List dm_V) (h' : dm_H), k pc' Lc' S' h' = some x → dq_os sv L xs h0 h' Lc' S' → dq_okx sv L xs h' x ∧ dq_Go p l e R s m args below meth c (dq_Q below G base h0 ad0 x args s) nL G base b u h0 ad0 pc' Lc' S' h') (IH : dq_IH l G base b L u xs sv dep call) (hT : dq_Th s args c own cc T pc) (hR1 : R.cells = gc x.2 - gc h0) (hR2 : R.slots = gs x.2 - gs h0) (hR3 : dq_fr dep + 1 ≤ R.frames) (hR4 : 59 + dq_lo dep ≤ R.locals)
    (hret : meth.sig.returnType = dm_rt y) (hname : (dm_y y).name = "<init>" → meth.name = "<init>") (hexc : (dm_hh y).isEmpty = true → ∀ z ∈ c.exceptionTable.toList, False) (hLL : L ≤ 3584) (hlaw : sv = false → y ≠ dm_law) : dq_okx sv L xs h x ∧ dq_Go p l e R s m args below meth c (dq_Q below G base h0 ad0 x args s) nL G base b u h0 ad0 pc Lc S h := by
  have hn := (bdn hk).1
  replace hk := (bdn hk).2
  subst hn
  match d, hk, he with
  | [], _, he => exact nomatch (show none = some x from he)
  | [q], hk, he =>
    obtain ⟨h1, h2⟩ := dq_lkq hown hk
    exact dx_ldc_w rfl h1 (C.2.2.2.2.1 _ h2) C hdg he hs Hk
  | _ :: _ :: _, hk, _ => exact nomatch (show false = true from hk)
set_option maxHeartbeats 2000000 in
theorem dq_s_aconst_null {nx : List dm_E1} (hy : y ≤ dm_law) (hown : own = dm_on (dm_o y)) (hcc : cc = dm_b y) (hdg : decode cc pc = .ok (.aconst_null, n)) (hk : dq_ei y (dm_o y) (dm_P y).2.2.2 (dm_rt y) (decide ((dm_y y).name = "<init>")) (dm_hh y).isEmpty pc (.aconst_null) n d nx = true) (hnx : ∀ e ∈ nx, decode (dm_b y) e.1 = .ok (e.2.1, e.2.2.1)) (C : dq_C p l s m args meth c own cc nL G base b L u xs) (he : dm_exec sv (dm_P y).2.2.2 dm_sh call k T pc n (.aconst_null) d cs Lc S h = some x) (hs : dq_os sv L xs h0 h Lc S)
    (Hk : ∀ (pc' : Nat) (Lc' : dm_L) (S' : List dm_V) (h' : dm_H), k pc' Lc' S' h' = some x → dq_os sv L xs h0 h' Lc' S' → dq_okx sv L xs h' x ∧ dq_Go p l e R s m args below meth c (dq_Q below G base h0 ad0 x args s) nL G base b u h0 ad0 pc' Lc' S' h') (IH : dq_IH l G base b L u xs sv dep call) (hT : dq_Th s args c own cc T pc) (hR1 : R.cells = gc x.2 - gc h0) (hR2 : R.slots = gs x.2 - gs h0) (hR3 : dq_fr dep + 1 ≤ R.frames) (hR4 : 59 + dq_lo dep ≤ R.locals)
    (hret : meth.sig.returnType = dm_rt y) (hname : (dm_y y).name = "<init>" → meth.name = "<init>") (hexc : (dm_hh y).isEmpty = true → ∀ z ∈ c.exceptionTable.toList, False) (hLL : L ≤ 3584) (hlaw : sv = false → y ≠ dm_law) : dq_okx sv L xs h x ∧ dq_Go p l e R s m args below meth c (dq_Q below G base h0 ad0 x args s) nL G base b u h0 ad0 pc Lc S h := by
  have hk := bn hk
  subst hk
  exact dx_null C hdg he hs Hk
set_option maxHeartbeats 2000000 in
theorem dq_s_lconst {z : _} {nx : List dm_E1} (hy : y ≤ dm_law) (hown : own = dm_on (dm_o y)) (hcc : cc = dm_b y) (hdg : decode cc pc = .ok (.lconst z, n)) (hk : dq_ei y (dm_o y) (dm_P y).2.2.2 (dm_rt y) (decide ((dm_y y).name = "<init>")) (dm_hh y).isEmpty pc (.lconst z) n d nx = true) (hnx : ∀ e ∈ nx, decode (dm_b y) e.1 = .ok (e.2.1, e.2.2.1)) (C : dq_C p l s m args meth c own cc nL G base b L u xs) (he : dm_exec sv (dm_P y).2.2.2 dm_sh call k T pc n (.lconst z) d cs Lc S h = some x) (hs : dq_os sv L xs h0 h Lc S)
    (Hk : ∀ (pc' : Nat) (Lc' : dm_L) (S' : List dm_V) (h' : dm_H), k pc' Lc' S' h' = some x → dq_os sv L xs h0 h' Lc' S' → dq_okx sv L xs h' x ∧ dq_Go p l e R s m args below meth c (dq_Q below G base h0 ad0 x args s) nL G base b u h0 ad0 pc' Lc' S' h') (IH : dq_IH l G base b L u xs sv dep call) (hT : dq_Th s args c own cc T pc) (hR1 : R.cells = gc x.2 - gc h0) (hR2 : R.slots = gs x.2 - gs h0) (hR3 : dq_fr dep + 1 ≤ R.frames) (hR4 : 59 + dq_lo dep ≤ R.locals)
    (hret : meth.sig.returnType = dm_rt y) (hname : (dm_y y).name = "<init>" → meth.name = "<init>") (hexc : (dm_hh y).isEmpty = true → ∀ z ∈ c.exceptionTable.toList, False) (hLL : L ≤ 3584) (hlaw : sv = false → y ≠ dm_law) : dq_okx sv L xs h x ∧ dq_Go p l e R s m args below meth c (dq_Q below G base h0 ad0 x args s) nL G base b u h0 ad0 pc Lc S h := by
  have hk := bn hk
  subst hk
  exact dx_lconst C hdg he hs Hk
set_option maxHeartbeats 2000000 in
theorem dq_s_iload {j : _} {nx : List dm_E1} (hy : y ≤ dm_law) (hown : own = dm_on (dm_o y)) (hcc : cc = dm_b y) (hdg : decode cc pc = .ok (.iload j, n)) (hk : dq_ei y (dm_o y) (dm_P y).2.2.2 (dm_rt y) (decide ((dm_y y).name = "<init>")) (dm_hh y).isEmpty pc (.iload j) n d nx = true) (hnx : ∀ e ∈ nx, decode (dm_b y) e.1 = .ok (e.2.1, e.2.2.1)) (C : dq_C p l s m args meth c own cc nL G base b L u xs) (he : dm_exec sv (dm_P y).2.2.2 dm_sh call k T pc n (.iload j) d cs Lc S h = some x) (hs : dq_os sv L xs h0 h Lc S)
    (Hk : ∀ (pc' : Nat) (Lc' : dm_L) (S' : List dm_V) (h' : dm_H), k pc' Lc' S' h' = some x → dq_os sv L xs h0 h' Lc' S' → dq_okx sv L xs h' x ∧ dq_Go p l e R s m args below meth c (dq_Q below G base h0 ad0 x args s) nL G base b u h0 ad0 pc' Lc' S' h') (IH : dq_IH l G base b L u xs sv dep call) (hT : dq_Th s args c own cc T pc) (hR1 : R.cells = gc x.2 - gc h0) (hR2 : R.slots = gs x.2 - gs h0) (hR3 : dq_fr dep + 1 ≤ R.frames) (hR4 : 59 + dq_lo dep ≤ R.locals)
    (hret : meth.sig.returnType = dm_rt y) (hname : (dm_y y).name = "<init>" → meth.name = "<init>") (hexc : (dm_hh y).isEmpty = true → ∀ z ∈ c.exceptionTable.toList, False) (hLL : L ≤ 3584) (hlaw : sv = false → y ≠ dm_law) : dq_okx sv L xs h x ∧ dq_Go p l e R s m args below meth c (dq_Q below G base h0 ad0 x args s) nL G base b u h0 ad0 pc Lc S h := by
  have hk := bn hk
  subst hk
  exact dx_iload C hdg he hs Hk
set_option maxHeartbeats 2000000 in
theorem dq_s_aload {j : _} {nx : List dm_E1} (hy : y ≤ dm_law) (hown : own = dm_on (dm_o y)) (hcc : cc = dm_b y) (hdg : decode cc pc = .ok (.aload j, n)) (hk : dq_ei y (dm_o y) (dm_P y).2.2.2 (dm_rt y) (decide ((dm_y y).name = "<init>")) (dm_hh y).isEmpty pc (.aload j) n d nx = true) (hnx : ∀ e ∈ nx, decode (dm_b y) e.1 = .ok (e.2.1, e.2.2.1)) (C : dq_C p l s m args meth c own cc nL G base b L u xs) (he : dm_exec sv (dm_P y).2.2.2 dm_sh call k T pc n (.aload j) d cs Lc S h = some x) (hs : dq_os sv L xs h0 h Lc S)
    (Hk : ∀ (pc' : Nat) (Lc' : dm_L) (S' : List dm_V) (h' : dm_H), k pc' Lc' S' h' = some x → dq_os sv L xs h0 h' Lc' S' → dq_okx sv L xs h' x ∧ dq_Go p l e R s m args below meth c (dq_Q below G base h0 ad0 x args s) nL G base b u h0 ad0 pc' Lc' S' h') (IH : dq_IH l G base b L u xs sv dep call) (hT : dq_Th s args c own cc T pc) (hR1 : R.cells = gc x.2 - gc h0) (hR2 : R.slots = gs x.2 - gs h0) (hR3 : dq_fr dep + 1 ≤ R.frames) (hR4 : 59 + dq_lo dep ≤ R.locals)
    (hret : meth.sig.returnType = dm_rt y) (hname : (dm_y y).name = "<init>" → meth.name = "<init>") (hexc : (dm_hh y).isEmpty = true → ∀ z ∈ c.exceptionTable.toList, False) (hLL : L ≤ 3584) (hlaw : sv = false → y ≠ dm_law) : dq_okx sv L xs h x ∧ dq_Go p l e R s m args below meth c (dq_Q below G base h0 ad0 x args s) nL G base b u h0 ad0 pc Lc S h := by
  have hk := bn hk
  subst hk
  exact dx_aload C hdg he hs Hk
set_option maxHeartbeats 2000000 in
theorem dq_s_iload_n {j : _} {nx : List dm_E1} (hy : y ≤ dm_law) (hown : own = dm_on (dm_o y)) (hcc : cc = dm_b y) (hdg : decode cc pc = .ok (.iload_n j, n)) (hk : dq_ei y (dm_o y) (dm_P y).2.2.2 (dm_rt y) (decide ((dm_y y).name = "<init>")) (dm_hh y).isEmpty pc (.iload_n j) n d nx = true) (hnx : ∀ e ∈ nx, decode (dm_b y) e.1 = .ok (e.2.1, e.2.2.1)) (C : dq_C p l s m args meth c own cc nL G base b L u xs) (he : dm_exec sv (dm_P y).2.2.2 dm_sh call k T pc n (.iload_n j) d cs Lc S h = some x) (hs : dq_os sv L xs h0 h Lc S)
    (Hk : ∀ (pc' : Nat) (Lc' : dm_L) (S' : List dm_V) (h' : dm_H), k pc' Lc' S' h' = some x → dq_os sv L xs h0 h' Lc' S' → dq_okx sv L xs h' x ∧ dq_Go p l e R s m args below meth c (dq_Q below G base h0 ad0 x args s) nL G base b u h0 ad0 pc' Lc' S' h') (IH : dq_IH l G base b L u xs sv dep call) (hT : dq_Th s args c own cc T pc) (hR1 : R.cells = gc x.2 - gc h0) (hR2 : R.slots = gs x.2 - gs h0) (hR3 : dq_fr dep + 1 ≤ R.frames) (hR4 : 59 + dq_lo dep ≤ R.locals)
    (hret : meth.sig.returnType = dm_rt y) (hname : (dm_y y).name = "<init>" → meth.name = "<init>") (hexc : (dm_hh y).isEmpty = true → ∀ z ∈ c.exceptionTable.toList, False) (hLL : L ≤ 3584) (hlaw : sv = false → y ≠ dm_law) : dq_okx sv L xs h x ∧ dq_Go p l e R s m args below meth c (dq_Q below G base h0 ad0 x args s) nL G base b u h0 ad0 pc Lc S h := by
  have hk := bn hk
  subst hk
  exact dx_iload_n C hdg he hs Hk
set_option maxHeartbeats 2000000 in
theorem dq_s_aload_n {j : _} {nx : List dm_E1} (hy : y ≤ dm_law) (hown : own = dm_on (dm_o y)) (hcc : cc = dm_b y) (hdg : decode cc pc = .ok (.aload_n j, n)) (hk : dq_ei y (dm_o y) (dm_P y).2.2.2 (dm_rt y) (decide ((dm_y y).name = "<init>")) (dm_hh y).isEmpty pc (.aload_n j) n d nx = true) (hnx : ∀ e ∈ nx, decode (dm_b y) e.1 = .ok (e.2.1, e.2.2.1)) (C : dq_C p l s m args meth c own cc nL G base b L u xs) (he : dm_exec sv (dm_P y).2.2.2 dm_sh call k T pc n (.aload_n j) d cs Lc S h = some x) (hs : dq_os sv L xs h0 h Lc S)
    (Hk : ∀ (pc' : Nat) (Lc' : dm_L) (S' : List dm_V) (h' : dm_H), k pc' Lc' S' h' = some x → dq_os sv L xs h0 h' Lc' S' → dq_okx sv L xs h' x ∧ dq_Go p l e R s m args below meth c (dq_Q below G base h0 ad0 x args s) nL G base b u h0 ad0 pc' Lc' S' h') (IH : dq_IH l G base b L u xs sv dep call) (hT : dq_Th s args c own cc T pc) (hR1 : R.cells = gc x.2 - gc h0) (hR2 : R.slots = gs x.2 - gs h0) (hR3 : dq_fr dep + 1 ≤ R.frames) (hR4 : 59 + dq_lo dep ≤ R.locals)
    (hret : meth.sig.returnType = dm_rt y) (hname : (dm_y y).name = "<init>" → meth.name = "<init>") (hexc : (dm_hh y).isEmpty = true → ∀ z ∈ c.exceptionTable.toList, False) (hLL : L ≤ 3584) (hlaw : sv = false → y ≠ dm_law) : dq_okx sv L xs h x ∧ dq_Go p l e R s m args below meth c (dq_Q below G base h0 ad0 x args s) nL G base b u h0 ad0 pc Lc S h := by
  have hk := bn hk
  subst hk
  exact dx_aload_n C hdg he hs Hk
set_option maxHeartbeats 2000000 in
theorem dq_s_istore {j : _} {nx : List dm_E1} (hy : y ≤ dm_law) (hown : own = dm_on (dm_o y)) (hcc : cc = dm_b y) (hdg : decode cc pc = .ok (.istore j, n)) (hk : dq_ei y (dm_o y) (dm_P y).2.2.2 (dm_rt y) (decide ((dm_y y).name = "<init>")) (dm_hh y).isEmpty pc (.istore j) n d nx = true) (hnx : ∀ e ∈ nx, decode (dm_b y) e.1 = .ok (e.2.1, e.2.2.1)) (C : dq_C p l s m args meth c own cc nL G base b L u xs) (he : dm_exec sv (dm_P y).2.2.2 dm_sh call k T pc n (.istore j) d cs Lc S h = some x) (hs : dq_os sv L xs h0 h Lc S)
    (Hk : ∀ (pc' : Nat) (Lc' : dm_L) (S' : List dm_V) (h' : dm_H), k pc' Lc' S' h' = some x → dq_os sv L xs h0 h' Lc' S' → dq_okx sv L xs h' x ∧ dq_Go p l e R s m args below meth c (dq_Q below G base h0 ad0 x args s) nL G base b u h0 ad0 pc' Lc' S' h') (IH : dq_IH l G base b L u xs sv dep call) (hT : dq_Th s args c own cc T pc) (hR1 : R.cells = gc x.2 - gc h0) (hR2 : R.slots = gs x.2 - gs h0) (hR3 : dq_fr dep + 1 ≤ R.frames) (hR4 : 59 + dq_lo dep ≤ R.locals)
    (hret : meth.sig.returnType = dm_rt y) (hname : (dm_y y).name = "<init>" → meth.name = "<init>") (hexc : (dm_hh y).isEmpty = true → ∀ z ∈ c.exceptionTable.toList, False) (hLL : L ≤ 3584) (hlaw : sv = false → y ≠ dm_law) : dq_okx sv L xs h x ∧ dq_Go p l e R s m args below meth c (dq_Q below G base h0 ad0 x args s) nL G base b u h0 ad0 pc Lc S h := by
  have hk := bn hk
  subst hk
  exact dx_istore C hdg he hs Hk
set_option maxHeartbeats 2000000 in
theorem dq_s_istore_n {j : _} {nx : List dm_E1} (hy : y ≤ dm_law) (hown : own = dm_on (dm_o y)) (hcc : cc = dm_b y) (hdg : decode cc pc = .ok (.istore_n j, n)) (hk : dq_ei y (dm_o y) (dm_P y).2.2.2 (dm_rt y) (decide ((dm_y y).name = "<init>")) (dm_hh y).isEmpty pc (.istore_n j) n d nx = true) (hnx : ∀ e ∈ nx, decode (dm_b y) e.1 = .ok (e.2.1, e.2.2.1)) (C : dq_C p l s m args meth c own cc nL G base b L u xs) (he : dm_exec sv (dm_P y).2.2.2 dm_sh call k T pc n (.istore_n j) d cs Lc S h = some x) (hs : dq_os sv L xs h0 h Lc S)
    (Hk : ∀ (pc' : Nat) (Lc' : dm_L) (S' : List dm_V) (h' : dm_H), k pc' Lc' S' h' = some x → dq_os sv L xs h0 h' Lc' S' → dq_okx sv L xs h' x ∧ dq_Go p l e R s m args below meth c (dq_Q below G base h0 ad0 x args s) nL G base b u h0 ad0 pc' Lc' S' h') (IH : dq_IH l G base b L u xs sv dep call) (hT : dq_Th s args c own cc T pc) (hR1 : R.cells = gc x.2 - gc h0) (hR2 : R.slots = gs x.2 - gs h0) (hR3 : dq_fr dep + 1 ≤ R.frames) (hR4 : 59 + dq_lo dep ≤ R.locals)
    (hret : meth.sig.returnType = dm_rt y) (hname : (dm_y y).name = "<init>" → meth.name = "<init>") (hexc : (dm_hh y).isEmpty = true → ∀ z ∈ c.exceptionTable.toList, False) (hLL : L ≤ 3584) (hlaw : sv = false → y ≠ dm_law) : dq_okx sv L xs h x ∧ dq_Go p l e R s m args below meth c (dq_Q below G base h0 ad0 x args s) nL G base b u h0 ad0 pc Lc S h := by
  have hk := bn hk
  subst hk
  exact dx_istore_n C hdg he hs Hk
set_option maxHeartbeats 2000000 in
theorem dq_s_astore {j : _} {nx : List dm_E1} (hy : y ≤ dm_law) (hown : own = dm_on (dm_o y)) (hcc : cc = dm_b y) (hdg : decode cc pc = .ok (.astore j, n)) (hk : dq_ei y (dm_o y) (dm_P y).2.2.2 (dm_rt y) (decide ((dm_y y).name = "<init>")) (dm_hh y).isEmpty pc (.astore j) n d nx = true) (hnx : ∀ e ∈ nx, decode (dm_b y) e.1 = .ok (e.2.1, e.2.2.1)) (C : dq_C p l s m args meth c own cc nL G base b L u xs) (he : dm_exec sv (dm_P y).2.2.2 dm_sh call k T pc n (.astore j) d cs Lc S h = some x) (hs : dq_os sv L xs h0 h Lc S)
    (Hk : ∀ (pc' : Nat) (Lc' : dm_L) (S' : List dm_V) (h' : dm_H), k pc' Lc' S' h' = some x → dq_os sv L xs h0 h' Lc' S' → dq_okx sv L xs h' x ∧ dq_Go p l e R s m args below meth c (dq_Q below G base h0 ad0 x args s) nL G base b u h0 ad0 pc' Lc' S' h') (IH : dq_IH l G base b L u xs sv dep call) (hT : dq_Th s args c own cc T pc) (hR1 : R.cells = gc x.2 - gc h0) (hR2 : R.slots = gs x.2 - gs h0) (hR3 : dq_fr dep + 1 ≤ R.frames) (hR4 : 59 + dq_lo dep ≤ R.locals)
    (hret : meth.sig.returnType = dm_rt y) (hname : (dm_y y).name = "<init>" → meth.name = "<init>") (hexc : (dm_hh y).isEmpty = true → ∀ z ∈ c.exceptionTable.toList, False) (hLL : L ≤ 3584) (hlaw : sv = false → y ≠ dm_law) : dq_okx sv L xs h x ∧ dq_Go p l e R s m args below meth c (dq_Q below G base h0 ad0 x args s) nL G base b u h0 ad0 pc Lc S h := by
  have hk := bn hk
  subst hk
  exact dx_astore C hdg he hs Hk
set_option maxHeartbeats 2000000 in
theorem dq_s_astore_n {j : _} {nx : List dm_E1} (hy : y ≤ dm_law) (hown : own = dm_on (dm_o y)) (hcc : cc = dm_b y) (hdg : decode cc pc = .ok (.astore_n j, n)) (hk : dq_ei y (dm_o y) (dm_P y).2.2.2 (dm_rt y) (decide ((dm_y y).name = "<init>")) (dm_hh y).isEmpty pc (.astore_n j) n d nx = true) (hnx : ∀ e ∈ nx, decode (dm_b y) e.1 = .ok (e.2.1, e.2.2.1)) (C : dq_C p l s m args meth c own cc nL G base b L u xs) (he : dm_exec sv (dm_P y).2.2.2 dm_sh call k T pc n (.astore_n j) d cs Lc S h = some x) (hs : dq_os sv L xs h0 h Lc S)
    (Hk : ∀ (pc' : Nat) (Lc' : dm_L) (S' : List dm_V) (h' : dm_H), k pc' Lc' S' h' = some x → dq_os sv L xs h0 h' Lc' S' → dq_okx sv L xs h' x ∧ dq_Go p l e R s m args below meth c (dq_Q below G base h0 ad0 x args s) nL G base b u h0 ad0 pc' Lc' S' h') (IH : dq_IH l G base b L u xs sv dep call) (hT : dq_Th s args c own cc T pc) (hR1 : R.cells = gc x.2 - gc h0) (hR2 : R.slots = gs x.2 - gs h0) (hR3 : dq_fr dep + 1 ≤ R.frames) (hR4 : 59 + dq_lo dep ≤ R.locals)
    (hret : meth.sig.returnType = dm_rt y) (hname : (dm_y y).name = "<init>" → meth.name = "<init>") (hexc : (dm_hh y).isEmpty = true → ∀ z ∈ c.exceptionTable.toList, False) (hLL : L ≤ 3584) (hlaw : sv = false → y ≠ dm_law) : dq_okx sv L xs h x ∧ dq_Go p l e R s m args below meth c (dq_Q below G base h0 ad0 x args s) nL G base b u h0 ad0 pc Lc S h := by
  have hk := bn hk
  subst hk
  exact dx_astore_n C hdg he hs Hk
set_option maxHeartbeats 2000000 in
theorem dq_s_iinc {j : _} {z : _} {nx : List dm_E1} (hy : y ≤ dm_law) (hown : own = dm_on (dm_o y)) (hcc : cc = dm_b y) (hdg : decode cc pc = .ok (.iinc j z, n)) (hk : dq_ei y (dm_o y) (dm_P y).2.2.2 (dm_rt y) (decide ((dm_y y).name = "<init>")) (dm_hh y).isEmpty pc (.iinc j z) n d nx = true) (hnx : ∀ e ∈ nx, decode (dm_b y) e.1 = .ok (e.2.1, e.2.2.1)) (C : dq_C p l s m args meth c own cc nL G base b L u xs) (he : dm_exec sv (dm_P y).2.2.2 dm_sh call k T pc n (.iinc j z) d cs Lc S h = some x) (hs : dq_os sv L xs h0 h Lc S)
    (Hk : ∀ (pc' : Nat) (Lc' : dm_L) (S' : List dm_V) (h' : dm_H), k pc' Lc' S' h' = some x → dq_os sv L xs h0 h' Lc' S' → dq_okx sv L xs h' x ∧ dq_Go p l e R s m args below meth c (dq_Q below G base h0 ad0 x args s) nL G base b u h0 ad0 pc' Lc' S' h') (IH : dq_IH l G base b L u xs sv dep call) (hT : dq_Th s args c own cc T pc) (hR1 : R.cells = gc x.2 - gc h0) (hR2 : R.slots = gs x.2 - gs h0) (hR3 : dq_fr dep + 1 ≤ R.frames) (hR4 : 59 + dq_lo dep ≤ R.locals)
    (hret : meth.sig.returnType = dm_rt y) (hname : (dm_y y).name = "<init>" → meth.name = "<init>") (hexc : (dm_hh y).isEmpty = true → ∀ z ∈ c.exceptionTable.toList, False) (hLL : L ≤ 3584) (hlaw : sv = false → y ≠ dm_law) : dq_okx sv L xs h x ∧ dq_Go p l e R s m args below meth c (dq_Q below G base h0 ad0 x args s) nL G base b u h0 ad0 pc Lc S h := by
  have hk := bn hk
  subst hk
  exact dx_iinc C hdg he hs Hk
set_option maxHeartbeats 2000000 in
theorem dq_s_pop {nx : List dm_E1} (hy : y ≤ dm_law) (hown : own = dm_on (dm_o y)) (hcc : cc = dm_b y) (hdg : decode cc pc = .ok (.pop, n)) (hk : dq_ei y (dm_o y) (dm_P y).2.2.2 (dm_rt y) (decide ((dm_y y).name = "<init>")) (dm_hh y).isEmpty pc (.pop) n d nx = true) (hnx : ∀ e ∈ nx, decode (dm_b y) e.1 = .ok (e.2.1, e.2.2.1)) (C : dq_C p l s m args meth c own cc nL G base b L u xs) (he : dm_exec sv (dm_P y).2.2.2 dm_sh call k T pc n (.pop) d cs Lc S h = some x) (hs : dq_os sv L xs h0 h Lc S)
    (Hk : ∀ (pc' : Nat) (Lc' : dm_L) (S' : List dm_V) (h' : dm_H), k pc' Lc' S' h' = some x → dq_os sv L xs h0 h' Lc' S' → dq_okx sv L xs h' x ∧ dq_Go p l e R s m args below meth c (dq_Q below G base h0 ad0 x args s) nL G base b u h0 ad0 pc' Lc' S' h') (IH : dq_IH l G base b L u xs sv dep call) (hT : dq_Th s args c own cc T pc) (hR1 : R.cells = gc x.2 - gc h0) (hR2 : R.slots = gs x.2 - gs h0) (hR3 : dq_fr dep + 1 ≤ R.frames) (hR4 : 59 + dq_lo dep ≤ R.locals)
    (hret : meth.sig.returnType = dm_rt y) (hname : (dm_y y).name = "<init>" → meth.name = "<init>") (hexc : (dm_hh y).isEmpty = true → ∀ z ∈ c.exceptionTable.toList, False) (hLL : L ≤ 3584) (hlaw : sv = false → y ≠ dm_law) : dq_okx sv L xs h x ∧ dq_Go p l e R s m args below meth c (dq_Q below G base h0 ad0 x args s) nL G base b u h0 ad0 pc Lc S h := by
  have hk := bn hk
  subst hk
  exact dx_pop C hdg he hs Hk
set_option maxHeartbeats 2000000 in
theorem dq_s_dup {nx : List dm_E1} (hy : y ≤ dm_law) (hown : own = dm_on (dm_o y)) (hcc : cc = dm_b y) (hdg : decode cc pc = .ok (.dup, n)) (hk : dq_ei y (dm_o y) (dm_P y).2.2.2 (dm_rt y) (decide ((dm_y y).name = "<init>")) (dm_hh y).isEmpty pc (.dup) n d nx = true) (hnx : ∀ e ∈ nx, decode (dm_b y) e.1 = .ok (e.2.1, e.2.2.1)) (C : dq_C p l s m args meth c own cc nL G base b L u xs) (he : dm_exec sv (dm_P y).2.2.2 dm_sh call k T pc n (.dup) d cs Lc S h = some x) (hs : dq_os sv L xs h0 h Lc S)
    (Hk : ∀ (pc' : Nat) (Lc' : dm_L) (S' : List dm_V) (h' : dm_H), k pc' Lc' S' h' = some x → dq_os sv L xs h0 h' Lc' S' → dq_okx sv L xs h' x ∧ dq_Go p l e R s m args below meth c (dq_Q below G base h0 ad0 x args s) nL G base b u h0 ad0 pc' Lc' S' h') (IH : dq_IH l G base b L u xs sv dep call) (hT : dq_Th s args c own cc T pc) (hR1 : R.cells = gc x.2 - gc h0) (hR2 : R.slots = gs x.2 - gs h0) (hR3 : dq_fr dep + 1 ≤ R.frames) (hR4 : 59 + dq_lo dep ≤ R.locals)
    (hret : meth.sig.returnType = dm_rt y) (hname : (dm_y y).name = "<init>" → meth.name = "<init>") (hexc : (dm_hh y).isEmpty = true → ∀ z ∈ c.exceptionTable.toList, False) (hLL : L ≤ 3584) (hlaw : sv = false → y ≠ dm_law) : dq_okx sv L xs h x ∧ dq_Go p l e R s m args below meth c (dq_Q below G base h0 ad0 x args s) nL G base b u h0 ad0 pc Lc S h := by
  have hk := bn hk
  subst hk
  exact dx_dup C hdg he hs Hk
set_option maxHeartbeats 2000000 in
theorem dq_s_dup2 {nx : List dm_E1} (hy : y ≤ dm_law) (hown : own = dm_on (dm_o y)) (hcc : cc = dm_b y) (hdg : decode cc pc = .ok (.dup2, n)) (hk : dq_ei y (dm_o y) (dm_P y).2.2.2 (dm_rt y) (decide ((dm_y y).name = "<init>")) (dm_hh y).isEmpty pc (.dup2) n d nx = true) (hnx : ∀ e ∈ nx, decode (dm_b y) e.1 = .ok (e.2.1, e.2.2.1)) (C : dq_C p l s m args meth c own cc nL G base b L u xs) (he : dm_exec sv (dm_P y).2.2.2 dm_sh call k T pc n (.dup2) d cs Lc S h = some x) (hs : dq_os sv L xs h0 h Lc S)
    (Hk : ∀ (pc' : Nat) (Lc' : dm_L) (S' : List dm_V) (h' : dm_H), k pc' Lc' S' h' = some x → dq_os sv L xs h0 h' Lc' S' → dq_okx sv L xs h' x ∧ dq_Go p l e R s m args below meth c (dq_Q below G base h0 ad0 x args s) nL G base b u h0 ad0 pc' Lc' S' h') (IH : dq_IH l G base b L u xs sv dep call) (hT : dq_Th s args c own cc T pc) (hR1 : R.cells = gc x.2 - gc h0) (hR2 : R.slots = gs x.2 - gs h0) (hR3 : dq_fr dep + 1 ≤ R.frames) (hR4 : 59 + dq_lo dep ≤ R.locals)
    (hret : meth.sig.returnType = dm_rt y) (hname : (dm_y y).name = "<init>" → meth.name = "<init>") (hexc : (dm_hh y).isEmpty = true → ∀ z ∈ c.exceptionTable.toList, False) (hLL : L ≤ 3584) (hlaw : sv = false → y ≠ dm_law) : dq_okx sv L xs h x ∧ dq_Go p l e R s m args below meth c (dq_Q below G base h0 ad0 x args s) nL G base b u h0 ad0 pc Lc S h := by
  have hk := bn hk
  subst hk
  exact dx_dup2 C hdg he hs Hk
set_option maxHeartbeats 2000000 in
theorem dq_s_iadd {nx : List dm_E1} (hy : y ≤ dm_law) (hown : own = dm_on (dm_o y)) (hcc : cc = dm_b y) (hdg : decode cc pc = .ok (.iadd, n)) (hk : dq_ei y (dm_o y) (dm_P y).2.2.2 (dm_rt y) (decide ((dm_y y).name = "<init>")) (dm_hh y).isEmpty pc (.iadd) n d nx = true) (hnx : ∀ e ∈ nx, decode (dm_b y) e.1 = .ok (e.2.1, e.2.2.1)) (C : dq_C p l s m args meth c own cc nL G base b L u xs) (he : dm_exec sv (dm_P y).2.2.2 dm_sh call k T pc n (.iadd) d cs Lc S h = some x) (hs : dq_os sv L xs h0 h Lc S)
    (Hk : ∀ (pc' : Nat) (Lc' : dm_L) (S' : List dm_V) (h' : dm_H), k pc' Lc' S' h' = some x → dq_os sv L xs h0 h' Lc' S' → dq_okx sv L xs h' x ∧ dq_Go p l e R s m args below meth c (dq_Q below G base h0 ad0 x args s) nL G base b u h0 ad0 pc' Lc' S' h') (IH : dq_IH l G base b L u xs sv dep call) (hT : dq_Th s args c own cc T pc) (hR1 : R.cells = gc x.2 - gc h0) (hR2 : R.slots = gs x.2 - gs h0) (hR3 : dq_fr dep + 1 ≤ R.frames) (hR4 : 59 + dq_lo dep ≤ R.locals)
    (hret : meth.sig.returnType = dm_rt y) (hname : (dm_y y).name = "<init>" → meth.name = "<init>") (hexc : (dm_hh y).isEmpty = true → ∀ z ∈ c.exceptionTable.toList, False) (hLL : L ≤ 3584) (hlaw : sv = false → y ≠ dm_law) : dq_okx sv L xs h x ∧ dq_Go p l e R s m args below meth c (dq_Q below G base h0 ad0 x args s) nL G base b u h0 ad0 pc Lc S h := by
  have hk := bn hk
  subst hk
  exact dx_iadd C hdg he hs Hk
set_option maxHeartbeats 2000000 in
theorem dq_s_isub {nx : List dm_E1} (hy : y ≤ dm_law) (hown : own = dm_on (dm_o y)) (hcc : cc = dm_b y) (hdg : decode cc pc = .ok (.isub, n)) (hk : dq_ei y (dm_o y) (dm_P y).2.2.2 (dm_rt y) (decide ((dm_y y).name = "<init>")) (dm_hh y).isEmpty pc (.isub) n d nx = true) (hnx : ∀ e ∈ nx, decode (dm_b y) e.1 = .ok (e.2.1, e.2.2.1)) (C : dq_C p l s m args meth c own cc nL G base b L u xs) (he : dm_exec sv (dm_P y).2.2.2 dm_sh call k T pc n (.isub) d cs Lc S h = some x) (hs : dq_os sv L xs h0 h Lc S)
    (Hk : ∀ (pc' : Nat) (Lc' : dm_L) (S' : List dm_V) (h' : dm_H), k pc' Lc' S' h' = some x → dq_os sv L xs h0 h' Lc' S' → dq_okx sv L xs h' x ∧ dq_Go p l e R s m args below meth c (dq_Q below G base h0 ad0 x args s) nL G base b u h0 ad0 pc' Lc' S' h') (IH : dq_IH l G base b L u xs sv dep call) (hT : dq_Th s args c own cc T pc) (hR1 : R.cells = gc x.2 - gc h0) (hR2 : R.slots = gs x.2 - gs h0) (hR3 : dq_fr dep + 1 ≤ R.frames) (hR4 : 59 + dq_lo dep ≤ R.locals)
    (hret : meth.sig.returnType = dm_rt y) (hname : (dm_y y).name = "<init>" → meth.name = "<init>") (hexc : (dm_hh y).isEmpty = true → ∀ z ∈ c.exceptionTable.toList, False) (hLL : L ≤ 3584) (hlaw : sv = false → y ≠ dm_law) : dq_okx sv L xs h x ∧ dq_Go p l e R s m args below meth c (dq_Q below G base h0 ad0 x args s) nL G base b u h0 ad0 pc Lc S h := by
  have hk := bn hk
  subst hk
  exact dx_isub C hdg he hs Hk
set_option maxHeartbeats 2000000 in
theorem dq_s_imul {nx : List dm_E1} (hy : y ≤ dm_law) (hown : own = dm_on (dm_o y)) (hcc : cc = dm_b y) (hdg : decode cc pc = .ok (.imul, n)) (hk : dq_ei y (dm_o y) (dm_P y).2.2.2 (dm_rt y) (decide ((dm_y y).name = "<init>")) (dm_hh y).isEmpty pc (.imul) n d nx = true) (hnx : ∀ e ∈ nx, decode (dm_b y) e.1 = .ok (e.2.1, e.2.2.1)) (C : dq_C p l s m args meth c own cc nL G base b L u xs) (he : dm_exec sv (dm_P y).2.2.2 dm_sh call k T pc n (.imul) d cs Lc S h = some x) (hs : dq_os sv L xs h0 h Lc S)
    (Hk : ∀ (pc' : Nat) (Lc' : dm_L) (S' : List dm_V) (h' : dm_H), k pc' Lc' S' h' = some x → dq_os sv L xs h0 h' Lc' S' → dq_okx sv L xs h' x ∧ dq_Go p l e R s m args below meth c (dq_Q below G base h0 ad0 x args s) nL G base b u h0 ad0 pc' Lc' S' h') (IH : dq_IH l G base b L u xs sv dep call) (hT : dq_Th s args c own cc T pc) (hR1 : R.cells = gc x.2 - gc h0) (hR2 : R.slots = gs x.2 - gs h0) (hR3 : dq_fr dep + 1 ≤ R.frames) (hR4 : 59 + dq_lo dep ≤ R.locals)
    (hret : meth.sig.returnType = dm_rt y) (hname : (dm_y y).name = "<init>" → meth.name = "<init>") (hexc : (dm_hh y).isEmpty = true → ∀ z ∈ c.exceptionTable.toList, False) (hLL : L ≤ 3584) (hlaw : sv = false → y ≠ dm_law) : dq_okx sv L xs h x ∧ dq_Go p l e R s m args below meth c (dq_Q below G base h0 ad0 x args s) nL G base b u h0 ad0 pc Lc S h := by
  have hk := bn hk
  subst hk
  exact dx_imul C hdg he hs Hk
set_option maxHeartbeats 2000000 in
theorem dq_s_idiv {nx : List dm_E1} (hy : y ≤ dm_law) (hown : own = dm_on (dm_o y)) (hcc : cc = dm_b y) (hdg : decode cc pc = .ok (.idiv, n)) (hk : dq_ei y (dm_o y) (dm_P y).2.2.2 (dm_rt y) (decide ((dm_y y).name = "<init>")) (dm_hh y).isEmpty pc (.idiv) n d nx = true) (hnx : ∀ e ∈ nx, decode (dm_b y) e.1 = .ok (e.2.1, e.2.2.1)) (C : dq_C p l s m args meth c own cc nL G base b L u xs) (he : dm_exec sv (dm_P y).2.2.2 dm_sh call k T pc n (.idiv) d cs Lc S h = some x) (hs : dq_os sv L xs h0 h Lc S)
    (Hk : ∀ (pc' : Nat) (Lc' : dm_L) (S' : List dm_V) (h' : dm_H), k pc' Lc' S' h' = some x → dq_os sv L xs h0 h' Lc' S' → dq_okx sv L xs h' x ∧ dq_Go p l e R s m args below meth c (dq_Q below G base h0 ad0 x args s) nL G base b u h0 ad0 pc' Lc' S' h') (IH : dq_IH l G base b L u xs sv dep call) (hT : dq_Th s args c own cc T pc) (hR1 : R.cells = gc x.2 - gc h0) (hR2 : R.slots = gs x.2 - gs h0) (hR3 : dq_fr dep + 1 ≤ R.frames) (hR4 : 59 + dq_lo dep ≤ R.locals)
    (hret : meth.sig.returnType = dm_rt y) (hname : (dm_y y).name = "<init>" → meth.name = "<init>") (hexc : (dm_hh y).isEmpty = true → ∀ z ∈ c.exceptionTable.toList, False) (hLL : L ≤ 3584) (hlaw : sv = false → y ≠ dm_law) : dq_okx sv L xs h x ∧ dq_Go p l e R s m args below meth c (dq_Q below G base h0 ad0 x args s) nL G base b u h0 ad0 pc Lc S h := by
  have hk := bn hk
  subst hk
  exact dx_idiv C hdg he hs Hk
set_option maxHeartbeats 2000000 in
theorem dq_s_irem {nx : List dm_E1} (hy : y ≤ dm_law) (hown : own = dm_on (dm_o y)) (hcc : cc = dm_b y) (hdg : decode cc pc = .ok (.irem, n)) (hk : dq_ei y (dm_o y) (dm_P y).2.2.2 (dm_rt y) (decide ((dm_y y).name = "<init>")) (dm_hh y).isEmpty pc (.irem) n d nx = true) (hnx : ∀ e ∈ nx, decode (dm_b y) e.1 = .ok (e.2.1, e.2.2.1)) (C : dq_C p l s m args meth c own cc nL G base b L u xs) (he : dm_exec sv (dm_P y).2.2.2 dm_sh call k T pc n (.irem) d cs Lc S h = some x) (hs : dq_os sv L xs h0 h Lc S)
    (Hk : ∀ (pc' : Nat) (Lc' : dm_L) (S' : List dm_V) (h' : dm_H), k pc' Lc' S' h' = some x → dq_os sv L xs h0 h' Lc' S' → dq_okx sv L xs h' x ∧ dq_Go p l e R s m args below meth c (dq_Q below G base h0 ad0 x args s) nL G base b u h0 ad0 pc' Lc' S' h') (IH : dq_IH l G base b L u xs sv dep call) (hT : dq_Th s args c own cc T pc) (hR1 : R.cells = gc x.2 - gc h0) (hR2 : R.slots = gs x.2 - gs h0) (hR3 : dq_fr dep + 1 ≤ R.frames) (hR4 : 59 + dq_lo dep ≤ R.locals)
    (hret : meth.sig.returnType = dm_rt y) (hname : (dm_y y).name = "<init>" → meth.name = "<init>") (hexc : (dm_hh y).isEmpty = true → ∀ z ∈ c.exceptionTable.toList, False) (hLL : L ≤ 3584) (hlaw : sv = false → y ≠ dm_law) : dq_okx sv L xs h x ∧ dq_Go p l e R s m args below meth c (dq_Q below G base h0 ad0 x args s) nL G base b u h0 ad0 pc Lc S h := by
  have hk := bn hk
  subst hk
  exact dx_irem C hdg he hs Hk
set_option maxHeartbeats 2000000 in
theorem dq_s_iand {nx : List dm_E1} (hy : y ≤ dm_law) (hown : own = dm_on (dm_o y)) (hcc : cc = dm_b y) (hdg : decode cc pc = .ok (.iand, n)) (hk : dq_ei y (dm_o y) (dm_P y).2.2.2 (dm_rt y) (decide ((dm_y y).name = "<init>")) (dm_hh y).isEmpty pc (.iand) n d nx = true) (hnx : ∀ e ∈ nx, decode (dm_b y) e.1 = .ok (e.2.1, e.2.2.1)) (C : dq_C p l s m args meth c own cc nL G base b L u xs) (he : dm_exec sv (dm_P y).2.2.2 dm_sh call k T pc n (.iand) d cs Lc S h = some x) (hs : dq_os sv L xs h0 h Lc S)
    (Hk : ∀ (pc' : Nat) (Lc' : dm_L) (S' : List dm_V) (h' : dm_H), k pc' Lc' S' h' = some x → dq_os sv L xs h0 h' Lc' S' → dq_okx sv L xs h' x ∧ dq_Go p l e R s m args below meth c (dq_Q below G base h0 ad0 x args s) nL G base b u h0 ad0 pc' Lc' S' h') (IH : dq_IH l G base b L u xs sv dep call) (hT : dq_Th s args c own cc T pc) (hR1 : R.cells = gc x.2 - gc h0) (hR2 : R.slots = gs x.2 - gs h0) (hR3 : dq_fr dep + 1 ≤ R.frames) (hR4 : 59 + dq_lo dep ≤ R.locals)
    (hret : meth.sig.returnType = dm_rt y) (hname : (dm_y y).name = "<init>" → meth.name = "<init>") (hexc : (dm_hh y).isEmpty = true → ∀ z ∈ c.exceptionTable.toList, False) (hLL : L ≤ 3584) (hlaw : sv = false → y ≠ dm_law) : dq_okx sv L xs h x ∧ dq_Go p l e R s m args below meth c (dq_Q below G base h0 ad0 x args s) nL G base b u h0 ad0 pc Lc S h := by
  have hk := bn hk
  subst hk
  exact dx_iand C hdg he hs Hk
set_option maxHeartbeats 2000000 in
theorem dq_s_ior {nx : List dm_E1} (hy : y ≤ dm_law) (hown : own = dm_on (dm_o y)) (hcc : cc = dm_b y) (hdg : decode cc pc = .ok (.ior, n)) (hk : dq_ei y (dm_o y) (dm_P y).2.2.2 (dm_rt y) (decide ((dm_y y).name = "<init>")) (dm_hh y).isEmpty pc (.ior) n d nx = true) (hnx : ∀ e ∈ nx, decode (dm_b y) e.1 = .ok (e.2.1, e.2.2.1)) (C : dq_C p l s m args meth c own cc nL G base b L u xs) (he : dm_exec sv (dm_P y).2.2.2 dm_sh call k T pc n (.ior) d cs Lc S h = some x) (hs : dq_os sv L xs h0 h Lc S)
    (Hk : ∀ (pc' : Nat) (Lc' : dm_L) (S' : List dm_V) (h' : dm_H), k pc' Lc' S' h' = some x → dq_os sv L xs h0 h' Lc' S' → dq_okx sv L xs h' x ∧ dq_Go p l e R s m args below meth c (dq_Q below G base h0 ad0 x args s) nL G base b u h0 ad0 pc' Lc' S' h') (IH : dq_IH l G base b L u xs sv dep call) (hT : dq_Th s args c own cc T pc) (hR1 : R.cells = gc x.2 - gc h0) (hR2 : R.slots = gs x.2 - gs h0) (hR3 : dq_fr dep + 1 ≤ R.frames) (hR4 : 59 + dq_lo dep ≤ R.locals)
    (hret : meth.sig.returnType = dm_rt y) (hname : (dm_y y).name = "<init>" → meth.name = "<init>") (hexc : (dm_hh y).isEmpty = true → ∀ z ∈ c.exceptionTable.toList, False) (hLL : L ≤ 3584) (hlaw : sv = false → y ≠ dm_law) : dq_okx sv L xs h x ∧ dq_Go p l e R s m args below meth c (dq_Q below G base h0 ad0 x args s) nL G base b u h0 ad0 pc Lc S h := by
  have hk := bn hk
  subst hk
  exact dx_ior C hdg he hs Hk
set_option maxHeartbeats 2000000 in
theorem dq_s_ixor {nx : List dm_E1} (hy : y ≤ dm_law) (hown : own = dm_on (dm_o y)) (hcc : cc = dm_b y) (hdg : decode cc pc = .ok (.ixor, n)) (hk : dq_ei y (dm_o y) (dm_P y).2.2.2 (dm_rt y) (decide ((dm_y y).name = "<init>")) (dm_hh y).isEmpty pc (.ixor) n d nx = true) (hnx : ∀ e ∈ nx, decode (dm_b y) e.1 = .ok (e.2.1, e.2.2.1)) (C : dq_C p l s m args meth c own cc nL G base b L u xs) (he : dm_exec sv (dm_P y).2.2.2 dm_sh call k T pc n (.ixor) d cs Lc S h = some x) (hs : dq_os sv L xs h0 h Lc S)
    (Hk : ∀ (pc' : Nat) (Lc' : dm_L) (S' : List dm_V) (h' : dm_H), k pc' Lc' S' h' = some x → dq_os sv L xs h0 h' Lc' S' → dq_okx sv L xs h' x ∧ dq_Go p l e R s m args below meth c (dq_Q below G base h0 ad0 x args s) nL G base b u h0 ad0 pc' Lc' S' h') (IH : dq_IH l G base b L u xs sv dep call) (hT : dq_Th s args c own cc T pc) (hR1 : R.cells = gc x.2 - gc h0) (hR2 : R.slots = gs x.2 - gs h0) (hR3 : dq_fr dep + 1 ≤ R.frames) (hR4 : 59 + dq_lo dep ≤ R.locals)
    (hret : meth.sig.returnType = dm_rt y) (hname : (dm_y y).name = "<init>" → meth.name = "<init>") (hexc : (dm_hh y).isEmpty = true → ∀ z ∈ c.exceptionTable.toList, False) (hLL : L ≤ 3584) (hlaw : sv = false → y ≠ dm_law) : dq_okx sv L xs h x ∧ dq_Go p l e R s m args below meth c (dq_Q below G base h0 ad0 x args s) nL G base b u h0 ad0 pc Lc S h := by
  have hk := bn hk
  subst hk
  exact dx_ixor C hdg he hs Hk
set_option maxHeartbeats 2000000 in
theorem dq_s_ishl {nx : List dm_E1} (hy : y ≤ dm_law) (hown : own = dm_on (dm_o y)) (hcc : cc = dm_b y) (hdg : decode cc pc = .ok (.ishl, n)) (hk : dq_ei y (dm_o y) (dm_P y).2.2.2 (dm_rt y) (decide ((dm_y y).name = "<init>")) (dm_hh y).isEmpty pc (.ishl) n d nx = true) (hnx : ∀ e ∈ nx, decode (dm_b y) e.1 = .ok (e.2.1, e.2.2.1)) (C : dq_C p l s m args meth c own cc nL G base b L u xs) (he : dm_exec sv (dm_P y).2.2.2 dm_sh call k T pc n (.ishl) d cs Lc S h = some x) (hs : dq_os sv L xs h0 h Lc S)
    (Hk : ∀ (pc' : Nat) (Lc' : dm_L) (S' : List dm_V) (h' : dm_H), k pc' Lc' S' h' = some x → dq_os sv L xs h0 h' Lc' S' → dq_okx sv L xs h' x ∧ dq_Go p l e R s m args below meth c (dq_Q below G base h0 ad0 x args s) nL G base b u h0 ad0 pc' Lc' S' h') (IH : dq_IH l G base b L u xs sv dep call) (hT : dq_Th s args c own cc T pc) (hR1 : R.cells = gc x.2 - gc h0) (hR2 : R.slots = gs x.2 - gs h0) (hR3 : dq_fr dep + 1 ≤ R.frames) (hR4 : 59 + dq_lo dep ≤ R.locals)
    (hret : meth.sig.returnType = dm_rt y) (hname : (dm_y y).name = "<init>" → meth.name = "<init>") (hexc : (dm_hh y).isEmpty = true → ∀ z ∈ c.exceptionTable.toList, False) (hLL : L ≤ 3584) (hlaw : sv = false → y ≠ dm_law) : dq_okx sv L xs h x ∧ dq_Go p l e R s m args below meth c (dq_Q below G base h0 ad0 x args s) nL G base b u h0 ad0 pc Lc S h := by
  have hk := bn hk
  subst hk
  exact dx_ishl C hdg he hs Hk
set_option maxHeartbeats 2000000 in
theorem dq_s_ishr {nx : List dm_E1} (hy : y ≤ dm_law) (hown : own = dm_on (dm_o y)) (hcc : cc = dm_b y) (hdg : decode cc pc = .ok (.ishr, n)) (hk : dq_ei y (dm_o y) (dm_P y).2.2.2 (dm_rt y) (decide ((dm_y y).name = "<init>")) (dm_hh y).isEmpty pc (.ishr) n d nx = true) (hnx : ∀ e ∈ nx, decode (dm_b y) e.1 = .ok (e.2.1, e.2.2.1)) (C : dq_C p l s m args meth c own cc nL G base b L u xs) (he : dm_exec sv (dm_P y).2.2.2 dm_sh call k T pc n (.ishr) d cs Lc S h = some x) (hs : dq_os sv L xs h0 h Lc S)
    (Hk : ∀ (pc' : Nat) (Lc' : dm_L) (S' : List dm_V) (h' : dm_H), k pc' Lc' S' h' = some x → dq_os sv L xs h0 h' Lc' S' → dq_okx sv L xs h' x ∧ dq_Go p l e R s m args below meth c (dq_Q below G base h0 ad0 x args s) nL G base b u h0 ad0 pc' Lc' S' h') (IH : dq_IH l G base b L u xs sv dep call) (hT : dq_Th s args c own cc T pc) (hR1 : R.cells = gc x.2 - gc h0) (hR2 : R.slots = gs x.2 - gs h0) (hR3 : dq_fr dep + 1 ≤ R.frames) (hR4 : 59 + dq_lo dep ≤ R.locals)
    (hret : meth.sig.returnType = dm_rt y) (hname : (dm_y y).name = "<init>" → meth.name = "<init>") (hexc : (dm_hh y).isEmpty = true → ∀ z ∈ c.exceptionTable.toList, False) (hLL : L ≤ 3584) (hlaw : sv = false → y ≠ dm_law) : dq_okx sv L xs h x ∧ dq_Go p l e R s m args below meth c (dq_Q below G base h0 ad0 x args s) nL G base b u h0 ad0 pc Lc S h := by
  have hk := bn hk
  subst hk
  exact dx_ishr C hdg he hs Hk
set_option maxHeartbeats 2000000 in
theorem dq_s_i2l {nx : List dm_E1} (hy : y ≤ dm_law) (hown : own = dm_on (dm_o y)) (hcc : cc = dm_b y) (hdg : decode cc pc = .ok (.i2l, n)) (hk : dq_ei y (dm_o y) (dm_P y).2.2.2 (dm_rt y) (decide ((dm_y y).name = "<init>")) (dm_hh y).isEmpty pc (.i2l) n d nx = true) (hnx : ∀ e ∈ nx, decode (dm_b y) e.1 = .ok (e.2.1, e.2.2.1)) (C : dq_C p l s m args meth c own cc nL G base b L u xs) (he : dm_exec sv (dm_P y).2.2.2 dm_sh call k T pc n (.i2l) d cs Lc S h = some x) (hs : dq_os sv L xs h0 h Lc S)
    (Hk : ∀ (pc' : Nat) (Lc' : dm_L) (S' : List dm_V) (h' : dm_H), k pc' Lc' S' h' = some x → dq_os sv L xs h0 h' Lc' S' → dq_okx sv L xs h' x ∧ dq_Go p l e R s m args below meth c (dq_Q below G base h0 ad0 x args s) nL G base b u h0 ad0 pc' Lc' S' h') (IH : dq_IH l G base b L u xs sv dep call) (hT : dq_Th s args c own cc T pc) (hR1 : R.cells = gc x.2 - gc h0) (hR2 : R.slots = gs x.2 - gs h0) (hR3 : dq_fr dep + 1 ≤ R.frames) (hR4 : 59 + dq_lo dep ≤ R.locals)
    (hret : meth.sig.returnType = dm_rt y) (hname : (dm_y y).name = "<init>" → meth.name = "<init>") (hexc : (dm_hh y).isEmpty = true → ∀ z ∈ c.exceptionTable.toList, False) (hLL : L ≤ 3584) (hlaw : sv = false → y ≠ dm_law) : dq_okx sv L xs h x ∧ dq_Go p l e R s m args below meth c (dq_Q below G base h0 ad0 x args s) nL G base b u h0 ad0 pc Lc S h := by
  have hk := bn hk
  subst hk
  exact dx_i2l C hdg he hs Hk
set_option maxHeartbeats 2000000 in
theorem dq_s_lcmp {nx : List dm_E1} (hy : y ≤ dm_law) (hown : own = dm_on (dm_o y)) (hcc : cc = dm_b y) (hdg : decode cc pc = .ok (.lcmp, n)) (hk : dq_ei y (dm_o y) (dm_P y).2.2.2 (dm_rt y) (decide ((dm_y y).name = "<init>")) (dm_hh y).isEmpty pc (.lcmp) n d nx = true) (hnx : ∀ e ∈ nx, decode (dm_b y) e.1 = .ok (e.2.1, e.2.2.1)) (C : dq_C p l s m args meth c own cc nL G base b L u xs) (he : dm_exec sv (dm_P y).2.2.2 dm_sh call k T pc n (.lcmp) d cs Lc S h = some x) (hs : dq_os sv L xs h0 h Lc S)
    (Hk : ∀ (pc' : Nat) (Lc' : dm_L) (S' : List dm_V) (h' : dm_H), k pc' Lc' S' h' = some x → dq_os sv L xs h0 h' Lc' S' → dq_okx sv L xs h' x ∧ dq_Go p l e R s m args below meth c (dq_Q below G base h0 ad0 x args s) nL G base b u h0 ad0 pc' Lc' S' h') (IH : dq_IH l G base b L u xs sv dep call) (hT : dq_Th s args c own cc T pc) (hR1 : R.cells = gc x.2 - gc h0) (hR2 : R.slots = gs x.2 - gs h0) (hR3 : dq_fr dep + 1 ≤ R.frames) (hR4 : 59 + dq_lo dep ≤ R.locals)
    (hret : meth.sig.returnType = dm_rt y) (hname : (dm_y y).name = "<init>" → meth.name = "<init>") (hexc : (dm_hh y).isEmpty = true → ∀ z ∈ c.exceptionTable.toList, False) (hLL : L ≤ 3584) (hlaw : sv = false → y ≠ dm_law) : dq_okx sv L xs h x ∧ dq_Go p l e R s m args below meth c (dq_Q below G base h0 ad0 x args s) nL G base b u h0 ad0 pc Lc S h := by
  have hk := bn hk
  subst hk
  exact dx_lcmp C hdg he hs Hk
set_option maxHeartbeats 2000000 in
theorem dq_s_iaload {nx : List dm_E1} (hy : y ≤ dm_law) (hown : own = dm_on (dm_o y)) (hcc : cc = dm_b y) (hdg : decode cc pc = .ok (.iaload, n)) (hk : dq_ei y (dm_o y) (dm_P y).2.2.2 (dm_rt y) (decide ((dm_y y).name = "<init>")) (dm_hh y).isEmpty pc (.iaload) n d nx = true) (hnx : ∀ e ∈ nx, decode (dm_b y) e.1 = .ok (e.2.1, e.2.2.1)) (C : dq_C p l s m args meth c own cc nL G base b L u xs) (he : dm_exec sv (dm_P y).2.2.2 dm_sh call k T pc n (.iaload) d cs Lc S h = some x) (hs : dq_os sv L xs h0 h Lc S)
    (Hk : ∀ (pc' : Nat) (Lc' : dm_L) (S' : List dm_V) (h' : dm_H), k pc' Lc' S' h' = some x → dq_os sv L xs h0 h' Lc' S' → dq_okx sv L xs h' x ∧ dq_Go p l e R s m args below meth c (dq_Q below G base h0 ad0 x args s) nL G base b u h0 ad0 pc' Lc' S' h') (IH : dq_IH l G base b L u xs sv dep call) (hT : dq_Th s args c own cc T pc) (hR1 : R.cells = gc x.2 - gc h0) (hR2 : R.slots = gs x.2 - gs h0) (hR3 : dq_fr dep + 1 ≤ R.frames) (hR4 : 59 + dq_lo dep ≤ R.locals)
    (hret : meth.sig.returnType = dm_rt y) (hname : (dm_y y).name = "<init>" → meth.name = "<init>") (hexc : (dm_hh y).isEmpty = true → ∀ z ∈ c.exceptionTable.toList, False) (hLL : L ≤ 3584) (hlaw : sv = false → y ≠ dm_law) : dq_okx sv L xs h x ∧ dq_Go p l e R s m args below meth c (dq_Q below G base h0 ad0 x args s) nL G base b u h0 ad0 pc Lc S h := by
  have hk := bn hk
  subst hk
  exact dx_iaload C hdg he hs Hk
set_option maxHeartbeats 2000000 in
theorem dq_s_baload {nx : List dm_E1} (hy : y ≤ dm_law) (hown : own = dm_on (dm_o y)) (hcc : cc = dm_b y) (hdg : decode cc pc = .ok (.baload, n)) (hk : dq_ei y (dm_o y) (dm_P y).2.2.2 (dm_rt y) (decide ((dm_y y).name = "<init>")) (dm_hh y).isEmpty pc (.baload) n d nx = true) (hnx : ∀ e ∈ nx, decode (dm_b y) e.1 = .ok (e.2.1, e.2.2.1)) (C : dq_C p l s m args meth c own cc nL G base b L u xs) (he : dm_exec sv (dm_P y).2.2.2 dm_sh call k T pc n (.baload) d cs Lc S h = some x) (hs : dq_os sv L xs h0 h Lc S)
    (Hk : ∀ (pc' : Nat) (Lc' : dm_L) (S' : List dm_V) (h' : dm_H), k pc' Lc' S' h' = some x → dq_os sv L xs h0 h' Lc' S' → dq_okx sv L xs h' x ∧ dq_Go p l e R s m args below meth c (dq_Q below G base h0 ad0 x args s) nL G base b u h0 ad0 pc' Lc' S' h') (IH : dq_IH l G base b L u xs sv dep call) (hT : dq_Th s args c own cc T pc) (hR1 : R.cells = gc x.2 - gc h0) (hR2 : R.slots = gs x.2 - gs h0) (hR3 : dq_fr dep + 1 ≤ R.frames) (hR4 : 59 + dq_lo dep ≤ R.locals)
    (hret : meth.sig.returnType = dm_rt y) (hname : (dm_y y).name = "<init>" → meth.name = "<init>") (hexc : (dm_hh y).isEmpty = true → ∀ z ∈ c.exceptionTable.toList, False) (hLL : L ≤ 3584) (hlaw : sv = false → y ≠ dm_law) : dq_okx sv L xs h x ∧ dq_Go p l e R s m args below meth c (dq_Q below G base h0 ad0 x args s) nL G base b u h0 ad0 pc Lc S h := by
  have hk := bn hk
  subst hk
  exact dx_baload C hdg he hs Hk
set_option maxHeartbeats 2000000 in
theorem dq_s_laload {nx : List dm_E1} (hy : y ≤ dm_law) (hown : own = dm_on (dm_o y)) (hcc : cc = dm_b y) (hdg : decode cc pc = .ok (.laload, n)) (hk : dq_ei y (dm_o y) (dm_P y).2.2.2 (dm_rt y) (decide ((dm_y y).name = "<init>")) (dm_hh y).isEmpty pc (.laload) n d nx = true) (hnx : ∀ e ∈ nx, decode (dm_b y) e.1 = .ok (e.2.1, e.2.2.1)) (C : dq_C p l s m args meth c own cc nL G base b L u xs) (he : dm_exec sv (dm_P y).2.2.2 dm_sh call k T pc n (.laload) d cs Lc S h = some x) (hs : dq_os sv L xs h0 h Lc S)
    (Hk : ∀ (pc' : Nat) (Lc' : dm_L) (S' : List dm_V) (h' : dm_H), k pc' Lc' S' h' = some x → dq_os sv L xs h0 h' Lc' S' → dq_okx sv L xs h' x ∧ dq_Go p l e R s m args below meth c (dq_Q below G base h0 ad0 x args s) nL G base b u h0 ad0 pc' Lc' S' h') (IH : dq_IH l G base b L u xs sv dep call) (hT : dq_Th s args c own cc T pc) (hR1 : R.cells = gc x.2 - gc h0) (hR2 : R.slots = gs x.2 - gs h0) (hR3 : dq_fr dep + 1 ≤ R.frames) (hR4 : 59 + dq_lo dep ≤ R.locals)
    (hret : meth.sig.returnType = dm_rt y) (hname : (dm_y y).name = "<init>" → meth.name = "<init>") (hexc : (dm_hh y).isEmpty = true → ∀ z ∈ c.exceptionTable.toList, False) (hLL : L ≤ 3584) (hlaw : sv = false → y ≠ dm_law) : dq_okx sv L xs h x ∧ dq_Go p l e R s m args below meth c (dq_Q below G base h0 ad0 x args s) nL G base b u h0 ad0 pc Lc S h := by
  have hk := bn hk
  subst hk
  exact dx_laload C hdg he hs Hk
set_option maxHeartbeats 2000000 in
theorem dq_s_aaload {nx : List dm_E1} (hy : y ≤ dm_law) (hown : own = dm_on (dm_o y)) (hcc : cc = dm_b y) (hdg : decode cc pc = .ok (.aaload, n)) (hk : dq_ei y (dm_o y) (dm_P y).2.2.2 (dm_rt y) (decide ((dm_y y).name = "<init>")) (dm_hh y).isEmpty pc (.aaload) n d nx = true) (hnx : ∀ e ∈ nx, decode (dm_b y) e.1 = .ok (e.2.1, e.2.2.1)) (C : dq_C p l s m args meth c own cc nL G base b L u xs) (he : dm_exec sv (dm_P y).2.2.2 dm_sh call k T pc n (.aaload) d cs Lc S h = some x) (hs : dq_os sv L xs h0 h Lc S)
    (Hk : ∀ (pc' : Nat) (Lc' : dm_L) (S' : List dm_V) (h' : dm_H), k pc' Lc' S' h' = some x → dq_os sv L xs h0 h' Lc' S' → dq_okx sv L xs h' x ∧ dq_Go p l e R s m args below meth c (dq_Q below G base h0 ad0 x args s) nL G base b u h0 ad0 pc' Lc' S' h') (IH : dq_IH l G base b L u xs sv dep call) (hT : dq_Th s args c own cc T pc) (hR1 : R.cells = gc x.2 - gc h0) (hR2 : R.slots = gs x.2 - gs h0) (hR3 : dq_fr dep + 1 ≤ R.frames) (hR4 : 59 + dq_lo dep ≤ R.locals)
    (hret : meth.sig.returnType = dm_rt y) (hname : (dm_y y).name = "<init>" → meth.name = "<init>") (hexc : (dm_hh y).isEmpty = true → ∀ z ∈ c.exceptionTable.toList, False) (hLL : L ≤ 3584) (hlaw : sv = false → y ≠ dm_law) : dq_okx sv L xs h x ∧ dq_Go p l e R s m args below meth c (dq_Q below G base h0 ad0 x args s) nL G base b u h0 ad0 pc Lc S h := by
  have hk := bn hk
  subst hk
  exact dx_aaload C hdg he hs Hk
set_option maxHeartbeats 2000000 in
theorem dq_s_iastore {nx : List dm_E1} (hy : y ≤ dm_law) (hown : own = dm_on (dm_o y)) (hcc : cc = dm_b y) (hdg : decode cc pc = .ok (.iastore, n)) (hk : dq_ei y (dm_o y) (dm_P y).2.2.2 (dm_rt y) (decide ((dm_y y).name = "<init>")) (dm_hh y).isEmpty pc (.iastore) n d nx = true) (hnx : ∀ e ∈ nx, decode (dm_b y) e.1 = .ok (e.2.1, e.2.2.1)) (C : dq_C p l s m args meth c own cc nL G base b L u xs) (he : dm_exec sv (dm_P y).2.2.2 dm_sh call k T pc n (.iastore) d cs Lc S h = some x) (hs : dq_os sv L xs h0 h Lc S)
    (Hk : ∀ (pc' : Nat) (Lc' : dm_L) (S' : List dm_V) (h' : dm_H), k pc' Lc' S' h' = some x → dq_os sv L xs h0 h' Lc' S' → dq_okx sv L xs h' x ∧ dq_Go p l e R s m args below meth c (dq_Q below G base h0 ad0 x args s) nL G base b u h0 ad0 pc' Lc' S' h') (IH : dq_IH l G base b L u xs sv dep call) (hT : dq_Th s args c own cc T pc) (hR1 : R.cells = gc x.2 - gc h0) (hR2 : R.slots = gs x.2 - gs h0) (hR3 : dq_fr dep + 1 ≤ R.frames) (hR4 : 59 + dq_lo dep ≤ R.locals)
    (hret : meth.sig.returnType = dm_rt y) (hname : (dm_y y).name = "<init>" → meth.name = "<init>") (hexc : (dm_hh y).isEmpty = true → ∀ z ∈ c.exceptionTable.toList, False) (hLL : L ≤ 3584) (hlaw : sv = false → y ≠ dm_law) : dq_okx sv L xs h x ∧ dq_Go p l e R s m args below meth c (dq_Q below G base h0 ad0 x args s) nL G base b u h0 ad0 pc Lc S h := by
  have hk := bn hk
  subst hk
  exact dx_iastore C hdg he hs Hk
set_option maxHeartbeats 2000000 in
theorem dq_s_bastore {nx : List dm_E1} (hy : y ≤ dm_law) (hown : own = dm_on (dm_o y)) (hcc : cc = dm_b y) (hdg : decode cc pc = .ok (.bastore, n)) (hk : dq_ei y (dm_o y) (dm_P y).2.2.2 (dm_rt y) (decide ((dm_y y).name = "<init>")) (dm_hh y).isEmpty pc (.bastore) n d nx = true) (hnx : ∀ e ∈ nx, decode (dm_b y) e.1 = .ok (e.2.1, e.2.2.1)) (C : dq_C p l s m args meth c own cc nL G base b L u xs) (he : dm_exec sv (dm_P y).2.2.2 dm_sh call k T pc n (.bastore) d cs Lc S h = some x) (hs : dq_os sv L xs h0 h Lc S)
    (Hk : ∀ (pc' : Nat) (Lc' : dm_L) (S' : List dm_V) (h' : dm_H), k pc' Lc' S' h' = some x → dq_os sv L xs h0 h' Lc' S' → dq_okx sv L xs h' x ∧ dq_Go p l e R s m args below meth c (dq_Q below G base h0 ad0 x args s) nL G base b u h0 ad0 pc' Lc' S' h') (IH : dq_IH l G base b L u xs sv dep call) (hT : dq_Th s args c own cc T pc) (hR1 : R.cells = gc x.2 - gc h0) (hR2 : R.slots = gs x.2 - gs h0) (hR3 : dq_fr dep + 1 ≤ R.frames) (hR4 : 59 + dq_lo dep ≤ R.locals)
    (hret : meth.sig.returnType = dm_rt y) (hname : (dm_y y).name = "<init>" → meth.name = "<init>") (hexc : (dm_hh y).isEmpty = true → ∀ z ∈ c.exceptionTable.toList, False) (hLL : L ≤ 3584) (hlaw : sv = false → y ≠ dm_law) : dq_okx sv L xs h x ∧ dq_Go p l e R s m args below meth c (dq_Q below G base h0 ad0 x args s) nL G base b u h0 ad0 pc Lc S h := by
  have hk := bn hk
  subst hk
  exact dx_bastore C hdg he hs Hk
set_option maxHeartbeats 2000000 in
theorem dq_s_lastore {nx : List dm_E1} (hy : y ≤ dm_law) (hown : own = dm_on (dm_o y)) (hcc : cc = dm_b y) (hdg : decode cc pc = .ok (.lastore, n)) (hk : dq_ei y (dm_o y) (dm_P y).2.2.2 (dm_rt y) (decide ((dm_y y).name = "<init>")) (dm_hh y).isEmpty pc (.lastore) n d nx = true) (hnx : ∀ e ∈ nx, decode (dm_b y) e.1 = .ok (e.2.1, e.2.2.1)) (C : dq_C p l s m args meth c own cc nL G base b L u xs) (he : dm_exec sv (dm_P y).2.2.2 dm_sh call k T pc n (.lastore) d cs Lc S h = some x) (hs : dq_os sv L xs h0 h Lc S)
    (Hk : ∀ (pc' : Nat) (Lc' : dm_L) (S' : List dm_V) (h' : dm_H), k pc' Lc' S' h' = some x → dq_os sv L xs h0 h' Lc' S' → dq_okx sv L xs h' x ∧ dq_Go p l e R s m args below meth c (dq_Q below G base h0 ad0 x args s) nL G base b u h0 ad0 pc' Lc' S' h') (IH : dq_IH l G base b L u xs sv dep call) (hT : dq_Th s args c own cc T pc) (hR1 : R.cells = gc x.2 - gc h0) (hR2 : R.slots = gs x.2 - gs h0) (hR3 : dq_fr dep + 1 ≤ R.frames) (hR4 : 59 + dq_lo dep ≤ R.locals)
    (hret : meth.sig.returnType = dm_rt y) (hname : (dm_y y).name = "<init>" → meth.name = "<init>") (hexc : (dm_hh y).isEmpty = true → ∀ z ∈ c.exceptionTable.toList, False) (hLL : L ≤ 3584) (hlaw : sv = false → y ≠ dm_law) : dq_okx sv L xs h x ∧ dq_Go p l e R s m args below meth c (dq_Q below G base h0 ad0 x args s) nL G base b u h0 ad0 pc Lc S h := by
  have hk := bn hk
  subst hk
  exact dx_lastore C hdg he hs Hk
set_option maxHeartbeats 2000000 in
theorem dq_s_aastore {nx : List dm_E1} (hy : y ≤ dm_law) (hown : own = dm_on (dm_o y)) (hcc : cc = dm_b y) (hdg : decode cc pc = .ok (.aastore, n)) (hk : dq_ei y (dm_o y) (dm_P y).2.2.2 (dm_rt y) (decide ((dm_y y).name = "<init>")) (dm_hh y).isEmpty pc (.aastore) n d nx = true) (hnx : ∀ e ∈ nx, decode (dm_b y) e.1 = .ok (e.2.1, e.2.2.1)) (C : dq_C p l s m args meth c own cc nL G base b L u xs) (he : dm_exec sv (dm_P y).2.2.2 dm_sh call k T pc n (.aastore) d cs Lc S h = some x) (hs : dq_os sv L xs h0 h Lc S)
    (Hk : ∀ (pc' : Nat) (Lc' : dm_L) (S' : List dm_V) (h' : dm_H), k pc' Lc' S' h' = some x → dq_os sv L xs h0 h' Lc' S' → dq_okx sv L xs h' x ∧ dq_Go p l e R s m args below meth c (dq_Q below G base h0 ad0 x args s) nL G base b u h0 ad0 pc' Lc' S' h') (IH : dq_IH l G base b L u xs sv dep call) (hT : dq_Th s args c own cc T pc) (hR1 : R.cells = gc x.2 - gc h0) (hR2 : R.slots = gs x.2 - gs h0) (hR3 : dq_fr dep + 1 ≤ R.frames) (hR4 : 59 + dq_lo dep ≤ R.locals)
    (hret : meth.sig.returnType = dm_rt y) (hname : (dm_y y).name = "<init>" → meth.name = "<init>") (hexc : (dm_hh y).isEmpty = true → ∀ z ∈ c.exceptionTable.toList, False) (hLL : L ≤ 3584) (hlaw : sv = false → y ≠ dm_law) : dq_okx sv L xs h x ∧ dq_Go p l e R s m args below meth c (dq_Q below G base h0 ad0 x args s) nL G base b u h0 ad0 pc Lc S h := by
  have hk := bn hk
  subst hk
  exact dx_aastore C hdg he hs Hk
set_option maxHeartbeats 2000000 in
theorem dq_s_arraylength {nx : List dm_E1} (hy : y ≤ dm_law) (hown : own = dm_on (dm_o y)) (hcc : cc = dm_b y) (hdg : decode cc pc = .ok (.arraylength, n)) (hk : dq_ei y (dm_o y) (dm_P y).2.2.2 (dm_rt y) (decide ((dm_y y).name = "<init>")) (dm_hh y).isEmpty pc (.arraylength) n d nx = true) (hnx : ∀ e ∈ nx, decode (dm_b y) e.1 = .ok (e.2.1, e.2.2.1)) (C : dq_C p l s m args meth c own cc nL G base b L u xs) (he : dm_exec sv (dm_P y).2.2.2 dm_sh call k T pc n (.arraylength) d cs Lc S h = some x) (hs : dq_os sv L xs h0 h Lc S)
    (Hk : ∀ (pc' : Nat) (Lc' : dm_L) (S' : List dm_V) (h' : dm_H), k pc' Lc' S' h' = some x → dq_os sv L xs h0 h' Lc' S' → dq_okx sv L xs h' x ∧ dq_Go p l e R s m args below meth c (dq_Q below G base h0 ad0 x args s) nL G base b u h0 ad0 pc' Lc' S' h') (IH : dq_IH l G base b L u xs sv dep call) (hT : dq_Th s args c own cc T pc) (hR1 : R.cells = gc x.2 - gc h0) (hR2 : R.slots = gs x.2 - gs h0) (hR3 : dq_fr dep + 1 ≤ R.frames) (hR4 : 59 + dq_lo dep ≤ R.locals)
    (hret : meth.sig.returnType = dm_rt y) (hname : (dm_y y).name = "<init>" → meth.name = "<init>") (hexc : (dm_hh y).isEmpty = true → ∀ z ∈ c.exceptionTable.toList, False) (hLL : L ≤ 3584) (hlaw : sv = false → y ≠ dm_law) : dq_okx sv L xs h x ∧ dq_Go p l e R s m args below meth c (dq_Q below G base h0 ad0 x args s) nL G base b u h0 ad0 pc Lc S h := by
  have hk := bn hk
  subst hk
  exact dx_arraylength hLL C hdg he hs Hk
set_option maxHeartbeats 2000000 in
theorem dq_s_ifCond {cd : _} {off : _} {nx : List dm_E1} (hy : y ≤ dm_law) (hown : own = dm_on (dm_o y)) (hcc : cc = dm_b y) (hdg : decode cc pc = .ok (.ifCond cd off, n)) (hk : dq_ei y (dm_o y) (dm_P y).2.2.2 (dm_rt y) (decide ((dm_y y).name = "<init>")) (dm_hh y).isEmpty pc (.ifCond cd off) n d nx = true) (hnx : ∀ e ∈ nx, decode (dm_b y) e.1 = .ok (e.2.1, e.2.2.1)) (C : dq_C p l s m args meth c own cc nL G base b L u xs) (he : dm_exec sv (dm_P y).2.2.2 dm_sh call k T pc n (.ifCond cd off) d cs Lc S h = some x) (hs : dq_os sv L xs h0 h Lc S)
    (Hk : ∀ (pc' : Nat) (Lc' : dm_L) (S' : List dm_V) (h' : dm_H), k pc' Lc' S' h' = some x → dq_os sv L xs h0 h' Lc' S' → dq_okx sv L xs h' x ∧ dq_Go p l e R s m args below meth c (dq_Q below G base h0 ad0 x args s) nL G base b u h0 ad0 pc' Lc' S' h') (IH : dq_IH l G base b L u xs sv dep call) (hT : dq_Th s args c own cc T pc) (hR1 : R.cells = gc x.2 - gc h0) (hR2 : R.slots = gs x.2 - gs h0) (hR3 : dq_fr dep + 1 ≤ R.frames) (hR4 : 59 + dq_lo dep ≤ R.locals)
    (hret : meth.sig.returnType = dm_rt y) (hname : (dm_y y).name = "<init>" → meth.name = "<init>") (hexc : (dm_hh y).isEmpty = true → ∀ z ∈ c.exceptionTable.toList, False) (hLL : L ≤ 3584) (hlaw : sv = false → y ≠ dm_law) : dq_okx sv L xs h x ∧ dq_Go p l e R s m args below meth c (dq_Q below G base h0 ad0 x args s) nL G base b u h0 ad0 pc Lc S h := by
  have hn := (bdn hk).1
  replace hk := (bdn hk).2
  subst hn
  exact dx_ifCond (dq_offs hk) C hdg he hs Hk
set_option maxHeartbeats 2000000 in
theorem dq_s_if_icmp {cd : _} {off : _} {nx : List dm_E1} (hy : y ≤ dm_law) (hown : own = dm_on (dm_o y)) (hcc : cc = dm_b y) (hdg : decode cc pc = .ok (.if_icmp cd off, n)) (hk : dq_ei y (dm_o y) (dm_P y).2.2.2 (dm_rt y) (decide ((dm_y y).name = "<init>")) (dm_hh y).isEmpty pc (.if_icmp cd off) n d nx = true) (hnx : ∀ e ∈ nx, decode (dm_b y) e.1 = .ok (e.2.1, e.2.2.1)) (C : dq_C p l s m args meth c own cc nL G base b L u xs) (he : dm_exec sv (dm_P y).2.2.2 dm_sh call k T pc n (.if_icmp cd off) d cs Lc S h = some x) (hs : dq_os sv L xs h0 h Lc S)
    (Hk : ∀ (pc' : Nat) (Lc' : dm_L) (S' : List dm_V) (h' : dm_H), k pc' Lc' S' h' = some x → dq_os sv L xs h0 h' Lc' S' → dq_okx sv L xs h' x ∧ dq_Go p l e R s m args below meth c (dq_Q below G base h0 ad0 x args s) nL G base b u h0 ad0 pc' Lc' S' h') (IH : dq_IH l G base b L u xs sv dep call) (hT : dq_Th s args c own cc T pc) (hR1 : R.cells = gc x.2 - gc h0) (hR2 : R.slots = gs x.2 - gs h0) (hR3 : dq_fr dep + 1 ≤ R.frames) (hR4 : 59 + dq_lo dep ≤ R.locals)
    (hret : meth.sig.returnType = dm_rt y) (hname : (dm_y y).name = "<init>" → meth.name = "<init>") (hexc : (dm_hh y).isEmpty = true → ∀ z ∈ c.exceptionTable.toList, False) (hLL : L ≤ 3584) (hlaw : sv = false → y ≠ dm_law) : dq_okx sv L xs h x ∧ dq_Go p l e R s m args below meth c (dq_Q below G base h0 ad0 x args s) nL G base b u h0 ad0 pc Lc S h := by
  have hn := (bdn hk).1
  replace hk := (bdn hk).2
  subst hn
  exact dx_if_icmp (dq_offs hk) C hdg he hs Hk
set_option maxHeartbeats 2000000 in
theorem dq_s_ifnull {off : _} {nx : List dm_E1} (hy : y ≤ dm_law) (hown : own = dm_on (dm_o y)) (hcc : cc = dm_b y) (hdg : decode cc pc = .ok (.ifnull off, n)) (hk : dq_ei y (dm_o y) (dm_P y).2.2.2 (dm_rt y) (decide ((dm_y y).name = "<init>")) (dm_hh y).isEmpty pc (.ifnull off) n d nx = true) (hnx : ∀ e ∈ nx, decode (dm_b y) e.1 = .ok (e.2.1, e.2.2.1)) (C : dq_C p l s m args meth c own cc nL G base b L u xs) (he : dm_exec sv (dm_P y).2.2.2 dm_sh call k T pc n (.ifnull off) d cs Lc S h = some x) (hs : dq_os sv L xs h0 h Lc S)
    (Hk : ∀ (pc' : Nat) (Lc' : dm_L) (S' : List dm_V) (h' : dm_H), k pc' Lc' S' h' = some x → dq_os sv L xs h0 h' Lc' S' → dq_okx sv L xs h' x ∧ dq_Go p l e R s m args below meth c (dq_Q below G base h0 ad0 x args s) nL G base b u h0 ad0 pc' Lc' S' h') (IH : dq_IH l G base b L u xs sv dep call) (hT : dq_Th s args c own cc T pc) (hR1 : R.cells = gc x.2 - gc h0) (hR2 : R.slots = gs x.2 - gs h0) (hR3 : dq_fr dep + 1 ≤ R.frames) (hR4 : 59 + dq_lo dep ≤ R.locals)
    (hret : meth.sig.returnType = dm_rt y) (hname : (dm_y y).name = "<init>" → meth.name = "<init>") (hexc : (dm_hh y).isEmpty = true → ∀ z ∈ c.exceptionTable.toList, False) (hLL : L ≤ 3584) (hlaw : sv = false → y ≠ dm_law) : dq_okx sv L xs h x ∧ dq_Go p l e R s m args below meth c (dq_Q below G base h0 ad0 x args s) nL G base b u h0 ad0 pc Lc S h := by
  have hn := (bdn hk).1
  replace hk := (bdn hk).2
  subst hn
  exact dx_ifnull (dq_offs hk) C hdg he hs Hk
set_option maxHeartbeats 2000000 in
theorem dq_s_ifnonnull {off : _} {nx : List dm_E1} (hy : y ≤ dm_law) (hown : own = dm_on (dm_o y)) (hcc : cc = dm_b y) (hdg : decode cc pc = .ok (.ifnonnull off, n)) (hk : dq_ei y (dm_o y) (dm_P y).2.2.2 (dm_rt y) (decide ((dm_y y).name = "<init>")) (dm_hh y).isEmpty pc (.ifnonnull off) n d nx = true) (hnx : ∀ e ∈ nx, decode (dm_b y) e.1 = .ok (e.2.1, e.2.2.1)) (C : dq_C p l s m args meth c own cc nL G base b L u xs) (he : dm_exec sv (dm_P y).2.2.2 dm_sh call k T pc n (.ifnonnull off) d cs Lc S h = some x) (hs : dq_os sv L xs h0 h Lc S)
    (Hk : ∀ (pc' : Nat) (Lc' : dm_L) (S' : List dm_V) (h' : dm_H), k pc' Lc' S' h' = some x → dq_os sv L xs h0 h' Lc' S' → dq_okx sv L xs h' x ∧ dq_Go p l e R s m args below meth c (dq_Q below G base h0 ad0 x args s) nL G base b u h0 ad0 pc' Lc' S' h') (IH : dq_IH l G base b L u xs sv dep call) (hT : dq_Th s args c own cc T pc) (hR1 : R.cells = gc x.2 - gc h0) (hR2 : R.slots = gs x.2 - gs h0) (hR3 : dq_fr dep + 1 ≤ R.frames) (hR4 : 59 + dq_lo dep ≤ R.locals)
    (hret : meth.sig.returnType = dm_rt y) (hname : (dm_y y).name = "<init>" → meth.name = "<init>") (hexc : (dm_hh y).isEmpty = true → ∀ z ∈ c.exceptionTable.toList, False) (hLL : L ≤ 3584) (hlaw : sv = false → y ≠ dm_law) : dq_okx sv L xs h x ∧ dq_Go p l e R s m args below meth c (dq_Q below G base h0 ad0 x args s) nL G base b u h0 ad0 pc Lc S h := by
  have hn := (bdn hk).1
  replace hk := (bdn hk).2
  subst hn
  exact dx_ifnonnull (dq_offs hk) C hdg he hs Hk
set_option maxHeartbeats 2000000 in
theorem dq_s_goto {off : _} {nx : List dm_E1} (hy : y ≤ dm_law) (hown : own = dm_on (dm_o y)) (hcc : cc = dm_b y) (hdg : decode cc pc = .ok (.goto off, n)) (hk : dq_ei y (dm_o y) (dm_P y).2.2.2 (dm_rt y) (decide ((dm_y y).name = "<init>")) (dm_hh y).isEmpty pc (.goto off) n d nx = true) (hnx : ∀ e ∈ nx, decode (dm_b y) e.1 = .ok (e.2.1, e.2.2.1)) (C : dq_C p l s m args meth c own cc nL G base b L u xs) (he : dm_exec sv (dm_P y).2.2.2 dm_sh call k T pc n (.goto off) d cs Lc S h = some x) (hs : dq_os sv L xs h0 h Lc S)
    (Hk : ∀ (pc' : Nat) (Lc' : dm_L) (S' : List dm_V) (h' : dm_H), k pc' Lc' S' h' = some x → dq_os sv L xs h0 h' Lc' S' → dq_okx sv L xs h' x ∧ dq_Go p l e R s m args below meth c (dq_Q below G base h0 ad0 x args s) nL G base b u h0 ad0 pc' Lc' S' h') (IH : dq_IH l G base b L u xs sv dep call) (hT : dq_Th s args c own cc T pc) (hR1 : R.cells = gc x.2 - gc h0) (hR2 : R.slots = gs x.2 - gs h0) (hR3 : dq_fr dep + 1 ≤ R.frames) (hR4 : 59 + dq_lo dep ≤ R.locals)
    (hret : meth.sig.returnType = dm_rt y) (hname : (dm_y y).name = "<init>" → meth.name = "<init>") (hexc : (dm_hh y).isEmpty = true → ∀ z ∈ c.exceptionTable.toList, False) (hLL : L ≤ 3584) (hlaw : sv = false → y ≠ dm_law) : dq_okx sv L xs h x ∧ dq_Go p l e R s m args below meth c (dq_Q below G base h0 ad0 x args s) nL G base b u h0 ad0 pc Lc S h := by
  have hn := (bdn hk).1
  replace hk := (bdn hk).2
  subst hn
  exact dx_goto (dq_offs hk) C hdg he hs Hk
set_option maxHeartbeats 2000000 in
theorem dq_s_tableswitch {dft : _} {low : _} {high : _} {offs : _} {nx : List dm_E1} (hy : y ≤ dm_law) (hown : own = dm_on (dm_o y)) (hcc : cc = dm_b y) (hdg : decode cc pc = .ok (.tableswitch dft low high offs, n)) (hk : dq_ei y (dm_o y) (dm_P y).2.2.2 (dm_rt y) (decide ((dm_y y).name = "<init>")) (dm_hh y).isEmpty pc (.tableswitch dft low high offs) n d nx = true) (hnx : ∀ e ∈ nx, decode (dm_b y) e.1 = .ok (e.2.1, e.2.2.1)) (C : dq_C p l s m args meth c own cc nL G base b L u xs) (he : dm_exec sv (dm_P y).2.2.2 dm_sh call k T pc n (.tableswitch dft low high offs) d cs Lc S h = some x) (hs : dq_os sv L xs h0 h Lc S)
    (Hk : ∀ (pc' : Nat) (Lc' : dm_L) (S' : List dm_V) (h' : dm_H), k pc' Lc' S' h' = some x → dq_os sv L xs h0 h' Lc' S' → dq_okx sv L xs h' x ∧ dq_Go p l e R s m args below meth c (dq_Q below G base h0 ad0 x args s) nL G base b u h0 ad0 pc' Lc' S' h') (IH : dq_IH l G base b L u xs sv dep call) (hT : dq_Th s args c own cc T pc) (hR1 : R.cells = gc x.2 - gc h0) (hR2 : R.slots = gs x.2 - gs h0) (hR3 : dq_fr dep + 1 ≤ R.frames) (hR4 : 59 + dq_lo dep ≤ R.locals)
    (hret : meth.sig.returnType = dm_rt y) (hname : (dm_y y).name = "<init>" → meth.name = "<init>") (hexc : (dm_hh y).isEmpty = true → ∀ z ∈ c.exceptionTable.toList, False) (hLL : L ≤ 3584) (hlaw : sv = false → y ≠ dm_law) : dq_okx sv L xs h x ∧ dq_Go p l e R s m args below meth c (dq_Q below G base h0 ad0 x args s) nL G base b u h0 ad0 pc Lc S h := by
  obtain ⟨hk, h3⟩ := bd hk
  obtain ⟨h1, h2⟩ := bd hk
  exact dx_tableswitch (of_decide_eq_true h1) (fun o ho => dq_offs (List.all_eq_true.mp h2 o (Array.mem_toList_iff.mpr ho))) (dq_offs h3) C hdg he hs Hk
set_option maxHeartbeats 2000000 in
theorem dq_s_ireturn {nx : List dm_E1} (hy : y ≤ dm_law) (hown : own = dm_on (dm_o y)) (hcc : cc = dm_b y) (hdg : decode cc pc = .ok (.ireturn, n)) (hk : dq_ei y (dm_o y) (dm_P y).2.2.2 (dm_rt y) (decide ((dm_y y).name = "<init>")) (dm_hh y).isEmpty pc (.ireturn) n d nx = true) (hnx : ∀ e ∈ nx, decode (dm_b y) e.1 = .ok (e.2.1, e.2.2.1)) (C : dq_C p l s m args meth c own cc nL G base b L u xs) (he : dm_exec sv (dm_P y).2.2.2 dm_sh call k T pc n (.ireturn) d cs Lc S h = some x) (hs : dq_os sv L xs h0 h Lc S)
    (Hk : ∀ (pc' : Nat) (Lc' : dm_L) (S' : List dm_V) (h' : dm_H), k pc' Lc' S' h' = some x → dq_os sv L xs h0 h' Lc' S' → dq_okx sv L xs h' x ∧ dq_Go p l e R s m args below meth c (dq_Q below G base h0 ad0 x args s) nL G base b u h0 ad0 pc' Lc' S' h') (IH : dq_IH l G base b L u xs sv dep call) (hT : dq_Th s args c own cc T pc) (hR1 : R.cells = gc x.2 - gc h0) (hR2 : R.slots = gs x.2 - gs h0) (hR3 : dq_fr dep + 1 ≤ R.frames) (hR4 : 59 + dq_lo dep ≤ R.locals)
    (hret : meth.sig.returnType = dm_rt y) (hname : (dm_y y).name = "<init>" → meth.name = "<init>") (hexc : (dm_hh y).isEmpty = true → ∀ z ∈ c.exceptionTable.toList, False) (hLL : L ≤ 3584) (hlaw : sv = false → y ≠ dm_law) : dq_okx sv L xs h x ∧ dq_Go p l e R s m args below meth c (dq_Q below G base h0 ad0 x args s) nL G base b u h0 ad0 pc Lc S h := by
  have hn := (bdn hk).1
  replace hk := (bdn hk).2
  subst hn
  replace hk : (match (generalizing := false) dm_rt y with
    | some .int => !(Nat.beq (dm_P y).2.2.2 2)
    | some .boolean => Nat.beq (dm_P y).2.2.2 2
    | _ => false) = true := hk
  split at hk
  · rename_i hr
    exact dx_ireturn (hret.trans hr) (Or.inl ⟨rfl, fun q => by rw [q] at hk; cases hk⟩) C hdg he hs
  · rename_i hr
    exact dx_ireturn (hret.trans hr) (Or.inr ⟨rfl, bn hk⟩) C hdg he hs
  · cases hk
set_option maxHeartbeats 2000000 in
theorem dq_s_areturn {nx : List dm_E1} (hy : y ≤ dm_law) (hown : own = dm_on (dm_o y)) (hcc : cc = dm_b y) (hdg : decode cc pc = .ok (.areturn, n)) (hk : dq_ei y (dm_o y) (dm_P y).2.2.2 (dm_rt y) (decide ((dm_y y).name = "<init>")) (dm_hh y).isEmpty pc (.areturn) n d nx = true) (hnx : ∀ e ∈ nx, decode (dm_b y) e.1 = .ok (e.2.1, e.2.2.1)) (C : dq_C p l s m args meth c own cc nL G base b L u xs) (he : dm_exec sv (dm_P y).2.2.2 dm_sh call k T pc n (.areturn) d cs Lc S h = some x) (hs : dq_os sv L xs h0 h Lc S)
    (Hk : ∀ (pc' : Nat) (Lc' : dm_L) (S' : List dm_V) (h' : dm_H), k pc' Lc' S' h' = some x → dq_os sv L xs h0 h' Lc' S' → dq_okx sv L xs h' x ∧ dq_Go p l e R s m args below meth c (dq_Q below G base h0 ad0 x args s) nL G base b u h0 ad0 pc' Lc' S' h') (IH : dq_IH l G base b L u xs sv dep call) (hT : dq_Th s args c own cc T pc) (hR1 : R.cells = gc x.2 - gc h0) (hR2 : R.slots = gs x.2 - gs h0) (hR3 : dq_fr dep + 1 ≤ R.frames) (hR4 : 59 + dq_lo dep ≤ R.locals)
    (hret : meth.sig.returnType = dm_rt y) (hname : (dm_y y).name = "<init>" → meth.name = "<init>") (hexc : (dm_hh y).isEmpty = true → ∀ z ∈ c.exceptionTable.toList, False) (hLL : L ≤ 3584) (hlaw : sv = false → y ≠ dm_law) : dq_okx sv L xs h x ∧ dq_Go p l e R s m args below meth c (dq_Q below G base h0 ad0 x args s) nL G base b u h0 ad0 pc Lc S h := by
  have hn := (bdn hk).1
  replace hk := (bdn hk).2
  subst hn
  replace hk : (match (generalizing := false) dm_rt y with
    | some (.object _) => true
    | _ => false) = true := hk
  split at hk
  · rename_i rt hr
    exact dx_areturn (hret.trans hr) C hdg he hs
  · cases hk
set_option maxHeartbeats 2000000 in
theorem dq_s_return_ {nx : List dm_E1} (hy : y ≤ dm_law) (hown : own = dm_on (dm_o y)) (hcc : cc = dm_b y) (hdg : decode cc pc = .ok (.return_, n)) (hk : dq_ei y (dm_o y) (dm_P y).2.2.2 (dm_rt y) (decide ((dm_y y).name = "<init>")) (dm_hh y).isEmpty pc (.return_) n d nx = true) (hnx : ∀ e ∈ nx, decode (dm_b y) e.1 = .ok (e.2.1, e.2.2.1)) (C : dq_C p l s m args meth c own cc nL G base b L u xs) (he : dm_exec sv (dm_P y).2.2.2 dm_sh call k T pc n (.return_) d cs Lc S h = some x) (hs : dq_os sv L xs h0 h Lc S)
    (Hk : ∀ (pc' : Nat) (Lc' : dm_L) (S' : List dm_V) (h' : dm_H), k pc' Lc' S' h' = some x → dq_os sv L xs h0 h' Lc' S' → dq_okx sv L xs h' x ∧ dq_Go p l e R s m args below meth c (dq_Q below G base h0 ad0 x args s) nL G base b u h0 ad0 pc' Lc' S' h') (IH : dq_IH l G base b L u xs sv dep call) (hT : dq_Th s args c own cc T pc) (hR1 : R.cells = gc x.2 - gc h0) (hR2 : R.slots = gs x.2 - gs h0) (hR3 : dq_fr dep + 1 ≤ R.frames) (hR4 : 59 + dq_lo dep ≤ R.locals)
    (hret : meth.sig.returnType = dm_rt y) (hname : (dm_y y).name = "<init>" → meth.name = "<init>") (hexc : (dm_hh y).isEmpty = true → ∀ z ∈ c.exceptionTable.toList, False) (hLL : L ≤ 3584) (hlaw : sv = false → y ≠ dm_law) : dq_okx sv L xs h x ∧ dq_Go p l e R s m args below meth c (dq_Q below G base h0 ad0 x args s) nL G base b u h0 ad0 pc Lc S h := by
  have hn := (bdn hk).1
  replace hk := (bdn hk).2
  subst hn
  replace hk : (match (generalizing := false) dm_rt y with
    | none => true
    | _ => false) = true := hk
  split at hk
  · rename_i hr
    exact dx_return_ (hret.trans hr) C hdg he hs
  · cases hk
set_option maxHeartbeats 2000000 in
theorem dq_s_getstatic {idx : _} {nx : List dm_E1} (hy : y ≤ dm_law) (hown : own = dm_on (dm_o y)) (hcc : cc = dm_b y) (hdg : decode cc pc = .ok (.getstatic idx, n)) (hk : dq_ei y (dm_o y) (dm_P y).2.2.2 (dm_rt y) (decide ((dm_y y).name = "<init>")) (dm_hh y).isEmpty pc (.getstatic idx) n d nx = true) (hnx : ∀ e ∈ nx, decode (dm_b y) e.1 = .ok (e.2.1, e.2.2.1)) (C : dq_C p l s m args meth c own cc nL G base b L u xs) (he : dm_exec sv (dm_P y).2.2.2 dm_sh call k T pc n (.getstatic idx) d cs Lc S h = some x) (hs : dq_os sv L xs h0 h Lc S)
    (Hk : ∀ (pc' : Nat) (Lc' : dm_L) (S' : List dm_V) (h' : dm_H), k pc' Lc' S' h' = some x → dq_os sv L xs h0 h' Lc' S' → dq_okx sv L xs h' x ∧ dq_Go p l e R s m args below meth c (dq_Q below G base h0 ad0 x args s) nL G base b u h0 ad0 pc' Lc' S' h') (IH : dq_IH l G base b L u xs sv dep call) (hT : dq_Th s args c own cc T pc) (hR1 : R.cells = gc x.2 - gc h0) (hR2 : R.slots = gs x.2 - gs h0) (hR3 : dq_fr dep + 1 ≤ R.frames) (hR4 : 59 + dq_lo dep ≤ R.locals)
    (hret : meth.sig.returnType = dm_rt y) (hname : (dm_y y).name = "<init>" → meth.name = "<init>") (hexc : (dm_hh y).isEmpty = true → ∀ z ∈ c.exceptionTable.toList, False) (hLL : L ≤ 3584) (hlaw : sv = false → y ≠ dm_law) : dq_okx sv L xs h x ∧ dq_Go p l e R s m args below meth c (dq_Q below G base h0 ad0 x args s) nL G base b u h0 ad0 pc Lc S h := by
  have hn := (bdn hk).1
  replace hk := (bdn hk).2
  subst hn
  obtain ⟨q, hq, h4⟩ := dq_any1 hk
  obtain ⟨e1, e2⟩ := bd h4
  exact dx_getstatic ⟨q, hq, by rw [bn e1]; exact hown, (bn e2).symm⟩ C hdg he hs Hk
set_option maxHeartbeats 2000000 in
theorem dq_s_getfield {idx : _} {nx : List dm_E1} (hy : y ≤ dm_law) (hown : own = dm_on (dm_o y)) (hcc : cc = dm_b y) (hdg : decode cc pc = .ok (.getfield idx, n)) (hk : dq_ei y (dm_o y) (dm_P y).2.2.2 (dm_rt y) (decide ((dm_y y).name = "<init>")) (dm_hh y).isEmpty pc (.getfield idx) n d nx = true) (hnx : ∀ e ∈ nx, decode (dm_b y) e.1 = .ok (e.2.1, e.2.2.1)) (C : dq_C p l s m args meth c own cc nL G base b L u xs) (he : dm_exec sv (dm_P y).2.2.2 dm_sh call k T pc n (.getfield idx) d cs Lc S h = some x) (hs : dq_os sv L xs h0 h Lc S)
    (Hk : ∀ (pc' : Nat) (Lc' : dm_L) (S' : List dm_V) (h' : dm_H), k pc' Lc' S' h' = some x → dq_os sv L xs h0 h' Lc' S' → dq_okx sv L xs h' x ∧ dq_Go p l e R s m args below meth c (dq_Q below G base h0 ad0 x args s) nL G base b u h0 ad0 pc' Lc' S' h') (IH : dq_IH l G base b L u xs sv dep call) (hT : dq_Th s args c own cc T pc) (hR1 : R.cells = gc x.2 - gc h0) (hR2 : R.slots = gs x.2 - gs h0) (hR3 : dq_fr dep + 1 ≤ R.frames) (hR4 : 59 + dq_lo dep ≤ R.locals)
    (hret : meth.sig.returnType = dm_rt y) (hname : (dm_y y).name = "<init>" → meth.name = "<init>") (hexc : (dm_hh y).isEmpty = true → ∀ z ∈ c.exceptionTable.toList, False) (hLL : L ≤ 3584) (hlaw : sv = false → y ≠ dm_law) : dq_okx sv L xs h x ∧ dq_Go p l e R s m args below meth c (dq_Q below G base h0 ad0 x args s) nL G base b u h0 ad0 pc Lc S h := by
  have hn := (bdn hk).1
  replace hk := (bdn hk).2
  subst hn
  match d, hk, he with
  | [], hk, _ => exact nomatch (show false = true from hk)
  | [_], hk, _ => exact nomatch (show false = true from hk)
  | ci :: j :: d', hk, he =>
    obtain ⟨hk, h3⟩ := bd hk
    obtain ⟨h1, h2⟩ := bd hk
    have h1 : d' = dm_fd ci j := of_decide_eq_true h1
    subst h1
    exact dx_getfield rfl (bl h2) (dq_flk hown h3) C hdg he hs Hk
set_option maxHeartbeats 2000000 in
theorem dq_s_putfield {idx : _} {nx : List dm_E1} (hy : y ≤ dm_law) (hown : own = dm_on (dm_o y)) (hcc : cc = dm_b y) (hdg : decode cc pc = .ok (.putfield idx, n)) (hk : dq_ei y (dm_o y) (dm_P y).2.2.2 (dm_rt y) (decide ((dm_y y).name = "<init>")) (dm_hh y).isEmpty pc (.putfield idx) n d nx = true) (hnx : ∀ e ∈ nx, decode (dm_b y) e.1 = .ok (e.2.1, e.2.2.1)) (C : dq_C p l s m args meth c own cc nL G base b L u xs) (he : dm_exec sv (dm_P y).2.2.2 dm_sh call k T pc n (.putfield idx) d cs Lc S h = some x) (hs : dq_os sv L xs h0 h Lc S)
    (Hk : ∀ (pc' : Nat) (Lc' : dm_L) (S' : List dm_V) (h' : dm_H), k pc' Lc' S' h' = some x → dq_os sv L xs h0 h' Lc' S' → dq_okx sv L xs h' x ∧ dq_Go p l e R s m args below meth c (dq_Q below G base h0 ad0 x args s) nL G base b u h0 ad0 pc' Lc' S' h') (IH : dq_IH l G base b L u xs sv dep call) (hT : dq_Th s args c own cc T pc) (hR1 : R.cells = gc x.2 - gc h0) (hR2 : R.slots = gs x.2 - gs h0) (hR3 : dq_fr dep + 1 ≤ R.frames) (hR4 : 59 + dq_lo dep ≤ R.locals)
    (hret : meth.sig.returnType = dm_rt y) (hname : (dm_y y).name = "<init>" → meth.name = "<init>") (hexc : (dm_hh y).isEmpty = true → ∀ z ∈ c.exceptionTable.toList, False) (hLL : L ≤ 3584) (hlaw : sv = false → y ≠ dm_law) : dq_okx sv L xs h x ∧ dq_Go p l e R s m args below meth c (dq_Q below G base h0 ad0 x args s) nL G base b u h0 ad0 pc Lc S h := by
  have hn := (bdn hk).1
  replace hk := (bdn hk).2
  subst hn
  match d, hk, he with
  | [], hk, _ => exact nomatch (show false = true from hk)
  | [_], hk, _ => exact nomatch (show false = true from hk)
  | ci :: j :: d', hk, he =>
    obtain ⟨hk, h5⟩ := bd hk
    obtain ⟨hk, h4⟩ := bd hk
    obtain ⟨hk, h3⟩ := bd hk
    obtain ⟨h1, h2⟩ := bd hk
    have h1 : d' = dm_fd ci j := of_decide_eq_true h1
    subst h1
    have h3 := bl h3
    have key : (dm_ff ci j).2.2.2 = true → (dm_y y).name = "<init>" ∧ dq_col.getD ci 99 = dm_o y ∧ dq_fkna (dm_o y) idx ci j = false := by
      intro hf
      have h5 : (!(dm_ff ci j).2.2.2 || (decide ((dm_y y).name = "<init>") && Nat.beq (dq_col.getD ci 99) (dm_o y) && !(dq_fkna (dm_o y) idx ci j))) = true := h5
      rw [hf] at h5
      simp only [Bool.not_true, Bool.false_or, Bool.and_eq_true, decide_eq_true_eq, Bool.not_eq_true'] at h5
      exact ⟨h5.1.1, bn h5.1.2, h5.2⟩
    have ho : dm_o y < 15 := bl (List.all_eq_true.mp dq_o15 y (List.mem_range.mpr (Nat.lt_succ_of_le hy)))
    exact dx_putfield rfl (bl h2) (dq_flk hown h4) (fun _ hf => ⟨hname (key hf).1, by rw [dq_colw h3, (key hf).2.1, hown]⟩) (fun _ hf => dq_fkna_n hown ho (key hf).2.2) C hdg he hs Hk
set_option maxHeartbeats 2000000 in
theorem dq_s_new {idx : _} {nx : List dm_E1} (hy : y ≤ dm_law) (hown : own = dm_on (dm_o y)) (hcc : cc = dm_b y) (hdg : decode cc pc = .ok (.new idx, n)) (hk : dq_ei y (dm_o y) (dm_P y).2.2.2 (dm_rt y) (decide ((dm_y y).name = "<init>")) (dm_hh y).isEmpty pc (.new idx) n d nx = true) (hnx : ∀ e ∈ nx, decode (dm_b y) e.1 = .ok (e.2.1, e.2.2.1)) (C : dq_C p l s m args meth c own cc nL G base b L u xs) (he : dm_exec sv (dm_P y).2.2.2 dm_sh call k T pc n (.new idx) d cs Lc S h = some x) (hs : dq_os sv L xs h0 h Lc S)
    (Hk : ∀ (pc' : Nat) (Lc' : dm_L) (S' : List dm_V) (h' : dm_H), k pc' Lc' S' h' = some x → dq_os sv L xs h0 h' Lc' S' → dq_okx sv L xs h' x ∧ dq_Go p l e R s m args below meth c (dq_Q below G base h0 ad0 x args s) nL G base b u h0 ad0 pc' Lc' S' h') (IH : dq_IH l G base b L u xs sv dep call) (hT : dq_Th s args c own cc T pc) (hR1 : R.cells = gc x.2 - gc h0) (hR2 : R.slots = gs x.2 - gs h0) (hR3 : dq_fr dep + 1 ≤ R.frames) (hR4 : 59 + dq_lo dep ≤ R.locals)
    (hret : meth.sig.returnType = dm_rt y) (hname : (dm_y y).name = "<init>" → meth.name = "<init>") (hexc : (dm_hh y).isEmpty = true → ∀ z ∈ c.exceptionTable.toList, False) (hLL : L ≤ 3584) (hlaw : sv = false → y ≠ dm_law) : dq_okx sv L xs h x ∧ dq_Go p l e R s m args below meth c (dq_Q below G base h0 ad0 x args s) nL G base b u h0 ad0 pc Lc S h := by
  have hn := (bdn hk).1
  replace hk := (bdn hk).2
  subst hn
  match d, hk, he with
  | [1, E], hk, he =>
    obtain ⟨hk, h3⟩ := bd hk
    obtain ⟨h1, h2⟩ := bd hk
    obtain ⟨q, hq, h4⟩ := dq_any1 h3
    obtain ⟨h4, e4⟩ := bd h4
    obtain ⟨h4, e3⟩ := bd h4
    obtain ⟨e1, e2⟩ := bd h4
    refine dx_throw rfl (bl h2) (hexc h1) hR1 hR2 (dq_fr2 dep hR3) (dq_lo4 dep hR4) ⟨q, hq, by rw [bn e1]; exact hown, (bn e2).symm, bn e3, ?_⟩ C hdg he hs
    rw [hcc]
    exact dq_nxf e4 hnx
  | [0, ci, m9], hk, he =>
    obtain ⟨h1, h2⟩ := bdn hk
    obtain ⟨q, hq, h4⟩ := dq_any1 h2
    obtain ⟨h4, e3⟩ := bd h4
    obtain ⟨e1, e2⟩ := bd h4
    exact dx_new (by rw [h1]) ⟨q, hq, by rw [bn e1]; exact hown, (bn e2).symm, (bn e3).symm⟩ (Nat.le_of_eq hR1.symm) (Nat.le_of_eq hR2.symm) C hdg he hs Hk
  | [], hk, _ => exact nomatch (show false = true from hk)
  | [_], hk, _ => exact absurd hk (by split <;> simp_all)
  | [0, _], hk, _ => exact nomatch (show false = true from hk)
  | (_ + 2) :: _, hk, _ => exact nomatch (show false = true from hk)
  | 1 :: _ :: _ :: _, hk, _ => exact nomatch (show false = true from hk)
  | 0 :: _ :: _ :: _ :: _, hk, _ => exact nomatch (show false = true from hk)
set_option maxHeartbeats 2000000 in
theorem dq_s_newarray {t : _} {nx : List dm_E1} (hy : y ≤ dm_law) (hown : own = dm_on (dm_o y)) (hcc : cc = dm_b y) (hdg : decode cc pc = .ok (.newarray t, n)) (hk : dq_ei y (dm_o y) (dm_P y).2.2.2 (dm_rt y) (decide ((dm_y y).name = "<init>")) (dm_hh y).isEmpty pc (.newarray t) n d nx = true) (hnx : ∀ e ∈ nx, decode (dm_b y) e.1 = .ok (e.2.1, e.2.2.1)) (C : dq_C p l s m args meth c own cc nL G base b L u xs) (he : dm_exec sv (dm_P y).2.2.2 dm_sh call k T pc n (.newarray t) d cs Lc S h = some x) (hs : dq_os sv L xs h0 h Lc S)
    (Hk : ∀ (pc' : Nat) (Lc' : dm_L) (S' : List dm_V) (h' : dm_H), k pc' Lc' S' h' = some x → dq_os sv L xs h0 h' Lc' S' → dq_okx sv L xs h' x ∧ dq_Go p l e R s m args below meth c (dq_Q below G base h0 ad0 x args s) nL G base b u h0 ad0 pc' Lc' S' h') (IH : dq_IH l G base b L u xs sv dep call) (hT : dq_Th s args c own cc T pc) (hR1 : R.cells = gc x.2 - gc h0) (hR2 : R.slots = gs x.2 - gs h0) (hR3 : dq_fr dep + 1 ≤ R.frames) (hR4 : 59 + dq_lo dep ≤ R.locals)
    (hret : meth.sig.returnType = dm_rt y) (hname : (dm_y y).name = "<init>" → meth.name = "<init>") (hexc : (dm_hh y).isEmpty = true → ∀ z ∈ c.exceptionTable.toList, False) (hLL : L ≤ 3584) (hlaw : sv = false → y ≠ dm_law) : dq_okx sv L xs h x ∧ dq_Go p l e R s m args below meth c (dq_Q below G base h0 ad0 x args s) nL G base b u h0 ad0 pc Lc S h := by
  have hn := (bdn hk).1
  replace hk := (bdn hk).2
  subst hn
  replace hk : (match (generalizing := false) t, d with
    | .int, [2] => true
    | .boolean, [3] => true
    | .long, [4] => Nat.beq y dm_law
    | _, _ => false) = true := hk
  split at hk
  · exact dx_newarray2 rfl (Nat.le_of_eq hR1.symm) (Nat.le_of_eq hR2.symm) C hdg he hs Hk
  · exact dx_newarray3 rfl (Nat.le_of_eq hR1.symm) (Nat.le_of_eq hR2.symm) C hdg he hs Hk
  · cases sv with
    | false => exact absurd (bn hk) (hlaw rfl)
    | true =>
      obtain ⟨z9, S9, -, hf⟩ := di_1 he
      split at hf
      · exact nomatch (show none = some x from hf)
      · cases hf
  · cases hk
set_option maxHeartbeats 2000000 in
theorem dq_s_anewarray {idx : _} {nx : List dm_E1} (hy : y ≤ dm_law) (hown : own = dm_on (dm_o y)) (hcc : cc = dm_b y) (hdg : decode cc pc = .ok (.anewarray idx, n)) (hk : dq_ei y (dm_o y) (dm_P y).2.2.2 (dm_rt y) (decide ((dm_y y).name = "<init>")) (dm_hh y).isEmpty pc (.anewarray idx) n d nx = true) (hnx : ∀ e ∈ nx, decode (dm_b y) e.1 = .ok (e.2.1, e.2.2.1)) (C : dq_C p l s m args meth c own cc nL G base b L u xs) (he : dm_exec sv (dm_P y).2.2.2 dm_sh call k T pc n (.anewarray idx) d cs Lc S h = some x) (hs : dq_os sv L xs h0 h Lc S)
    (Hk : ∀ (pc' : Nat) (Lc' : dm_L) (S' : List dm_V) (h' : dm_H), k pc' Lc' S' h' = some x → dq_os sv L xs h0 h' Lc' S' → dq_okx sv L xs h' x ∧ dq_Go p l e R s m args below meth c (dq_Q below G base h0 ad0 x args s) nL G base b u h0 ad0 pc' Lc' S' h') (IH : dq_IH l G base b L u xs sv dep call) (hT : dq_Th s args c own cc T pc) (hR1 : R.cells = gc x.2 - gc h0) (hR2 : R.slots = gs x.2 - gs h0) (hR3 : dq_fr dep + 1 ≤ R.frames) (hR4 : 59 + dq_lo dep ≤ R.locals)
    (hret : meth.sig.returnType = dm_rt y) (hname : (dm_y y).name = "<init>" → meth.name = "<init>") (hexc : (dm_hh y).isEmpty = true → ∀ z ∈ c.exceptionTable.toList, False) (hLL : L ≤ 3584) (hlaw : sv = false → y ≠ dm_law) : dq_okx sv L xs h x ∧ dq_Go p l e R s m args below meth c (dq_Q below G base h0 ad0 x args s) nL G base b u h0 ad0 pc Lc S h := by
  obtain ⟨hk, h2⟩ := bd hk
  obtain ⟨hn, h1⟩ := bdn hk
  subst hn
  have h1 := bn h1
  have h2 := bn h2
  subst h2
  rw [h1] at hown
  exact dx_anewarray (by rw [hown]; exact dq_wRB) (Nat.le_of_eq hR1.symm) (Nat.le_of_eq hR2.symm) C hdg he hs Hk
set_option maxHeartbeats 2000000 in
theorem dq_s_multianewarray {idx : _} {dims : _} {nx : List dm_E1} (hy : y ≤ dm_law) (hown : own = dm_on (dm_o y)) (hcc : cc = dm_b y) (hdg : decode cc pc = .ok (.multianewarray idx dims, n)) (hk : dq_ei y (dm_o y) (dm_P y).2.2.2 (dm_rt y) (decide ((dm_y y).name = "<init>")) (dm_hh y).isEmpty pc (.multianewarray idx dims) n d nx = true) (hnx : ∀ e ∈ nx, decode (dm_b y) e.1 = .ok (e.2.1, e.2.2.1)) (C : dq_C p l s m args meth c own cc nL G base b L u xs) (he : dm_exec sv (dm_P y).2.2.2 dm_sh call k T pc n (.multianewarray idx dims) d cs Lc S h = some x) (hs : dq_os sv L xs h0 h Lc S)
    (Hk : ∀ (pc' : Nat) (Lc' : dm_L) (S' : List dm_V) (h' : dm_H), k pc' Lc' S' h' = some x → dq_os sv L xs h0 h' Lc' S' → dq_okx sv L xs h' x ∧ dq_Go p l e R s m args below meth c (dq_Q below G base h0 ad0 x args s) nL G base b u h0 ad0 pc' Lc' S' h') (IH : dq_IH l G base b L u xs sv dep call) (hT : dq_Th s args c own cc T pc) (hR1 : R.cells = gc x.2 - gc h0) (hR2 : R.slots = gs x.2 - gs h0) (hR3 : dq_fr dep + 1 ≤ R.frames) (hR4 : 59 + dq_lo dep ≤ R.locals)
    (hret : meth.sig.returnType = dm_rt y) (hname : (dm_y y).name = "<init>" → meth.name = "<init>") (hexc : (dm_hh y).isEmpty = true → ∀ z ∈ c.exceptionTable.toList, False) (hLL : L ≤ 3584) (hlaw : sv = false → y ≠ dm_law) : dq_okx sv L xs h x ∧ dq_Go p l e R s m args below meth c (dq_Q below G base h0 ad0 x args s) nL G base b u h0 ad0 pc Lc S h := by
  obtain ⟨hk, h2⟩ := bd hk
  obtain ⟨hn, h1⟩ := bdn hk
  subst hn
  have h1 := bn h1
  subst h1
  refine dx_multi ?_ (Nat.le_of_eq hR1.symm) (Nat.le_of_eq hR2.symm) C hdg he hs Hk
  rcases Bool.or_eq_true_iff.mp h2 with h2 | h2
  · obtain ⟨h2, h3⟩ := bd h2
    have H2 := bn h2
    have H3 := bn h3
    subst H3
    rw [hown, H2]
    exact dq_wRW
  · obtain ⟨h2, h3⟩ := bd h2
    have H2 := bn h2
    have H3 := bn h3
    subst H3
    rw [hown, H2]
    exact dq_wCO
set_option maxHeartbeats 2000000 in
theorem dq_s_invokestatic {idx : _} {nx : List dm_E1} (hy : y ≤ dm_law) (hown : own = dm_on (dm_o y)) (hcc : cc = dm_b y) (hdg : decode cc pc = .ok (.invokestatic idx, n)) (hk : dq_ei y (dm_o y) (dm_P y).2.2.2 (dm_rt y) (decide ((dm_y y).name = "<init>")) (dm_hh y).isEmpty pc (.invokestatic idx) n d nx = true) (hnx : ∀ e ∈ nx, decode (dm_b y) e.1 = .ok (e.2.1, e.2.2.1)) (C : dq_C p l s m args meth c own cc nL G base b L u xs) (he : dm_exec sv (dm_P y).2.2.2 dm_sh call k T pc n (.invokestatic idx) d cs Lc S h = some x) (hs : dq_os sv L xs h0 h Lc S)
    (Hk : ∀ (pc' : Nat) (Lc' : dm_L) (S' : List dm_V) (h' : dm_H), k pc' Lc' S' h' = some x → dq_os sv L xs h0 h' Lc' S' → dq_okx sv L xs h' x ∧ dq_Go p l e R s m args below meth c (dq_Q below G base h0 ad0 x args s) nL G base b u h0 ad0 pc' Lc' S' h') (IH : dq_IH l G base b L u xs sv dep call) (hT : dq_Th s args c own cc T pc) (hR1 : R.cells = gc x.2 - gc h0) (hR2 : R.slots = gs x.2 - gs h0) (hR3 : dq_fr dep + 1 ≤ R.frames) (hR4 : 59 + dq_lo dep ≤ R.locals)
    (hret : meth.sig.returnType = dm_rt y) (hname : (dm_y y).name = "<init>" → meth.name = "<init>") (hexc : (dm_hh y).isEmpty = true → ∀ z ∈ c.exceptionTable.toList, False) (hLL : L ≤ 3584) (hlaw : sv = false → y ≠ dm_law) : dq_okx sv L xs h x ∧ dq_Go p l e R s m args below meth c (dq_Q below G base h0 ad0 x args s) nL G base b u h0 ad0 pc Lc S h := by
  have hn := (bdn hk).1
  replace hk := (bdn hk).2
  subst hn
  split at hk
  · exact dx_c3 (call := call) (T := T) (cs := cs) (dq_mk3q hown hk) (Nat.le_of_eq hR1.symm) (Nat.le_of_eq hR2.symm) (by omega) (dq_lo4 dep hR4) C hdg he hs Hk
  · exact dx_c4 (call := call) (T := T) (cs := cs) (dq_mk3q hown hk) (Nat.le_of_eq hR1.symm) (Nat.le_of_eq hR2.symm) (by omega) (dq_lo4 dep hR4) C hdg he hs Hk
  · rename_i z9 m9
    obtain ⟨g1, g2, g3⟩ := dq_mkq hown hk
    exact dx_c0 C g1 g2 hdg g3 he hs Hk IH hT (fun _ => rfl) (Nat.le_of_eq hR1.symm) (Nat.le_of_eq hR2.symm) hR3 hR4
  · rename_i z9 m9
    obtain ⟨g1, g2, g3⟩ := dq_mkq hown hk
    exact dx_c1 C g1 g2 hdg g3 he hs Hk IH hT (fun _ => rfl) (Nat.le_of_eq hR1.symm) (Nat.le_of_eq hR2.symm) hR3 hR4
  · rename_i z9 m9
    obtain ⟨g1, g2, g3⟩ := dq_mkq hown hk
    exact dx_c2 C g1 g2 hdg g3 he hs Hk IH hT (fun _ => rfl) (Nat.le_of_eq hR1.symm) (Nat.le_of_eq hR2.symm) hR3 hR4
  · rename_i z9 m9
    obtain ⟨g1, g2, g3⟩ := dq_mkq hown hk
    exact dx_c11 C g1 g2 hdg g3 he hs Hk IH hT (fun _ => rfl) (Nat.le_of_eq hR1.symm) (Nat.le_of_eq hR2.symm) hR3 hR4
  · cases hk
set_option maxHeartbeats 2000000 in
theorem dq_s_invokespecial {idx : _} {nx : List dm_E1} (hy : y ≤ dm_law) (hown : own = dm_on (dm_o y)) (hcc : cc = dm_b y) (hdg : decode cc pc = .ok (.invokespecial idx, n)) (hk : dq_ei y (dm_o y) (dm_P y).2.2.2 (dm_rt y) (decide ((dm_y y).name = "<init>")) (dm_hh y).isEmpty pc (.invokespecial idx) n d nx = true) (hnx : ∀ e ∈ nx, decode (dm_b y) e.1 = .ok (e.2.1, e.2.2.1)) (C : dq_C p l s m args meth c own cc nL G base b L u xs) (he : dm_exec sv (dm_P y).2.2.2 dm_sh call k T pc n (.invokespecial idx) d cs Lc S h = some x) (hs : dq_os sv L xs h0 h Lc S)
    (Hk : ∀ (pc' : Nat) (Lc' : dm_L) (S' : List dm_V) (h' : dm_H), k pc' Lc' S' h' = some x → dq_os sv L xs h0 h' Lc' S' → dq_okx sv L xs h' x ∧ dq_Go p l e R s m args below meth c (dq_Q below G base h0 ad0 x args s) nL G base b u h0 ad0 pc' Lc' S' h') (IH : dq_IH l G base b L u xs sv dep call) (hT : dq_Th s args c own cc T pc) (hR1 : R.cells = gc x.2 - gc h0) (hR2 : R.slots = gs x.2 - gs h0) (hR3 : dq_fr dep + 1 ≤ R.frames) (hR4 : 59 + dq_lo dep ≤ R.locals)
    (hret : meth.sig.returnType = dm_rt y) (hname : (dm_y y).name = "<init>" → meth.name = "<init>") (hexc : (dm_hh y).isEmpty = true → ∀ z ∈ c.exceptionTable.toList, False) (hLL : L ≤ 3584) (hlaw : sv = false → y ≠ dm_law) : dq_okx sv L xs h x ∧ dq_Go p l e R s m args below meth c (dq_Q below G base h0 ad0 x args s) nL G base b u h0 ad0 pc Lc S h := by
  have hn := (bdn hk).1
  replace hk := (bdn hk).2
  subst hn
  split at hk
  · exact nomatch (show none = some x from he)
  · exact dx_c7 (call := call) (T := T) (cs := cs) (dq_mk3q hown hk) (by omega) (dq_lo4 dep hR4) C hdg he hs Hk
  · rename_i z9 m9
    obtain ⟨g1, g2, g3⟩ := dq_mkq hown hk
    exact dx_c5 C g1 g2 hdg g3 he hs Hk IH hT (fun _ => rfl) (Nat.le_of_eq hR1.symm) (Nat.le_of_eq hR2.symm) hR3 hR4
  · rename_i z9 m9
    obtain ⟨g1, g2, g3⟩ := dq_mkq hown hk
    exact dx_c6 C g1 g2 hdg g3 he hs Hk IH hT (fun _ => rfl) (Nat.le_of_eq hR1.symm) (Nat.le_of_eq hR2.symm) hR3 hR4
  · cases hk
set_option maxHeartbeats 2000000 in
theorem dq_s_invokevirtual {idx : _} {nx : List dm_E1} (hy : y ≤ dm_law) (hown : own = dm_on (dm_o y)) (hcc : cc = dm_b y) (hdg : decode cc pc = .ok (.invokevirtual idx, n)) (hk : dq_ei y (dm_o y) (dm_P y).2.2.2 (dm_rt y) (decide ((dm_y y).name = "<init>")) (dm_hh y).isEmpty pc (.invokevirtual idx) n d nx = true) (hnx : ∀ e ∈ nx, decode (dm_b y) e.1 = .ok (e.2.1, e.2.2.1)) (C : dq_C p l s m args meth c own cc nL G base b L u xs) (he : dm_exec sv (dm_P y).2.2.2 dm_sh call k T pc n (.invokevirtual idx) d cs Lc S h = some x) (hs : dq_os sv L xs h0 h Lc S)
    (Hk : ∀ (pc' : Nat) (Lc' : dm_L) (S' : List dm_V) (h' : dm_H), k pc' Lc' S' h' = some x → dq_os sv L xs h0 h' Lc' S' → dq_okx sv L xs h' x ∧ dq_Go p l e R s m args below meth c (dq_Q below G base h0 ad0 x args s) nL G base b u h0 ad0 pc' Lc' S' h') (IH : dq_IH l G base b L u xs sv dep call) (hT : dq_Th s args c own cc T pc) (hR1 : R.cells = gc x.2 - gc h0) (hR2 : R.slots = gs x.2 - gs h0) (hR3 : dq_fr dep + 1 ≤ R.frames) (hR4 : 59 + dq_lo dep ≤ R.locals)
    (hret : meth.sig.returnType = dm_rt y) (hname : (dm_y y).name = "<init>" → meth.name = "<init>") (hexc : (dm_hh y).isEmpty = true → ∀ z ∈ c.exceptionTable.toList, False) (hLL : L ≤ 3584) (hlaw : sv = false → y ≠ dm_law) : dq_okx sv L xs h x ∧ dq_Go p l e R s m args below meth c (dq_Q below G base h0 ad0 x args s) nL G base b u h0 ad0 pc Lc S h := by
  have hn := (bdn hk).1
  replace hk := (bdn hk).2
  subst hn
  split at hk
  · rename_i ds
    refine dx_c10 (cs := cs) C hdg (fun t ht => ?_) he hs Hk IH hT (fun _ => rfl) (Nat.le_of_eq hR1.symm) (Nat.le_of_eq hR2.symm) hR3 hR4
    have h1 := List.all_eq_true.mp hk t ht
    obtain ⟨h1, e6⟩ := bd h1
    obtain ⟨h1, e5⟩ := bd h1
    obtain ⟨h1, e4⟩ := bd h1
    obtain ⟨h1, e3⟩ := bd h1
    obtain ⟨e1, e2⟩ := bd h1
    have e1 := bl e1
    obtain ⟨q, hq, h4⟩ := dq_any1 e6
    obtain ⟨h4, f3⟩ := bd h4
    obtain ⟨f1, f2⟩ := bd h4
    exact ⟨⟨e1, Nat.le_of_ble_eq_true e2⟩, of_decide_eq_true e3, by rw [dq_colw (bl e4), bn e5, (dq_own (Nat.le_of_lt e1)).1], q, hq, by rw [bn f1]; exact hown, (bn f2).symm, (bn f3).symm⟩
  · rename_i z9 m9 ci
    obtain ⟨hk, h6⟩ := bd hk
    obtain ⟨hk, h5⟩ := bd hk
    obtain ⟨g1, g2, g3⟩ := dq_mkq hown hk
    have h5 := bl h5
    exact dx_c8 C g1 g2 hdg g3 (by rw [dq_colw h5, bn h6, (dq_own (Nat.le_of_lt g1)).1]) h5 he hs Hk IH hT (fun _ => rfl) (Nat.le_of_eq hR1.symm) (Nat.le_of_eq hR2.symm) hR3 hR4
  · rename_i z9 m9 ci
    obtain ⟨hk, h6⟩ := bd hk
    obtain ⟨hk, h5⟩ := bd hk
    obtain ⟨g1, g2, g3⟩ := dq_mkq hown hk
    have h5 := bl h5
    exact dx_c9 C g1 g2 hdg g3 (by rw [dq_colw h5, bn h6, (dq_own (Nat.le_of_lt g1)).1]) h5 he hs Hk IH hT (fun _ => rfl) (Nat.le_of_eq hR1.symm) (Nat.le_of_eq hR2.symm) hR3 hR4
  · cases hk
set_option maxHeartbeats 2000000 in
theorem dq_s_athrow {nx : List dm_E1} (hy : y ≤ dm_law) (hown : own = dm_on (dm_o y)) (hcc : cc = dm_b y) (hdg : decode cc pc = .ok (.athrow, n)) (hk : dq_ei y (dm_o y) (dm_P y).2.2.2 (dm_rt y) (decide ((dm_y y).name = "<init>")) (dm_hh y).isEmpty pc (.athrow) n d nx = true) (hnx : ∀ e ∈ nx, decode (dm_b y) e.1 = .ok (e.2.1, e.2.2.1)) (C : dq_C p l s m args meth c own cc nL G base b L u xs) (he : dm_exec sv (dm_P y).2.2.2 dm_sh call k T pc n (.athrow) d cs Lc S h = some x) (hs : dq_os sv L xs h0 h Lc S)
    (Hk : ∀ (pc' : Nat) (Lc' : dm_L) (S' : List dm_V) (h' : dm_H), k pc' Lc' S' h' = some x → dq_os sv L xs h0 h' Lc' S' → dq_okx sv L xs h' x ∧ dq_Go p l e R s m args below meth c (dq_Q below G base h0 ad0 x args s) nL G base b u h0 ad0 pc' Lc' S' h') (IH : dq_IH l G base b L u xs sv dep call) (hT : dq_Th s args c own cc T pc) (hR1 : R.cells = gc x.2 - gc h0) (hR2 : R.slots = gs x.2 - gs h0) (hR3 : dq_fr dep + 1 ≤ R.frames) (hR4 : 59 + dq_lo dep ≤ R.locals)
    (hret : meth.sig.returnType = dm_rt y) (hname : (dm_y y).name = "<init>" → meth.name = "<init>") (hexc : (dm_hh y).isEmpty = true → ∀ z ∈ c.exceptionTable.toList, False) (hLL : L ≤ 3584) (hlaw : sv = false → y ≠ dm_law) : dq_okx sv L xs h x ∧ dq_Go p l e R s m args below meth c (dq_Q below G base h0 ad0 x args s) nL G base b u h0 ad0 pc Lc S h := by
  exact nomatch (show none = some x from he)
set_option maxHeartbeats 4000000 in
theorem dq_step (hy : y ≤ dm_law) (hown : own = dm_on (dm_o y)) (hcc : cc = dm_b y) (hat : dm_at (dm_P y).1 pc = some (i, n, d, cs)) (C : dq_C p l s m args meth c own cc nL G base b L u xs) (he : dm_exec sv (dm_P y).2.2.2 dm_sh call k T pc n i d cs Lc S h = some x) (hs : dq_os sv L xs h0 h Lc S)
    (Hk : ∀ (pc' : Nat) (Lc' : dm_L) (S' : List dm_V) (h' : dm_H), k pc' Lc' S' h' = some x → dq_os sv L xs h0 h' Lc' S' → dq_okx sv L xs h' x ∧ dq_Go p l e R s m args below meth c (dq_Q below G base h0 ad0 x args s) nL G base b u h0 ad0 pc' Lc' S' h') (IH : dq_IH l G base b L u xs sv dep call) (hT : dq_Th s args c own cc T pc) (hR1 : R.cells = gc x.2 - gc h0) (hR2 : R.slots = gs x.2 - gs h0) (hR3 : dq_fr dep + 1 ≤ R.frames) (hR4 : 59 + dq_lo dep ≤ R.locals)
    (hret : meth.sig.returnType = dm_rt y) (hname : (dm_y y).name = "<init>" → meth.name = "<init>") (hexc : (dm_hh y).isEmpty = true → ∀ z ∈ c.exceptionTable.toList, False) (hLL : L ≤ 3584) (hlaw : sv = false → y ≠ dm_law) : dq_okx sv L xs h x ∧ dq_Go p l e R s m args below meth c (dq_Q below G base h0 ad0 x args s) nL G base b u h0 ad0 pc Lc S h := by
  obtain ⟨hdg, nx, hk, hnx⟩ := dq_ent hy hat
  rw [← hcc] at hdg
  clear hat
  cases i
  case iconst z => exact dq_s_iconst hy hown hcc hdg hk hnx C he hs Hk IH hT hR1 hR2 hR3 hR4 hret hname hexc hLL hlaw
  case bipush z => exact dq_s_bipush hy hown hcc hdg hk hnx C he hs Hk IH hT hR1 hR2 hR3 hR4 hret hname hexc hLL hlaw
  case sipush z => exact dq_s_sipush hy hown hcc hdg hk hnx C he hs Hk IH hT hR1 hR2 hR3 hR4 hret hname hexc hLL hlaw
  case ldc z => exact dq_s_ldc hy hown hcc hdg hk hnx C he hs Hk IH hT hR1 hR2 hR3 hR4 hret hname hexc hLL hlaw
  case ldc_w z => exact dq_s_ldc_w hy hown hcc hdg hk hnx C he hs Hk IH hT hR1 hR2 hR3 hR4 hret hname hexc hLL hlaw
  case aconst_null  => exact dq_s_aconst_null hy hown hcc hdg hk hnx C he hs Hk IH hT hR1 hR2 hR3 hR4 hret hname hexc hLL hlaw
  case lconst z => exact dq_s_lconst hy hown hcc hdg hk hnx C he hs Hk IH hT hR1 hR2 hR3 hR4 hret hname hexc hLL hlaw
  case iload j => exact dq_s_iload hy hown hcc hdg hk hnx C he hs Hk IH hT hR1 hR2 hR3 hR4 hret hname hexc hLL hlaw
  case aload j => exact dq_s_aload hy hown hcc hdg hk hnx C he hs Hk IH hT hR1 hR2 hR3 hR4 hret hname hexc hLL hlaw
  case iload_n j => exact dq_s_iload_n hy hown hcc hdg hk hnx C he hs Hk IH hT hR1 hR2 hR3 hR4 hret hname hexc hLL hlaw
  case aload_n j => exact dq_s_aload_n hy hown hcc hdg hk hnx C he hs Hk IH hT hR1 hR2 hR3 hR4 hret hname hexc hLL hlaw
  case istore j => exact dq_s_istore hy hown hcc hdg hk hnx C he hs Hk IH hT hR1 hR2 hR3 hR4 hret hname hexc hLL hlaw
  case istore_n j => exact dq_s_istore_n hy hown hcc hdg hk hnx C he hs Hk IH hT hR1 hR2 hR3 hR4 hret hname hexc hLL hlaw
  case astore j => exact dq_s_astore hy hown hcc hdg hk hnx C he hs Hk IH hT hR1 hR2 hR3 hR4 hret hname hexc hLL hlaw
  case astore_n j => exact dq_s_astore_n hy hown hcc hdg hk hnx C he hs Hk IH hT hR1 hR2 hR3 hR4 hret hname hexc hLL hlaw
  case iinc j z => exact dq_s_iinc hy hown hcc hdg hk hnx C he hs Hk IH hT hR1 hR2 hR3 hR4 hret hname hexc hLL hlaw
  case pop  => exact dq_s_pop hy hown hcc hdg hk hnx C he hs Hk IH hT hR1 hR2 hR3 hR4 hret hname hexc hLL hlaw
  case dup  => exact dq_s_dup hy hown hcc hdg hk hnx C he hs Hk IH hT hR1 hR2 hR3 hR4 hret hname hexc hLL hlaw
  case dup2  => exact dq_s_dup2 hy hown hcc hdg hk hnx C he hs Hk IH hT hR1 hR2 hR3 hR4 hret hname hexc hLL hlaw
  case iadd  => exact dq_s_iadd hy hown hcc hdg hk hnx C he hs Hk IH hT hR1 hR2 hR3 hR4 hret hname hexc hLL hlaw
  case isub  => exact dq_s_isub hy hown hcc hdg hk hnx C he hs Hk IH hT hR1 hR2 hR3 hR4 hret hname hexc hLL hlaw
  case imul  => exact dq_s_imul hy hown hcc hdg hk hnx C he hs Hk IH hT hR1 hR2 hR3 hR4 hret hname hexc hLL hlaw
  case idiv  => exact dq_s_idiv hy hown hcc hdg hk hnx C he hs Hk IH hT hR1 hR2 hR3 hR4 hret hname hexc hLL hlaw
  case irem  => exact dq_s_irem hy hown hcc hdg hk hnx C he hs Hk IH hT hR1 hR2 hR3 hR4 hret hname hexc hLL hlaw
  case iand  => exact dq_s_iand hy hown hcc hdg hk hnx C he hs Hk IH hT hR1 hR2 hR3 hR4 hret hname hexc hLL hlaw
  case ior  => exact dq_s_ior hy hown hcc hdg hk hnx C he hs Hk IH hT hR1 hR2 hR3 hR4 hret hname hexc hLL hlaw
  case ixor  => exact dq_s_ixor hy hown hcc hdg hk hnx C he hs Hk IH hT hR1 hR2 hR3 hR4 hret hname hexc hLL hlaw
  case ishl  => exact dq_s_ishl hy hown hcc hdg hk hnx C he hs Hk IH hT hR1 hR2 hR3 hR4 hret hname hexc hLL hlaw
  case ishr  => exact dq_s_ishr hy hown hcc hdg hk hnx C he hs Hk IH hT hR1 hR2 hR3 hR4 hret hname hexc hLL hlaw
  case i2l  => exact dq_s_i2l hy hown hcc hdg hk hnx C he hs Hk IH hT hR1 hR2 hR3 hR4 hret hname hexc hLL hlaw
  case lcmp  => exact dq_s_lcmp hy hown hcc hdg hk hnx C he hs Hk IH hT hR1 hR2 hR3 hR4 hret hname hexc hLL hlaw
  case iaload  => exact dq_s_iaload hy hown hcc hdg hk hnx C he hs Hk IH hT hR1 hR2 hR3 hR4 hret hname hexc hLL hlaw
  case baload  => exact dq_s_baload hy hown hcc hdg hk hnx C he hs Hk IH hT hR1 hR2 hR3 hR4 hret hname hexc hLL hlaw
  case laload  => exact dq_s_laload hy hown hcc hdg hk hnx C he hs Hk IH hT hR1 hR2 hR3 hR4 hret hname hexc hLL hlaw
  case aaload  => exact dq_s_aaload hy hown hcc hdg hk hnx C he hs Hk IH hT hR1 hR2 hR3 hR4 hret hname hexc hLL hlaw
  case iastore  => exact dq_s_iastore hy hown hcc hdg hk hnx C he hs Hk IH hT hR1 hR2 hR3 hR4 hret hname hexc hLL hlaw
  case bastore  => exact dq_s_bastore hy hown hcc hdg hk hnx C he hs Hk IH hT hR1 hR2 hR3 hR4 hret hname hexc hLL hlaw
  case lastore  => exact dq_s_lastore hy hown hcc hdg hk hnx C he hs Hk IH hT hR1 hR2 hR3 hR4 hret hname hexc hLL hlaw
  case aastore  => exact dq_s_aastore hy hown hcc hdg hk hnx C he hs Hk IH hT hR1 hR2 hR3 hR4 hret hname hexc hLL hlaw
  case arraylength  => exact dq_s_arraylength hy hown hcc hdg hk hnx C he hs Hk IH hT hR1 hR2 hR3 hR4 hret hname hexc hLL hlaw
  case ifCond cd off => exact dq_s_ifCond hy hown hcc hdg hk hnx C he hs Hk IH hT hR1 hR2 hR3 hR4 hret hname hexc hLL hlaw
  case if_icmp cd off => exact dq_s_if_icmp hy hown hcc hdg hk hnx C he hs Hk IH hT hR1 hR2 hR3 hR4 hret hname hexc hLL hlaw
  case ifnull off => exact dq_s_ifnull hy hown hcc hdg hk hnx C he hs Hk IH hT hR1 hR2 hR3 hR4 hret hname hexc hLL hlaw
  case ifnonnull off => exact dq_s_ifnonnull hy hown hcc hdg hk hnx C he hs Hk IH hT hR1 hR2 hR3 hR4 hret hname hexc hLL hlaw
  case goto off => exact dq_s_goto hy hown hcc hdg hk hnx C he hs Hk IH hT hR1 hR2 hR3 hR4 hret hname hexc hLL hlaw
  case tableswitch dft low high offs => exact dq_s_tableswitch hy hown hcc hdg hk hnx C he hs Hk IH hT hR1 hR2 hR3 hR4 hret hname hexc hLL hlaw
  case ireturn  => exact dq_s_ireturn hy hown hcc hdg hk hnx C he hs Hk IH hT hR1 hR2 hR3 hR4 hret hname hexc hLL hlaw
  case areturn  => exact dq_s_areturn hy hown hcc hdg hk hnx C he hs Hk IH hT hR1 hR2 hR3 hR4 hret hname hexc hLL hlaw
  case return_  => exact dq_s_return_ hy hown hcc hdg hk hnx C he hs Hk IH hT hR1 hR2 hR3 hR4 hret hname hexc hLL hlaw
  case getstatic idx => exact dq_s_getstatic hy hown hcc hdg hk hnx C he hs Hk IH hT hR1 hR2 hR3 hR4 hret hname hexc hLL hlaw
  case getfield idx => exact dq_s_getfield hy hown hcc hdg hk hnx C he hs Hk IH hT hR1 hR2 hR3 hR4 hret hname hexc hLL hlaw
  case putfield idx => exact dq_s_putfield hy hown hcc hdg hk hnx C he hs Hk IH hT hR1 hR2 hR3 hR4 hret hname hexc hLL hlaw
  case new idx => exact dq_s_new hy hown hcc hdg hk hnx C he hs Hk IH hT hR1 hR2 hR3 hR4 hret hname hexc hLL hlaw
  case newarray t => exact dq_s_newarray hy hown hcc hdg hk hnx C he hs Hk IH hT hR1 hR2 hR3 hR4 hret hname hexc hLL hlaw
  case anewarray idx => exact dq_s_anewarray hy hown hcc hdg hk hnx C he hs Hk IH hT hR1 hR2 hR3 hR4 hret hname hexc hLL hlaw
  case multianewarray idx dims => exact dq_s_multianewarray hy hown hcc hdg hk hnx C he hs Hk IH hT hR1 hR2 hR3 hR4 hret hname hexc hLL hlaw
  case invokestatic idx => exact dq_s_invokestatic hy hown hcc hdg hk hnx C he hs Hk IH hT hR1 hR2 hR3 hR4 hret hname hexc hLL hlaw
  case invokespecial idx => exact dq_s_invokespecial hy hown hcc hdg hk hnx C he hs Hk IH hT hR1 hR2 hR3 hR4 hret hname hexc hLL hlaw
  case invokevirtual idx => exact dq_s_invokevirtual hy hown hcc hdg hk hnx C he hs Hk IH hT hR1 hR2 hR3 hR4 hret hname hexc hLL hlaw
  case athrow  => exact dq_s_athrow hy hown hcc hdg hk hnx C he hs Hk IH hT hR1 hR2 hR3 hR4 hret hname hexc hLL hlaw
  all_goals exact nomatch (show false = true from hk)
theorem dq_loop (hy : y ≤ dm_law) (hown : own = dm_on (dm_o y)) (hcc : cc = dm_b y) (C : dq_C p l s m args meth c own cc nL G base b L u xs) (IH : dq_IH l G base b L u xs sv dep call) (hT : ∀ pc, dq_Th s args c own cc T pc) (hR1 : R.cells = gc x.2 - gc h0) (hR2 : R.slots = gs x.2 - gs h0) (hR3 : dq_fr dep + 1 ≤ R.frames) (hR4 : 59 + dq_lo dep ≤ R.locals)
    (hret : meth.sig.returnType = dm_rt y) (hname : (dm_y y).name = "<init>" → meth.name = "<init>") (hexc : (dm_hh y).isEmpty = true → ∀ z ∈ c.exceptionTable.toList, False) (hLL : L ≤ 3584) (hlaw : sv = false → y ≠ dm_law) : ∀ (n pc : Nat) (Lc : dm_L) (S : List dm_V) (h : dm_H), dm_loop (dm_P y).1 T (dm_P y).2.2.2 sv dm_sh call n pc Lc S h = some x → dq_os sv L xs h0 h Lc S →
    dq_okx sv L xs h x ∧ dq_Go p l e R s m args below meth c (dq_Q below G base h0 ad0 x args s) nL G base b u h0 ad0 pc Lc S h := by
  intro n
  induction n with
  | zero => intro pc Lc S h he; exact nomatch (show none = some x from he)
  | succ n ih =>
    intro pc Lc S h he hs
    have he : (match dm_at (dm_P y).1 pc with
      | some (i, len, d, cs) => dm_exec sv (dm_P y).2.2.2 dm_sh call (dm_loop (dm_P y).1 T (dm_P y).2.2.2 sv dm_sh call n) T pc len i d cs Lc S h
      | none => none) = some x := he
    cases hat : dm_at (dm_P y).1 pc with
    | none => rw [hat] at he; cases he
    | some w =>
      obtain ⟨i, len, d, cs⟩ := w
      rw [hat] at he
      exact dq_step hy hown hcc hat C he hs ih IH (hT pc) hR1 hR2 hR3 hR4 hret hname hexc hLL hlaw
end DQM
