/-! contracts of methods -/
noncomputable def dm_nl (y : Nat) : Nat := (dm_P y).2.2.1
noncomputable def dq_code (y : Nat) : Cond := match dm_hh y with
  | [] => .code (dm_y y) (dm_b y) (dm_nl y) (dm_rt y)
  | z :: hh => .codeWith (dm_y y) (dm_b y) (dm_nl y) (dm_rt y) (z :: hh)
noncomputable def dq_wsy (y : Nat) : List Cond := dq_code y :: dm_ws
/-- a method's world at its start -/
def dq_B (G : dm_G) (base b L u : Nat) (xs : Nat → Int) (ad : Nat → Nat) (h : dm_H) : State → Prop := fun U => base ≤ U.heap.size ∧ dm_Ev G U ∧ dm_St base b L u xs U U.heap ∧ dm_Wd G base ad h U.heap
noncomputable def dq_Met (l : Launch) (G : dm_G) (base b L u : Nat) (xs : Nat → Int) (dep y : Nat) (as : List dm_V) (h : dm_H) (x : dm_X) : Prop := ∀ ad : Nat → Nat, ad 1000 = b → ad 1001 = u →
  vx_Met l (dm_y y) (dq_wsy y) { frames := dq_fr dep, cells := gc x.2 - gc h, slots := gs x.2 - gs h, locals := dq_lo dep } (va_Pc (as.map (dm_tv ad)) (dq_B G base b L u xs ad h)) (dq_Qc G base h ad x) (dq_XC G base h ad x) (gc x.2 - gc h) (gs x.2 - gs h) (dm_A base)
theorem dq_blind {G : dm_G} {base b L u : Nat} {xs : Nat → Int} {ad : Nat → Nat} {h : dm_H} {av : List Value} : FrameBlind (va_Pc av (dq_B G base b L u xs ad h)) := by
  rintro a U g mk ⟨h1, h2, h3, h4, h5⟩
  exact ⟨h1, h2, dm_Ev.same (u := U) (U := U.calling g mk a) rfl h3, dm_St.moved (s := U) (U := U.calling g mk a) (Vm.Alike.refl U.vm) h4, h5⟩
theorem dq_here {s : State} {H : Heap} {locs : List Loc} {G : dm_G} {base b L u : Nat} {xs : Nat → Int} {ad : Nat → Nat} {h : dm_H} (hEv : dm_Ev G s) (hSt : dm_St base b L u xs s s.heap) (hbs : base ≤ s.heap.size) (hW : dm_Wd G base ad h H) (hS : va_S (dm_A base) s.heap H locs) : ∀ U : State, U.heap = H → s.WarmedH U.vm → dq_B G base b L u xs ad h U := by
  intro U hU hWm
  refine ⟨by rw [hU]; exact Nat.le_trans hbs hS.1, dm_Ev.warm hWm hEv, ?_, by rw [hU]; exact hW⟩
  rw [hU]
  exact dm_St.moved hWm.alike (hSt.kept hbs hS.2.1)
/-- the same words, told by what they are made of -/
def dq_weq (a b : Cond) : Bool := match a, b with
  | .methodLink c i y, .methodLink c' i' y' => decide (i = i') && decide (c = c') && decide (y = y')
  | .static y, .static y' => decide (y = y')
  | .instanceMethod y, .instanceMethod y' => decide (y = y')
  | .initialized c, .initialized c' => decide (c = c')
  | .selects c x y, .selects c' x' y' => decide (c = c') && decide (x = x') && decide (y = y')
  | .sameMethod c d n t, .sameMethod c' d' n' t' => decide (c = c') && decide (d = d') && decide (n = n') && decide (t = t')
  | .classLink c i d, .classLink c' i' d' => decide (i = i') && decide (c = c') && decide (d = d')
  | .instantiable c n, .instantiable c' n' => decide (n = n') && decide (c = c')
  | .constant c i v, .constant c' i' v' => decide (i = i') && decide (c = c') && decide (v = v')
  | _, _ => false
theorem dq_weq_eq {a b : Cond} (h : dq_weq a b = true) : a = b := by
  unfold dq_weq at h
  split at h <;> simp_all
/-- words, by their places in the tables -/
noncomputable def dq_chk (ws : List Cond) (is : List Nat) : Bool := Nat.beq ws.length is.length && (ws.zip is).all (fun p => match lw_tbl[p.2]? with
  | some w => dq_weq w p.1 && goodWord p.1
  | none => false)
theorem dq_chk_in {ws : List Cond} {is : List Nat} (h : dq_chk ws is = true) : ∀ w ∈ ws, w ∈ dm_ws := by
  intro w hw
  unfold dq_chk at h
  simp only [Bool.and_eq_true] at h
  obtain ⟨i, hi, he⟩ := List.getElem_of_mem hw
  have hi2 : i < is.length := by rw [← Nat.eq_of_beq_eq_true h.1]; exact hi
  have hz : (w, is[i]) ∈ ws.zip is := by
    refine List.mem_iff_getElem.mpr ⟨i, by simp; omega, ?_⟩
    rw [List.getElem_zip, he]
  have h1 := List.all_eq_true.mp h.2 _ hz
  split at h1
  · rename_i w' hw'
    simp only [Bool.and_eq_true] at h1
    have := dq_weq_eq h1.1
    subst this
    exact List.mem_filter.mpr ⟨List.mem_of_getElem? hw', h1.2⟩
  · cases h1
/-- every method's code is a word of the tables -/
noncomputable def dq_cok (y : Nat) : Bool := match lw_tbl[dm_ci y]?, dm_hh y with
  | some (.code n b m t), [] => decide (n = dm_y y) && Nat.beq m (dm_nl y) && decide (t = dm_rt y)
  | some (.codeWith n b m t hh), z :: hh' => decide (n = dm_y y) && Nat.beq m (dm_nl y) && decide (t = dm_rt y) && decide (hh = z :: hh')
  | _, _ => false
theorem dq_coks : (List.range dm_law).all dq_cok = true := by decide +kernel
theorem dq_codeIn {y : Nat} (hy : y < dm_law) : dq_code y ∈ dm_ws := by
  have h := List.all_eq_true.mp dq_coks y (List.mem_range.mpr hy)
  unfold dq_cok at h
  have hb : dm_b y = match lw_tbl[dm_ci y]? with
    | some (.code _ b _ _) => b
    | some (.codeWith _ b _ _ _) => b
    | _ => ⟨#[]⟩ := by
    unfold dm_b
    rw [if_neg (Nat.ne_of_lt hy)]
    rfl
  unfold dq_code
  split at h
  · rename_i n b m t h1 h2
    simp only [Bool.and_eq_true, decide_eq_true_eq] at h
    obtain ⟨⟨e1, e2⟩, e3⟩ := h
    rw [h1] at hb
    rw [h2, hb, ← e1, ← Nat.eq_of_beq_eq_true e2, ← e3]
    exact List.mem_filter.mpr ⟨List.mem_of_getElem? h1, rfl⟩
  · rename_i n b m t hh z hh' h1 h2
    simp only [Bool.and_eq_true, decide_eq_true_eq] at h
    obtain ⟨⟨⟨e1, e2⟩, e3⟩, e4⟩ := h
    rw [h1] at hb
    subst e4
    rw [h2, hb, ← e1, ← Nat.eq_of_beq_eq_true e2, ← e3]
    exact List.mem_filter.mpr ⟨List.mem_of_getElem? h1, rfl⟩
  · cases h
noncomputable def dq_yok (y n : Nat) : Bool := decide ((dm_y y).cls ≠ "java/lang/invoke/MethodHandle") && decide ((dm_y y).cls ≠ "java/lang/invoke/VarHandle") && decide ((parseMethodDescriptor (dm_y y).desc).map (fun d => d.parameters.length) = some n) && decide (dm_nl y ≤ 40)
theorem dq_yok_spec {y n : Nat} (h : dq_yok y n = true) : (dm_y y).cls ≠ "java/lang/invoke/MethodHandle" ∧ (dm_y y).cls ≠ "java/lang/invoke/VarHandle" ∧ (parseMethodDescriptor (dm_y y).desc).map (fun d => d.parameters.length) = some n ∧ dm_nl y ≤ 40 := by
  unfold dq_yok at h
  simp only [Bool.and_eq_true, decide_eq_true_eq] at h
  exact ⟨h.1.1.1, h.1.1.2, h.1.2, h.2⟩
theorem dq_len {y n : Nat} (h : (parseMethodDescriptor (dm_y y).desc).map (fun d => d.parameters.length) = some n) : ∀ sig, parseMethodDescriptor (dm_y y).desc = some sig → n = sig.parameters.length := by
  intro sig hs
  rw [hs] at h
  exact (Option.some.inj h).symm
theorem dq_good {s : State} {args : Array Value} (hts : ∀ w ∈ dm_ws, w.before args s = true) {y : Nat} (hc : dq_code y ∈ dm_ws) : ∀ w ∈ dq_wsy y, ∀ (a' : Array Value) (U : State), s.WarmedH U.vm → w.before a' U = true := by
  intro w hw a' U hW
  have hm : w ∈ dm_ws := by
    rcases List.mem_cons.mp hw with rfl | hw
    · exact hc
    · exact hw
  exact word_at hW (good_of_word (List.mem_filter.mp hm).2) (hts w hm)
abbrev dq_q : Type := Nat × Nat × Nat × Nat × List Nat
noncomputable def dq_k0 (q : dq_q) : Bool := dq_chk [.methodLink (dm_on q.1) q.2.1 (dm_y q.2.2.1), .static (dm_y q.2.2.1), .initialized (dm_y q.2.2.1).cls] q.2.2.2.2 && dq_yok q.2.2.1 q.2.2.2.1 && (dm_hh q.2.2.1).isEmpty
noncomputable def dq_k2 (q : dq_q) : Bool := dq_chk [.static (dm_y q.2.2.1), .initialized (dm_y q.2.2.1).cls] q.2.2.2.2 && dq_yok q.2.2.1 q.2.2.2.1 && (dm_hh q.2.2.1).isEmpty
noncomputable def dq_k5 (q : dq_q) : Bool := dq_chk [.methodLink (dm_on q.1) q.2.1 (dm_y q.2.2.1), .instanceMethod (dm_y q.2.2.1), .initialized (dm_y q.2.2.1).cls] q.2.2.2.2 && dq_yok q.2.2.1 (q.2.2.2.1 - 1) && (dm_hh q.2.2.1).isEmpty && decide (1 ≤ q.2.2.2.1) && decide ((dm_y q.2.2.1).name = "<init>") && decide (dm_rt q.2.2.1 = none)
noncomputable def dq_k6 (q : dq_q) : Bool := dq_chk [.instanceMethod (dm_y q.2.2.1), .initialized (dm_y q.2.2.1).cls] q.2.2.2.2 && dq_yok q.2.2.1 (q.2.2.2.1 - 1) && (dm_hh q.2.2.1).isEmpty && decide (1 ≤ q.2.2.2.1) && decide ((dm_y q.2.2.1).name = "<init>") && decide (dm_rt q.2.2.1 = none)
noncomputable def dq_k8 (q : dq_q) : Bool := dq_chk [.methodLink (dm_on q.1) q.2.1 (dm_y q.2.2.1), .instanceMethod (dm_y q.2.2.1), .selects (dm_y q.2.2.1).cls (dm_y q.2.2.1) (dm_y q.2.2.1), .initialized (dm_y q.2.2.1).cls] q.2.2.2.2 && dq_yok q.2.2.1 (q.2.2.2.1 - 1) && (dm_hh q.2.2.1).isEmpty && decide (1 ≤ q.2.2.2.1)
noncomputable def dq_k9 (q : dq_q) : Bool := dq_chk [.instanceMethod (dm_y q.2.2.1), .selects (dm_y q.2.2.1).cls (dm_y q.2.2.1) (dm_y q.2.2.1), .initialized (dm_y q.2.2.1).cls] q.2.2.2.2 && dq_yok q.2.2.1 (q.2.2.2.1 - 1) && (dm_hh q.2.2.1).isEmpty && decide (1 ≤ q.2.2.2.1)
noncomputable def dq_kA (q : dq_q) : Bool := dq_chk [.methodLink (dm_on q.1) q.2.1 ⟨"DatalogMill$Visitor", "reach", "(I)Z"⟩, .sameMethod "DatalogMill$Visitor" "DatalogMill$Visitor" "reach" "(I)Z", .selects (dm_y q.2.2.1).cls ⟨"DatalogMill$Visitor", "reach", "(I)Z"⟩ (dm_y q.2.2.1), .instanceMethod (dm_y q.2.2.1), .initialized (dm_y q.2.2.1).cls] q.2.2.2.2 && dq_yok q.2.2.1 1 && (dm_hh q.2.2.1).isEmpty
noncomputable def dq_kB (q : dq_q) : Bool := dq_chk [.methodLink (dm_on q.1) q.2.1 (dm_y q.2.2.1), .static (dm_y q.2.2.1), .initialized (dm_y q.2.2.1).cls] q.2.2.2.2 && dq_yok q.2.2.1 q.2.2.2.1 && !(dm_hh q.2.2.1).isEmpty
theorem dq_t0 : dm_mk0.all dq_k0 = true := by decide +kernel
theorem dq_t1 : dm_mk1.all dq_k0 = true := by decide +kernel
theorem dq_t2 : dm_mk2.all dq_k2 = true := by decide +kernel
theorem dq_t5 : dm_mk5.all dq_k5 = true := by decide +kernel
theorem dq_t6 : dm_mk6.all dq_k6 = true := by decide +kernel
theorem dq_t8_0 : dm_mk8_0.all dq_k8 = true := by decide +kernel
theorem dq_t8_1 : dm_mk8_1.all dq_k8 = true := by decide +kernel
theorem dq_t8_2 : dm_mk8_2.all dq_k8 = true := by decide +kernel
theorem dq_t8_3 : dm_mk8_3.all dq_k8 = true := by decide +kernel
theorem dq_t8_4 : dm_mk8_4.all dq_k8 = true := by decide +kernel
theorem dq_t8_5 : dm_mk8_5.all dq_k8 = true := by decide +kernel
theorem dq_t8_6 : dm_mk8_6.all dq_k8 = true := by decide +kernel
theorem dq_t8_7 : dm_mk8_7.all dq_k8 = true := by decide +kernel
theorem dq_t8 : dm_mk8.all dq_k8 = true := by
  unfold dm_mk8
  simp only [List.all_append, dq_t8_0, dq_t8_1, dq_t8_2, dq_t8_3, dq_t8_4, dq_t8_5, dq_t8_6, dq_t8_7, Bool.and_self]
theorem dq_t9 : dm_mk9.all dq_k9 = true := by decide +kernel
theorem dq_tA : dm_mk10.all dq_kA = true := by decide +kernel
theorem dq_tB : dm_mk11.all dq_kB = true := by decide +kernel

