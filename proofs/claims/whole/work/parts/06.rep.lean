/-! THE LINK OF THE SMALL MACHINE WITH THE CLAIM'S: what a state of the one says of a state of the other -/
noncomputable def dm_ws : List Cond := lw_tbl.filter goodWord
abbrev dm_G : Type := (Nat → ClassId) × (Nat → Nat → Nat) × (Nat → ClassId)
abbrev dm_D (G : dm_G) : va_G := (G.1, G.2.1)
abbrev dm_cA (G : dm_G) : Nat → ClassId := G.2.2
abbrev dm_tys (G : dm_G) : List (ClassId × FieldType) := [(dm_cA G 2, .int), (dm_cA G 3, .boolean), (dm_cA G 4, .long), (dm_cA G 5, .object "DatalogMill$Rule"), (dm_cA G 6, .array .int)]
/-- a reference, as the machine has it -/
def dm_rv (ad : Nat → Nat) (a : Nat) : Value := if a = 0 then .null else .ref (ad a)
def dm_ro (ad : Nat → Nat) (a : Nat) : Option Nat := if a = 0 then none else some (ad a)
def dm_tv (ad : Nat → Nat) (v : dm_V) : Value := match v with
  | .inl x => .int (Int32.ofInt x)
  | .inr (.inl (_, _, a)) => dm_rv ad a
  | .inr (.inr x) => .long (Int64.ofInt x)
theorem dm_rv_ro (ad : Nat → Nat) (a : Nat) : va_rf (dm_ro ad a) = dm_rv ad a := by
  unfold dm_ro dm_rv
  split <;> rfl
def dm_isr (d : List Nat) : Bool := match d with
  | 0 :: _ => false
  | _ => true
def dm_fv (ad : Nat → Nat) (h : dm_H) (a k : Nat) (d : List Nat) : Value := match dm_isr d with
  | true => dm_rv ad (gr h a k)
  | false => .int (Int32.ofInt (gi h a k))
noncomputable def dm_fs (ad : Nat → Nat) (h : dm_H) (ci a : Nat) : List Value := (List.range (dm_fN ci)).map (fun k => dm_fv ad h a k (dm_fd ci k))
noncomputable def dm_en (G : dm_G) (ad : Nat → Nat) (h : dm_H) (a : Nat) : va_E := match dm_sh a with
  | (1, ci) => .inr (ci, dm_fs ad h ci a)
  | (4, n) => .inl (dm_cA G 4, n, .inr (.inl (fun j => Int64.ofInt (gl h j))))
  | (5, n) => .inl (dm_cA G 5, n, .inr (.inr (.inr (.inr (fun j => dm_ro ad (gr h a j))))))
  | (6, n) => .inl (dm_cA G 6, n, .inr (.inr (.inr (.inr (fun j => dm_ro ad (gr h a j))))))
  | (t, n) => .inl (dm_cA G t, n, .inl (fun j => Int32.ofInt (gi h a j)))
/-- the cells that are followed, in the order of their making -/
noncomputable def dm_W (G : dm_G) (ad : Nat → Nat) (h : dm_H) : va_W := (List.range (gz h - 1)).map (fun k => (ad (k + 1), dm_en G ad h (k + 1)))
def dm_A (base : Nat) : Nat → Prop := fun q => base ≤ q
def dm_Wd (G : dm_G) (base : Nat) (ad : Nat → Nat) (h : dm_H) (H : Heap) : Prop := va_P (dm_D G) dm_cl (dm_W G ad h) H ∧ va_D (dm_A base) (dm_W G ad h)
/-- a value that the small machine may hold -/
noncomputable def dm_vk (L : Nat) (h : dm_H) (v : dm_V) : Prop := match v with
  | .inl x => dm_in x
  | .inr (.inl (0, _, a)) => a = 0
  | .inr (.inl (7, _, a)) => a = 0 ∨ (a < gz h ∧ ∃ c, dm_sh a = (1, c) ∧ (c = 0 ∨ c = 1 ∨ c = 3 ∨ c = 4))
  | .inr (.inl (8, p, a)) => p = L ∧ a = 1000
  | .inr (.inl (9, p, a)) => p = 3 ∧ a = 1001
  | .inr (.inl (t, p, a)) => dm_sh a = (t, p) ∧ a ≠ 0 ∧ a < gz h
  | .inr (.inr x) => dm_in x
/-- what a field's mode says of it, when all is made -/
noncomputable def dm_fk1 (h : dm_H) (a k : Nat) (d : List Nat) : Prop := match d with
  | [1, 7, _, _] => gr h a k = 0 ∨ ∃ c, dm_sh (gr h a k) = (1, c) ∧ (c = 0 ∨ c = 1 ∨ c = 3 ∨ c = 4)
  | [1, t, p, _] => dm_sh (gr h a k) = (t, p) ∧ gr h a k ≠ 0
  | [2, t, p, o] => gr h a k = a + o ∧ dm_sh (a + o) = (t, p) ∧ a + o ≠ 0
  | [3, t, p, o] => gr h a k = o ∧ dm_sh o = (t, p) ∧ o ≠ 0
  | _ => True
noncomputable def dm_sealed (h : dm_H) : Prop := gz h = 197 ∧ (∀ a ci k, dm_sh a = (1, ci) → k < dm_fN ci → dm_fk1 h a k (dm_fd ci k)) ∧
  (∀ a n i, dm_sh a = (5, n) → 0 ≤ i → i < (n : Int) → dm_sh (gr h a i) = (1, 8) ∧ gr h a i ≠ 0) ∧
  (∀ a n i, dm_sh a = (6, n) → 0 ≤ i → i < (n : Int) → gr h a i = a + 1 + i.toNat ∧ dm_sh (a + 1 + i.toNat) = (2, 32)) ∧
  (∀ a i, 197 ≤ a → a < 1000 → gi h a i = 0 ∧ gr h a i = 0)
noncomputable def dm_ok (sv : Bool) (h : dm_H) : Prop := (∀ a i, dm_in (gi h a i)) ∧ (∀ i, dm_in (gl h i)) ∧ (∀ a i, gr h a i < gz h) ∧ 1 ≤ gz h ∧ gz h ≤ 197 ∧
  match sv with
  | true => dm_sealed h
  | false => ∀ a i, gz h ≤ a → a < 1000 → gi h a i = 0 ∧ gr h a i = 0
def dm_isn (w : Cond) : Bool := match w with
  | .castable _ _ => true
  | .declares _ => true
  | _ => false
noncomputable def dm_nw : List Cond := lw_tbl.filter dm_isn
/-- there is the kind of arrays of arrays of ints -/
def dm_A2 (U : State) : Prop := (Cond.arrayOver (.array .int)).before #[] U = true
theorem dm_A2.moved {u U : State} (hvm : u.vm.Alike U.vm) (h : dm_A2 u) : dm_A2 U := by
  unfold dm_A2 Cond.before Cond.holds at h
  simp only [Cond.value, beq_iff_eq] at h
  cases hc : u.vm.findClass (FieldType.array .int).toString with
  | none => rw [hc] at h; cases h
  | some comp =>
  rw [hc, Option.bind_some] at h
  obtain ⟨c, h2, h3⟩ := Option.bind_eq_some_iff.mp h
  obtain ⟨k, h4, h5⟩ := Option.map_eq_some_iff.mp h3
  obtain ⟨k', hk', he⟩ := hvm.2.2 _ _ h4
  have hi : (U.vm.classes.findIdx? fun (x : Class) => match x.kind with | .array component _ => component == comp | _ => false) = some c := by
    have e := (va_idx_bare U.vm comp).symm.trans (Eq.trans (by first | rw [hvm.bare_eq] | rw [← hvm.bare_eq]) (va_idx_bare u.vm comp))
    exact e.trans h2
  have hkind : k'.kind = k.kind := by rw [he]
  have f1 : U.vm.findClass (FieldType.array .int).toString = some comp := by rw [hvm.findClass]; exact hc
  have f2 : U.vm.findClass ("[" ++ (FieldType.array .int).toString) = u.vm.findClass ("[" ++ (FieldType.array .int).toString) := hvm.findClass _ _
  unfold dm_A2 Cond.before Cond.holds
  simp only [Cond.value]
  rw [f1, Option.bind_some]
  refine (congrArg (fun o : Option Nat => (o.bind (fun c => (U.vm.classes[c]?).map fun (k : Class) => match k.kind with | .array _ ty => decide (ty = FieldType.array .int) && decide (U.vm.findClass ("[" ++ (FieldType.array .int).toString) = some c) | _ => false) == some true)) hi).trans ?_
  simp only [Option.bind_some, hk', Option.map_some, hkind, f2]
  exact congrArg (fun o : Bool => (some o == some true)) h5
/-- what the tables say of a state (moves with its class tables) -/
noncomputable def dm_Ev (G : dm_G) (U : State) : Prop := va_K (dm_D G) dm_cl (dm_tys G) U ∧
  (∀ q ∈ dm_fkn, va_Nw (.fieldLinkNest (dm_on q.1) q.2.1 (dm_cn q.2.2.1) (dm_ff q.2.2.1 q.2.2.2).2.1 (dm_ff q.2.2.1 q.2.2.2).2.2.1 "DatalogMill") U) ∧
  (∀ q ∈ dm_ukn, va_Nw (.fieldLinkNest (dm_on q.1) q.2 "DatalogMill" "UNITS" "[I" "DatalogMill") U) ∧
  (∀ q ∈ dm_mk2 ++ dm_mk6 ++ dm_mk9, va_Nw (.methodLinkNest (dm_on q.1) q.2.1 (dm_y q.2.2.1) "DatalogMill") U) ∧
  (va_AO "DatalogMill$Rule" U ∧ dm_A2 U) ∧ (∀ w ∈ dm_nw, va_Nw w U) ∧
  (∀ q ∈ dm_tk, ∃ sa : Nat, vk_R (dm_on (dm_o q.1)) q.2.2.2.1 q.2.2.2.2.2.2.1 sa U) ∧
  (∀ E F, E < 3 → F < 3 → E ≠ F → va_Nc (dm_xn E) (dm_xn F) U)
/-- the units: three of them at least -/
def dm_XU (q : Nat) (U : State) (H : Heap) : Prop := ∃ scr : Cell, H[q]? = some scr ∧ U.isArrayOf scr .int ∧ scr.vm ≠ .unknown ∧ 3 ≤ scr.slots.size ∧ ∀ j : Nat, j < 3 → scr.slots[j]? = some (.int (Int32.ofInt (dm_unit j)))
theorem dm_XU.kept {q : Nat} {U : State} {H H1 : Heap} (h : dm_XU q U H) (hq : H1[q]? = H[q]?) : dm_XU q U H1 := by
  obtain ⟨scr, h1, h2⟩ := h
  exact ⟨scr, by rw [hq]; exact h1, h2⟩
theorem dm_XU.moved {q : Nat} {u U : State} {H : Heap} (hvm : u.vm.Alike U.vm) (h : dm_XU q u H) : dm_XU q U H := by
  obtain ⟨scr, h1, h2, h3⟩ := h
  exact ⟨scr, h1, State.isArrayOf_alike hvm h2, h3⟩
/-- what lies outside the world and stays: the script, the units, the two statics of Throwable -/
def dm_St (base b L u : Nat) (xs : Nat → Int) (U : State) (H : Heap) : Prop := va_X b L (fun j => Int32.ofInt (xs j)) U H ∧ dm_XU u U H ∧ b < base ∧ u < base ∧
  va_Z "DatalogMill" "UNITS" "[I" (.ref u) (dm_A base) U H ∧
  vx_Zq Bundle.tN "UNASSIGNED_STACK" Bundle.steD (dm_A base) U H ∧ vx_Zq Bundle.tN "SUPPRESSED_SENTINEL" Bundle.listD (dm_A base) U H
theorem dm_nw_same {w : Cond} (hw : dm_isn w = true) {u U : State} (h : u.vm = U.vm) (k : va_Nw w u) : va_Nw w U := by
  unfold dm_isn at hw
  split at hw
  · exact va_Nw.same rfl h k
  · exact va_Nw.same rfl h k
  · cases hw
theorem dm_nw_warm {w : Cond} (hw : dm_isn w = true) {s U : State} (h : s.WarmedH U.vm) (k : va_Nw w s) : va_Nw w U := by
  unfold dm_isn at hw
  split at hw
  · exact va_Nw.warmC h k
  · exact va_Nw.warmD h k
  · cases hw
theorem dm_nw_use {w : Cond} (hw : dm_isn w = true) {args : Array Value} {s : State} (k : va_Nw w s) : w.before args s = true := by
  unfold dm_isn at hw
  split at hw
  · exact va_Nw.use rfl k
  · exact va_Nw.use rfl k
  · cases hw
theorem dm_Ev.same {G : dm_G} {u U : State} (h : U.vm = u.vm) (k : dm_Ev G u) : dm_Ev G U := by
  obtain ⟨k1, k2, k3, k4, k5, k6, k7, k8⟩ := k
  have ha : u.vm.Alike U.vm := by rw [h]; exact Vm.Alike.refl _
  refine ⟨va_K.moved ha k1, fun q hq => va_Nw.same rfl h.symm (k2 q hq), fun q hq => va_Nw.same rfl h.symm (k3 q hq), fun q hq => va_Nw.same rfl h.symm (k4 q hq), ⟨va_AO.moved ha k5.1, dm_A2.moved ha k5.2⟩, fun w hw => dm_nw_same (List.mem_filter.mp hw).2 h.symm (k6 w hw), fun q hq => ?_, fun E F h1 h2 h3 => va_Nc.moved ha (k8 E F h1 h2 h3)⟩
  obtain ⟨sa, hs⟩ := k7 q hq
  exact ⟨sa, vk_R.same h hs⟩
theorem dm_Ev.warm {G : dm_G} {s U : State} (hW : s.WarmedH U.vm) (k : dm_Ev G s) : dm_Ev G U := by
  obtain ⟨k1, k2, k3, k4, k5, k6, k7, k8⟩ := k
  refine ⟨va_K.moved hW.alike k1, fun q hq => va_Nw.warmF hW (k2 q hq), fun q hq => va_Nw.warmF hW (k3 q hq), fun q hq => va_Nw.warmM hW (k4 q hq), ⟨va_AO.moved hW.alike k5.1, dm_A2.moved hW.alike k5.2⟩, fun w hw => dm_nw_warm (List.mem_filter.mp hw).2 hW (k6 w hw), fun q hq => ?_, fun E F h1 h2 h3 => va_Nc.moved hW.alike (k8 E F h1 h2 h3)⟩
  obtain ⟨sa, hs⟩ := k7 q hq
  exact ⟨sa, vk_R.warm hW hs⟩
theorem dm_St.moved {base b L u : Nat} {xs : Nat → Int} {s U : State} {H : Heap} (ha : s.vm.Alike U.vm) (k : dm_St base b L u xs s H) : dm_St base b L u xs U H := by
  obtain ⟨k1, k2, k3, k4, k5, k6, k7⟩ := k
  exact ⟨va_X.moved ha k1, dm_XU.moved ha k2, k3, k4, va_Z.moved ha k5, vx_Zq.moved ha k6, vx_Zq.moved ha k7⟩
theorem dm_St.kept {base b L u : Nat} {xs : Nat → Int} {s : State} {H H1 : Heap} (k : dm_St base b L u xs s H) (hb : base ≤ H.size) (hq : ∀ q : Nat, q < H.size → ¬ dm_A base q → H1[q]? = H[q]?) : dm_St base b L u xs s H1 := by
  obtain ⟨k1, k2, k3, k4, k5, k6, k7⟩ := k
  exact ⟨k1.kept (hq b (by omega) (by unfold dm_A; omega)), k2.kept (hq u (by omega) (by unfold dm_A; omega)), k3, k4, k5.kept hq, k6.kept hq, k7.kept hq⟩
