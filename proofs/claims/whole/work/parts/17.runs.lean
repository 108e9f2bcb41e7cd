/-! WHAT THE SMALL MACHINE RUNS, THE MACHINE RUNS: the induction over the depth of calls -/
theorem dq_cls {s : State} {args : Array Value} {y : Nat} (hy : y < dm_law) (hts : ∀ w ∈ dm_ws, w.before args s = true) : ∃ cid, s.vm.findClass (dm_y y).cls = some cid := by
  have h := hts _ (dq_codeIn hy)
  unfold dq_code at h
  split at h
  · cases hn : s.methodNamed? (dm_y y) with
    | none => simp [Cond.before, Cond.holds, Cond.value, hn] at h
    | some m => exact ⟨_, findClass_of_methodNamed hn⟩
  · obtain ⟨m9, meth, c, hn9, -⟩ := Cond.codeWith_spec h
    exact ⟨_, findClass_of_methodNamed hn9⟩
theorem dq_exc {G : dm_G} {s : State} {args : Array Value} {c : Code} {y : Nat} (hy : y ≤ dm_law) (hts : ∀ w ∈ dm_ws, w.before args s = true) (hEv : dm_Ev G s) (htab : c.exceptionTable.toList = tableOf (dm_hh y)) (pc : Nat) : dq_Th s args c (dm_on (dm_o y)) (dm_b y) (dm_P y).2.1 pc := by
  intro E hE
  have h1 := dq_m2a hy
  unfold dq_m2 at h1
  have h2 := dq_thand (pc := pc) rfl hts hEv (fun q i n d cs h => (dq_ent hy h).1) E hE (dm_hh y) (dm_P y).2.1 (bd (bd (bd h1).1).1).2
  rw [htab]
  exact h2
theorem dq_entv {nL i : Nat} {as : List dm_V} {v : dm_V} (h : (dm_ent nL as)[i]? = some (some v)) : as[i]? = some v := by
  unfold dm_ent at h
  by_cases hi : i < as.length
  · rw [List.getElem?_append_left (by rw [List.length_map]; exact hi), List.getElem?_map] at h
    obtain ⟨w, h1, h2⟩ := Option.map_eq_some_iff.mp h
    cases h2
    exact h1
  · rw [List.getElem?_append_right (by rw [List.length_map]; omega), List.getElem?_replicate] at h
    split at h <;> cases h
theorem dq_sl {vs : List Value} (h : ∀ v ∈ vs, v.category = 1) : lg_sl vs = vs.map Slot.val := by
  induction vs with
  | nil => rfl
  | cons v vs ih =>
    obtain ⟨h1, h2⟩ := List.forall_mem_cons.mp h
    show (if v.category = 2 then [Slot.val v, Slot.second] else [Slot.val v]) ++ lg_sl vs = _
    rw [if_neg (by omega), ih h2]
    rfl
theorem dq_entL {nL : Nat} {as : List dm_V} {ad : Nat → Nat} (h : as.length ≤ nL) (hnl : ∀ v ∈ as, dq_nl v) : dq_L nL ad (dm_ent nL as) ((lg_sl (as.map (dm_tv ad)) ++ List.replicate (nL - (lg_sl (as.map (dm_tv ad))).length) Slot.unset).toArray) := by
  have e : lg_sl (as.map (dm_tv ad)) = (as.map (dm_tv ad)).map Slot.val := dq_sl (fun v hv => by
    obtain ⟨w, hw, rfl⟩ := List.mem_map.mp hv
    exact dq_cat (hnl w hw))
  have hl : (lg_sl (as.map (dm_tv ad))).length = as.length := by rw [e]; simp
  obtain ⟨h1, h2, -⟩ := lv_entry (as.map (dm_tv ad)) (n := nL) (by rw [hl]; exact h)
  refine ⟨h1, by unfold dm_ent; simp; omega, h2, fun i v hi => ?_⟩
  have hi := dq_entv hi
  have hlt := (List.getElem?_eq_some_iff.mp hi).1
  rw [List.getElem?_toArray, List.getElem?_append_left (by rw [hl]; exact hlt), e, List.getElem?_map, List.getElem?_map, hi]
  rfl
theorem dq_osE {sv : Bool} {L nL : Nat} {xs : Nat → Int} {h : dm_H} {as : List dm_V} (ok : dm_ok sv h) (hxs : sv = true → ∀ j : Nat, j < L → gi h 1000 j = xs j) (has : ∀ v ∈ as, dm_vk L h v ∧ dq_nl v) : dq_os sv L xs h h (dm_ent nL as) [] :=
  ⟨ok, ⟨Nat.le_refl _, Nat.le_refl _, Nat.le_refl _⟩, hxs, (fun _ z => nomatch z), fun _ _ z => has _ (List.mem_of_getElem? (dq_entv z))⟩
set_option maxHeartbeats 2000000 in
theorem dq_main {l : Launch} {G : dm_G} {base b L u : Nat} {xs : Nat → Int} {sv : Bool} (hl : l.stackTraces = false) (hLL : L ≤ 3584) : ∀ dep n : Nat, dq_IH l G base b L u xs sv dep (dm_inv dm_P sv dm_sh dep n)
  | 0, n => fun y as h x1 hy _ hc => nomatch (show none = some x1 from hc)
  | dep + 1, n => by
    intro y as h x hy hlen hc ok hxs has
    have ih := dq_main (b := b) (G := G) (base := base) (u := u) (xs := xs) (sv := sv) hl hLL dep n
    have hc : dm_loop (dm_P y).1 (dm_P y).2.1 (dm_P y).2.2.2 sv dm_sh (dm_inv dm_P sv dm_sh dep n) n 0 (dm_ent (dm_nl y) as) [] h = some x := hc
    have hos := dq_osE (nL := dm_nl y) ok hxs has
    have hy' : y ≤ dm_law := Nat.le_of_lt hy
    obtain ⟨hown, hplain⟩ := dq_own hy'
    have hfr : dq_fr dep + 1 ≤ dq_fr (dep + 1) := by unfold dq_fr; omega
    have hlo : 59 + dq_lo dep ≤ dq_lo (dep + 1) := by unfold dq_lo; omega
    constructor
    · rintro p s args ⟨X1, X2, X3, X4, X5, X6⟩
      obtain ⟨cid, hcid⟩ := dq_cls hy X2
      exact (dq_loop (p := p) (l := l) (e := { classPath := fun _ => none }) (R := { frames := dq_fr (dep + 1), cells := gc x.2 - gc h, slots := gs x.2 - gs h, locals := dq_lo (dep + 1) }) (s := s) (m := ⟨cid, 0⟩) (args := args) (below := []) (meth := ⟨(dm_y y).name, "", ⟨[], dm_rt y⟩, 0, none⟩) (c := ⟨0, dm_nl y, dm_b y, (tableOf (dm_hh y)).toArray, #[]⟩) (ad0 := fun _ => 0) hy' rfl rfl ⟨X1, rfl, rfl, by rw [← hown]; exact hcid, X2, X3, X4, X5, (by show (hasFlag 0 Acc.synchronized && _) = false; rw [show hasFlag 0 Acc.synchronized = false from by decide]; rfl), X6⟩ ih (dq_exc hy' X2 X3 rfl) rfl rfl hfr hlo rfl (fun q => q) (fun q z hz => by
        rw [List.isEmpty_iff.mp q] at hz
        cases hz) hLL (fun _ => Nat.ne_of_lt hy) n 0 _ _ _ hc hos).1
    · intro ad hab hau
      cases hhh : dm_hh y with
      | nil =>
        refine vx_ofW (cc := dm_b y) (maxL := dm_nl y) (ret := dm_rt y) (ws' := dm_ws) hplain (by unfold dq_wsy dq_code; rw [hhh]) ?_
        intro p e s m args below meth c s₁ B hml hexc hP
        obtain ⟨rfl, hbs, hEv, hSt, hWd⟩ := hP
        have hw := atoms_spec B.pre
        have hts : ∀ w ∈ dm_ws, w.before (as.map (dm_tv ad)).toArray s = true := fun w h9 => hw w (List.mem_cons_of_mem _ h9)
        have htab : c.exceptionTable.toList = tableOf (dm_hh y) := by
          rw [hhh]
          exact List.eq_nil_iff_forall_not_mem.mpr hexc
        have hgo := (dq_loop (e := e) (below := below) (R := { frames := dq_fr (dep + 1), cells := gc x.2 - gc h, slots := gs x.2 - gs h, locals := dq_lo (dep + 1) }) (ad0 := ad) hy' rfl rfl ⟨B.exec, B.bytes, hml, by rw [← hown]; exact findClass_of_methodNamed B.named, hts, hEv, hSt, hbs, B.notSynchronized, hl⟩ ih (dq_exc hy' hts hEv htab) rfl rfl hfr hlo B.returns (fun q => (name_of_methodNamed B.named B.method).1.trans q) (fun _ => hexc) hLL (fun _ => Nat.ne_of_lt hy) n 0 _ _ _ hc hos).2 ad _ s.heap [] (dq_entL hlen (fun v hv => (has v hv).2)) hWd ⟨Nat.le_refl _, fun _ _ _ => rfl, fun _ z => nomatch z⟩ (fun _ _ => rfl) hab hau
        rw [lg_entry_eq]
        rw [Nat.sub_self, Nat.sub_self] at hgo
        exact hgo
      | cons z hh =>
        refine vx_ofWH (cc := dm_b y) (maxL := dm_nl y) (ret := dm_rt y) (hh := z :: hh) (ws' := dm_ws) hplain (by unfold dq_wsy dq_code; rw [hhh]) ?_
        intro p e s m args below meth c s₁ B hml hP
        obtain ⟨rfl, hbs, hEv, hSt, hWd⟩ := hP
        have hw := atoms_spec B.pre
        have hts : ∀ w ∈ dm_ws, w.before (as.map (dm_tv ad)).toArray s = true := fun w h9 => hw w (List.mem_cons_of_mem _ h9)
        have htab : c.exceptionTable.toList = tableOf (dm_hh y) := by
          have hcw := hw _ (List.mem_cons_self (l := dm_ws))
          unfold dq_code at hcw
          rw [hhh] at hcw ⊢
          exact vx_table (x := dm_y y) B hcw
        have hgo := (dq_loop (e := e) (below := below) (R := { frames := dq_fr (dep + 1), cells := gc x.2 - gc h, slots := gs x.2 - gs h, locals := dq_lo (dep + 1) }) (ad0 := ad) hy' rfl rfl ⟨B.exec, B.bytes, hml, by rw [← hown]; exact findClass_of_methodNamed B.named, hts, hEv, hSt, hbs, B.notSynchronized, hl⟩ ih (dq_exc hy' hts hEv htab) rfl rfl hfr hlo B.returns (fun q => (name_of_methodNamed B.named B.method).1.trans q) (fun q => by rw [hhh] at q; cases q) hLL (fun _ => Nat.ne_of_lt hy) n 0 _ _ _ hc hos).2 ad _ s.heap [] (dq_entL hlen (fun v hv => (has v hv).2)) hWd ⟨Nat.le_refl _, fun _ _ _ => rfl, fun _ z => nomatch z⟩ (fun _ _ => rfl) hab hau
        rw [lg_entry_eq]
        rw [Nat.sub_self, Nat.sub_self] at hgo
        exact hgo
