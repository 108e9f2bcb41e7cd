/-! THE SMALL MACHINE'S STEPS ARE THE MACHINE'S: one lemma an instruction (text by wip/whole/gen/sim.py) -/
def dq_fr (d : Nat) : Nat := d + 20
def dq_lo (d : Nat) : Nat := 64 * d + 400
def dq_nl (v : dm_V) : Prop := match v with
  | .inr (.inr _) => False
  | _ => True
/-- a method's frame stands at s: machine, code, tables, what lies outside -/
def dq_C (p : Program) (l : Launch) (s : State) (m : MethodId) (args : Array Value) (meth : Method) (c : Code) (own : String) (cc : ByteArray) (nL : Nat) (G : dm_G) (base b L u : Nat) (xs : Nat → Int) : Prop :=
  p.tables.exec = Jvm.exec ∧ c.code = cc ∧ c.maxLocals = nL ∧ s.vm.findClass own = some m.cls ∧ (∀ w ∈ dm_ws, w.before args s = true) ∧ dm_Ev G s ∧ dm_St base b L u xs s s.heap ∧ base ≤ s.heap.size ∧ meth.locks = false ∧ l.stackTraces = false
def dq_ext (h0 : dm_H) (ad0 ad : Nat → Nat) : Prop := ∀ a, a < gz h0 ∨ 1000 ≤ a → ad a = ad0 a
def dq_L (nL : Nat) (ad : Nat → Nat) (Lc : dm_L) (ls : Array Slot) : Prop := ls.size = nL ∧ Lc.length = nL ∧ lv_wf ls ∧ ∀ (i : Nat) (v : dm_V), Lc[i]? = some (some v) → ls[i]? = some (.val (dm_tv ad v))
/-- from here on the machine comes to an end with Q -/
def dq_Go (p : Program) (l : Launch) (e : Env) (R : Room) (s : State) (m : MethodId) (args : Array Value) (below : List Frame) (meth : Method) (c : Code) (Q : State → Prop) (nL : Nat) (G : dm_G) (base b u : Nat) (h0 : dm_H) (ad0 : Nat → Nat) (pc : Nat) (Lc : dm_L) (S : List dm_V) (h : dm_H) : Prop :=
  ∀ (ad : Nat → Nat) (ls : Array Slot) (H : Heap) (locs : List Loc), dq_L nL ad Lc ls → dm_Wd G base ad h H → va_S (dm_A base) s.heap H locs → dq_ext h0 ad0 ad → ad 1000 = b → ad 1001 = u →
    W p l e R s m args below meth c H locs (gc h - gc h0) (gs h - gs h0) Q (F0 m pc ls (S.map (dm_tv ad)))
/-- a state that the small machine may be in, in a method begun at h0 -/
def dq_os (sv : Bool) (L : Nat) (xs : Nat → Int) (h0 h : dm_H) (Lc : dm_L) (S : List dm_V) : Prop := dm_ok sv h ∧ (gc h0 ≤ gc h ∧ gs h0 ≤ gs h ∧ gz h0 ≤ gz h) ∧ (sv = true → ∀ j : Nat, j < L → gi h 1000 j = xs j) ∧ (∀ v ∈ S, dm_vk L h v) ∧ ∀ (i : Nat) (v : dm_V), Lc[i]? = some (some v) → dm_vk L h v ∧ dq_nl v
def dq_okx (sv : Bool) (L : Nat) (xs : Nat → Int) (h : dm_H) (x : dm_X) : Prop := dm_ok sv x.2 ∧ gc h ≤ gc x.2 ∧ gs h ≤ gs x.2 ∧ gz h ≤ gz x.2 ∧ (sv = true → ∀ j : Nat, j < L → gi x.2 1000 j = xs j) ∧ (∀ v, x.1 = .inl (some v) → dm_vk L x.2 v ∧ dq_nl v) ∧ ∀ E, x.1 = .inr E → E < 3 ∧ sv = true
theorem dq_os.to {sv : Bool} {L : Nat} {xs : Nat → Int} {h0 h : dm_H} {Lc : dm_L} {S S' : List dm_V} (k : dq_os sv L xs h0 h Lc S) (hv : ∀ v ∈ S', dm_vk L h v) : dq_os sv L xs h0 h Lc S' := ⟨k.1, k.2.1, k.2.2.1, hv, k.2.2.2.2⟩
theorem dq_os.sub {sv : Bool} {L : Nat} {xs : Nat → Int} {h0 h : dm_H} {Lc : dm_L} {S : List dm_V} (k : dq_os sv L xs h0 h Lc S) : ∀ v ∈ S, dm_vk L h v := k.2.2.2.1
theorem dq_c {P : dm_V → Prop} {v : dm_V} {S : List dm_V} (h1 : P v) (h2 : ∀ w ∈ S, P w) : ∀ w ∈ v :: S, P w := List.forall_mem_cons.mpr ⟨h1, h2⟩
theorem dq_h {P : dm_V → Prop} {v : dm_V} {S : List dm_V} (h : ∀ w ∈ v :: S, P w) : P v ∧ ∀ w ∈ S, P w := List.forall_mem_cons.mp h
/-! what a part of a step that ends says -/
theorem di_2 {S : List dm_V} {f : Int → Int → List dm_V → dm_O} {x : dm_X} (h : dm_2 S f = some x) : ∃ a b S', S = .inl b :: .inl a :: S' ∧ f a b S' = some x := by
  unfold dm_2 at h
  split at h
  · exact ⟨_, _, _, rfl, h⟩
  · cases h
theorem di_1 {S : List dm_V} {f : Int → List dm_V → dm_O} {x : dm_X} (h : dm_1 S f = some x) : ∃ a S', S = .inl a :: S' ∧ f a S' = some x := by
  unfold dm_1 at h
  split at h
  · exact ⟨_, _, rfl, h⟩
  · cases h
theorem di_r1 {S : List dm_V} {f : Nat → Nat → Nat → List dm_V → dm_O} {x : dm_X} (h : dm_r1 S f = some x) : ∃ t p a S', S = dR t p a :: S' ∧ f t p a S' = some x := by
  unfold dm_r1 at h
  split at h
  · exact ⟨_, _, _, _, rfl, h⟩
  · cases h
theorem di_ri {S : List dm_V} {f : Nat → Nat → Nat → Int → List dm_V → dm_O} {x : dm_X} (h : dm_ri S f = some x) : ∃ t p a i S', S = dI i :: dR t p a :: S' ∧ f t p a i S' = some x := by
  unfold dm_ri at h
  split at h
  · exact ⟨_, _, _, _, _, rfl, h⟩
  · cases h
theorem di_ck {z : Int} {f : Int → dm_O} {x : dm_X} (h : dm_ck z f = some x) : dm_in z ∧ f z = some x := by
  unfold dm_ck at h
  split at h
  · exact ⟨by assumption, h⟩
  · cases h
theorem di_ix {i : Int} {n : Nat} {f : dm_O} {x : dm_X} (h : dm_ix i n f = some x) : (0 ≤ i ∧ i < (n : Int)) ∧ f = some x := by
  unfold dm_ix at h
  split at h
  · exact ⟨by assumption, h⟩
  · cases h
theorem di_z1 {i : Int} {f : dm_O} {x : dm_X} (h : dm_z1 i f = some x) : (i = 0 ∨ i = 1) ∧ f = some x := by
  unfold dm_z1 at h
  split at h
  · exact ⟨by assumption, h⟩
  · cases h
theorem di_nn {a : Nat} {f : dm_O} {x : dm_X} (h : dm_nn a f = some x) : a ≠ 0 ∧ f = some x := by
  unfold dm_nn at h
  split at h
  · cases h
  · exact ⟨by assumption, h⟩
theorem di_geti {Lc : dm_L} {i : Nat} {f : Int → dm_O} {x : dm_X} (h : dm_geti Lc i f = some x) : ∃ v, Lc[i]? = some (some (dI v)) ∧ f v = some x := by
  unfold dm_geti at h
  split at h
  · exact ⟨_, by assumption, h⟩
  · cases h
theorem di_getr {Lc : dm_L} {i : Nat} {f : Nat → Nat → Nat → dm_O} {x : dm_X} (h : dm_getr Lc i f = some x) : ∃ t p a, Lc[i]? = some (some (dR t p a)) ∧ f t p a = some x := by
  unfold dm_getr at h
  split at h
  · exact ⟨_, _, _, by assumption, h⟩
  · cases h
theorem di_put {Lc : dm_L} {i : Nat} {v : Option dm_V} {f : dm_L → dm_O} {x : dm_X} (h : dm_put Lc i v f = some x) : i < Lc.length ∧ f (Lc.set i v) = some x := by
  unfold dm_put at h
  split at h
  · exact ⟨by assumption, h⟩
  · cases h
theorem dq_cat {ad : Nat → Nat} {v : dm_V} (h : dq_nl v) : (dm_tv ad v).category = 1 := by
  unfold dq_nl at h
  unfold dm_tv dm_rv
  split
  · rfl
  · split <;> rfl
  · exact h.elim
/-- the locals as the kit writes them -/
def dq_lv (ad : Nat → Nat) (Lc : dm_L) : List (Nat × Value) := (List.range Lc.length).filterMap (fun i => match Lc[i]? with
  | some (some v) => some (i, dm_tv ad v)
  | _ => none)
theorem dq_lvm {ad : Nat → Nat} {Lc : dm_L} {q : Nat × Value} : q ∈ dq_lv ad Lc ↔ ∃ v, Lc[q.1]? = some (some v) ∧ q.2 = dm_tv ad v := by
  unfold dq_lv
  rw [List.mem_filterMap]
  constructor
  · rintro ⟨i, -, hi⟩
    split at hi
    · rename_i v hv
      cases hi
      exact ⟨v, hv, rfl⟩
    · cases hi
  · rintro ⟨v, hv, he⟩
    refine ⟨q.1, List.mem_range.mpr (List.getElem?_eq_some_iff.mp hv).1, ?_⟩
    rw [hv]
    show some (q.1, dm_tv ad v) = some q
    rw [← he]
theorem dq_has {nL : Nat} {ad : Nat → Nat} {Lc : dm_L} {ls : Array Slot} (h : dq_L nL ad Lc ls) : lv_has ls nL (dq_lv ad Lc) := by
  refine ⟨h.1, h.2.2.1, fun q hq => ?_⟩
  obtain ⟨v, h1, h2⟩ := dq_lvm.mp hq
  rw [h2]
  exact h.2.2.2 _ _ h1
/-- behind a store -/
theorem dq_stored {nL i : Nat} {ad : Nat → Nat} {Lc : dm_L} {ls' : Array Slot} {v : dm_V} {w : Value} (hn : ∀ (j : Nat) (v : dm_V), Lc[j]? = some (some v) → dq_nl v) (hl : Lc.length = nL) (hw : w = dm_tv ad v)
    (h : lv_has ls' nL ((i, w) :: (dq_lv ad Lc).filter (fun q => !(q.1 == i) && !(q.1 + 1 == i && q.2.category == 2)))) : dq_L nL ad (Lc.set i (some v)) ls' := by
  refine ⟨h.1, by rw [List.length_set, hl], h.2.1, fun j z hz => ?_⟩
  by_cases e : i = j
  · subst e
    have hlt : i < (Lc.set i (some v)).length := (List.getElem?_eq_some_iff.mp hz).1
    rw [List.length_set] at hlt
    rw [List.getElem?_set_self hlt] at hz
    cases hz
    have := h.2.2 (i, w) List.mem_cons_self
    rw [← hw]
    exact this
  · rw [List.getElem?_set_ne e] at hz
    refine h.2.2 (j, dm_tv ad z) (List.mem_cons_of_mem _ (List.mem_filter.mpr ⟨dq_lvm.mpr ⟨z, hz, rfl⟩, ?_⟩))
    have hc : (dm_tv ad z).category = 1 := dq_cat (hn j z hz)
    have hj : (j == i) = false := by simp; omega
    simp [hj, hc]
theorem dq_forgot {nL i : Nat} {ad : Nat → Nat} {Lc : dm_L} {ls' : Array Slot} {w : Value} (hn : ∀ (j : Nat) (v : dm_V), Lc[j]? = some (some v) → dq_nl v) (hl : Lc.length = nL)
    (h : lv_has ls' nL ((i, w) :: (dq_lv ad Lc).filter (fun q => !(q.1 == i) && !(q.1 + 1 == i && q.2.category == 2)))) : dq_L nL ad (Lc.set i none) ls' := by
  refine ⟨h.1, by rw [List.length_set, hl], h.2.1, fun j z hz => ?_⟩
  by_cases e : i = j
  · subst e
    have hlt : i < (Lc.set i none).length := (List.getElem?_eq_some_iff.mp hz).1
    rw [List.length_set] at hlt
    rw [List.getElem?_set_self hlt] at hz
    cases hz
  · rw [List.getElem?_set_ne e] at hz
    refine h.2.2 (j, dm_tv ad z) (List.mem_cons_of_mem _ (List.mem_filter.mpr ⟨dq_lvm.mpr ⟨z, hz, rfl⟩, ?_⟩))
    have hc : (dm_tv ad z).category = 1 := dq_cat (hn j z hz)
    have hj : (j == i) = false := by simp; omega
    simp [hj, hc]
theorem dq_os.set {sv : Bool} {L i : Nat} {xs : Nat → Int} {h0 h : dm_H} {Lc : dm_L} {S S' : List dm_V} {v : Option dm_V} (k : dq_os sv L xs h0 h Lc S) (hv : ∀ w, v = some w → dm_vk L h w ∧ dq_nl w) (hS : ∀ v ∈ S', dm_vk L h v) : dq_os sv L xs h0 h (Lc.set i v) S' := by
  refine ⟨k.1, k.2.1, k.2.2.1, hS, fun j z hz => ?_⟩
  by_cases e : i = j
  · subst e
    have hlt : i < (Lc.set i v).length := (List.getElem?_eq_some_iff.mp hz).1
    rw [List.length_set] at hlt
    rw [List.getElem?_set_self hlt] at hz
    exact hv z (Option.some.inj hz)
  · rw [List.getElem?_set_ne e] at hz
    exact k.2.2.2.2 j z hz
section DQ
variable {p : Program} {l : Launch} {e : Env} {R : Room} {s : State} {m : MethodId} {args : Array Value} {below : List Frame} {meth : Method} {c : Code} {Q : State → Prop}
variable {own : String} {cc : ByteArray} {nL : Nat} {G : dm_G} {base b L u : Nat} {xs : Nat → Int} {sv : Bool} {h0 h : dm_H} {ad0 : Nat → Nat} {x : dm_X} {wrp pc : Nat} {call : Nat → List dm_V → dm_H → dm_O} {k : dm_K} {T : dm_T} {d cs : List Nat} {Lc : dm_L} {S : List dm_V}

theorem dx_iconst {z : Int} (hz : dm_in z) (C : dq_C p l s m args meth c own cc nL G base b L u xs) (hdg : decode cc pc = .ok (.iconst z, 1)) (he : dm_exec sv wrp dm_sh call k T pc 1 (.iconst z) d cs Lc S h = some x) (hs : dq_os sv L xs h0 h Lc S) (Hk : ∀ (pc' : Nat) (Lc' : dm_L) (S' : List dm_V) (h' : dm_H), k pc' Lc' S' h' = some x → dq_os sv L xs h0 h' Lc' S' → dq_okx sv L xs h' x ∧ dq_Go p l e R s m args below meth c Q nL G base b u h0 ad0 pc' Lc' S' h') : dq_okx sv L xs h x ∧ dq_Go p l e R s m args below meth c Q nL G base b u h0 ad0 pc Lc S h := by
  obtain ⟨hx, hb, hml, hown, hts, hEv, hSt, hbs, hlocks, hntr⟩ := id C
  obtain ⟨h1, h2⟩ := Hk _ _ _ _ he (hs.to (dq_c (P := dm_vk L h) hz hs.sub))
  exact ⟨h1, fun ad ls H locs hL hW hS hE hab hau => lv_iconst hx hb hdg rfl (h2 ad ls H locs hL hW hS hE hab hau)⟩
theorem dx_bipush {z : Int} (hz : -128 ≤ z ∧ z < 128) (C : dq_C p l s m args meth c own cc nL G base b L u xs) (hdg : decode cc pc = .ok (.bipush z, 2)) (he : dm_exec sv wrp dm_sh call k T pc 2 (.bipush z) d cs Lc S h = some x) (hs : dq_os sv L xs h0 h Lc S) (Hk : ∀ (pc' : Nat) (Lc' : dm_L) (S' : List dm_V) (h' : dm_H), k pc' Lc' S' h' = some x → dq_os sv L xs h0 h' Lc' S' → dq_okx sv L xs h' x ∧ dq_Go p l e R s m args below meth c Q nL G base b u h0 ad0 pc' Lc' S' h') : dq_okx sv L xs h x ∧ dq_Go p l e R s m args below meth c Q nL G base b u h0 ad0 pc Lc S h := by
  obtain ⟨hx, hb, hml, hown, hts, hEv, hSt, hbs, hlocks, hntr⟩ := id C
  obtain ⟨h1, h2⟩ := Hk _ _ _ _ he (hs.to (dq_c (P := dm_vk L h) (show dm_in z by unfold dm_in; omega) hs.sub))
  exact ⟨h1, fun ad ls H locs hL hW hS hE hab hau => lv_bipush hx hb hdg (by
    apply Int32.toInt_inj.mp
    rw [Int8.toInt_toInt32, Int8.toInt_ofInt, dn_toInt (by unfold dm_in; omega)]
    exact Int.bmod_eq_of_le (by have hz : (Int8.size : Int) = 256 := rfl; omega) (by have hz : (Int8.size : Int) = 256 := rfl; omega)) (h2 ad ls H locs hL hW hS hE hab hau)⟩
theorem dx_sipush {z : Int} (hz : -32768 ≤ z ∧ z < 32768) (C : dq_C p l s m args meth c own cc nL G base b L u xs) (hdg : decode cc pc = .ok (.sipush z, 3)) (he : dm_exec sv wrp dm_sh call k T pc 3 (.sipush z) d cs Lc S h = some x) (hs : dq_os sv L xs h0 h Lc S) (Hk : ∀ (pc' : Nat) (Lc' : dm_L) (S' : List dm_V) (h' : dm_H), k pc' Lc' S' h' = some x → dq_os sv L xs h0 h' Lc' S' → dq_okx sv L xs h' x ∧ dq_Go p l e R s m args below meth c Q nL G base b u h0 ad0 pc' Lc' S' h') : dq_okx sv L xs h x ∧ dq_Go p l e R s m args below meth c Q nL G base b u h0 ad0 pc Lc S h := by
  obtain ⟨hx, hb, hml, hown, hts, hEv, hSt, hbs, hlocks, hntr⟩ := id C
  obtain ⟨h1, h2⟩ := Hk _ _ _ _ he (hs.to (dq_c (P := dm_vk L h) (show dm_in z by unfold dm_in; omega) hs.sub))
  exact ⟨h1, fun ad ls H locs hL hW hS hE hab hau => lv_sipush hx hb hdg (by
    apply Int32.toInt_inj.mp
    rw [Int16.toInt_toInt32, Int16.toInt_ofInt, dn_toInt (by unfold dm_in; omega)]
    exact Int.bmod_eq_of_le (by have hz : (Int16.size : Int) = 65536 := rfl; omega) (by have hz : (Int16.size : Int) = 65536 := rfl; omega)) (h2 ad ls H locs hL hW hS hE hab hau)⟩
theorem dx_null  (C : dq_C p l s m args meth c own cc nL G base b L u xs) (hdg : decode cc pc = .ok (.aconst_null, 1)) (he : dm_exec sv wrp dm_sh call k T pc 1 (.aconst_null) d cs Lc S h = some x) (hs : dq_os sv L xs h0 h Lc S) (Hk : ∀ (pc' : Nat) (Lc' : dm_L) (S' : List dm_V) (h' : dm_H), k pc' Lc' S' h' = some x → dq_os sv L xs h0 h' Lc' S' → dq_okx sv L xs h' x ∧ dq_Go p l e R s m args below meth c Q nL G base b u h0 ad0 pc' Lc' S' h') : dq_okx sv L xs h x ∧ dq_Go p l e R s m args below meth c Q nL G base b u h0 ad0 pc Lc S h := by
  obtain ⟨hx, hb, hml, hown, hts, hEv, hSt, hbs, hlocks, hntr⟩ := id C
  obtain ⟨h1, h2⟩ := Hk _ _ _ _ he (hs.to (dq_c (P := dm_vk L h) (show dm_vk L h (dR 0 0 0) from rfl) hs.sub))
  exact ⟨h1, fun ad ls H locs hL hW hS hE hab hau => lv_null hx hb hdg (h2 ad ls H locs hL hW hS hE hab hau)⟩
theorem dx_lconst {z : Fin 2} (C : dq_C p l s m args meth c own cc nL G base b L u xs) (hdg : decode cc pc = .ok (.lconst z, 1)) (he : dm_exec sv wrp dm_sh call k T pc 1 (.lconst z) d cs Lc S h = some x) (hs : dq_os sv L xs h0 h Lc S) (Hk : ∀ (pc' : Nat) (Lc' : dm_L) (S' : List dm_V) (h' : dm_H), k pc' Lc' S' h' = some x → dq_os sv L xs h0 h' Lc' S' → dq_okx sv L xs h' x ∧ dq_Go p l e R s m args below meth c Q nL G base b u h0 ad0 pc' Lc' S' h') : dq_okx sv L xs h x ∧ dq_Go p l e R s m args below meth c Q nL G base b u h0 ad0 pc Lc S h := by
  obtain ⟨hx, hb, hml, hown, hts, hEv, hSt, hbs, hlocks, hntr⟩ := id C
  have hz : dm_in ((z : Nat) : Int) := by have := z.2; unfold dm_in; omega
  obtain ⟨h1, h2⟩ := Hk _ _ _ _ he (hs.to (dq_c (P := dm_vk L h) (show dm_vk L h (dJ ((z : Nat) : Int)) from hz) hs.sub))
  exact ⟨h1, fun ad ls H locs hL hW hS hE hab hau => lv_lconst hx hb hdg (by rw [← Int64.ofInt_eq_ofNat]) (h2 ad ls H locs hL hW hS hE hab hau)⟩
theorem dx_ldc {z q : Nat} (hd : d = [q]) (hq : dm_in (q : Int)) (hco : (Jvm.Cond.constant own z (Int32.ofInt (q : Int))).before args s = true) (C : dq_C p l s m args meth c own cc nL G base b L u xs) (hdg : decode cc pc = .ok (.ldc z, 2)) (he : dm_exec sv wrp dm_sh call k T pc 2 (.ldc z) d cs Lc S h = some x) (hs : dq_os sv L xs h0 h Lc S) (Hk : ∀ (pc' : Nat) (Lc' : dm_L) (S' : List dm_V) (h' : dm_H), k pc' Lc' S' h' = some x → dq_os sv L xs h0 h' Lc' S' → dq_okx sv L xs h' x ∧ dq_Go p l e R s m args below meth c Q nL G base b u h0 ad0 pc' Lc' S' h') : dq_okx sv L xs h x ∧ dq_Go p l e R s m args below meth c Q nL G base b u h0 ad0 pc Lc S h := by
  obtain ⟨hx, hb, hml, hown, hts, hEv, hSt, hbs, hlocks, hntr⟩ := id C
  subst hd
  obtain ⟨h1, h2⟩ := Hk _ _ _ _ he (hs.to (dq_c (P := dm_vk L h) hq hs.sub))
  exact ⟨h1, fun ad ls H locs hL hW hS hE hab hau => lv_ldc hx hb hown hco hdg (h2 ad ls H locs hL hW hS hE hab hau)⟩
theorem dx_ldc_w {z q : Nat} (hd : d = [q]) (hq : dm_in (q : Int)) (hco : (Jvm.Cond.constant own z (Int32.ofInt (q : Int))).before args s = true) (C : dq_C p l s m args meth c own cc nL G base b L u xs) (hdg : decode cc pc = .ok (.ldc_w z, 3)) (he : dm_exec sv wrp dm_sh call k T pc 3 (.ldc_w z) d cs Lc S h = some x) (hs : dq_os sv L xs h0 h Lc S) (Hk : ∀ (pc' : Nat) (Lc' : dm_L) (S' : List dm_V) (h' : dm_H), k pc' Lc' S' h' = some x → dq_os sv L xs h0 h' Lc' S' → dq_okx sv L xs h' x ∧ dq_Go p l e R s m args below meth c Q nL G base b u h0 ad0 pc' Lc' S' h') : dq_okx sv L xs h x ∧ dq_Go p l e R s m args below meth c Q nL G base b u h0 ad0 pc Lc S h := by
  obtain ⟨hx, hb, hml, hown, hts, hEv, hSt, hbs, hlocks, hntr⟩ := id C
  subst hd
  obtain ⟨h1, h2⟩ := Hk _ _ _ _ he (hs.to (dq_c (P := dm_vk L h) hq hs.sub))
  exact ⟨h1, fun ad ls H locs hL hW hS hE hab hau => lv_ldcw hx hb hown hco hdg (h2 ad ls H locs hL hW hS hE hab hau)⟩
theorem dx_iload {j : Nat} (C : dq_C p l s m args meth c own cc nL G base b L u xs) (hdg : decode cc pc = .ok (.iload j, 2)) (he : dm_exec sv wrp dm_sh call k T pc 2 (.iload j) d cs Lc S h = some x) (hs : dq_os sv L xs h0 h Lc S) (Hk : ∀ (pc' : Nat) (Lc' : dm_L) (S' : List dm_V) (h' : dm_H), k pc' Lc' S' h' = some x → dq_os sv L xs h0 h' Lc' S' → dq_okx sv L xs h' x ∧ dq_Go p l e R s m args below meth c Q nL G base b u h0 ad0 pc' Lc' S' h') : dq_okx sv L xs h x ∧ dq_Go p l e R s m args below meth c Q nL G base b u h0 ad0 pc Lc S h := by
  obtain ⟨hx, hb, hml, hown, hts, hEv, hSt, hbs, hlocks, hntr⟩ := id C
  obtain ⟨v, hv, he⟩ := di_geti he
  obtain ⟨h1, h2⟩ := Hk _ _ _ _ he (hs.to (dq_c (P := dm_vk L h) (hs.2.2.2.2 _ _ hv).1 hs.sub))
  exact ⟨h1, fun ad ls H locs hL hW hS hE hab hau => lv_iload hx hb hdg (hL.2.2.2 _ _ hv) (h2 ad ls H locs hL hW hS hE hab hau)⟩
theorem dx_iload_n {j : Fin 4} (C : dq_C p l s m args meth c own cc nL G base b L u xs) (hdg : decode cc pc = .ok (.iload_n j, 1)) (he : dm_exec sv wrp dm_sh call k T pc 1 (.iload_n j) d cs Lc S h = some x) (hs : dq_os sv L xs h0 h Lc S) (Hk : ∀ (pc' : Nat) (Lc' : dm_L) (S' : List dm_V) (h' : dm_H), k pc' Lc' S' h' = some x → dq_os sv L xs h0 h' Lc' S' → dq_okx sv L xs h' x ∧ dq_Go p l e R s m args below meth c Q nL G base b u h0 ad0 pc' Lc' S' h') : dq_okx sv L xs h x ∧ dq_Go p l e R s m args below meth c Q nL G base b u h0 ad0 pc Lc S h := by
  obtain ⟨hx, hb, hml, hown, hts, hEv, hSt, hbs, hlocks, hntr⟩ := id C
  obtain ⟨v, hv, he⟩ := di_geti he
  obtain ⟨h1, h2⟩ := Hk _ _ _ _ he (hs.to (dq_c (P := dm_vk L h) (hs.2.2.2.2 _ _ hv).1 hs.sub))
  exact ⟨h1, fun ad ls H locs hL hW hS hE hab hau => lv_iload_n hx hb hdg rfl (hL.2.2.2 _ _ hv) (h2 ad ls H locs hL hW hS hE hab hau)⟩
theorem dx_aload {j : Nat} (C : dq_C p l s m args meth c own cc nL G base b L u xs) (hdg : decode cc pc = .ok (.aload j, 2)) (he : dm_exec sv wrp dm_sh call k T pc 2 (.aload j) d cs Lc S h = some x) (hs : dq_os sv L xs h0 h Lc S) (Hk : ∀ (pc' : Nat) (Lc' : dm_L) (S' : List dm_V) (h' : dm_H), k pc' Lc' S' h' = some x → dq_os sv L xs h0 h' Lc' S' → dq_okx sv L xs h' x ∧ dq_Go p l e R s m args below meth c Q nL G base b u h0 ad0 pc' Lc' S' h') : dq_okx sv L xs h x ∧ dq_Go p l e R s m args below meth c Q nL G base b u h0 ad0 pc Lc S h := by
  obtain ⟨hx, hb, hml, hown, hts, hEv, hSt, hbs, hlocks, hntr⟩ := id C
  obtain ⟨t, q, a, hv, he⟩ := di_getr he
  obtain ⟨h1, h2⟩ := Hk _ _ _ _ he (hs.to (dq_c (P := dm_vk L h) (hs.2.2.2.2 _ _ hv).1 hs.sub))
  refine ⟨h1, fun ad ls H locs hL hW hS hE hab hau => ?_⟩
  have hg := hL.2.2.2 _ _ hv
  have h3 := h2 ad ls H locs hL hW hS hE hab hau
  simp only [List.map_cons, dm_tv, dm_rv] at hg h3
  split at h3
  · rename_i h0'
    rw [if_pos h0'] at hg
    exact lv_aloadN hx hb hdg hg h3
  · rename_i h0'
    rw [if_neg h0'] at hg
    exact lv_aload hx hb hdg hg h3
theorem dx_aload_n {j : Fin 4} (C : dq_C p l s m args meth c own cc nL G base b L u xs) (hdg : decode cc pc = .ok (.aload_n j, 1)) (he : dm_exec sv wrp dm_sh call k T pc 1 (.aload_n j) d cs Lc S h = some x) (hs : dq_os sv L xs h0 h Lc S) (Hk : ∀ (pc' : Nat) (Lc' : dm_L) (S' : List dm_V) (h' : dm_H), k pc' Lc' S' h' = some x → dq_os sv L xs h0 h' Lc' S' → dq_okx sv L xs h' x ∧ dq_Go p l e R s m args below meth c Q nL G base b u h0 ad0 pc' Lc' S' h') : dq_okx sv L xs h x ∧ dq_Go p l e R s m args below meth c Q nL G base b u h0 ad0 pc Lc S h := by
  obtain ⟨hx, hb, hml, hown, hts, hEv, hSt, hbs, hlocks, hntr⟩ := id C
  obtain ⟨t, q, a, hv, he⟩ := di_getr he
  obtain ⟨h1, h2⟩ := Hk _ _ _ _ he (hs.to (dq_c (P := dm_vk L h) (hs.2.2.2.2 _ _ hv).1 hs.sub))
  refine ⟨h1, fun ad ls H locs hL hW hS hE hab hau => ?_⟩
  have hg := hL.2.2.2 _ _ hv
  have h3 := h2 ad ls H locs hL hW hS hE hab hau
  simp only [List.map_cons, dm_tv, dm_rv] at hg h3
  split at h3
  · rename_i h0'
    rw [if_pos h0'] at hg
    exact lv_aload_nN hx hb hdg rfl hg h3
  · rename_i h0'
    rw [if_neg h0'] at hg
    exact lv_aload_n hx hb hdg rfl hg h3
set_option maxHeartbeats 400000 in
theorem dx_istore {j : Nat} (C : dq_C p l s m args meth c own cc nL G base b L u xs) (hdg : decode cc pc = .ok (.istore j, 2)) (he : dm_exec sv wrp dm_sh call k T pc 2 (.istore j) d cs Lc S h = some x) (hs : dq_os sv L xs h0 h Lc S) (Hk : ∀ (pc' : Nat) (Lc' : dm_L) (S' : List dm_V) (h' : dm_H), k pc' Lc' S' h' = some x → dq_os sv L xs h0 h' Lc' S' → dq_okx sv L xs h' x ∧ dq_Go p l e R s m args below meth c Q nL G base b u h0 ad0 pc' Lc' S' h') : dq_okx sv L xs h x ∧ dq_Go p l e R s m args below meth c Q nL G base b u h0 ad0 pc Lc S h := by
  obtain ⟨hx, hb, hml, hown, hts, hEv, hSt, hbs, hlocks, hntr⟩ := id C
  simp only [dm_exec] at he
  split at he
  case h_2 => cases he
  rename_i z S'
  obtain ⟨hj, he⟩ := di_put he
  obtain ⟨k1, k2⟩ := dq_h hs.sub
  obtain ⟨h1, h2⟩ := Hk _ _ _ _ he (hs.set (fun w hw => by cases hw; exact ⟨k1, trivial⟩) k2)
  exact ⟨h1, fun ad ls H locs hL hW hS hE hab hau => lv_istore hx hb hdg (dq_has hL) (by rw [← hL.2.1]; exact hj) rfl (fun ls' hl' => h2 ad ls' H locs (dq_stored (fun j v hv => (hs.2.2.2.2 j v hv).2) hL.2.1 rfl hl') hW hS hE hab hau)⟩
set_option maxHeartbeats 400000 in
theorem dx_istore_n {j : Fin 4} (C : dq_C p l s m args meth c own cc nL G base b L u xs) (hdg : decode cc pc = .ok (.istore_n j, 1)) (he : dm_exec sv wrp dm_sh call k T pc 1 (.istore_n j) d cs Lc S h = some x) (hs : dq_os sv L xs h0 h Lc S) (Hk : ∀ (pc' : Nat) (Lc' : dm_L) (S' : List dm_V) (h' : dm_H), k pc' Lc' S' h' = some x → dq_os sv L xs h0 h' Lc' S' → dq_okx sv L xs h' x ∧ dq_Go p l e R s m args below meth c Q nL G base b u h0 ad0 pc' Lc' S' h') : dq_okx sv L xs h x ∧ dq_Go p l e R s m args below meth c Q nL G base b u h0 ad0 pc Lc S h := by
  obtain ⟨hx, hb, hml, hown, hts, hEv, hSt, hbs, hlocks, hntr⟩ := id C
  simp only [dm_exec] at he
  split at he
  case h_2 => cases he
  rename_i z S'
  obtain ⟨hj, he⟩ := di_put he
  obtain ⟨k1, k2⟩ := dq_h hs.sub
  obtain ⟨h1, h2⟩ := Hk _ _ _ _ he (hs.set (fun w hw => by cases hw; exact ⟨k1, trivial⟩) k2)
  exact ⟨h1, fun ad ls H locs hL hW hS hE hab hau => lv_istore_n hx hb hdg rfl (dq_has hL) (by rw [← hL.2.1]; exact hj) rfl (fun ls' hl' => h2 ad ls' H locs (dq_stored (fun j v hv => (hs.2.2.2.2 j v hv).2) hL.2.1 rfl hl') hW hS hE hab hau)⟩
set_option maxHeartbeats 400000 in
theorem dx_astore {j : Nat} (C : dq_C p l s m args meth c own cc nL G base b L u xs) (hdg : decode cc pc = .ok (.astore j, 2)) (he : dm_exec sv wrp dm_sh call k T pc 2 (.astore j) d cs Lc S h = some x) (hs : dq_os sv L xs h0 h Lc S) (Hk : ∀ (pc' : Nat) (Lc' : dm_L) (S' : List dm_V) (h' : dm_H), k pc' Lc' S' h' = some x → dq_os sv L xs h0 h' Lc' S' → dq_okx sv L xs h' x ∧ dq_Go p l e R s m args below meth c Q nL G base b u h0 ad0 pc' Lc' S' h') : dq_okx sv L xs h x ∧ dq_Go p l e R s m args below meth c Q nL G base b u h0 ad0 pc Lc S h := by
  obtain ⟨hx, hb, hml, hown, hts, hEv, hSt, hbs, hlocks, hntr⟩ := id C
  simp only [dm_exec] at he
  split at he
  case h_2 => cases he
  rename_i r S'
  obtain ⟨hj, he⟩ := di_put he
  obtain ⟨k1, k2⟩ := dq_h hs.sub
  obtain ⟨h1, h2⟩ := Hk _ _ _ _ he (hs.set (fun w hw => by cases hw; exact ⟨k1, trivial⟩) k2)
  refine ⟨h1, fun ad ls H locs hL hW hS hE hab hau => ?_⟩
  have hst := fun (ls' : Array Slot) hl' => h2 ad ls' H locs (dq_stored (ls' := ls') (v := .inr (.inl r)) (fun j v hv => (hs.2.2.2.2 j v hv).2) hL.2.1 rfl hl') hW hS hE hab hau
  obtain ⟨t, q, a⟩ := r
  simp only [List.map_cons, dm_tv, dm_rv] at hst ⊢
  by_cases h0' : a = 0
  · rw [if_pos h0'] at hst ⊢
    exact lv_astoreN hx hb hdg (dq_has hL) (by rw [← hL.2.1]; exact hj) rfl hst
  · rw [if_neg h0'] at hst ⊢
    exact lv_astore hx hb hdg (dq_has hL) (by rw [← hL.2.1]; exact hj) rfl hst
set_option maxHeartbeats 400000 in
theorem dx_astore_n {j : Fin 4} (C : dq_C p l s m args meth c own cc nL G base b L u xs) (hdg : decode cc pc = .ok (.astore_n j, 1)) (he : dm_exec sv wrp dm_sh call k T pc 1 (.astore_n j) d cs Lc S h = some x) (hs : dq_os sv L xs h0 h Lc S) (Hk : ∀ (pc' : Nat) (Lc' : dm_L) (S' : List dm_V) (h' : dm_H), k pc' Lc' S' h' = some x → dq_os sv L xs h0 h' Lc' S' → dq_okx sv L xs h' x ∧ dq_Go p l e R s m args below meth c Q nL G base b u h0 ad0 pc' Lc' S' h') : dq_okx sv L xs h x ∧ dq_Go p l e R s m args below meth c Q nL G base b u h0 ad0 pc Lc S h := by
  obtain ⟨hx, hb, hml, hown, hts, hEv, hSt, hbs, hlocks, hntr⟩ := id C
  simp only [dm_exec] at he
  split at he
  case h_2 => cases he
  rename_i r S'
  obtain ⟨hj, he⟩ := di_put he
  obtain ⟨k1, k2⟩ := dq_h hs.sub
  obtain ⟨h1, h2⟩ := Hk _ _ _ _ he (hs.set (fun w hw => by cases hw; exact ⟨k1, trivial⟩) k2)
  refine ⟨h1, fun ad ls H locs hL hW hS hE hab hau => ?_⟩
  have hst := fun (ls' : Array Slot) hl' => h2 ad ls' H locs (dq_stored (ls' := ls') (v := .inr (.inl r)) (fun j v hv => (hs.2.2.2.2 j v hv).2) hL.2.1 rfl hl') hW hS hE hab hau
  obtain ⟨t, q, a⟩ := r
  simp only [List.map_cons, dm_tv, dm_rv] at hst ⊢
  by_cases h0' : a = 0
  · rw [if_pos h0'] at hst ⊢
    exact lv_astore_nN hx hb hdg rfl (dq_has hL) (by rw [← hL.2.1]; exact hj) rfl hst
  · rw [if_neg h0'] at hst ⊢
    exact lv_astore_n hx hb hdg rfl (dq_has hL) (by rw [← hL.2.1]; exact hj) rfl hst
set_option maxHeartbeats 400000 in
theorem dx_iinc {j : Nat} {z : Int} (C : dq_C p l s m args meth c own cc nL G base b L u xs) (hdg : decode cc pc = .ok (.iinc j z, 3)) (he : dm_exec sv wrp dm_sh call k T pc 3 (.iinc j z) d cs Lc S h = some x) (hs : dq_os sv L xs h0 h Lc S) (Hk : ∀ (pc' : Nat) (Lc' : dm_L) (S' : List dm_V) (h' : dm_H), k pc' Lc' S' h' = some x → dq_os sv L xs h0 h' Lc' S' → dq_okx sv L xs h' x ∧ dq_Go p l e R s m args below meth c Q nL G base b u h0 ad0 pc' Lc' S' h') : dq_okx sv L xs h x ∧ dq_Go p l e R s m args below meth c Q nL G base b u h0 ad0 pc Lc S h := by
  obtain ⟨hx, hb, hml, hown, hts, hEv, hSt, hbs, hlocks, hntr⟩ := id C
  obtain ⟨v, hv, he⟩ := di_geti he
  obtain ⟨hz, he⟩ := di_ck he
  obtain ⟨hj, he⟩ := di_put he
  obtain ⟨h1, h2⟩ := Hk _ _ _ _ he (hs.set (fun w hw => by cases hw; exact ⟨hz, trivial⟩) hs.sub)
  refine ⟨h1, fun ad ls H locs hL hW hS hE hab hau => ?_⟩
  have hm : (j, Value.int (Int32.ofInt v)) ∈ dq_lv ad Lc := dq_lvm.mpr ⟨_, hv, rfl⟩
  obtain ⟨i9, h9⟩ := List.getElem?_of_mem hm
  exact lv_iinc hx hb hdg (dq_has hL) h9 (by rw [dn_add]) (by rw [← hL.2.1]; exact hj) rfl (fun ls' hl' => h2 ad ls' H locs (dq_stored (fun j v hv => (hs.2.2.2.2 j v hv).2) hL.2.1 rfl hl') hW hS hE hab hau)
theorem dx_pop  (C : dq_C p l s m args meth c own cc nL G base b L u xs) (hdg : decode cc pc = .ok (.pop, 1)) (he : dm_exec sv wrp dm_sh call k T pc 1 (.pop) d cs Lc S h = some x) (hs : dq_os sv L xs h0 h Lc S) (Hk : ∀ (pc' : Nat) (Lc' : dm_L) (S' : List dm_V) (h' : dm_H), k pc' Lc' S' h' = some x → dq_os sv L xs h0 h' Lc' S' → dq_okx sv L xs h' x ∧ dq_Go p l e R s m args below meth c Q nL G base b u h0 ad0 pc' Lc' S' h') : dq_okx sv L xs h x ∧ dq_Go p l e R s m args below meth c Q nL G base b u h0 ad0 pc Lc S h := by
  obtain ⟨hx, hb, hml, hown, hts, hEv, hSt, hbs, hlocks, hntr⟩ := id C
  simp only [dm_exec] at he
  split at he
  case h_3 => cases he
  · obtain ⟨k1, k2⟩ := dq_h hs.sub
    obtain ⟨h1, h2⟩ := Hk _ _ _ _ he (hs.to k2)
    exact ⟨h1, fun ad ls H locs hL hW hS hE hab hau => lv_pop hx hb hdg rfl (h2 ad ls H locs hL hW hS hE hab hau)⟩
  · obtain ⟨k1, k2⟩ := dq_h hs.sub
    obtain ⟨h1, h2⟩ := Hk _ _ _ _ he (hs.to k2)
    exact ⟨h1, fun ad ls H locs hL hW hS hE hab hau => lv_pop hx hb hdg (dq_cat (v := .inr (.inl _)) trivial) (h2 ad ls H locs hL hW hS hE hab hau)⟩
theorem dx_dup  (C : dq_C p l s m args meth c own cc nL G base b L u xs) (hdg : decode cc pc = .ok (.dup, 1)) (he : dm_exec sv wrp dm_sh call k T pc 1 (.dup) d cs Lc S h = some x) (hs : dq_os sv L xs h0 h Lc S) (Hk : ∀ (pc' : Nat) (Lc' : dm_L) (S' : List dm_V) (h' : dm_H), k pc' Lc' S' h' = some x → dq_os sv L xs h0 h' Lc' S' → dq_okx sv L xs h' x ∧ dq_Go p l e R s m args below meth c Q nL G base b u h0 ad0 pc' Lc' S' h') : dq_okx sv L xs h x ∧ dq_Go p l e R s m args below meth c Q nL G base b u h0 ad0 pc Lc S h := by
  obtain ⟨hx, hb, hml, hown, hts, hEv, hSt, hbs, hlocks, hntr⟩ := id C
  simp only [dm_exec] at he
  split at he
  case h_3 => cases he
  · obtain ⟨k1, k2⟩ := dq_h hs.sub
    obtain ⟨h1, h2⟩ := Hk _ _ _ _ he (hs.to (dq_c (P := dm_vk L h) k1 (dq_c (P := dm_vk L h) k1 k2)))
    exact ⟨h1, fun ad ls H locs hL hW hS hE hab hau => lv_dup hx hb hdg rfl (h2 ad ls H locs hL hW hS hE hab hau)⟩
  · obtain ⟨k1, k2⟩ := dq_h hs.sub
    obtain ⟨h1, h2⟩ := Hk _ _ _ _ he (hs.to (dq_c (P := dm_vk L h) k1 (dq_c (P := dm_vk L h) k1 k2)))
    exact ⟨h1, fun ad ls H locs hL hW hS hE hab hau => lv_dup hx hb hdg (dq_cat (v := .inr (.inl _)) trivial) (h2 ad ls H locs hL hW hS hE hab hau)⟩
theorem dx_dup2  (C : dq_C p l s m args meth c own cc nL G base b L u xs) (hdg : decode cc pc = .ok (.dup2, 1)) (he : dm_exec sv wrp dm_sh call k T pc 1 (.dup2) d cs Lc S h = some x) (hs : dq_os sv L xs h0 h Lc S) (Hk : ∀ (pc' : Nat) (Lc' : dm_L) (S' : List dm_V) (h' : dm_H), k pc' Lc' S' h' = some x → dq_os sv L xs h0 h' Lc' S' → dq_okx sv L xs h' x ∧ dq_Go p l e R s m args below meth c Q nL G base b u h0 ad0 pc' Lc' S' h') : dq_okx sv L xs h x ∧ dq_Go p l e R s m args below meth c Q nL G base b u h0 ad0 pc Lc S h := by
  obtain ⟨hx, hb, hml, hown, hts, hEv, hSt, hbs, hlocks, hntr⟩ := id C
  simp only [dm_exec] at he
  split at he
  case h_2 => cases he
  obtain ⟨k1, k2⟩ := dq_h hs.sub
  obtain ⟨k3, k4⟩ := dq_h k2
  obtain ⟨h1, h2⟩ := Hk _ _ _ _ he (hs.to (dq_c (P := dm_vk L h) k1 (dq_c (P := dm_vk L h) k3 (dq_c (P := dm_vk L h) k1 (dq_c (P := dm_vk L h) k3 k4)))))
  exact ⟨h1, fun ad ls H locs hL hW hS hE hab hau => lv_dup2_11 hx hb hdg rfl (dq_cat (v := .inr (.inl _)) trivial) (h2 ad ls H locs hL hW hS hE hab hau)⟩
theorem dx_iadd  (C : dq_C p l s m args meth c own cc nL G base b L u xs) (hdg : decode cc pc = .ok (.iadd, 1)) (he : dm_exec sv wrp dm_sh call k T pc 1 (.iadd) d cs Lc S h = some x) (hs : dq_os sv L xs h0 h Lc S) (Hk : ∀ (pc' : Nat) (Lc' : dm_L) (S' : List dm_V) (h' : dm_H), k pc' Lc' S' h' = some x → dq_os sv L xs h0 h' Lc' S' → dq_okx sv L xs h' x ∧ dq_Go p l e R s m args below meth c Q nL G base b u h0 ad0 pc' Lc' S' h') : dq_okx sv L xs h x ∧ dq_Go p l e R s m args below meth c Q nL G base b u h0 ad0 pc Lc S h := by
  obtain ⟨hx, hb, hml, hown, hts, hEv, hSt, hbs, hlocks, hntr⟩ := id C
  simp only [dm_exec] at he
  split at he
  · obtain ⟨a, a', S', hSe, hf⟩ := di_2 he
    clear he
    have he := hf
    clear hf
    subst hSe
    obtain ⟨k1, k2⟩ := dq_h hs.sub
    obtain ⟨k3, k4⟩ := dq_h k2
    obtain ⟨h1, h2⟩ := Hk _ _ _ _ he (hs.to (dq_c (P := dm_vk L h) (v := dI (dm_w (a + a'))) (dn_win _) k4))
    exact ⟨h1, fun ad ls H locs hL hW hS hE hab hau => lv_iadd hx hb hdg (by rw [dn_add, ← dn_w]; exact h2 ad ls H locs hL hW hS hE hab hau)⟩
  · obtain ⟨a, a', S', hSe, hf⟩ := di_2 he
    clear he
    have he := hf
    clear hf
    subst hSe
    obtain ⟨hz, he⟩ := di_ck he
    obtain ⟨k1, k2⟩ := dq_h hs.sub
    obtain ⟨k3, k4⟩ := dq_h k2
    obtain ⟨h1, h2⟩ := Hk _ _ _ _ he (hs.to (dq_c (P := dm_vk L h) hz k4))
    exact ⟨h1, fun ad ls H locs hL hW hS hE hab hau => lv_iadd hx hb hdg (by rw [dn_add]; exact h2 ad ls H locs hL hW hS hE hab hau)⟩
theorem dx_isub  (C : dq_C p l s m args meth c own cc nL G base b L u xs) (hdg : decode cc pc = .ok (.isub, 1)) (he : dm_exec sv wrp dm_sh call k T pc 1 (.isub) d cs Lc S h = some x) (hs : dq_os sv L xs h0 h Lc S) (Hk : ∀ (pc' : Nat) (Lc' : dm_L) (S' : List dm_V) (h' : dm_H), k pc' Lc' S' h' = some x → dq_os sv L xs h0 h' Lc' S' → dq_okx sv L xs h' x ∧ dq_Go p l e R s m args below meth c Q nL G base b u h0 ad0 pc' Lc' S' h') : dq_okx sv L xs h x ∧ dq_Go p l e R s m args below meth c Q nL G base b u h0 ad0 pc Lc S h := by
  obtain ⟨hx, hb, hml, hown, hts, hEv, hSt, hbs, hlocks, hntr⟩ := id C
  obtain ⟨a, a', S', hSe, hf⟩ := di_2 he
  clear he
  have he := hf
  clear hf
  subst hSe
  obtain ⟨hz, he⟩ := di_ck he
  obtain ⟨k1, k2⟩ := dq_h hs.sub
  obtain ⟨k3, k4⟩ := dq_h k2
  obtain ⟨h1, h2⟩ := Hk _ _ _ _ he (hs.to (dq_c (P := dm_vk L h) hz k4))
  exact ⟨h1, fun ad ls H locs hL hW hS hE hab hau => lv_isub hx hb hdg (by rw [dn_sub]; exact h2 ad ls H locs hL hW hS hE hab hau)⟩
theorem dx_imul  (C : dq_C p l s m args meth c own cc nL G base b L u xs) (hdg : decode cc pc = .ok (.imul, 1)) (he : dm_exec sv wrp dm_sh call k T pc 1 (.imul) d cs Lc S h = some x) (hs : dq_os sv L xs h0 h Lc S) (Hk : ∀ (pc' : Nat) (Lc' : dm_L) (S' : List dm_V) (h' : dm_H), k pc' Lc' S' h' = some x → dq_os sv L xs h0 h' Lc' S' → dq_okx sv L xs h' x ∧ dq_Go p l e R s m args below meth c Q nL G base b u h0 ad0 pc' Lc' S' h') : dq_okx sv L xs h x ∧ dq_Go p l e R s m args below meth c Q nL G base b u h0 ad0 pc Lc S h := by
  obtain ⟨hx, hb, hml, hown, hts, hEv, hSt, hbs, hlocks, hntr⟩ := id C
  simp only [dm_exec] at he
  split at he
  · obtain ⟨a, a', S', hSe, hf⟩ := di_2 he
    clear he
    have he := hf
    clear hf
    subst hSe
    obtain ⟨k1, k2⟩ := dq_h hs.sub
    obtain ⟨k3, k4⟩ := dq_h k2
    obtain ⟨h1, h2⟩ := Hk _ _ _ _ he (hs.to (dq_c (P := dm_vk L h) (v := dI (dm_w (a * a'))) (dn_win _) k4))
    exact ⟨h1, fun ad ls H locs hL hW hS hE hab hau => lv_imul hx hb hdg (by rw [dn_mul, ← dn_w]; exact h2 ad ls H locs hL hW hS hE hab hau)⟩
  · obtain ⟨a, a', S', hSe, hf⟩ := di_2 he
    clear he
    have he := hf
    clear hf
    subst hSe
    obtain ⟨hz, he⟩ := di_ck he
    obtain ⟨k1, k2⟩ := dq_h hs.sub
    obtain ⟨k3, k4⟩ := dq_h k2
    obtain ⟨h1, h2⟩ := Hk _ _ _ _ he (hs.to (dq_c (P := dm_vk L h) hz k4))
    exact ⟨h1, fun ad ls H locs hL hW hS hE hab hau => lv_imul hx hb hdg (by rw [dn_mul]; exact h2 ad ls H locs hL hW hS hE hab hau)⟩
theorem dx_idiv  (C : dq_C p l s m args meth c own cc nL G base b L u xs) (hdg : decode cc pc = .ok (.idiv, 1)) (he : dm_exec sv wrp dm_sh call k T pc 1 (.idiv) d cs Lc S h = some x) (hs : dq_os sv L xs h0 h Lc S) (Hk : ∀ (pc' : Nat) (Lc' : dm_L) (S' : List dm_V) (h' : dm_H), k pc' Lc' S' h' = some x → dq_os sv L xs h0 h' Lc' S' → dq_okx sv L xs h' x ∧ dq_Go p l e R s m args below meth c Q nL G base b u h0 ad0 pc' Lc' S' h') : dq_okx sv L xs h x ∧ dq_Go p l e R s m args below meth c Q nL G base b u h0 ad0 pc Lc S h := by
  obtain ⟨hx, hb, hml, hown, hts, hEv, hSt, hbs, hlocks, hntr⟩ := id C
  obtain ⟨a, a', S', hSe, hf⟩ := di_2 he
  clear he
  have he := hf
  clear hf
  subst hSe
  split at he
  case isFalse => cases he
  rename_i hc
  obtain ⟨k1, k2⟩ := dq_h hs.sub
  obtain ⟨k3, k4⟩ := dq_h k2
  obtain ⟨e1, e2⟩ := dn_div k3 k1 hc.1 hc.2
  obtain ⟨h1, h2⟩ := Hk _ _ _ _ he (hs.to (dq_c (P := dm_vk L h) e2 k4))
  exact ⟨h1, fun ad ls H locs hL hW hS hE hab hau => lv_idiv hx hb hdg (by rw [show (0 : Int32) = Int32.ofInt 0 from rfl, dn_inj k1 dn_0]; omega) (by rw [e1]; exact h2 ad ls H locs hL hW hS hE hab hau)⟩
theorem dx_irem  (C : dq_C p l s m args meth c own cc nL G base b L u xs) (hdg : decode cc pc = .ok (.irem, 1)) (he : dm_exec sv wrp dm_sh call k T pc 1 (.irem) d cs Lc S h = some x) (hs : dq_os sv L xs h0 h Lc S) (Hk : ∀ (pc' : Nat) (Lc' : dm_L) (S' : List dm_V) (h' : dm_H), k pc' Lc' S' h' = some x → dq_os sv L xs h0 h' Lc' S' → dq_okx sv L xs h' x ∧ dq_Go p l e R s m args below meth c Q nL G base b u h0 ad0 pc' Lc' S' h') : dq_okx sv L xs h x ∧ dq_Go p l e R s m args below meth c Q nL G base b u h0 ad0 pc Lc S h := by
  obtain ⟨hx, hb, hml, hown, hts, hEv, hSt, hbs, hlocks, hntr⟩ := id C
  obtain ⟨a, a', S', hSe, hf⟩ := di_2 he
  clear he
  have he := hf
  clear hf
  subst hSe
  split at he
  case isFalse => cases he
  rename_i hc
  obtain ⟨k1, k2⟩ := dq_h hs.sub
  obtain ⟨k3, k4⟩ := dq_h k2
  obtain ⟨e1, e2⟩ := dn_rem k3 k1 hc.1 hc.2
  obtain ⟨h1, h2⟩ := Hk _ _ _ _ he (hs.to (dq_c (P := dm_vk L h) e2 k4))
  exact ⟨h1, fun ad ls H locs hL hW hS hE hab hau => lv_irem hx hb hdg (by rw [show (0 : Int32) = Int32.ofInt 0 from rfl, dn_inj k1 dn_0]; omega) (by rw [e1]; exact h2 ad ls H locs hL hW hS hE hab hau)⟩
theorem dx_iand  (C : dq_C p l s m args meth c own cc nL G base b L u xs) (hdg : decode cc pc = .ok (.iand, 1)) (he : dm_exec sv wrp dm_sh call k T pc 1 (.iand) d cs Lc S h = some x) (hs : dq_os sv L xs h0 h Lc S) (Hk : ∀ (pc' : Nat) (Lc' : dm_L) (S' : List dm_V) (h' : dm_H), k pc' Lc' S' h' = some x → dq_os sv L xs h0 h' Lc' S' → dq_okx sv L xs h' x ∧ dq_Go p l e R s m args below meth c Q nL G base b u h0 ad0 pc' Lc' S' h') : dq_okx sv L xs h x ∧ dq_Go p l e R s m args below meth c Q nL G base b u h0 ad0 pc Lc S h := by
  obtain ⟨hx, hb, hml, hown, hts, hEv, hSt, hbs, hlocks, hntr⟩ := id C
  obtain ⟨a, a', S', hSe, hf⟩ := di_2 he
  clear he
  have he := hf
  clear hf
  subst hSe
  obtain ⟨k1, k2⟩ := dq_h hs.sub
  obtain ⟨k3, k4⟩ := dq_h k2
  obtain ⟨h1, h2⟩ := Hk _ _ _ _ he (hs.to (dq_c (P := dm_vk L h) (v := dI (dm_and a a')) (dn_in32 _) k4))
  refine ⟨h1, fun ad ls H locs hL hW hS hE hab hau => lv_iand hx hb hdg ?_⟩
  have h3 := h2 ad ls H locs hL hW hS hE hab hau
  simp only [List.map_cons, dm_tv, dm_and, Int32.ofInt_toInt] at h3
  exact h3
theorem dx_ior  (C : dq_C p l s m args meth c own cc nL G base b L u xs) (hdg : decode cc pc = .ok (.ior, 1)) (he : dm_exec sv wrp dm_sh call k T pc 1 (.ior) d cs Lc S h = some x) (hs : dq_os sv L xs h0 h Lc S) (Hk : ∀ (pc' : Nat) (Lc' : dm_L) (S' : List dm_V) (h' : dm_H), k pc' Lc' S' h' = some x → dq_os sv L xs h0 h' Lc' S' → dq_okx sv L xs h' x ∧ dq_Go p l e R s m args below meth c Q nL G base b u h0 ad0 pc' Lc' S' h') : dq_okx sv L xs h x ∧ dq_Go p l e R s m args below meth c Q nL G base b u h0 ad0 pc Lc S h := by
  obtain ⟨hx, hb, hml, hown, hts, hEv, hSt, hbs, hlocks, hntr⟩ := id C
  obtain ⟨a, a', S', hSe, hf⟩ := di_2 he
  clear he
  have he := hf
  clear hf
  subst hSe
  obtain ⟨k1, k2⟩ := dq_h hs.sub
  obtain ⟨k3, k4⟩ := dq_h k2
  obtain ⟨h1, h2⟩ := Hk _ _ _ _ he (hs.to (dq_c (P := dm_vk L h) (v := dI (dm_or a a')) (dn_in32 _) k4))
  refine ⟨h1, fun ad ls H locs hL hW hS hE hab hau => lv_ior hx hb hdg ?_⟩
  have h3 := h2 ad ls H locs hL hW hS hE hab hau
  simp only [List.map_cons, dm_tv, dm_or, Int32.ofInt_toInt] at h3
  exact h3
theorem dx_ixor  (C : dq_C p l s m args meth c own cc nL G base b L u xs) (hdg : decode cc pc = .ok (.ixor, 1)) (he : dm_exec sv wrp dm_sh call k T pc 1 (.ixor) d cs Lc S h = some x) (hs : dq_os sv L xs h0 h Lc S) (Hk : ∀ (pc' : Nat) (Lc' : dm_L) (S' : List dm_V) (h' : dm_H), k pc' Lc' S' h' = some x → dq_os sv L xs h0 h' Lc' S' → dq_okx sv L xs h' x ∧ dq_Go p l e R s m args below meth c Q nL G base b u h0 ad0 pc' Lc' S' h') : dq_okx sv L xs h x ∧ dq_Go p l e R s m args below meth c Q nL G base b u h0 ad0 pc Lc S h := by
  obtain ⟨hx, hb, hml, hown, hts, hEv, hSt, hbs, hlocks, hntr⟩ := id C
  obtain ⟨a, a', S', hSe, hf⟩ := di_2 he
  clear he
  have he := hf
  clear hf
  subst hSe
  obtain ⟨k1, k2⟩ := dq_h hs.sub
  obtain ⟨k3, k4⟩ := dq_h k2
  obtain ⟨h1, h2⟩ := Hk _ _ _ _ he (hs.to (dq_c (P := dm_vk L h) (v := dI (dm_xor a a')) (dn_in32 _) k4))
  refine ⟨h1, fun ad ls H locs hL hW hS hE hab hau => lv_ixor hx hb hdg ?_⟩
  have h3 := h2 ad ls H locs hL hW hS hE hab hau
  simp only [List.map_cons, dm_tv, dm_xor, Int32.ofInt_toInt] at h3
  exact h3
theorem dx_ishl  (C : dq_C p l s m args meth c own cc nL G base b L u xs) (hdg : decode cc pc = .ok (.ishl, 1)) (he : dm_exec sv wrp dm_sh call k T pc 1 (.ishl) d cs Lc S h = some x) (hs : dq_os sv L xs h0 h Lc S) (Hk : ∀ (pc' : Nat) (Lc' : dm_L) (S' : List dm_V) (h' : dm_H), k pc' Lc' S' h' = some x → dq_os sv L xs h0 h' Lc' S' → dq_okx sv L xs h' x ∧ dq_Go p l e R s m args below meth c Q nL G base b u h0 ad0 pc' Lc' S' h') : dq_okx sv L xs h x ∧ dq_Go p l e R s m args below meth c Q nL G base b u h0 ad0 pc Lc S h := by
  obtain ⟨hx, hb, hml, hown, hts, hEv, hSt, hbs, hlocks, hntr⟩ := id C
  obtain ⟨a, a', S', hSe, hf⟩ := di_2 he
  clear he
  have he := hf
  clear hf
  subst hSe
  obtain ⟨k1, k2⟩ := dq_h hs.sub
  obtain ⟨k3, k4⟩ := dq_h k2
  obtain ⟨h1, h2⟩ := Hk _ _ _ _ he (hs.to (dq_c (P := dm_vk L h) (v := dI (dm_shl a a')) (dn_in32 _) k4))
  refine ⟨h1, fun ad ls H locs hL hW hS hE hab hau => lv_ishl hx hb hdg ?_⟩
  have h3 := h2 ad ls H locs hL hW hS hE hab hau
  simp only [List.map_cons, dm_tv, dm_shl, Int32.ofInt_toInt] at h3
  exact h3
theorem dx_ishr  (C : dq_C p l s m args meth c own cc nL G base b L u xs) (hdg : decode cc pc = .ok (.ishr, 1)) (he : dm_exec sv wrp dm_sh call k T pc 1 (.ishr) d cs Lc S h = some x) (hs : dq_os sv L xs h0 h Lc S) (Hk : ∀ (pc' : Nat) (Lc' : dm_L) (S' : List dm_V) (h' : dm_H), k pc' Lc' S' h' = some x → dq_os sv L xs h0 h' Lc' S' → dq_okx sv L xs h' x ∧ dq_Go p l e R s m args below meth c Q nL G base b u h0 ad0 pc' Lc' S' h') : dq_okx sv L xs h x ∧ dq_Go p l e R s m args below meth c Q nL G base b u h0 ad0 pc Lc S h := by
  obtain ⟨hx, hb, hml, hown, hts, hEv, hSt, hbs, hlocks, hntr⟩ := id C
  obtain ⟨a, a', S', hSe, hf⟩ := di_2 he
  clear he
  have he := hf
  clear hf
  subst hSe
  obtain ⟨k1, k2⟩ := dq_h hs.sub
  obtain ⟨k3, k4⟩ := dq_h k2
  obtain ⟨h1, h2⟩ := Hk _ _ _ _ he (hs.to (dq_c (P := dm_vk L h) (v := dI (dm_shr a a')) (dn_in32 _) k4))
  refine ⟨h1, fun ad ls H locs hL hW hS hE hab hau => lv_ishr hx hb hdg ?_⟩
  have h3 := h2 ad ls H locs hL hW hS hE hab hau
  simp only [List.map_cons, dm_tv, dm_shr, Int32.ofInt_toInt] at h3
  exact h3
theorem dx_i2l  (C : dq_C p l s m args meth c own cc nL G base b L u xs) (hdg : decode cc pc = .ok (.i2l, 1)) (he : dm_exec sv wrp dm_sh call k T pc 1 (.i2l) d cs Lc S h = some x) (hs : dq_os sv L xs h0 h Lc S) (Hk : ∀ (pc' : Nat) (Lc' : dm_L) (S' : List dm_V) (h' : dm_H), k pc' Lc' S' h' = some x → dq_os sv L xs h0 h' Lc' S' → dq_okx sv L xs h' x ∧ dq_Go p l e R s m args below meth c Q nL G base b u h0 ad0 pc' Lc' S' h') : dq_okx sv L xs h x ∧ dq_Go p l e R s m args below meth c Q nL G base b u h0 ad0 pc Lc S h := by
  obtain ⟨hx, hb, hml, hown, hts, hEv, hSt, hbs, hlocks, hntr⟩ := id C
  obtain ⟨a, S', hSe, hf⟩ := di_1 he
  clear he
  have he := hf
  clear hf
  subst hSe
  obtain ⟨k1, k2⟩ := dq_h hs.sub
  obtain ⟨h1, h2⟩ := Hk _ _ _ _ he (hs.to (dq_c (P := dm_vk L h) (v := dJ a) k1 k2))
  exact ⟨h1, fun ad ls H locs hL hW hS hE hab hau => lv_i2l hx hb hdg (dn_l k1) (h2 ad ls H locs hL hW hS hE hab hau)⟩
theorem dx_lcmp  (C : dq_C p l s m args meth c own cc nL G base b L u xs) (hdg : decode cc pc = .ok (.lcmp, 1)) (he : dm_exec sv wrp dm_sh call k T pc 1 (.lcmp) d cs Lc S h = some x) (hs : dq_os sv L xs h0 h Lc S) (Hk : ∀ (pc' : Nat) (Lc' : dm_L) (S' : List dm_V) (h' : dm_H), k pc' Lc' S' h' = some x → dq_os sv L xs h0 h' Lc' S' → dq_okx sv L xs h' x ∧ dq_Go p l e R s m args below meth c Q nL G base b u h0 ad0 pc' Lc' S' h') : dq_okx sv L xs h x ∧ dq_Go p l e R s m args below meth c Q nL G base b u h0 ad0 pc Lc S h := by
  obtain ⟨hx, hb, hml, hown, hts, hEv, hSt, hbs, hlocks, hntr⟩ := id C
  simp only [dm_exec] at he
  split at he
  case h_2 => cases he
  rename_i a' a S'
  obtain ⟨k1, k2⟩ := dq_h hs.sub
  obtain ⟨k3, k4⟩ := dq_h k2
  obtain ⟨h1, h2⟩ := Hk _ _ _ _ he (hs.to (dq_c (P := dm_vk L h) (v := dI _) dn_lcin k4))
  exact ⟨h1, fun ad ls H locs hL hW hS hE hab hau => W.lcmp hx hb hdg (by rw [dn_lcmp k3 k1]; exact h2 ad ls H locs hL hW hS hE hab hau)⟩
theorem dq_to {pc : Nat} {off : Int} (h : 0 ≤ (pc : Int) + off) : (pc : Int) + off = (dm_to pc off : Nat) := (Int.toNat_of_nonneg h).symm
theorem dx_if_icmp {cd : Jvm.ClassFile.Cond} {off : Int} (hoff : 0 ≤ (pc : Int) + off) (C : dq_C p l s m args meth c own cc nL G base b L u xs) (hdg : decode cc pc = .ok (.if_icmp cd off, 3)) (he : dm_exec sv wrp dm_sh call k T pc 3 (.if_icmp cd off) d cs Lc S h = some x) (hs : dq_os sv L xs h0 h Lc S) (Hk : ∀ (pc' : Nat) (Lc' : dm_L) (S' : List dm_V) (h' : dm_H), k pc' Lc' S' h' = some x → dq_os sv L xs h0 h' Lc' S' → dq_okx sv L xs h' x ∧ dq_Go p l e R s m args below meth c Q nL G base b u h0 ad0 pc' Lc' S' h') : dq_okx sv L xs h x ∧ dq_Go p l e R s m args below meth c Q nL G base b u h0 ad0 pc Lc S h := by
  obtain ⟨hx, hb, hml, hown, hts, hEv, hSt, hbs, hlocks, hntr⟩ := id C
  obtain ⟨a, a', S', hSe, hf⟩ := di_2 he
  clear he
  have he := hf
  clear hf
  subst hSe
  obtain ⟨k1, k2⟩ := dq_h hs.sub
  obtain ⟨k3, k4⟩ := dq_h k2
  cases cd
  · simp only [dm_cmp] at he
    split at he
    · rename_i hc
      obtain ⟨h1, h2⟩ := Hk _ _ _ _ he (hs.to k4)
      exact ⟨h1, fun ad ls H locs hL hW hS hE hab hau => lv_icmp_eq (tgt := dm_to pc off) hx hb hdg (dq_to hoff) (fun _ => h2 ad ls H locs hL hW hS hE hab hau) (fun hn => absurd ((dn_inj k3 k1).mpr hc) hn)⟩
    · rename_i hc
      obtain ⟨h1, h2⟩ := Hk _ _ _ _ he (hs.to k4)
      exact ⟨h1, fun ad ls H locs hL hW hS hE hab hau => lv_icmp_eq (tgt := dm_to pc off) hx hb hdg (dq_to hoff) (fun hn => absurd hn (fun q => hc ((dn_inj k3 k1).mp q))) (fun _ => h2 ad ls H locs hL hW hS hE hab hau)⟩
  · simp only [dm_cmp] at he
    split at he
    · rename_i hc
      obtain ⟨h1, h2⟩ := Hk _ _ _ _ he (hs.to k4)
      exact ⟨h1, fun ad ls H locs hL hW hS hE hab hau => lv_icmp_ne (tgt := dm_to pc off) hx hb hdg (dq_to hoff) (fun hn => absurd hn (fun q => q ((dn_inj k3 k1).mpr hc))) (fun _ => h2 ad ls H locs hL hW hS hE hab hau)⟩
    · rename_i hc
      obtain ⟨h1, h2⟩ := Hk _ _ _ _ he (hs.to k4)
      exact ⟨h1, fun ad ls H locs hL hW hS hE hab hau => lv_icmp_ne (tgt := dm_to pc off) hx hb hdg (dq_to hoff) (fun _ => h2 ad ls H locs hL hW hS hE hab hau) (fun hn => absurd hn (fun q => hc ((dn_inj k3 k1).mp q)))⟩
  · simp only [dm_cmp] at he
    split at he
    · rename_i hc
      obtain ⟨h1, h2⟩ := Hk _ _ _ _ he (hs.to k4)
      exact ⟨h1, fun ad ls H locs hL hW hS hE hab hau => lv_icmp_lt (tgt := dm_to pc off) hx hb hdg (dq_to hoff) (fun _ => h2 ad ls H locs hL hW hS hE hab hau) (fun hn => absurd ((dn_lt k3 k1).mpr hc) hn)⟩
    · rename_i hc
      obtain ⟨h1, h2⟩ := Hk _ _ _ _ he (hs.to k4)
      exact ⟨h1, fun ad ls H locs hL hW hS hE hab hau => lv_icmp_lt (tgt := dm_to pc off) hx hb hdg (dq_to hoff) (fun hn => absurd hn (fun q => hc ((dn_lt k3 k1).mp q))) (fun _ => h2 ad ls H locs hL hW hS hE hab hau)⟩
  · simp only [dm_cmp] at he
    split at he
    · rename_i hc
      obtain ⟨h1, h2⟩ := Hk _ _ _ _ he (hs.to k4)
      exact ⟨h1, fun ad ls H locs hL hW hS hE hab hau => lv_icmp_ge (tgt := dm_to pc off) hx hb hdg (dq_to hoff) (fun hn => absurd hn (fun q => by have := (dn_le k1 k3).mp q; omega)) (fun _ => h2 ad ls H locs hL hW hS hE hab hau)⟩
    · rename_i hc
      obtain ⟨h1, h2⟩ := Hk _ _ _ _ he (hs.to k4)
      exact ⟨h1, fun ad ls H locs hL hW hS hE hab hau => lv_icmp_ge (tgt := dm_to pc off) hx hb hdg (dq_to hoff) (fun _ => h2 ad ls H locs hL hW hS hE hab hau) (fun hn => absurd ((dn_le k1 k3).mpr (by omega)) hn)⟩
  · simp only [dm_cmp] at he
    split at he
    · rename_i hc
      obtain ⟨h1, h2⟩ := Hk _ _ _ _ he (hs.to k4)
      exact ⟨h1, fun ad ls H locs hL hW hS hE hab hau => lv_icmp_gt (tgt := dm_to pc off) hx hb hdg (dq_to hoff) (fun _ => h2 ad ls H locs hL hW hS hE hab hau) (fun hn => absurd ((dn_lt k1 k3).mpr hc) hn)⟩
    · rename_i hc
      obtain ⟨h1, h2⟩ := Hk _ _ _ _ he (hs.to k4)
      exact ⟨h1, fun ad ls H locs hL hW hS hE hab hau => lv_icmp_gt (tgt := dm_to pc off) hx hb hdg (dq_to hoff) (fun hn => absurd hn (fun q => hc ((dn_lt k1 k3).mp q))) (fun _ => h2 ad ls H locs hL hW hS hE hab hau)⟩
  · simp only [dm_cmp] at he
    split at he
    · rename_i hc
      obtain ⟨h1, h2⟩ := Hk _ _ _ _ he (hs.to k4)
      exact ⟨h1, fun ad ls H locs hL hW hS hE hab hau => lv_icmp_le (tgt := dm_to pc off) hx hb hdg (dq_to hoff) (fun hn => absurd hn (fun q => by have := (dn_le k3 k1).mp q; omega)) (fun _ => h2 ad ls H locs hL hW hS hE hab hau)⟩
    · rename_i hc
      obtain ⟨h1, h2⟩ := Hk _ _ _ _ he (hs.to k4)
      exact ⟨h1, fun ad ls H locs hL hW hS hE hab hau => lv_icmp_le (tgt := dm_to pc off) hx hb hdg (dq_to hoff) (fun _ => h2 ad ls H locs hL hW hS hE hab hau) (fun hn => absurd ((dn_le k3 k1).mpr (by omega)) hn)⟩
theorem dx_ifCond {cd : Jvm.ClassFile.Cond} {off : Int} (hoff : 0 ≤ (pc : Int) + off) (C : dq_C p l s m args meth c own cc nL G base b L u xs) (hdg : decode cc pc = .ok (.ifCond cd off, 3)) (he : dm_exec sv wrp dm_sh call k T pc 3 (.ifCond cd off) d cs Lc S h = some x) (hs : dq_os sv L xs h0 h Lc S) (Hk : ∀ (pc' : Nat) (Lc' : dm_L) (S' : List dm_V) (h' : dm_H), k pc' Lc' S' h' = some x → dq_os sv L xs h0 h' Lc' S' → dq_okx sv L xs h' x ∧ dq_Go p l e R s m args below meth c Q nL G base b u h0 ad0 pc' Lc' S' h') : dq_okx sv L xs h x ∧ dq_Go p l e R s m args below meth c Q nL G base b u h0 ad0 pc Lc S h := by
  obtain ⟨hx, hb, hml, hown, hts, hEv, hSt, hbs, hlocks, hntr⟩ := id C
  obtain ⟨a, S', hSe, hf⟩ := di_1 he
  clear he
  have he := hf
  clear hf
  subst hSe
  obtain ⟨k3, k4⟩ := dq_h hs.sub
  cases cd
  · simp only [dm_cmp] at he
    split at he
    · rename_i hc
      obtain ⟨h1, h2⟩ := Hk _ _ _ _ he (hs.to k4)
      exact ⟨h1, fun ad ls H locs hL hW hS hE hab hau => lv_if_eq (tgt := dm_to pc off) hx hb hdg (dq_to hoff) (fun _ => h2 ad ls H locs hL hW hS hE hab hau) (fun hn => absurd ((dn_inj k3 dn_0).mpr hc) hn)⟩
    · rename_i hc
      obtain ⟨h1, h2⟩ := Hk _ _ _ _ he (hs.to k4)
      exact ⟨h1, fun ad ls H locs hL hW hS hE hab hau => lv_if_eq (tgt := dm_to pc off) hx hb hdg (dq_to hoff) (fun hn => absurd hn (fun q => hc ((dn_inj k3 dn_0).mp q))) (fun _ => h2 ad ls H locs hL hW hS hE hab hau)⟩
  · simp only [dm_cmp] at he
    split at he
    · rename_i hc
      obtain ⟨h1, h2⟩ := Hk _ _ _ _ he (hs.to k4)
      exact ⟨h1, fun ad ls H locs hL hW hS hE hab hau => lv_if_ne (tgt := dm_to pc off) hx hb hdg (dq_to hoff) (fun hn => absurd hn (fun q => q ((dn_inj k3 dn_0).mpr hc))) (fun _ => h2 ad ls H locs hL hW hS hE hab hau)⟩
    · rename_i hc
      obtain ⟨h1, h2⟩ := Hk _ _ _ _ he (hs.to k4)
      exact ⟨h1, fun ad ls H locs hL hW hS hE hab hau => lv_if_ne (tgt := dm_to pc off) hx hb hdg (dq_to hoff) (fun _ => h2 ad ls H locs hL hW hS hE hab hau) (fun hn => absurd hn (fun q => hc ((dn_inj k3 dn_0).mp q)))⟩
  · simp only [dm_cmp] at he
    split at he
    · rename_i hc
      obtain ⟨h1, h2⟩ := Hk _ _ _ _ he (hs.to k4)
      exact ⟨h1, fun ad ls H locs hL hW hS hE hab hau => lv_if_lt (tgt := dm_to pc off) hx hb hdg (dq_to hoff) (fun _ => h2 ad ls H locs hL hW hS hE hab hau) (fun hn => absurd ((dn_lt k3 dn_0).mpr hc) hn)⟩
    · rename_i hc
      obtain ⟨h1, h2⟩ := Hk _ _ _ _ he (hs.to k4)
      exact ⟨h1, fun ad ls H locs hL hW hS hE hab hau => lv_if_lt (tgt := dm_to pc off) hx hb hdg (dq_to hoff) (fun hn => absurd hn (fun q => hc ((dn_lt k3 dn_0).mp q))) (fun _ => h2 ad ls H locs hL hW hS hE hab hau)⟩
  · simp only [dm_cmp] at he
    split at he
    · rename_i hc
      obtain ⟨h1, h2⟩ := Hk _ _ _ _ he (hs.to k4)
      exact ⟨h1, fun ad ls H locs hL hW hS hE hab hau => lv_if_ge (tgt := dm_to pc off) hx hb hdg (dq_to hoff) (fun hn => absurd hn (fun q => by have := (dn_le dn_0 k3).mp q; omega)) (fun _ => h2 ad ls H locs hL hW hS hE hab hau)⟩
    · rename_i hc
      obtain ⟨h1, h2⟩ := Hk _ _ _ _ he (hs.to k4)
      exact ⟨h1, fun ad ls H locs hL hW hS hE hab hau => lv_if_ge (tgt := dm_to pc off) hx hb hdg (dq_to hoff) (fun _ => h2 ad ls H locs hL hW hS hE hab hau) (fun hn => absurd ((dn_le dn_0 k3).mpr (by omega)) hn)⟩
  · simp only [dm_cmp] at he
    split at he
    · rename_i hc
      obtain ⟨h1, h2⟩ := Hk _ _ _ _ he (hs.to k4)
      exact ⟨h1, fun ad ls H locs hL hW hS hE hab hau => lv_if_gt (tgt := dm_to pc off) hx hb hdg (dq_to hoff) (fun _ => h2 ad ls H locs hL hW hS hE hab hau) (fun hn => absurd ((dn_lt dn_0 k3).mpr hc) hn)⟩
    · rename_i hc
      obtain ⟨h1, h2⟩ := Hk _ _ _ _ he (hs.to k4)
      exact ⟨h1, fun ad ls H locs hL hW hS hE hab hau => lv_if_gt (tgt := dm_to pc off) hx hb hdg (dq_to hoff) (fun hn => absurd hn (fun q => hc ((dn_lt dn_0 k3).mp q))) (fun _ => h2 ad ls H locs hL hW hS hE hab hau)⟩
  · simp only [dm_cmp] at he
    split at he
    · rename_i hc
      obtain ⟨h1, h2⟩ := Hk _ _ _ _ he (hs.to k4)
      exact ⟨h1, fun ad ls H locs hL hW hS hE hab hau => lv_if_le (tgt := dm_to pc off) hx hb hdg (dq_to hoff) (fun hn => absurd hn (fun q => by have := (dn_le k3 dn_0).mp q; omega)) (fun _ => h2 ad ls H locs hL hW hS hE hab hau)⟩
    · rename_i hc
      obtain ⟨h1, h2⟩ := Hk _ _ _ _ he (hs.to k4)
      exact ⟨h1, fun ad ls H locs hL hW hS hE hab hau => lv_if_le (tgt := dm_to pc off) hx hb hdg (dq_to hoff) (fun _ => h2 ad ls H locs hL hW hS hE hab hau) (fun hn => absurd ((dn_le k3 dn_0).mpr (by omega)) hn)⟩
theorem dx_ifnull {off : Int} (hoff : 0 ≤ (pc : Int) + off) (C : dq_C p l s m args meth c own cc nL G base b L u xs) (hdg : decode cc pc = .ok (.ifnull off, 3)) (he : dm_exec sv wrp dm_sh call k T pc 3 (.ifnull off) d cs Lc S h = some x) (hs : dq_os sv L xs h0 h Lc S) (Hk : ∀ (pc' : Nat) (Lc' : dm_L) (S' : List dm_V) (h' : dm_H), k pc' Lc' S' h' = some x → dq_os sv L xs h0 h' Lc' S' → dq_okx sv L xs h' x ∧ dq_Go p l e R s m args below meth c Q nL G base b u h0 ad0 pc' Lc' S' h') : dq_okx sv L xs h x ∧ dq_Go p l e R s m args below meth c Q nL G base b u h0 ad0 pc Lc S h := by
  obtain ⟨hx, hb, hml, hown, hts, hEv, hSt, hbs, hlocks, hntr⟩ := id C
  obtain ⟨t, q, a, S', hSe, hf⟩ := di_r1 he
  clear he
  have he := hf
  clear hf
  subst hSe
  obtain ⟨k1, k2⟩ := dq_h hs.sub
  split at he
  · rename_i hc
    obtain ⟨h1, h2⟩ := Hk _ _ _ _ he (hs.to k2)
    refine ⟨h1, fun ad ls H locs hL hW hS hE hab hau => ?_⟩
    have h3 := h2 ad ls H locs hL hW hS hE hab hau
    simp only [List.map_cons, dm_tv, dm_rv, if_pos hc] at h3 ⊢
    exact lv_ifnullN hx hb hdg (dq_to hoff) h3
  · rename_i hc
    obtain ⟨h1, h2⟩ := Hk _ _ _ _ he (hs.to k2)
    refine ⟨h1, fun ad ls H locs hL hW hS hE hab hau => ?_⟩
    have h3 := h2 ad ls H locs hL hW hS hE hab hau
    simp only [List.map_cons, dm_tv, dm_rv, if_neg hc] at h3 ⊢
    exact lv_ifnull hx hb hdg h3
theorem dx_ifnonnull {off : Int} (hoff : 0 ≤ (pc : Int) + off) (C : dq_C p l s m args meth c own cc nL G base b L u xs) (hdg : decode cc pc = .ok (.ifnonnull off, 3)) (he : dm_exec sv wrp dm_sh call k T pc 3 (.ifnonnull off) d cs Lc S h = some x) (hs : dq_os sv L xs h0 h Lc S) (Hk : ∀ (pc' : Nat) (Lc' : dm_L) (S' : List dm_V) (h' : dm_H), k pc' Lc' S' h' = some x → dq_os sv L xs h0 h' Lc' S' → dq_okx sv L xs h' x ∧ dq_Go p l e R s m args below meth c Q nL G base b u h0 ad0 pc' Lc' S' h') : dq_okx sv L xs h x ∧ dq_Go p l e R s m args below meth c Q nL G base b u h0 ad0 pc Lc S h := by
  obtain ⟨hx, hb, hml, hown, hts, hEv, hSt, hbs, hlocks, hntr⟩ := id C
  obtain ⟨t, q, a, S', hSe, hf⟩ := di_r1 he
  clear he
  have he := hf
  clear hf
  subst hSe
  obtain ⟨k1, k2⟩ := dq_h hs.sub
  split at he
  · rename_i hc
    obtain ⟨h1, h2⟩ := Hk _ _ _ _ he (hs.to k2)
    refine ⟨h1, fun ad ls H locs hL hW hS hE hab hau => ?_⟩
    have h3 := h2 ad ls H locs hL hW hS hE hab hau
    simp only [List.map_cons, dm_tv, dm_rv, if_pos hc] at h3 ⊢
    exact lv_ifnonnullN hx hb hdg h3
  · rename_i hc
    obtain ⟨h1, h2⟩ := Hk _ _ _ _ he (hs.to k2)
    refine ⟨h1, fun ad ls H locs hL hW hS hE hab hau => ?_⟩
    have h3 := h2 ad ls H locs hL hW hS hE hab hau
    simp only [List.map_cons, dm_tv, dm_rv, if_neg hc] at h3 ⊢
    exact lv_ifnonnull hx hb hdg (dq_to hoff) h3
theorem dx_goto {off : Int} (hoff : 0 ≤ (pc : Int) + off) (C : dq_C p l s m args meth c own cc nL G base b L u xs) (hdg : decode cc pc = .ok (.goto off, 3)) (he : dm_exec sv wrp dm_sh call k T pc 3 (.goto off) d cs Lc S h = some x) (hs : dq_os sv L xs h0 h Lc S) (Hk : ∀ (pc' : Nat) (Lc' : dm_L) (S' : List dm_V) (h' : dm_H), k pc' Lc' S' h' = some x → dq_os sv L xs h0 h' Lc' S' → dq_okx sv L xs h' x ∧ dq_Go p l e R s m args below meth c Q nL G base b u h0 ad0 pc' Lc' S' h') : dq_okx sv L xs h x ∧ dq_Go p l e R s m args below meth c Q nL G base b u h0 ad0 pc Lc S h := by
  obtain ⟨hx, hb, hml, hown, hts, hEv, hSt, hbs, hlocks, hntr⟩ := id C
  obtain ⟨h1, h2⟩ := Hk _ _ _ _ he hs
  exact ⟨h1, fun ad ls H locs hL hW hS hE hab hau => lv_goto (tgt := dm_to pc off) hx hb hdg (dq_to hoff) (h2 ad ls H locs hL hW hS hE hab hau)⟩
theorem dx_tableswitch {dft low high : Int} {offs : Array Int} {n : Nat} (hsz : (high - low + 1).toNat = offs.size) (hoff : ∀ o ∈ offs, 0 ≤ (pc : Int) + o) (hdf : 0 ≤ (pc : Int) + dft) (C : dq_C p l s m args meth c own cc nL G base b L u xs) (hdg : decode cc pc = .ok (.tableswitch dft low high offs, n)) (he : dm_exec sv wrp dm_sh call k T pc n (.tableswitch dft low high offs) d cs Lc S h = some x) (hs : dq_os sv L xs h0 h Lc S) (Hk : ∀ (pc' : Nat) (Lc' : dm_L) (S' : List dm_V) (h' : dm_H), k pc' Lc' S' h' = some x → dq_os sv L xs h0 h' Lc' S' → dq_okx sv L xs h' x ∧ dq_Go p l e R s m args below meth c Q nL G base b u h0 ad0 pc' Lc' S' h') : dq_okx sv L xs h x ∧ dq_Go p l e R s m args below meth c Q nL G base b u h0 ad0 pc Lc S h := by
  obtain ⟨hx, hb, hml, hown, hts, hEv, hSt, hbs, hlocks, hntr⟩ := id C
  obtain ⟨a, S', hSe, hf⟩ := di_1 he
  clear he
  have he := hf
  clear hf
  subst hSe
  obtain ⟨k1, k2⟩ := dq_h hs.sub
  unfold dm_tab at he
  split at he
  · rename_i hc
    obtain ⟨h1, h2⟩ := Hk _ _ _ _ he (hs.to k2)
    have hi : (a - low).toNat < offs.size := hsz ▸ (by omega)
    have hg : offs.getD (a - low).toNat dft = offs[(a - low).toNat] := by simp [Array.getD, hi]
    exact ⟨h1, fun ad ls H locs hL hW hS hE hab hau => lv_tableIn (tgt := dm_to pc (offs.getD (a - low).toNat dft)) (off := offs.getD (a - low).toNat dft) hx hb hdg (by rw [dn_toInt k1]; omega) (by rw [dn_toInt k1]; omega) (by rw [dn_toInt k1, hg]; exact Array.getElem?_eq_getElem hi) (dq_to (by rw [hg]; exact hoff _ (Array.getElem_mem hi))) (h2 ad ls H locs hL hW hS hE hab hau)⟩
  · rename_i hc
    obtain ⟨h1, h2⟩ := Hk _ _ _ _ he (hs.to k2)
    exact ⟨h1, fun ad ls H locs hL hW hS hE hab hau => lv_tableOut (tgt := dm_to pc dft) hx hb hdg (by rw [dn_toInt k1]; omega) (dq_to hdf) (h2 ad ls H locs hL hW hS hE hab hau)⟩
/-- what the method owes at its end -/
def dq_Qc (G : dm_G) (base : Nat) (h0 : dm_H) (ad0 : Nat → Nat) (x : dm_X) : Array Value → State → Outcome → State → Prop := fun _ st o t =>
  (∃ (ad : Nat → Nat) (ov : Option dm_V), dq_ext h0 ad0 ad ∧ x.1 = .inl ov ∧ o = .returned (ov.map (dm_tv ad)) ∧ dm_Wd G base ad x.2 t.heap) ∧ va_F (dm_A base) st t
def dq_XC (G : dm_G) (base : Nat) (h0 : dm_H) (ad0 : Nat → Nat) (x : dm_X) : String → State → State → Prop := fun E st t =>
  (∃ (ad : Nat → Nat) (n : Nat), dq_ext h0 ad0 ad ∧ x.1 = .inr n ∧ E = dm_xn n ∧ dm_Wd G base ad x.2 t.heap) ∧ va_F (dm_A base) st t
def dq_Q (below : List Frame) (G : dm_G) (base : Nat) (h0 : dm_H) (ad0 : Nat → Nat) (x : dm_X) (args : Array Value) (s : State) : State → Prop := vx_MQ below (dq_Qc G base h0 ad0 x) (dq_XC G base h0 ad0 x) args s (gc x.2 - gc h0) (gs x.2 - gs h0) (dm_A base)
theorem dx_ireturn {rt : FieldType} (hr : meth.sig.returnType = some rt) (hrt : (rt = .int ∧ wrp ≠ 2) ∨ (rt = .boolean ∧ wrp = 2)) (C : dq_C p l s m args meth c own cc nL G base b L u xs) (hdg : decode cc pc = .ok (.ireturn, 1)) (he : dm_exec sv wrp dm_sh call k T pc 1 (.ireturn) d cs Lc S h = some x) (hs : dq_os sv L xs h0 h Lc S) : dq_okx sv L xs h x ∧ dq_Go p l e R s m args below meth c (dq_Q below G base h0 ad0 x args s) nL G base b u h0 ad0 pc Lc S h := by
  obtain ⟨hx, hb, hml, hown, hts, hEv, hSt, hbs, hlocks, hntr⟩ := id C
  simp only [dm_exec] at he
  split at he
  case h_2 => cases he
  rename_i a
  obtain ⟨k1, k2⟩ := dq_h hs.sub
  rcases hrt with ⟨h1, h2⟩ | ⟨h1, h2⟩
  · subst h1
    split at he
    · exact absurd rfl h2
    · cases he
      exact ⟨⟨hs.1, Nat.le_refl _, Nat.le_refl _, Nat.le_refl _, hs.2.2.1, fun v hv => by cases hv; exact ⟨k1, trivial⟩, fun E hE => by cases hE⟩, fun ad ls H locs hL hW hS hE hab hau => vx_ret (W.iret hx hb hr (fun t ht _ => ⟨⟨ad, some (dI a), hE, rfl, rfl, by rw [ht]; exact hW⟩, hS.F ht⟩) (fun q hq => hS.2.2 q hq) hdg hlocks)⟩
  · subst h1
    subst h2
    obtain ⟨hz, he⟩ := di_z1 he
    cases he
    exact ⟨⟨hs.1, Nat.le_refl _, Nat.le_refl _, Nat.le_refl _, hs.2.2.1, fun v hv => by cases hv; exact ⟨k1, trivial⟩, fun E hE => by cases hE⟩, fun ad ls H locs hL hW hS hE hab hau => vx_ret (W.zret hx hb hr (dw_nar a hz) (fun t ht _ => ⟨⟨ad, some (dI a), hE, rfl, rfl, by rw [ht]; exact hW⟩, hS.F ht⟩) (fun q hq => hS.2.2 q hq) hdg hlocks)⟩
theorem dx_return_ (hr : meth.sig.returnType = none) (C : dq_C p l s m args meth c own cc nL G base b L u xs) (hdg : decode cc pc = .ok (.return_, 1)) (he : dm_exec sv wrp dm_sh call k T pc 1 (.return_) d cs Lc S h = some x) (hs : dq_os sv L xs h0 h Lc S) : dq_okx sv L xs h x ∧ dq_Go p l e R s m args below meth c (dq_Q below G base h0 ad0 x args s) nL G base b u h0 ad0 pc Lc S h := by
  obtain ⟨hx, hb, hml, hown, hts, hEv, hSt, hbs, hlocks, hntr⟩ := id C
  simp only [dm_exec] at he
  split at he
  case h_2 => cases he
  cases he
  exact ⟨⟨hs.1, Nat.le_refl _, Nat.le_refl _, Nat.le_refl _, hs.2.2.1, (fun v hv => by cases hv), (fun E hE => by cases hE)⟩, fun ad ls H locs hL hW hS hE hab hau => vx_ret (W.vret hx hb hr (fun t ht _ => ⟨⟨ad, none, hE, rfl, rfl, by rw [ht]; exact hW⟩, hS.F ht⟩) (fun q hq => hS.2.2 q hq) hdg hlocks)⟩
theorem dx_areturn {rt : String} (hr : meth.sig.returnType = some (.object rt)) (C : dq_C p l s m args meth c own cc nL G base b L u xs) (hdg : decode cc pc = .ok (.areturn, 1)) (he : dm_exec sv wrp dm_sh call k T pc 1 (.areturn) d cs Lc S h = some x) (hs : dq_os sv L xs h0 h Lc S) : dq_okx sv L xs h x ∧ dq_Go p l e R s m args below meth c (dq_Q below G base h0 ad0 x args s) nL G base b u h0 ad0 pc Lc S h := by
  obtain ⟨hx, hb, hml, hown, hts, hEv, hSt, hbs, hlocks, hntr⟩ := id C
  simp only [dm_exec] at he
  split at he
  case h_2 => cases he
  rename_i q a
  obtain ⟨k1, k2⟩ := dq_h hs.sub
  cases he
  refine ⟨⟨hs.1, Nat.le_refl _, Nat.le_refl _, Nat.le_refl _, hs.2.2.1, fun v hv => by cases hv; exact ⟨k1, trivial⟩, fun E hE => by cases hE⟩, fun ad ls H locs hL hW hS hE hab hau => vx_ret (W.aret (v := dm_tv ad (dR 1 q a)) hx hb hr (Or.inl ⟨rt, rfl⟩) ?_ (fun t ht _ => ⟨⟨ad, some (dR 1 q a), hE, rfl, rfl, by rw [ht]; exact hW⟩, hS.F ht⟩) (fun q hq => hS.2.2 q hq) hdg hlocks)⟩
  simp only [dm_tv, dm_rv]
  split
  · exact Or.inl rfl
  · exact Or.inr ⟨_, rfl⟩
theorem dq_os.mem {sv : Bool} {L : Nat} {xs : Nat → Int} {h0 h h' : dm_H} {Lc : dm_L} {S S' : List dm_V} (k : dq_os sv L xs h0 h Lc S) (ok : dm_ok sv h') (hz : gz h' = gz h) (hc : gc h' = gc h) (hg : gs h' = gs h) (hx : ∀ j : Nat, gi h' 1000 j = gi h 1000 j) (hv : ∀ v ∈ S', dm_vk L h v) : dq_os sv L xs h0 h' Lc S' :=
  ⟨ok, ⟨by rw [hc]; exact k.2.1.1, by rw [hg]; exact k.2.1.2.1, by rw [hz]; exact k.2.1.2.2⟩, fun q j hj => by rw [hx]; exact k.2.2.1 q j hj, fun v hv' => df_vkm (Nat.le_of_eq hz.symm) (hv v hv'), fun i v hi => ⟨df_vkm (Nat.le_of_eq hz.symm) (k.2.2.2.2 i v hi).1, (k.2.2.2.2 i v hi).2⟩⟩
theorem dq_okx.mem {sv : Bool} {L : Nat} {xs : Nat → Int} {h h' : dm_H} {x : dm_X} (k : dq_okx sv L xs h' x) (hz : gz h' = gz h) (hc : gc h' = gc h) (hg : gs h' = gs h) : dq_okx sv L xs h x :=
  ⟨k.1, by rw [← hc]; exact k.2.1, by rw [← hg]; exact k.2.2.1, by rw [← hz]; exact k.2.2.2.1, k.2.2.2.2⟩
/-- the world behind a write at a -/
theorem dq_wd {G : dm_G} {base : Nat} {ad : Nat → Nat} {h h' : dm_H} {a : Nat} {e : va_E} {H1 : Heap} (h1 : a ≠ 0) (hz : gz h' = gz h) (he : dm_en G ad h' a = e) (ho : ∀ b, b ≠ a → dm_en G ad h' b = dm_en G ad h b) (hP : va_P (dm_D G) dm_cl ((dm_W G ad h).set (a - 1) (ad a, e)) H1) (hD : va_D (dm_A base) ((dm_W G ad h).set (a - 1) (ad a, e))) : dm_Wd G base ad h' H1 := by
  rw [dw_set h1 hz he (fun b hb _ => ho b hb)] at hP hD
  exact ⟨hP, hD⟩
theorem dq_1000 {t p a : Nat} (h : dm_sh a = (t, p)) (ht : t ≠ 0) : (1000 : Nat) ≠ a := by
  have := dw_lt h ht
  omega
set_option maxHeartbeats 1000000 in
theorem dx_getfield {idx ci j : Nat} (hd : d = ci :: j :: dm_fd ci j) (hj : j < dm_fN ci) (hlk : (Cond.fieldLink own idx (dm_cn ci) (dm_ff ci j).2.1 (dm_ff ci j).2.2.1 ∈ dm_ws) ∨ ∃ q ∈ dm_fkn, own = dm_on q.1 ∧ idx = q.2.1 ∧ ci = q.2.2.1 ∧ j = q.2.2.2) (C : dq_C p l s m args meth c own cc nL G base b L u xs) (hdg : decode cc pc = .ok (.getfield idx, 3)) (he : dm_exec sv wrp dm_sh call k T pc 3 (.getfield idx) d cs Lc S h = some x) (hs : dq_os sv L xs h0 h Lc S) (Hk : ∀ (pc' : Nat) (Lc' : dm_L) (S' : List dm_V) (h' : dm_H), k pc' Lc' S' h' = some x → dq_os sv L xs h0 h' Lc' S' → dq_okx sv L xs h' x ∧ dq_Go p l e R s m args below meth c Q nL G base b u h0 ad0 pc' Lc' S' h') : dq_okx sv L xs h x ∧ dq_Go p l e R s m args below meth c Q nL G base b u h0 ad0 pc Lc S h := by
  obtain ⟨hx, hb, hml, hown, hts, hEv, hSt, hbs, hlocks, hntr⟩ := id C
  subst hd
  simp only [dm_exec] at he
  obtain ⟨t, q, a, S', hSe, hf⟩ := di_r1 he
  clear he
  have he := hf
  clear hf
  subst hSe
  split at he
  case isFalse => cases he
  rename_i hc
  obtain ⟨rfl, rfl⟩ := hc
  obtain ⟨k1, k2⟩ := dq_h hs.sub
  obtain ⟨hsh, ha0, hlt⟩ := df_vk' (by omega) k1
  obtain ⟨v, he, hv, hfv⟩ := df_ld hsh hj hlt hs.1 he
  obtain ⟨h1, h2⟩ := Hk _ _ _ _ he (hs.to (dq_c (P := dm_vk L h) hv k2))
  refine ⟨h1, fun ad ls H locs hL hW hS hE hab hau => ?_⟩
  have hci := df_ci hsh
  have hat := dw_at (G := G) (ad := ad) ha0 hlt
  rw [dw_obj hsh] at hat
  have h3 := h2 ad ls H locs hL hW hS hE hab hau
  have hvv : (dm_fs ad h q a)[j]? = some (dm_tv ad v) := by rw [dw_fs hj, hfv ad]
  have hsm : ∀ x, s.fieldFound? (dm_ff q j).1 (dm_ff q j).2.1 (dm_ff q j).2.2.1 = some x → s.fieldFound? (dm_cn q) (dm_ff q j).2.1 (dm_ff q j).2.2.1 = some x := fun x hx => by rw [df_own hci hj] at hx; exact hx
  show W p l e R s m args below meth c H locs _ _ Q (F0 m pc ls (dm_rv ad a :: S'.map (dm_tv ad)))
  rw [show dm_rv ad a = .ref (ad a) from if_neg ha0]
  rcases hlk with hlk | ⟨z, hz, rfl, rfl, rfl, rfl⟩
  · exact va_get hx hb hts (df_in hci) hown hEv.1 hW.1 (a - 1) hat (df_cl hci) j hj (hts _ hlk) hsm hvv hdg h3
  · exact va_getN hx hb hts (df_in hci) hown hEv.1 hW.1 (a - 1) hat (df_cl hci) _ hj (va_Nw.use rfl (hEv.2.1 z hz)) hsm hvv hdg h3
set_option maxHeartbeats 2000000 in
theorem dx_putfield {idx ci j : Nat} (hd : d = ci :: j :: dm_fd ci j) (hj : j < dm_fN ci) (hlk : (Cond.fieldLink own idx (dm_cn ci) (dm_ff ci j).2.1 (dm_ff ci j).2.2.1 ∈ dm_ws) ∨ ∃ q ∈ dm_fkn, own = dm_on q.1 ∧ idx = q.2.1 ∧ ci = q.2.2.1 ∧ j = q.2.2.2) (hini : sv = false → (dm_ff ci j).2.2.2 = true → meth.name = "<init>" ∧ dm_cn ci = own) (hnn : sv = false → (dm_ff ci j).2.2.2 = true → ∀ q ∈ dm_fkn, ¬ (own = dm_on q.1 ∧ idx = q.2.1 ∧ ci = q.2.2.1 ∧ j = q.2.2.2)) (C : dq_C p l s m args meth c own cc nL G base b L u xs) (hdg : decode cc pc = .ok (.putfield idx, 3)) (he : dm_exec sv wrp dm_sh call k T pc 3 (.putfield idx) d cs Lc S h = some x) (hs : dq_os sv L xs h0 h Lc S) (Hk : ∀ (pc' : Nat) (Lc' : dm_L) (S' : List dm_V) (h' : dm_H), k pc' Lc' S' h' = some x → dq_os sv L xs h0 h' Lc' S' → dq_okx sv L xs h' x ∧ dq_Go p l e R s m args below meth c Q nL G base b u h0 ad0 pc' Lc' S' h') : dq_okx sv L xs h x ∧ dq_Go p l e R s m args below meth c Q nL G base b u h0 ad0 pc Lc S h := by
  obtain ⟨hx, hb, hml, hown, hts, hEv, hSt, hbs, hlocks, hntr⟩ := id C
  subst hd
  simp only [dm_exec] at he
  split at he
  case h_2 => cases he
  rename_i ci' j' d' v t q a S' hdd
  cases hdd
  split at he
  case isFalse => cases he
  rename_i hc
  obtain ⟨rfl, rfl⟩ := hc
  obtain ⟨k0, k1'⟩ := dq_h hs.sub
  obtain ⟨k1, k2⟩ := dq_h k1'
  obtain ⟨hsh, ha0, hlt⟩ := df_vk' (by omega) k1
  obtain ⟨h', he, hok, hz, hgc, hgs, hmem, hen, hst, hfin⟩ := df_st hsh hj hlt hs.1 k0 he
  obtain ⟨h1, h2⟩ := Hk _ _ _ _ he (hs.mem hok hz hgc hgs (fun j => hmem 1000 j (dq_1000 hsh (by decide))) k2)
  refine ⟨h1.mem hz hgc hgs, fun ad ls H locs hL hW hS hE hab hau => ?_⟩
  have hci := df_ci hsh
  have hat := dw_at (G := G) (ad := ad) ha0 hlt
  rw [dw_obj hsh] at hat
  obtain ⟨hn, hfit, hset⟩ := hst ad
  have hsm : ∀ x, s.fieldFound? (dm_ff q j).1 (dm_ff q j).2.1 (dm_ff q j).2.2.1 = some x → s.fieldFound? (dm_cn q) (dm_ff q j).2.1 (dm_ff q j).2.2.1 = some x := fun x hx => by rw [df_own hci hj] at hx; exact hx
  have h3 : ∀ (H1 : Heap) (locs1 : List Loc), va_P (dm_D G) dm_cl ((dm_W G ad h).set (a - 1) (ad a, .inr (q, (dm_fs ad h q a).set j (dm_tv ad v)))) H1 → va_D (dm_A base) ((dm_W G ad h).set (a - 1) (ad a, .inr (q, (dm_fs ad h q a).set j (dm_tv ad v)))) → va_S (dm_A base) s.heap H1 locs1 → W p l e R s m args below meth c H1 locs1 (gc h - gc h0) (gs h - gs h0) Q (F0 m (pc + 3) ls (S'.map (dm_tv ad))) := by
    intro H1 locs1 hP hD hS1
    have := h2 ad ls H1 locs1 hL (dq_wd ha0 hz (by rw [dw_obj hsh, hset]) (fun b hb => hen G ad b hb) hP hD) hS1 hE hab hau
    rw [hgc, hgs] at this
    exact this
  show W p l e R s m args below meth c H locs _ _ Q (F0 m pc ls (dm_tv ad v :: dm_rv ad a :: S'.map (dm_tv ad)))
  rw [show dm_rv ad a = .ref (ad a) from if_neg ha0]
  have hlen : j < (dm_fs ad h q a).length := by rw [dw_fsl]; exact hj
  by_cases hf : (dm_ff q j).2.2.2 = true
  · obtain ⟨hi1, hi2⟩ := hini (hfin hf) hf
    rcases hlk with hlk | ⟨z, hz, hz2⟩
    · exact va_putF hx hb hts (df_in hci) (dm_ty q) (fun k hk => df_desc hci hk) (df_names hci) hown hEv.1 hW.1 hW.2 hS (a - 1) hat (df_cl hci) j hj (hts _ hlk) hsm hf hi1 (by rw [df_own hci hj]; exact hi2) (df_desc hci hj) hn hfit hlen hdg h3
    · exact absurd hz2 (hnn (hfin hf) hf z hz)
  · have hf : (dm_ff q j).2.2.2 = false := by simpa using hf
    rcases hlk with hlk | ⟨z, hz, rfl, rfl, rfl, rfl⟩
    · exact va_put hx hb hts (df_in hci) (dm_ty q) (fun k hk => df_desc hci hk) (df_names hci) hown hEv.1 hW.1 hW.2 hS (a - 1) hat (df_cl hci) j hj (hts _ hlk) hsm hf (df_desc hci hj) hn hfit hlen hdg h3
    · exact va_putN hx hb hts (df_in hci) (dm_ty _) (fun k hk => df_desc hci hk) (df_names hci) hown hEv.1 hW.1 hW.2 hS (a - 1) hat (df_cl hci) _ hj (va_Nw.use rfl (hEv.2.1 z hz)) hsm hf (df_desc hci hj) hn hfit hlen hdg h3
theorem dq_cast {i : Int} (h : 0 ≤ i) : ((i.toNat : Nat) : Int) = i := Int.toNat_of_nonneg h
set_option maxHeartbeats 1000000 in
theorem dx_iaload  (C : dq_C p l s m args meth c own cc nL G base b L u xs) (hdg : decode cc pc = .ok (.iaload, 1)) (he : dm_exec sv wrp dm_sh call k T pc 1 (.iaload) d cs Lc S h = some x) (hs : dq_os sv L xs h0 h Lc S) (Hk : ∀ (pc' : Nat) (Lc' : dm_L) (S' : List dm_V) (h' : dm_H), k pc' Lc' S' h' = some x → dq_os sv L xs h0 h' Lc' S' → dq_okx sv L xs h' x ∧ dq_Go p l e R s m args below meth c Q nL G base b u h0 ad0 pc' Lc' S' h') : dq_okx sv L xs h x ∧ dq_Go p l e R s m args below meth c Q nL G base b u h0 ad0 pc Lc S h := by
  obtain ⟨hx, hb, hml, hown, hts, hEv, hSt, hbs, hlocks, hntr⟩ := id C
  obtain ⟨t, q, a, i, S', hSe, hf⟩ := di_ri he
  clear he
  have he := hf
  clear hf
  subst hSe
  obtain ⟨k0, k1'⟩ := dq_h hs.sub
  obtain ⟨k1, k2⟩ := dq_h k1'
  split at he
  case h_4 => cases he
  · obtain ⟨hi, he⟩ := di_ix he
    obtain ⟨hsh, ha0, hlt⟩ := k1
    obtain ⟨h1, h2⟩ := Hk _ _ _ _ he (hs.to (dq_c (P := dm_vk L h) (v := dI _) (hs.1.1 _ _) k2))
    refine ⟨h1, fun ad ls H locs hL hW hS hE hab hau => ?_⟩
    have hat := dw_at (G := G) (ad := ad) ha0 hlt
    rw [dw_2 hsh] at hat
    have h3 := h2 ad ls H locs hL hW hS hE hab hau
    show W p l e R s m args below meth c H locs _ _ Q (F0 m pc ls (.int (Int32.ofInt i) :: dm_rv ad a :: S'.map (dm_tv ad)))
    rw [show dm_rv ad a = .ref (ad a) from if_neg ha0]
    refine va_iald hx hb hEv.1 hW.1 (a - 1) 0 hat rfl (dn_vpin hi.1 hi.2 k0) hdg ?_
    rw [dn_nat hi.1 k0, dq_cast hi.1]
    exact h3
  · obtain ⟨rfl, rfl⟩ := k1
    split at he
    case h_2 => cases he
    obtain ⟨hi, he⟩ := di_ix he
    obtain ⟨h1, h2⟩ := Hk _ _ _ _ he (hs.to (dq_c (P := dm_vk q h) (v := dI _) (hs.1.1 _ _) k2))
    refine ⟨h1, fun ad ls H locs hL hW hS hE hab hau => ?_⟩
    have h3 := h2 ad ls H locs hL hW hS hE hab hau
    show W p l e R s m args below meth c H locs _ _ Q (F0 m pc ls (.int (Int32.ofInt i) :: .ref (ad 1000) :: S'.map (dm_tv ad)))
    rw [hab]
    refine va_sld hx hb hSt.1 (Nat.lt_of_lt_of_le hSt.2.2.1 hbs) (by unfold dm_A; have := hSt.2.2.1; omega) hS (dn_vpin hi.1 hi.2 k0) hdg ?_
    have hj := hs.2.2.1 rfl i.toNat (by omega)
    rw [dq_cast hi.1] at hj
    rw [dn_nat hi.1 k0, ← hj]
    exact h3
  · obtain ⟨rfl, rfl⟩ := k1
    obtain ⟨hi, he⟩ := di_ix he
    have hu : dm_in (dm_unit i) := by unfold dm_unit dm_in; split <;> (try split) <;> omega
    obtain ⟨h1, h2⟩ := Hk _ _ _ _ he (hs.to (dq_c (P := dm_vk L h) (v := dI _) hu k2))
    refine ⟨h1, fun ad ls H locs hL hW hS hE hab hau => ?_⟩
    have h3 := h2 ad ls H locs hL hW hS hE hab hau
    show W p l e R s m args below meth c H locs _ _ Q (F0 m pc ls (.int (Int32.ofInt i) :: .ref (ad 1001) :: S'.map (dm_tv ad)))
    rw [hau]
    obtain ⟨scr, x1, x2, x3, x4, x5⟩ := hSt.2.1
    have hin := dn_vpin hi.1 hi.2 k0
    have hlt : (Int32.ofInt i).toNatClampNeg < 3 := Nat.not_le.mp fun q => hin (Or.inr q)
    refine W.iald (v := .int (Int32.ofInt (dm_unit (((Int32.ofInt i).toNatClampNeg : Nat) : Int)))) hx hb (by rw [hS.2.1 u (Nat.lt_of_lt_of_le hSt.2.2.2.1 hbs) (by unfold dm_A; have := hSt.2.2.2.1; omega)]; exact x1) x2 x3 (fun q => hin (q.imp id (fun z => Nat.le_trans x4 z))) (x5 _ hlt) rfl rfl hdg ?_
    rw [dn_nat hi.1 k0]
    show W p l e R s m args below meth c H locs _ _ Q (F0 m (pc + 1) ls (.int (Int32.ofInt (dm_unit ((i.toNat : Nat) : Int))) :: _))
    rw [dq_cast hi.1]
    exact h3
set_option maxHeartbeats 1000000 in
theorem dx_baload  (C : dq_C p l s m args meth c own cc nL G base b L u xs) (hdg : decode cc pc = .ok (.baload, 1)) (he : dm_exec sv wrp dm_sh call k T pc 1 (.baload) d cs Lc S h = some x) (hs : dq_os sv L xs h0 h Lc S) (Hk : ∀ (pc' : Nat) (Lc' : dm_L) (S' : List dm_V) (h' : dm_H), k pc' Lc' S' h' = some x → dq_os sv L xs h0 h' Lc' S' → dq_okx sv L xs h' x ∧ dq_Go p l e R s m args below meth c Q nL G base b u h0 ad0 pc' Lc' S' h') : dq_okx sv L xs h x ∧ dq_Go p l e R s m args below meth c Q nL G base b u h0 ad0 pc Lc S h := by
  obtain ⟨hx, hb, hml, hown, hts, hEv, hSt, hbs, hlocks, hntr⟩ := id C
  obtain ⟨t, q, a, i, S', hSe, hf⟩ := di_ri he
  clear he
  have he := hf
  clear hf
  subst hSe
  obtain ⟨k0, k1'⟩ := dq_h hs.sub
  obtain ⟨k1, k2⟩ := dq_h k1'
  split at he
  case h_2 => cases he
  obtain ⟨hi, he⟩ := di_ix he
  obtain ⟨hsh, ha0, hlt⟩ := k1
  obtain ⟨h1, h2⟩ := Hk _ _ _ _ he (hs.to (dq_c (P := dm_vk L h) (v := dI _) (hs.1.1 _ _) k2))
  refine ⟨h1, fun ad ls H locs hL hW hS hE hab hau => ?_⟩
  have hat := dw_at (G := G) (ad := ad) ha0 hlt
  rw [dw_3 hsh] at hat
  have h3 := h2 ad ls H locs hL hW hS hE hab hau
  show W p l e R s m args below meth c H locs _ _ Q (F0 m pc ls (.int (Int32.ofInt i) :: dm_rv ad a :: S'.map (dm_tv ad)))
  rw [show dm_rv ad a = .ref (ad a) from if_neg ha0]
  refine va_zald hx hb hEv.1 hW.1 (a - 1) 1 hat rfl (dn_vpin hi.1 hi.2 k0) hdg ?_
  rw [dn_nat hi.1 k0, dq_cast hi.1]
  exact h3
set_option maxHeartbeats 1000000 in
theorem dx_laload  (C : dq_C p l s m args meth c own cc nL G base b L u xs) (hdg : decode cc pc = .ok (.laload, 1)) (he : dm_exec sv wrp dm_sh call k T pc 1 (.laload) d cs Lc S h = some x) (hs : dq_os sv L xs h0 h Lc S) (Hk : ∀ (pc' : Nat) (Lc' : dm_L) (S' : List dm_V) (h' : dm_H), k pc' Lc' S' h' = some x → dq_os sv L xs h0 h' Lc' S' → dq_okx sv L xs h' x ∧ dq_Go p l e R s m args below meth c Q nL G base b u h0 ad0 pc' Lc' S' h') : dq_okx sv L xs h x ∧ dq_Go p l e R s m args below meth c Q nL G base b u h0 ad0 pc Lc S h := by
  obtain ⟨hx, hb, hml, hown, hts, hEv, hSt, hbs, hlocks, hntr⟩ := id C
  obtain ⟨t, q, a, i, S', hSe, hf⟩ := di_ri he
  clear he
  have he := hf
  clear hf
  subst hSe
  obtain ⟨k0, k1'⟩ := dq_h hs.sub
  obtain ⟨k1, k2⟩ := dq_h k1'
  split at he
  case h_2 => cases he
  obtain ⟨hi, he⟩ := di_ix he
  obtain ⟨hsh, ha0, hlt⟩ := k1
  obtain ⟨h1, h2⟩ := Hk _ _ _ _ he (hs.to (dq_c (P := dm_vk L h) (v := dJ _) (hs.1.2.1 _) k2))
  refine ⟨h1, fun ad ls H locs hL hW hS hE hab hau => ?_⟩
  have hat := dw_at (G := G) (ad := ad) ha0 hlt
  rw [dw_4 hsh] at hat
  have h3 := h2 ad ls H locs hL hW hS hE hab hau
  show W p l e R s m args below meth c H locs _ _ Q (F0 m pc ls (.int (Int32.ofInt i) :: dm_rv ad a :: S'.map (dm_tv ad)))
  rw [show dm_rv ad a = .ref (ad a) from if_neg ha0]
  refine va_lald hx hb hEv.1 hW.1 (a - 1) 2 hat rfl (dn_vpin hi.1 hi.2 k0) hdg ?_
  rw [dn_nat hi.1 k0, dq_cast hi.1]
  exact h3
set_option maxHeartbeats 1000000 in
theorem dx_aaload  (C : dq_C p l s m args meth c own cc nL G base b L u xs) (hdg : decode cc pc = .ok (.aaload, 1)) (he : dm_exec sv wrp dm_sh call k T pc 1 (.aaload) d cs Lc S h = some x) (hs : dq_os sv L xs h0 h Lc S) (Hk : ∀ (pc' : Nat) (Lc' : dm_L) (S' : List dm_V) (h' : dm_H), k pc' Lc' S' h' = some x → dq_os sv L xs h0 h' Lc' S' → dq_okx sv L xs h' x ∧ dq_Go p l e R s m args below meth c Q nL G base b u h0 ad0 pc' Lc' S' h') : dq_okx sv L xs h x ∧ dq_Go p l e R s m args below meth c Q nL G base b u h0 ad0 pc Lc S h := by
  obtain ⟨hx, hb, hml, hown, hts, hEv, hSt, hbs, hlocks, hntr⟩ := id C
  obtain ⟨t, q, a, i, S', hSe, hf⟩ := di_ri he
  clear he
  have he := hf
  clear hf
  subst hSe
  obtain ⟨k0, k1'⟩ := dq_h hs.sub
  obtain ⟨k1, k2⟩ := dq_h k1'
  split at he
  case h_3 => cases he
  · obtain ⟨hi, he⟩ := di_ix he
    obtain ⟨hsh, ha0, hlt⟩ := k1
    have hv : k (pc + 1) Lc (dR 1 8 (gr h a i) :: S') h = some x ∧ dm_vk L h (dR 1 8 (gr h a i)) := by
      split at he
      · obtain ⟨q1, q2⟩ := hs.1.2.2.2.2.2.2.2.1 a q i hsh hi.1 hi.2
        exact ⟨he, q1, q2, hs.1.2.2.1 _ _⟩
      · split at he
        · rename_i hc
          exact ⟨he, hc.1, hc.2, hs.1.2.2.1 _ _⟩
        · cases he
    obtain ⟨h1, h2⟩ := Hk _ _ _ _ hv.1 (hs.to (dq_c (P := dm_vk L h) hv.2 k2))
    refine ⟨h1, fun ad ls H locs hL hW hS hE hab hau => ?_⟩
    have hat := dw_at (G := G) (ad := ad) ha0 hlt
    rw [dw_5 hsh] at hat
    have h3 := h2 ad ls H locs hL hW hS hE hab hau
    show W p l e R s m args below meth c H locs _ _ Q (F0 m pc ls (.int (Int32.ofInt i) :: dm_rv ad a :: S'.map (dm_tv ad)))
    rw [show dm_rv ad a = .ref (ad a) from if_neg ha0]
    refine va_aldq hx hb hEv.1 hW.1 (a - 1) 3 hat rfl (dn_vpin hi.1 hi.2 k0) hdg ?_
    rw [dn_nat hi.1 k0, dq_cast hi.1, dm_rv_ro]
    exact h3
  · split at he
    case h_2 => cases he
    obtain ⟨hi, he⟩ := di_ix he
    obtain ⟨hsh, ha0, hlt⟩ := k1
    obtain ⟨q1, q2⟩ := hs.1.2.2.2.2.2.2.2.2.1 a q i hsh hi.1 hi.2
    obtain ⟨h1, h2⟩ := Hk _ _ _ _ he (hs.to (dq_c (P := dm_vk L h) (show dm_vk L h (dR 2 32 (a + 1 + i.toNat)) from ⟨q2, by omega, by rw [← q1]; exact hs.1.2.2.1 _ _⟩) k2))
    refine ⟨h1, fun ad ls H locs hL hW hS hE hab hau => ?_⟩
    have hat := dw_at (G := G) (ad := ad) ha0 hlt
    rw [dw_6 hsh] at hat
    have h3 := h2 ad ls H locs hL hW hS hE hab hau
    show W p l e R s m args below meth c H locs _ _ Q (F0 m pc ls (.int (Int32.ofInt i) :: dm_rv ad a :: S'.map (dm_tv ad)))
    rw [show dm_rv ad a = .ref (ad a) from if_neg ha0]
    have hin := dn_vpin hi.1 hi.2 k0
    have hlt2 : (Int32.ofInt i).toNatClampNeg < q := Nat.not_le.mp fun z => hin (Or.inr z)
    refine W.aald (v := va_rf (dm_ro ad (gr h a ((Int32.ofInt i).toNatClampNeg : Nat)))) (ty := .array .int) hx hb (hW.1 (a - 1) _ hat) ((hEv.1.2 4 _ rfl).1 q (fun j => va_rf (dm_ro ad (gr h a j)))) rfl (fun z => by cases z) (by show ¬ (_ ∨ (arrV _ _ _).slots.size ≤ _); rw [arrV_size]; exact hin) (by show (arrV _ _ _).slots[_]? = _; rw [arrV_read _ _ hlt2]) rfl rfl hdg ?_
    show W p l e R s m args below meth c H locs _ _ Q (F0 m (pc + 1) ls (va_rf (dm_ro ad (gr h a ((Int32.ofInt i).toNatClampNeg : Nat))) :: _))
    rw [dn_nat hi.1 k0, dq_cast hi.1, dm_rv_ro, q1]
    exact h3
set_option maxHeartbeats 2000000 in
theorem dx_iastore  (C : dq_C p l s m args meth c own cc nL G base b L u xs) (hdg : decode cc pc = .ok (.iastore, 1)) (he : dm_exec sv wrp dm_sh call k T pc 1 (.iastore) d cs Lc S h = some x) (hs : dq_os sv L xs h0 h Lc S) (Hk : ∀ (pc' : Nat) (Lc' : dm_L) (S' : List dm_V) (h' : dm_H), k pc' Lc' S' h' = some x → dq_os sv L xs h0 h' Lc' S' → dq_okx sv L xs h' x ∧ dq_Go p l e R s m args below meth c Q nL G base b u h0 ad0 pc' Lc' S' h') : dq_okx sv L xs h x ∧ dq_Go p l e R s m args below meth c Q nL G base b u h0 ad0 pc Lc S h := by
  obtain ⟨hx, hb, hml, hown, hts, hEv, hSt, hbs, hlocks, hntr⟩ := id C
  simp only [dm_exec] at he
  split at he
  case h_2 => cases he
  rename_i y i q a S'
  obtain ⟨ky, k0'⟩ := dq_h hs.sub
  obtain ⟨k0, k1'⟩ := dq_h k0'
  obtain ⟨k1, k2⟩ := dq_h k1'
  obtain ⟨hi, he⟩ := di_ix he
  obtain ⟨hsh, ha0, hlt⟩ := k1
  obtain ⟨h1, h2⟩ := Hk _ _ _ _ he (hs.mem (h' := si h a i y) (df_okI hs.1 hlt ky) rfl rfl rfl (fun j => by rw [gi_si, if_neg (fun z => dq_1000 hsh (by decide) z.1)]) k2)
  refine ⟨h1.mem rfl rfl rfl, fun ad ls H locs hL hW hS hE hab hau => ?_⟩
  have hat := dw_at (G := G) (ad := ad) ha0 hlt
  rw [dw_2 hsh] at hat
  show W p l e R s m args below meth c H locs _ _ Q (F0 m pc ls (.int (Int32.ofInt y) :: .int (Int32.ofInt i) :: dm_rv ad a :: S'.map (dm_tv ad)))
  rw [show dm_rv ad a = .ref (ad a) from if_neg ha0]
  refine va_iast hx hb hEv.1 hW.1 hW.2 hS (a - 1) 0 hat rfl (dn_vpin hi.1 hi.2 k0) hdg (fun H1 locs1 hP hD hS1 => ?_)
  refine h2 ad ls H1 locs1 hL (dq_wd (h := h) (h' := si h a i y) ha0 rfl ?_ (fun b hb => dw_enI hb) hP hD) hS1 hE hab hau
  rw [dw_2 hsh, dn_nat hi.1 k0]
  congr 3
  refine congrArg Sum.inl (dw_upd ?_ ?_).symm
  · rw [gi_si, if_pos ⟨rfl, dq_cast hi.1⟩]
  · intro j hj
    rw [gi_si, if_neg (fun z => hj (by omega))]
set_option maxHeartbeats 2000000 in
theorem dx_bastore  (C : dq_C p l s m args meth c own cc nL G base b L u xs) (hdg : decode cc pc = .ok (.bastore, 1)) (he : dm_exec sv wrp dm_sh call k T pc 1 (.bastore) d cs Lc S h = some x) (hs : dq_os sv L xs h0 h Lc S) (Hk : ∀ (pc' : Nat) (Lc' : dm_L) (S' : List dm_V) (h' : dm_H), k pc' Lc' S' h' = some x → dq_os sv L xs h0 h' Lc' S' → dq_okx sv L xs h' x ∧ dq_Go p l e R s m args below meth c Q nL G base b u h0 ad0 pc' Lc' S' h') : dq_okx sv L xs h x ∧ dq_Go p l e R s m args below meth c Q nL G base b u h0 ad0 pc Lc S h := by
  obtain ⟨hx, hb, hml, hown, hts, hEv, hSt, hbs, hlocks, hntr⟩ := id C
  simp only [dm_exec] at he
  split at he
  case h_2 => cases he
  rename_i y i q a S'
  obtain ⟨ky, k0'⟩ := dq_h hs.sub
  obtain ⟨k0, k1'⟩ := dq_h k0'
  obtain ⟨k1, k2⟩ := dq_h k1'
  obtain ⟨hi, he⟩ := di_ix he
  obtain ⟨hz1, he⟩ := di_z1 he
  obtain ⟨hsh, ha0, hlt⟩ := k1
  obtain ⟨h1, h2⟩ := Hk _ _ _ _ he (hs.mem (h' := si h a i y) (df_okI hs.1 hlt ky) rfl rfl rfl (fun j => by rw [gi_si, if_neg (fun z => dq_1000 hsh (by decide) z.1)]) k2)
  refine ⟨h1.mem rfl rfl rfl, fun ad ls H locs hL hW hS hE hab hau => ?_⟩
  have hat := dw_at (G := G) (ad := ad) ha0 hlt
  rw [dw_3 hsh] at hat
  show W p l e R s m args below meth c H locs _ _ Q (F0 m pc ls (.int (Int32.ofInt y) :: .int (Int32.ofInt i) :: dm_rv ad a :: S'.map (dm_tv ad)))
  rw [show dm_rv ad a = .ref (ad a) from if_neg ha0]
  refine va_zast hx hb hEv.1 hW.1 hW.2 hS (a - 1) 1 hat rfl (dn_vpin hi.1 hi.2 k0) hdg (fun H1 locs1 hP hD hS1 => ?_)
  refine h2 ad ls H1 locs1 hL (dq_wd (h := h) (h' := si h a i y) ha0 rfl ?_ (fun b hb => dw_enI hb) hP hD) hS1 hE hab hau
  rw [dw_3 hsh, dn_nat hi.1 k0]
  congr 3
  refine congrArg Sum.inl (dw_upd ?_ ?_).symm
  · rw [gi_si, if_pos ⟨rfl, dq_cast hi.1⟩]
    rcases hz1 with rfl | rfl <;> rfl
  · intro j hj
    rw [gi_si, if_neg (fun z => hj (by omega))]
set_option maxHeartbeats 2000000 in
theorem dx_lastore  (C : dq_C p l s m args meth c own cc nL G base b L u xs) (hdg : decode cc pc = .ok (.lastore, 1)) (he : dm_exec sv wrp dm_sh call k T pc 1 (.lastore) d cs Lc S h = some x) (hs : dq_os sv L xs h0 h Lc S) (Hk : ∀ (pc' : Nat) (Lc' : dm_L) (S' : List dm_V) (h' : dm_H), k pc' Lc' S' h' = some x → dq_os sv L xs h0 h' Lc' S' → dq_okx sv L xs h' x ∧ dq_Go p l e R s m args below meth c Q nL G base b u h0 ad0 pc' Lc' S' h') : dq_okx sv L xs h x ∧ dq_Go p l e R s m args below meth c Q nL G base b u h0 ad0 pc Lc S h := by
  obtain ⟨hx, hb, hml, hown, hts, hEv, hSt, hbs, hlocks, hntr⟩ := id C
  simp only [dm_exec] at he
  split at he
  case h_2 => cases he
  rename_i y i q a S'
  obtain ⟨ky, k0'⟩ := dq_h hs.sub
  obtain ⟨k0, k1'⟩ := dq_h k0'
  obtain ⟨k1, k2⟩ := dq_h k1'
  obtain ⟨hi, he⟩ := di_ix he
  obtain ⟨hsh, ha0, hlt⟩ := k1
  obtain ⟨h1, h2⟩ := Hk _ _ _ _ he (hs.mem (h' := sl h i y) (df_okL hs.1 ky) rfl rfl rfl (fun j => rfl) k2)
  refine ⟨h1.mem rfl rfl rfl, fun ad ls H locs hL hW hS hE hab hau => ?_⟩
  have hat := dw_at (G := G) (ad := ad) ha0 hlt
  rw [dw_4 hsh] at hat
  show W p l e R s m args below meth c H locs _ _ Q (F0 m pc ls (.long (Int64.ofInt y) :: .int (Int32.ofInt i) :: dm_rv ad a :: S'.map (dm_tv ad)))
  rw [show dm_rv ad a = .ref (ad a) from if_neg ha0]
  refine va_last hx hb hEv.1 hW.1 hW.2 hS (a - 1) 2 hat rfl (dn_vpin hi.1 hi.2 k0) hdg (fun H1 locs1 hP hD hS1 => ?_)
  refine h2 ad ls H1 locs1 hL (dq_wd (h := h) (h' := sl h i y) ha0 rfl ?_ (fun b hb => dw_enL (by rw [← dw_one4 hsh]; exact hb)) hP hD) hS1 hE hab hau
  rw [dw_4 hsh, dn_nat hi.1 k0]
  congr 3
  refine congrArg (fun z => Sum.inr (Sum.inl z)) (funext fun j => ?_)
  rw [gl_sl]
  unfold vp_updL
  by_cases hj : j = i.toNat
  · rw [if_pos hj, if_pos (by rw [hj]; exact dq_cast hi.1)]
  · rw [if_neg hj, if_neg (by omega)]
set_option maxHeartbeats 2000000 in
theorem dx_aastore  (C : dq_C p l s m args meth c own cc nL G base b L u xs) (hdg : decode cc pc = .ok (.aastore, 1)) (he : dm_exec sv wrp dm_sh call k T pc 1 (.aastore) d cs Lc S h = some x) (hs : dq_os sv L xs h0 h Lc S) (Hk : ∀ (pc' : Nat) (Lc' : dm_L) (S' : List dm_V) (h' : dm_H), k pc' Lc' S' h' = some x → dq_os sv L xs h0 h' Lc' S' → dq_okx sv L xs h' x ∧ dq_Go p l e R s m args below meth c Q nL G base b u h0 ad0 pc' Lc' S' h') : dq_okx sv L xs h x ∧ dq_Go p l e R s m args below meth c Q nL G base b u h0 ad0 pc Lc S h := by
  obtain ⟨hx, hb, hml, hown, hts, hEv, hSt, hbs, hlocks, hntr⟩ := id C
  simp only [dm_exec] at he
  split at he
  case h_2 => cases he
  rename_i y i q a S'
  obtain ⟨ky, k0'⟩ := dq_h hs.sub
  obtain ⟨k0, k1'⟩ := dq_h k0'
  obtain ⟨k1, k2⟩ := dq_h k1'
  obtain ⟨hi, he⟩ := di_ix he
  obtain ⟨hsh, ha0, hlt⟩ := k1
  obtain ⟨h1, h2⟩ := Hk _ _ _ _ he (hs.mem (h' := sr h a i y) (df_okA hs.1 hsh hlt ky) rfl rfl rfl (fun j => rfl) k2)
  refine ⟨h1.mem rfl rfl rfl, fun ad ls H locs hL hW hS hE hab hau => ?_⟩
  have hat := dw_at (G := G) (ad := ad) ha0 hlt
  rw [dw_5 hsh] at hat
  have haty := dw_at (G := G) (ad := ad) ky.2.1 ky.2.2
  rw [dw_obj ky.1] at haty
  show W p l e R s m args below meth c H locs _ _ Q (F0 m pc ls (dm_rv ad y :: .int (Int32.ofInt i) :: dm_rv ad a :: S'.map (dm_tv ad)))
  rw [show dm_rv ad a = .ref (ad a) from if_neg ha0]
  rw [show dm_rv ad y = .ref (ad y) from if_neg ky.2.1]
  refine va_astq hx hb hEv.1 hW.1 hW.2 hS (a - 1) 3 (y - 1) 8 hat rfl haty (df_cl (by decide)) (dn_vpin hi.1 hi.2 k0) hdg (fun H1 locs1 hP hD hS1 => ?_)
  refine h2 ad ls H1 locs1 hL (dq_wd (h := h) (h' := sr h a i y) ha0 rfl ?_ (fun b hb => dw_enR hb) hP hD) hS1 hE hab hau
  rw [dw_5 hsh, dn_nat hi.1 k0]
  congr 3
  refine congrArg (fun z => Sum.inr (Sum.inr (Sum.inr (Sum.inr z)))) (funext fun j => ?_)
  rw [gr_sr]
  unfold va_up
  by_cases hj : j = i.toNat
  · rw [if_pos hj, if_pos ⟨rfl, by rw [hj]; exact dq_cast hi.1⟩]
    exact if_neg ky.2.1
  · rw [if_neg hj, if_neg (fun z => hj (by omega))]
theorem dx_arraylength (hLL : L ≤ 3584) (C : dq_C p l s m args meth c own cc nL G base b L u xs) (hdg : decode cc pc = .ok (.arraylength, 1)) (he : dm_exec sv wrp dm_sh call k T pc 1 (.arraylength) d cs Lc S h = some x) (hs : dq_os sv L xs h0 h Lc S) (Hk : ∀ (pc' : Nat) (Lc' : dm_L) (S' : List dm_V) (h' : dm_H), k pc' Lc' S' h' = some x → dq_os sv L xs h0 h' Lc' S' → dq_okx sv L xs h' x ∧ dq_Go p l e R s m args below meth c Q nL G base b u h0 ad0 pc' Lc' S' h') : dq_okx sv L xs h x ∧ dq_Go p l e R s m args below meth c Q nL G base b u h0 ad0 pc Lc S h := by
  obtain ⟨hx, hb, hml, hown, hts, hEv, hSt, hbs, hlocks, hntr⟩ := id C
  obtain ⟨t, q, a, S', hSe, hf⟩ := di_r1 he
  clear he
  have he := hf
  clear hf
  subst hSe
  split at he
  case isFalse => cases he
  rename_i hc
  obtain ⟨k1, k2⟩ := dq_h hs.sub
  rcases hc with rfl | rfl
  · obtain ⟨hsh, ha0, hlt⟩ := k1
    have hq : dm_in ((q : Nat) : Int) := by
      have := dw_all (fun a => decide ((dm_sh a).2 < 2000)) (by decide +kernel) (dw_lt hsh (by decide))
      rw [hsh] at this
      have := of_decide_eq_true this
      unfold dm_in
      omega
    obtain ⟨h1, h2⟩ := Hk _ _ _ _ he (hs.to (dq_c (P := dm_vk L h) (v := dI ((q : Nat) : Int)) hq k2))
    refine ⟨h1, fun ad ls H locs hL hW hS hE hab hau => ?_⟩
    have hat := dw_at (G := G) (ad := ad) ha0 hlt
    rw [dw_2 hsh] at hat
    show W p l e R s m args below meth c H locs _ _ Q (F0 m pc ls (dm_rv ad a :: S'.map (dm_tv ad)))
    rw [show dm_rv ad a = .ref (ad a) from if_neg ha0]
    exact va_alen hx hb hEv.1 hW.1 (a - 1) 0 hat rfl (Int32.ofInt_eq_ofNat.symm) hdg (h2 ad ls H locs hL hW hS hE hab hau)
  · obtain ⟨rfl, rfl⟩ := k1
    obtain ⟨h1, h2⟩ := Hk _ _ _ _ he (hs.to (dq_c (P := dm_vk q h) (v := dI ((q : Nat) : Int)) (show dm_in ((q : Nat) : Int) by unfold dm_in; omega) k2))
    refine ⟨h1, fun ad ls H locs hL hW hS hE hab hau => ?_⟩
    have h3 := h2 ad ls H locs hL hW hS hE hab hau
    show W p l e R s m args below meth c H locs _ _ Q (F0 m pc ls (.ref (ad 1000) :: S'.map (dm_tv ad)))
    rw [hab]
    refine va_slen hx hb hSt.1 (Nat.lt_of_lt_of_le hSt.2.2.1 hbs) (by unfold dm_A; have := hSt.2.2.1; omega) hS hdg ?_
    rw [← Int32.ofInt_eq_ofNat]
    exact h3
theorem dx_getstatic {idx : Nat} (hlk : ∃ q ∈ dm_ukn, own = dm_on q.1 ∧ idx = q.2) (C : dq_C p l s m args meth c own cc nL G base b L u xs) (hdg : decode cc pc = .ok (.getstatic idx, 3)) (he : dm_exec sv wrp dm_sh call k T pc 3 (.getstatic idx) d cs Lc S h = some x) (hs : dq_os sv L xs h0 h Lc S) (Hk : ∀ (pc' : Nat) (Lc' : dm_L) (S' : List dm_V) (h' : dm_H), k pc' Lc' S' h' = some x → dq_os sv L xs h0 h' Lc' S' → dq_okx sv L xs h' x ∧ dq_Go p l e R s m args below meth c Q nL G base b u h0 ad0 pc' Lc' S' h') : dq_okx sv L xs h x ∧ dq_Go p l e R s m args below meth c Q nL G base b u h0 ad0 pc Lc S h := by
  obtain ⟨hx, hb, hml, hown, hts, hEv, hSt, hbs, hlocks, hntr⟩ := id C
  obtain ⟨h1, h2⟩ := Hk _ _ _ _ he (hs.to (dq_c (P := dm_vk L h) (show dm_vk L h (dR 9 3 1001) from ⟨rfl, rfl⟩) hs.sub))
  refine ⟨h1, fun ad ls H locs hL hW hS hE hab hau => ?_⟩
  have h3 := h2 ad ls H locs hL hW hS hE hab hau
  have e : dm_tv ad (dR 9 3 1001) = .ref u := by rw [← hau]; rfl
  rw [List.map_cons, e] at h3
  obtain ⟨q, hq, rfl, rfl⟩ := hlk
  exact va_getsN hx hb hSt.2.2.2.2.1 hS hown (va_Nw.use rfl (hEv.2.2.1 q hq)) (fun _ z => z) hdg h3
abbrev dq_xs : List String := ["java/lang/RuntimeException", "java/lang/Exception"]
/-- the words of a place where an exception is thrown, checked -/
noncomputable def dq_tkb (own : String) (ik ic E : Nat) : Bool := dm_ws.contains (.classLink own ik (dm_xn E)) && dm_ws.contains (.initialized (dm_xn E)) && (vx_atS own ic (dm_xn E) dq_xs).all (fun w => (dm_ws.contains w || dm_nw.contains w) && vx_ot w)
theorem dq_tks : (dm_tk.map (fun q => (dm_o q.1, q.2.2.1, q.2.2.2.2.1, q.2.2.2.2.2.1))).eraseDups.all (fun q => dq_tkb (dm_on q.1) q.2.1 q.2.2.1 q.2.2.2) = true := by decide +kernel
theorem dq_tkok {q : Nat × Nat × Nat × Nat × Nat × Nat × String × Nat} (h : q ∈ dm_tk) : dq_tkb (dm_on (dm_o q.1)) q.2.2.1 q.2.2.2.2.1 q.2.2.2.2.2.1 = true := by
  have h1 : (dm_o q.1, q.2.2.1, q.2.2.2.2.1, q.2.2.2.2.2.1) ∈ (dm_tk.map (fun q => (dm_o q.1, q.2.2.1, q.2.2.2.2.1, q.2.2.2.2.2.1))).eraseDups := by
    rw [List.mem_eraseDups]
    exact List.mem_map.mpr ⟨q, h, rfl⟩
  exact List.all_eq_true.mp dq_tks _ h1
theorem dq_wdk {ad : Nat → Nat} {H H1 : Heap} (hW : dm_Wd G base ad h H) (hq : ∀ q : Nat, q < H.size → H1[q]? = H[q]?) : dm_Wd G base ad h H1 :=
  ⟨fun i q hi => (hW.1 i q hi).kept (hq q.1 (hW.1 i q hi).lt), hW.2⟩
set_option maxHeartbeats 1000000 in
theorem dx_throw {idx E : Nat} (hd : d = [1, E]) (hE : E < 3) (hT : ∀ z ∈ c.exceptionTable.toList, False) (hR1 : R.cells = gc x.2 - gc h0) (hR2 : R.slots = gs x.2 - gs h0) (hR3 : 20 ≤ R.frames) (hR4 : 400 ≤ R.locals) (hsite : ∃ q ∈ dm_tk, own = dm_on (dm_o q.1) ∧ idx = q.2.2.1 ∧ q.2.2.2.2.2.1 = E ∧ ((decode cc (pc + 3) = .ok (.dup, 1) ∧ decode cc (pc + 4) = .ok (.ldc q.2.2.2.1, 2) ∧ decode cc (pc + 6) = .ok (.invokespecial q.2.2.2.2.1, 3) ∧ decode cc (pc + 9) = .ok (.athrow, 1)) ∨ (decode cc (pc + 3) = .ok (.dup, 1) ∧ decode cc (pc + 4) = .ok (.ldc_w q.2.2.2.1, 3) ∧ decode cc (pc + 7) = .ok (.invokespecial q.2.2.2.2.1, 3) ∧ decode cc (pc + 10) = .ok (.athrow, 1)))) (C : dq_C p l s m args meth c own cc nL G base b L u xs) (hdg : decode cc pc = .ok (.new idx, 3)) (he : dm_exec sv wrp dm_sh call k T pc 3 (.new idx) d cs Lc S h = some x) (hs : dq_os sv L xs h0 h Lc S) : dq_okx sv L xs h x ∧ dq_Go p l e R s m args below meth c (dq_Q below G base h0 ad0 x args s) nL G base b u h0 ad0 pc Lc S h := by
  obtain ⟨hx, hb, hml, hown, hts, hEv, hSt, hbs, hlocks, hntr⟩ := id C
  subst hd
  simp only [dm_exec] at he
  split at he
  case h_2 => cases he
  split at he
  case h_2 => cases he
  cases he
  obtain ⟨q, hq, rfl, rfl, hE3, hdec⟩ := hsite
  have hz : gc h0 ≤ gc h ∧ gs h0 ≤ gs h := ⟨hs.2.1.1, hs.2.1.2.1⟩
  refine ⟨⟨⟨hs.1.1, hs.1.2.1, hs.1.2.2.1, hs.1.2.2.2.1, hs.1.2.2.2.2.1, hs.1.2.2.2.2.2⟩, Nat.le_succ _, Nat.le_add_right _ _, Nat.le_refl _, hs.2.2.1, (fun v hv => by cases hv), fun F hF => by cases hF; exact ⟨hE, rfl⟩⟩, fun ad ls H locs hL hW hS hE' hab hau => ?_⟩
  have t0 := dq_tkok hq
  rw [hE3] at t0
  unfold dq_tkb at t0
  simp only [Bool.and_eq_true] at t0
  obtain ⟨⟨t1, t2⟩, t3⟩ := t0
  obtain ⟨sa, hsa⟩ := hEv.2.2.2.2.2.2.1 q hq
  have hat : ∀ w ∈ vx_atS (dm_on (dm_o q.1)) q.2.2.2.2.1 (dm_xn E) dq_xs, w.before args s = true := by
    intro w hw
    have h9 := List.all_eq_true.mp t3 w hw
    simp only [Bool.and_eq_true, Bool.or_eq_true] at h9
    rcases h9.1 with h9 | h9
    · exact hts w (List.contains_iff_mem.mp h9)
    · have h9 := List.contains_iff_mem.mp h9
      exact dm_nw_use (List.mem_filter.mp h9).2 (hEv.2.2.2.2.2.1 w h9)
  have hgood : ∀ w ∈ Cond.classLink (dm_on (dm_o q.1)) q.2.2.1 (dm_xn E) :: Cond.initialized (dm_xn E) :: vx_atS (dm_on (dm_o q.1)) q.2.2.2.2.1 (dm_xn E) dq_xs, vx_ot w = true := by
    intro w hw
    rcases List.mem_cons.mp hw with rfl | hw
    · rfl
    · rcases List.mem_cons.mp hw with rfl | hw
      · rfl
      · have h9 := List.all_eq_true.mp t3 w hw
        simp only [Bool.and_eq_true] at h9
        exact h9.2
  have hxx : ∀ t : State, s.vm.Alike t.vm → H.size ≤ t.heap.size → (∀ q : Nat, q < H.size → t.heap[q]? = H[q]?) → dq_XC G base h0 ad0 (.inr E, sg h 6) (dm_xn E) s t := by
    intro t _ hz1 hz2
    refine ⟨⟨ad, E, hE', rfl, rfl, dq_wdk hW hz2⟩, Nat.le_trans hS.1 hz1, fun q h1 h2 => ?_⟩
    rw [hz2 q (Nat.lt_of_lt_of_le h1 hS.1)]
    exact hS.2.1 q h1 h2
  have e1 : gc ((.inr E, sg h 6) : dm_X).2 = gc h + 1 := rfl
  have e2 : gs ((.inr E, sg h 6) : dm_X).2 = gs h + 6 := rfl
  have hfit : Bundle.fit (dm_xn E) = true := by
    have : E = 0 ∨ E = 1 ∨ E = 2 := by omega
    rcases this with rfl | rfl | rfl <;> decide +kernel
  rcases hdec with ⟨d3, d4, d6, d9⟩ | ⟨d3, d4, d6, d9⟩
  · exact vx_throwS hx hb hntr hown hfit (by decide) (hts _ (List.contains_iff_mem.mp t1)) (hts _ (List.contains_iff_mem.mp t2)) hsa hat hgood hSt.2.2.2.2.2.1 hSt.2.2.2.2.2.2 hS (hL.1.trans hml.symm) hdg d3 d4 d6 d9 (fun z hz => (hT z hz).elim) (by show 2 + 3 < R.frames; omega) (by show 0 + (13 * 3 + 43) ≤ R.locals; omega) (by rw [hR1, e1]; omega) (by rw [hR2, e2]; omega) hlocks hxx (fun q hq => hS.2.2 q hq) (by rw [e1]; omega) (by rw [e2]; omega)
  · exact vx_throwSW hx hb hntr hown hfit (by decide) (hts _ (List.contains_iff_mem.mp t1)) (hts _ (List.contains_iff_mem.mp t2)) hsa hat hgood hSt.2.2.2.2.2.1 hSt.2.2.2.2.2.2 hS (hL.1.trans hml.symm) hdg d3 d4 d6 d9 (fun z hz => (hT z hz).elim) (by show 2 + 3 < R.frames; omega) (by show 0 + (13 * 3 + 43) ≤ R.locals; omega) (by rw [hR1, e1]; omega) (by rw [hR2, e2]; omega) hlocks hxx (fun q hq => hS.2.2 q hq) (by rw [e1]; omega) (by rw [e2]; omega)
end DQ
