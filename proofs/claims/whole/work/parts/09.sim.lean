/-! THE SMALL MACHINE'S STEPS ARE THE MACHINE'S: one lemma an instruction (text by wip/whole/gen/sim.py) -/
def dq_fr (d : Nat) : Nat := d + 20
def dq_lo (d : Nat) : Nat := 64 * d + 400
def dq_nl (v : dm_V) : Prop := match v with
  | .inr (.inr _) => False
  | _ => True
/-- a method's frame stands at s: machine, code, tables, what lies outside -/
def dq_C (p : Program) (l : Launch) (s : State) (m : MethodId) (args : Array Value) (meth : Method) (c : Code) (own : String) (cc : ByteArray) (nL : Nat) (G : dm_G) (base b L u : Nat) (xs : Nat → Int) : Prop :=
  p.tables.exec = Jvm.exec ∧ c.code = cc ∧ c.maxLocals = nL ∧ s.vm.findClass own = some m.cls ∧ (∀ w ∈ dm_ws, w.before args s = true) ∧ dm_Ev G s ∧ dm_St base b L u xs s s.heap ∧ base ≤ s.heap.size ∧ meth.locks = false ∧ l.stackTraces = false
def dq_ext (h0 : dm_H) (ad0 ad : Nat → Nat) : Prop := ∀ a, a < gz h0 ∨ 1000 ≤ a → ad a = ad0 a
def dq_L (nL : Nat) (ad : Nat → Nat) (Lc : dm_L) (ls : Array Slot) : Prop := ls.size = nL ∧ Lc.length = nL ∧ lv_wf ls ∧ ∀ (i : Nat) (v : dm_V), Lc[i]? = some (some v) → ls[i]? = some (.val (dm_tv ad v))
/-- from here on the machine comes to an end with Q -/
def dq_Go (p : Program) (l : Launch) (e : Env) (R : Room) (s : State) (m : MethodId) (args : Array Value) (below : List Frame) (meth : Method) (c : Code) (Q : State → Prop) (nL : Nat) (G : dm_G) (base b u : Nat) (h0 : dm_H) (ad0 : Nat → Nat) (pc : Nat) (Lc : dm_L) (S : List dm_V) (h : dm_H) : Prop :=
  ∀ (ad : Nat → Nat) (ls : Array Slot) (H : Heap) (locs : List Loc), dq_L nL ad Lc ls → dm_Wd G base ad h H → va_S (dm_A base) s.heap H locs → dq_ext h0 ad0 ad → ad 1000 = b → ad 1001 = u →
    W p l e R s m args below meth c H locs (gc h - gc h0) (gs h - gs h0) Q (F0 m pc ls (S.map (dm_tv ad)))
/-- a state that the small machine may be in, in a method begun at h0 -/
def dq_os (sv : Bool) (L : Nat) (xs : Nat → Int) (h0 h : dm_H) (Lc : dm_L) (S : List dm_V) : Prop := dm_ok sv h ∧ (gc h0 ≤ gc h ∧ gs h0 ≤ gs h ∧ gz h0 ≤ gz h) ∧ (∀ j : Nat, j < L → gi h 1000 j = xs j) ∧ (∀ v ∈ S, dm_vk L h v) ∧ ∀ (i : Nat) (v : dm_V), Lc[i]? = some (some v) → dm_vk L h v ∧ dq_nl v
def dq_okx (sv : Bool) (L : Nat) (xs : Nat → Int) (h : dm_H) (x : dm_X) : Prop := dm_ok sv x.2 ∧ gc h ≤ gc x.2 ∧ gs h ≤ gs x.2 ∧ gz h ≤ gz x.2 ∧ (∀ j : Nat, j < L → gi x.2 1000 j = xs j) ∧ (∀ v, x.1 = .inl (some v) → dm_vk L x.2 v ∧ dq_nl v) ∧ ∀ E, x.1 = .inr E → E < 3 ∧ sv = true
theorem dq_os.to {sv : Bool} {L : Nat} {xs : Nat → Int} {h0 h : dm_H} {Lc : dm_L} {S S' : List dm_V} (k : dq_os sv L xs h0 h Lc S) (hv : ∀ v ∈ S', dm_vk L h v) : dq_os sv L xs h0 h Lc S' := ⟨k.1, k.2.1, k.2.2.1, hv, k.2.2.2.2⟩
theorem dq_os.sub {sv : Bool} {L : Nat} {xs : Nat → Int} {h0 h : dm_H} {Lc : dm_L} {S : List dm_V} (k : dq_os sv L xs h0 h Lc S) : ∀ v ∈ S, dm_vk L h v := k.2.2.2.1
theorem dq_c {P : dm_V → Prop} {v : dm_V} {S : List dm_V} (h1 : P v) (h2 : ∀ w ∈ S, P w) : ∀ w ∈ v :: S, P w := List.forall_mem_cons.mpr ⟨h1, h2⟩
theorem dq_h {P : dm_V → Prop} {v : dm_V} {S : List dm_V} (h : ∀ w ∈ v :: S, P w) : P v ∧ ∀ w ∈ S, P w := List.forall_mem_cons.mp h
/-! what a part of a step that ends says -/
theorem di_2 {S : List dm_V} {f : Int → Int → List dm_V → dm_O} {x : dm_X} (h : dm_2 S f = some x) : ∃ a b S', S = .inl b :: .inl a :: S' ∧ f a b S' = some x := by
  unfold dm_2 at h
  split at h
  · exact ⟨_, _, _, rfl, h⟩
  · cases h
theorem di_1 {S : List dm_V} {f : Int → List dm_V → dm_O} {x : dm_X} (h : dm_1 S f = some x) : ∃ a S', S = .inl a :: S' ∧ f a S' = some x := by
  unfold dm_1 at h
  split at h
  · exact ⟨_, _, rfl, h⟩
  · cases h
theorem di_r1 {S : List dm_V} {f : Nat → Nat → Nat → List dm_V → dm_O} {x : dm_X} (h : dm_r1 S f = some x) : ∃ t p a S', S = dR t p a :: S' ∧ f t p a S' = some x := by
  unfold dm_r1 at h
  split at h
  · exact ⟨_, _, _, _, rfl, h⟩
  · cases h
theorem di_ri {S : List dm_V} {f : Nat → Nat → Nat → Int → List dm_V → dm_O} {x : dm_X} (h : dm_ri S f = some x) : ∃ t p a i S', S = dI i :: dR t p a :: S' ∧ f t p a i S' = some x := by
  unfold dm_ri at h
  split at h
  · exact ⟨_, _, _, _, _, rfl, h⟩
  · cases h
theorem di_ck {z : Int} {f : Int → dm_O} {x : dm_X} (h : dm_ck z f = some x) : dm_in z ∧ f z = some x := by
  unfold dm_ck at h
  split at h
  · exact ⟨by assumption, h⟩
  · cases h
theorem di_ix {i : Int} {n : Nat} {f : dm_O} {x : dm_X} (h : dm_ix i n f = some x) : (0 ≤ i ∧ i < (n : Int)) ∧ f = some x := by
  unfold dm_ix at h
  split at h
  · exact ⟨by assumption, h⟩
  · cases h
theorem di_z1 {i : Int} {f : dm_O} {x : dm_X} (h : dm_z1 i f = some x) : (i = 0 ∨ i = 1) ∧ f = some x := by
  unfold dm_z1 at h
  split at h
  · exact ⟨by assumption, h⟩
  · cases h
theorem di_nn {a : Nat} {f : dm_O} {x : dm_X} (h : dm_nn a f = some x) : a ≠ 0 ∧ f = some x := by
  unfold dm_nn at h
  split at h
  · cases h
  · exact ⟨by assumption, h⟩
theorem di_get {Lc : dm_L} {i : Nat} {f : dm_V → dm_O} {x : dm_X} (h : dm_get Lc i f = some x) : ∃ v, Lc[i]? = some (some v) ∧ f v = some x := by
  unfold dm_get at h
  split at h
  · exact ⟨_, by assumption, h⟩
  · cases h
theorem di_put {Lc : dm_L} {i : Nat} {v : Option dm_V} {f : dm_L → dm_O} {x : dm_X} (h : dm_put Lc i v f = some x) : i < Lc.length ∧ f (Lc.set i v) = some x := by
  unfold dm_put at h
  split at h
  · exact ⟨by assumption, h⟩
  · cases h
theorem dq_cat {ad : Nat → Nat} {v : dm_V} (h : dq_nl v) : (dm_tv ad v).category = 1 := by
  unfold dq_nl at h
  unfold dm_tv dm_rv
  split
  · rfl
  · split <;> rfl
  · exact h.elim
/-- the locals as the kit writes them -/
def dq_lv (ad : Nat → Nat) (Lc : dm_L) : List (Nat × Value) := (List.range Lc.length).filterMap (fun i => match Lc[i]? with
  | some (some v) => some (i, dm_tv ad v)
  | _ => none)
theorem dq_lvm {ad : Nat → Nat} {Lc : dm_L} {q : Nat × Value} : q ∈ dq_lv ad Lc ↔ ∃ v, Lc[q.1]? = some (some v) ∧ q.2 = dm_tv ad v := by
  unfold dq_lv
  rw [List.mem_filterMap]
  constructor
  · rintro ⟨i, -, hi⟩
    split at hi
    · rename_i v hv
      cases hi
      exact ⟨v, hv, rfl⟩
    · cases hi
  · rintro ⟨v, hv, he⟩
    refine ⟨q.1, List.mem_range.mpr (List.getElem?_eq_some_iff.mp hv).1, ?_⟩
    rw [hv]
    show some (q.1, dm_tv ad v) = some q
    rw [← he]
theorem dq_has {nL : Nat} {ad : Nat → Nat} {Lc : dm_L} {ls : Array Slot} (h : dq_L nL ad Lc ls) : lv_has ls nL (dq_lv ad Lc) := by
  refine ⟨h.1, h.2.2.1, fun q hq => ?_⟩
  obtain ⟨v, h1, h2⟩ := dq_lvm.mp hq
  rw [h2]
  exact h.2.2.2 _ _ h1
/-- behind a store -/
theorem dq_stored {nL i : Nat} {ad : Nat → Nat} {Lc : dm_L} {ls' : Array Slot} {v : dm_V} {w : Value} (hn : ∀ (j : Nat) (v : dm_V), Lc[j]? = some (some v) → dq_nl v) (hl : Lc.length = nL) (hw : w = dm_tv ad v)
    (h : lv_has ls' nL ((i, w) :: (dq_lv ad Lc).filter (fun q => !(q.1 == i) && !(q.1 + 1 == i && q.2.category == 2)))) : dq_L nL ad (Lc.set i (some v)) ls' := by
  refine ⟨h.1, by rw [List.length_set, hl], h.2.1, fun j z hz => ?_⟩
  by_cases e : i = j
  · subst e
    have hlt : i < (Lc.set i (some v)).length := (List.getElem?_eq_some_iff.mp hz).1
    rw [List.length_set] at hlt
    rw [List.getElem?_set_self hlt] at hz
    cases hz
    have := h.2.2 (i, w) List.mem_cons_self
    rw [← hw]
    exact this
  · rw [List.getElem?_set_ne e] at hz
    refine h.2.2 (j, dm_tv ad z) (List.mem_cons_of_mem _ (List.mem_filter.mpr ⟨dq_lvm.mpr ⟨z, hz, rfl⟩, ?_⟩))
    have hc : (dm_tv ad z).category = 1 := dq_cat (hn j z hz)
    have hj : (j == i) = false := by simp; omega
    simp [hj, hc]
theorem dq_forgot {nL i : Nat} {ad : Nat → Nat} {Lc : dm_L} {ls' : Array Slot} {w : Value} (hn : ∀ (j : Nat) (v : dm_V), Lc[j]? = some (some v) → dq_nl v) (hl : Lc.length = nL)
    (h : lv_has ls' nL ((i, w) :: (dq_lv ad Lc).filter (fun q => !(q.1 == i) && !(q.1 + 1 == i && q.2.category == 2)))) : dq_L nL ad (Lc.set i none) ls' := by
  refine ⟨h.1, by rw [List.length_set, hl], h.2.1, fun j z hz => ?_⟩
  by_cases e : i = j
  · subst e
    have hlt : i < (Lc.set i none).length := (List.getElem?_eq_some_iff.mp hz).1
    rw [List.length_set] at hlt
    rw [List.getElem?_set_self hlt] at hz
    cases hz
  · rw [List.getElem?_set_ne e] at hz
    refine h.2.2 (j, dm_tv ad z) (List.mem_cons_of_mem _ (List.mem_filter.mpr ⟨dq_lvm.mpr ⟨z, hz, rfl⟩, ?_⟩))
    have hc : (dm_tv ad z).category = 1 := dq_cat (hn j z hz)
    have hj : (j == i) = false := by simp; omega
    simp [hj, hc]
theorem dq_os.set {sv : Bool} {L i : Nat} {xs : Nat → Int} {h0 h : dm_H} {Lc : dm_L} {S S' : List dm_V} {v : Option dm_V} (k : dq_os sv L xs h0 h Lc S) (hv : ∀ w, v = some w → dm_vk L h w ∧ dq_nl w) (hS : ∀ v ∈ S', dm_vk L h v) : dq_os sv L xs h0 h (Lc.set i v) S' := by
  refine ⟨k.1, k.2.1, k.2.2.1, hS, fun j z hz => ?_⟩
  by_cases e : i = j
  · subst e
    have hlt : i < (Lc.set i v).length := (List.getElem?_eq_some_iff.mp hz).1
    rw [List.length_set] at hlt
    rw [List.getElem?_set_self hlt] at hz
    exact hv z (Option.some.inj hz)
  · rw [List.getElem?_set_ne e] at hz
    exact k.2.2.2.2 j z hz
section DQ
variable {p : Program} {l : Launch} {e : Env} {R : Room} {s : State} {m : MethodId} {args : Array Value} {below : List Frame} {meth : Method} {c : Code} {Q : State → Prop}
variable {own : String} {cc : ByteArray} {nL : Nat} {G : dm_G} {base b L u : Nat} {xs : Nat → Int} {sv : Bool} {h0 h : dm_H} {ad0 : Nat → Nat} {x : dm_X} {wrp pc : Nat} {call : Nat → List dm_V → dm_H → dm_O} {k : dm_K} {T : dm_T} {d cs : List Nat} {Lc : dm_L} {S : List dm_V}

theorem dx_iconst {z : Int} (hz : dm_in z) (C : dq_C p l s m args meth c own cc nL G base b L u xs) (hdg : decode cc pc = .ok (.iconst z, 1)) (he : dm_exec sv wrp dm_sh call k T pc 1 (.iconst z) d cs Lc S h = some x) (hs : dq_os sv L xs h0 h Lc S) (Hk : ∀ (pc' : Nat) (Lc' : dm_L) (S' : List dm_V) (h' : dm_H), k pc' Lc' S' h' = some x → dq_os sv L xs h0 h' Lc' S' → dq_okx sv L xs h' x ∧ dq_Go p l e R s m args below meth c Q nL G base b u h0 ad0 pc' Lc' S' h') : dq_okx sv L xs h x ∧ dq_Go p l e R s m args below meth c Q nL G base b u h0 ad0 pc Lc S h := by
  obtain ⟨hx, hb, hml, hown, hts, hEv, hSt, hbs, hlocks, hntr⟩ := id C
  obtain ⟨h1, h2⟩ := Hk _ _ _ _ he (hs.to (dq_c (P := dm_vk L h) hz hs.sub))
  exact ⟨h1, fun ad ls H locs hL hW hS hE hab hau => lv_iconst hx hb hdg rfl (h2 ad ls H locs hL hW hS hE hab hau)⟩
theorem dx_bipush {z : Int} (hz : -128 ≤ z ∧ z < 128) (C : dq_C p l s m args meth c own cc nL G base b L u xs) (hdg : decode cc pc = .ok (.bipush z, 2)) (he : dm_exec sv wrp dm_sh call k T pc 2 (.bipush z) d cs Lc S h = some x) (hs : dq_os sv L xs h0 h Lc S) (Hk : ∀ (pc' : Nat) (Lc' : dm_L) (S' : List dm_V) (h' : dm_H), k pc' Lc' S' h' = some x → dq_os sv L xs h0 h' Lc' S' → dq_okx sv L xs h' x ∧ dq_Go p l e R s m args below meth c Q nL G base b u h0 ad0 pc' Lc' S' h') : dq_okx sv L xs h x ∧ dq_Go p l e R s m args below meth c Q nL G base b u h0 ad0 pc Lc S h := by
  obtain ⟨hx, hb, hml, hown, hts, hEv, hSt, hbs, hlocks, hntr⟩ := id C
  obtain ⟨h1, h2⟩ := Hk _ _ _ _ he (hs.to (dq_c (P := dm_vk L h) (show dm_in z by unfold dm_in; omega) hs.sub))
  exact ⟨h1, fun ad ls H locs hL hW hS hE hab hau => lv_bipush hx hb hdg (by
    apply Int32.toInt_inj.mp
    rw [Int8.toInt_toInt32, Int8.toInt_ofInt, dn_toInt (by unfold dm_in; omega)]
    exact Int.bmod_eq_of_le (by have hz : (Int8.size : Int) = 256 := rfl; omega) (by have hz : (Int8.size : Int) = 256 := rfl; omega)) (h2 ad ls H locs hL hW hS hE hab hau)⟩
theorem dx_sipush {z : Int} (hz : -32768 ≤ z ∧ z < 32768) (C : dq_C p l s m args meth c own cc nL G base b L u xs) (hdg : decode cc pc = .ok (.sipush z, 3)) (he : dm_exec sv wrp dm_sh call k T pc 3 (.sipush z) d cs Lc S h = some x) (hs : dq_os sv L xs h0 h Lc S) (Hk : ∀ (pc' : Nat) (Lc' : dm_L) (S' : List dm_V) (h' : dm_H), k pc' Lc' S' h' = some x → dq_os sv L xs h0 h' Lc' S' → dq_okx sv L xs h' x ∧ dq_Go p l e R s m args below meth c Q nL G base b u h0 ad0 pc' Lc' S' h') : dq_okx sv L xs h x ∧ dq_Go p l e R s m args below meth c Q nL G base b u h0 ad0 pc Lc S h := by
  obtain ⟨hx, hb, hml, hown, hts, hEv, hSt, hbs, hlocks, hntr⟩ := id C
  obtain ⟨h1, h2⟩ := Hk _ _ _ _ he (hs.to (dq_c (P := dm_vk L h) (show dm_in z by unfold dm_in; omega) hs.sub))
  exact ⟨h1, fun ad ls H locs hL hW hS hE hab hau => lv_sipush hx hb hdg (by
    apply Int32.toInt_inj.mp
    rw [Int16.toInt_toInt32, Int16.toInt_ofInt, dn_toInt (by unfold dm_in; omega)]
    exact Int.bmod_eq_of_le (by have hz : (Int16.size : Int) = 65536 := rfl; omega) (by have hz : (Int16.size : Int) = 65536 := rfl; omega)) (h2 ad ls H locs hL hW hS hE hab hau)⟩
theorem dx_null  (C : dq_C p l s m args meth c own cc nL G base b L u xs) (hdg : decode cc pc = .ok (.aconst_null, 1)) (he : dm_exec sv wrp dm_sh call k T pc 1 (.aconst_null) d cs Lc S h = some x) (hs : dq_os sv L xs h0 h Lc S) (Hk : ∀ (pc' : Nat) (Lc' : dm_L) (S' : List dm_V) (h' : dm_H), k pc' Lc' S' h' = some x → dq_os sv L xs h0 h' Lc' S' → dq_okx sv L xs h' x ∧ dq_Go p l e R s m args below meth c Q nL G base b u h0 ad0 pc' Lc' S' h') : dq_okx sv L xs h x ∧ dq_Go p l e R s m args below meth c Q nL G base b u h0 ad0 pc Lc S h := by
  obtain ⟨hx, hb, hml, hown, hts, hEv, hSt, hbs, hlocks, hntr⟩ := id C
  obtain ⟨h1, h2⟩ := Hk _ _ _ _ he (hs.to (dq_c (P := dm_vk L h) (show dm_vk L h (dR 0 0 0) from rfl) hs.sub))
  exact ⟨h1, fun ad ls H locs hL hW hS hE hab hau => lv_null hx hb hdg (h2 ad ls H locs hL hW hS hE hab hau)⟩
theorem dx_lconst {z : Fin 2} (C : dq_C p l s m args meth c own cc nL G base b L u xs) (hdg : decode cc pc = .ok (.lconst z, 1)) (he : dm_exec sv wrp dm_sh call k T pc 1 (.lconst z) d cs Lc S h = some x) (hs : dq_os sv L xs h0 h Lc S) (Hk : ∀ (pc' : Nat) (Lc' : dm_L) (S' : List dm_V) (h' : dm_H), k pc' Lc' S' h' = some x → dq_os sv L xs h0 h' Lc' S' → dq_okx sv L xs h' x ∧ dq_Go p l e R s m args below meth c Q nL G base b u h0 ad0 pc' Lc' S' h') : dq_okx sv L xs h x ∧ dq_Go p l e R s m args below meth c Q nL G base b u h0 ad0 pc Lc S h := by
  obtain ⟨hx, hb, hml, hown, hts, hEv, hSt, hbs, hlocks, hntr⟩ := id C
  have hz : dm_in ((z : Nat) : Int) := by have := z.2; unfold dm_in; omega
  obtain ⟨h1, h2⟩ := Hk _ _ _ _ he (hs.to (dq_c (P := dm_vk L h) (show dm_vk L h (dJ ((z : Nat) : Int)) from hz) hs.sub))
  exact ⟨h1, fun ad ls H locs hL hW hS hE hab hau => lv_lconst hx hb hdg (by rw [← Int64.ofInt_eq_ofNat]) (h2 ad ls H locs hL hW hS hE hab hau)⟩
theorem dx_ldc {z q : Nat} (hd : d = [q]) (hq : dm_in (q : Int)) (hco : (Jvm.Cond.constant own z (Int32.ofInt (q : Int))).before args s = true) (C : dq_C p l s m args meth c own cc nL G base b L u xs) (hdg : decode cc pc = .ok (.ldc z, 2)) (he : dm_exec sv wrp dm_sh call k T pc 2 (.ldc z) d cs Lc S h = some x) (hs : dq_os sv L xs h0 h Lc S) (Hk : ∀ (pc' : Nat) (Lc' : dm_L) (S' : List dm_V) (h' : dm_H), k pc' Lc' S' h' = some x → dq_os sv L xs h0 h' Lc' S' → dq_okx sv L xs h' x ∧ dq_Go p l e R s m args below meth c Q nL G base b u h0 ad0 pc' Lc' S' h') : dq_okx sv L xs h x ∧ dq_Go p l e R s m args below meth c Q nL G base b u h0 ad0 pc Lc S h := by
  obtain ⟨hx, hb, hml, hown, hts, hEv, hSt, hbs, hlocks, hntr⟩ := id C
  subst hd
  obtain ⟨h1, h2⟩ := Hk _ _ _ _ he (hs.to (dq_c (P := dm_vk L h) hq hs.sub))
  exact ⟨h1, fun ad ls H locs hL hW hS hE hab hau => lv_ldc hx hb hown hco hdg (h2 ad ls H locs hL hW hS hE hab hau)⟩
theorem dx_ldc_w {z q : Nat} (hd : d = [q]) (hq : dm_in (q : Int)) (hco : (Jvm.Cond.constant own z (Int32.ofInt (q : Int))).before args s = true) (C : dq_C p l s m args meth c own cc nL G base b L u xs) (hdg : decode cc pc = .ok (.ldc_w z, 3)) (he : dm_exec sv wrp dm_sh call k T pc 3 (.ldc_w z) d cs Lc S h = some x) (hs : dq_os sv L xs h0 h Lc S) (Hk : ∀ (pc' : Nat) (Lc' : dm_L) (S' : List dm_V) (h' : dm_H), k pc' Lc' S' h' = some x → dq_os sv L xs h0 h' Lc' S' → dq_okx sv L xs h' x ∧ dq_Go p l e R s m args below meth c Q nL G base b u h0 ad0 pc' Lc' S' h') : dq_okx sv L xs h x ∧ dq_Go p l e R s m args below meth c Q nL G base b u h0 ad0 pc Lc S h := by
  obtain ⟨hx, hb, hml, hown, hts, hEv, hSt, hbs, hlocks, hntr⟩ := id C
  subst hd
  obtain ⟨h1, h2⟩ := Hk _ _ _ _ he (hs.to (dq_c (P := dm_vk L h) hq hs.sub))
  exact ⟨h1, fun ad ls H locs hL hW hS hE hab hau => lv_ldcw hx hb hown hco hdg (h2 ad ls H locs hL hW hS hE hab hau)⟩
theorem dx_iload {j : Nat} (hty : ∀ v, Lc[(j : Nat)]? = some (some v) → ∃ z, v = .inl z) (C : dq_C p l s m args meth c own cc nL G base b L u xs) (hdg : decode cc pc = .ok (.iload j, 2)) (he : dm_exec sv wrp dm_sh call k T pc 2 (.iload j) d cs Lc S h = some x) (hs : dq_os sv L xs h0 h Lc S) (Hk : ∀ (pc' : Nat) (Lc' : dm_L) (S' : List dm_V) (h' : dm_H), k pc' Lc' S' h' = some x → dq_os sv L xs h0 h' Lc' S' → dq_okx sv L xs h' x ∧ dq_Go p l e R s m args below meth c Q nL G base b u h0 ad0 pc' Lc' S' h') : dq_okx sv L xs h x ∧ dq_Go p l e R s m args below meth c Q nL G base b u h0 ad0 pc Lc S h := by
  obtain ⟨hx, hb, hml, hown, hts, hEv, hSt, hbs, hlocks, hntr⟩ := id C
  obtain ⟨v, hv, he⟩ := di_get he
  obtain ⟨h1, h2⟩ := Hk _ _ _ _ he (hs.to (dq_c (P := dm_vk L h) (hs.2.2.2.2 _ _ hv).1 hs.sub))
  obtain ⟨z, rfl⟩ : ∃ z, v = .inl z := hty v hv
  exact ⟨h1, fun ad ls H locs hL hW hS hE hab hau => lv_iload hx hb hdg (hL.2.2.2 _ _ hv) (h2 ad ls H locs hL hW hS hE hab hau)⟩
theorem dx_iload_n {j : Fin 4} (hty : ∀ v, Lc[(j : Nat)]? = some (some v) → ∃ z, v = .inl z) (C : dq_C p l s m args meth c own cc nL G base b L u xs) (hdg : decode cc pc = .ok (.iload_n j, 1)) (he : dm_exec sv wrp dm_sh call k T pc 1 (.iload_n j) d cs Lc S h = some x) (hs : dq_os sv L xs h0 h Lc S) (Hk : ∀ (pc' : Nat) (Lc' : dm_L) (S' : List dm_V) (h' : dm_H), k pc' Lc' S' h' = some x → dq_os sv L xs h0 h' Lc' S' → dq_okx sv L xs h' x ∧ dq_Go p l e R s m args below meth c Q nL G base b u h0 ad0 pc' Lc' S' h') : dq_okx sv L xs h x ∧ dq_Go p l e R s m args below meth c Q nL G base b u h0 ad0 pc Lc S h := by
  obtain ⟨hx, hb, hml, hown, hts, hEv, hSt, hbs, hlocks, hntr⟩ := id C
  obtain ⟨v, hv, he⟩ := di_get he
  obtain ⟨h1, h2⟩ := Hk _ _ _ _ he (hs.to (dq_c (P := dm_vk L h) (hs.2.2.2.2 _ _ hv).1 hs.sub))
  obtain ⟨z, rfl⟩ : ∃ z, v = .inl z := hty v hv
  exact ⟨h1, fun ad ls H locs hL hW hS hE hab hau => lv_iload_n hx hb hdg rfl (hL.2.2.2 _ _ hv) (h2 ad ls H locs hL hW hS hE hab hau)⟩
theorem dx_aload {j : Nat} (hty : ∀ v, Lc[(j : Nat)]? = some (some v) → ∃ t q a, v = dR t q a) (C : dq_C p l s m args meth c own cc nL G base b L u xs) (hdg : decode cc pc = .ok (.aload j, 2)) (he : dm_exec sv wrp dm_sh call k T pc 2 (.aload j) d cs Lc S h = some x) (hs : dq_os sv L xs h0 h Lc S) (Hk : ∀ (pc' : Nat) (Lc' : dm_L) (S' : List dm_V) (h' : dm_H), k pc' Lc' S' h' = some x → dq_os sv L xs h0 h' Lc' S' → dq_okx sv L xs h' x ∧ dq_Go p l e R s m args below meth c Q nL G base b u h0 ad0 pc' Lc' S' h') : dq_okx sv L xs h x ∧ dq_Go p l e R s m args below meth c Q nL G base b u h0 ad0 pc Lc S h := by
  obtain ⟨hx, hb, hml, hown, hts, hEv, hSt, hbs, hlocks, hntr⟩ := id C
  obtain ⟨v, hv, he⟩ := di_get he
  obtain ⟨h1, h2⟩ := Hk _ _ _ _ he (hs.to (dq_c (P := dm_vk L h) (hs.2.2.2.2 _ _ hv).1 hs.sub))
  obtain ⟨t, q, a, rfl⟩ : ∃ t q a, v = dR t q a := hty v hv
  refine ⟨h1, fun ad ls H locs hL hW hS hE hab hau => ?_⟩
  have hg := hL.2.2.2 _ _ hv
  have h3 := h2 ad ls H locs hL hW hS hE hab hau
  simp only [List.map_cons, dm_tv, dm_rv] at hg h3
  split at h3
  · rename_i h0'
    rw [if_pos h0'] at hg
    exact lv_aloadN hx hb hdg hg h3
  · rename_i h0'
    rw [if_neg h0'] at hg
    exact lv_aload hx hb hdg hg h3
theorem dx_aload_n {j : Fin 4} (hty : ∀ v, Lc[(j : Nat)]? = some (some v) → ∃ t q a, v = dR t q a) (C : dq_C p l s m args meth c own cc nL G base b L u xs) (hdg : decode cc pc = .ok (.aload_n j, 1)) (he : dm_exec sv wrp dm_sh call k T pc 1 (.aload_n j) d cs Lc S h = some x) (hs : dq_os sv L xs h0 h Lc S) (Hk : ∀ (pc' : Nat) (Lc' : dm_L) (S' : List dm_V) (h' : dm_H), k pc' Lc' S' h' = some x → dq_os sv L xs h0 h' Lc' S' → dq_okx sv L xs h' x ∧ dq_Go p l e R s m args below meth c Q nL G base b u h0 ad0 pc' Lc' S' h') : dq_okx sv L xs h x ∧ dq_Go p l e R s m args below meth c Q nL G base b u h0 ad0 pc Lc S h := by
  obtain ⟨hx, hb, hml, hown, hts, hEv, hSt, hbs, hlocks, hntr⟩ := id C
  obtain ⟨v, hv, he⟩ := di_get he
  obtain ⟨h1, h2⟩ := Hk _ _ _ _ he (hs.to (dq_c (P := dm_vk L h) (hs.2.2.2.2 _ _ hv).1 hs.sub))
  obtain ⟨t, q, a, rfl⟩ : ∃ t q a, v = dR t q a := hty v hv
  refine ⟨h1, fun ad ls H locs hL hW hS hE hab hau => ?_⟩
  have hg := hL.2.2.2 _ _ hv
  have h3 := h2 ad ls H locs hL hW hS hE hab hau
  simp only [List.map_cons, dm_tv, dm_rv] at hg h3
  split at h3
  · rename_i h0'
    rw [if_pos h0'] at hg
    exact lv_aload_nN hx hb hdg rfl hg h3
  · rename_i h0'
    rw [if_neg h0'] at hg
    exact lv_aload_n hx hb hdg rfl hg h3
end DQ
