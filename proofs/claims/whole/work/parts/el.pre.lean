/-! THE LAW'S PREFIX, from its entry to its loop's head: the small machine makes the objects (sv = false), instruction by instruction; each step takes the machine's goal behind it -/
noncomputable def kE (q : Nat) (L1 : dm_L) (S1 : List dm_V) (h1 : dm_H) (x : dm_X) : dm_K := fun q' L' S' h' => @ite dm_O (q' = q ∧ L' = L1 ∧ S' = S1 ∧ h' = h1) (Classical.propDecidable _) (some x) none
theorem kE_self {q : Nat} {L1 : dm_L} {S1 : List dm_V} {h1 : dm_H} {x : dm_X} : kE q L1 S1 h1 x q L1 S1 h1 = some x := if_pos ⟨rfl, rfl, rfl, rfl⟩
theorem kE_inv {q q' : Nat} {L1 L' : dm_L} {S1 S' : List dm_V} {h1 h' : dm_H} {x x' : dm_X} (h : kE q L1 S1 h1 x q' L' S' h' = some x') : q' = q ∧ L' = L1 ∧ S' = S1 ∧ h' = h1 := by
  unfold kE at h
  split at h
  · assumption
  · cases h
section WP
variable {p : Program} {l : Launch} {e : Env} {R : Room} {s : State} {m : MethodId} {args : Array Value} {below : List Frame} {meth : Method} {c : Code}
variable {own : String} {cc : ByteArray} {nL : Nat} {G : dm_G} {base b L u : Nat} {xs : Nat → Int} {h0 h h1 : dm_H} {ad0 : Nat → Nat} {x xq : dm_X} {n pc idx ci m9 y a : Nat} {Lc : dm_L} {S : List dm_V}
/-- what is known of the law's frame, and of its room -/
def wF (p : Program) (l : Launch) (R : Room) (s : State) (m : MethodId) (args : Array Value) (meth : Method) (c : Code) (own : String) (cc : ByteArray) (nL : Nat) (G : dm_G) (base b L u : Nat) (xs : Nat → Int) (h0 : dm_H) (x : dm_X) : Prop :=
  (own = dm_on (dm_o dm_law) ∧ cc = dm_b dm_law) ∧ dq_C p l s m args meth c own cc nL G base b L u xs ∧ (∀ pc, dq_Th s args c own cc (dm_P dm_law).2.1 pc) ∧ (gc x.2 - gc h0 ≤ R.cells ∧ gs x.2 - gs h0 ≤ R.slots) ∧ (dq_fr 6 + 1 ≤ R.frames ∧ 59 + dq_lo 6 ≤ R.locals) ∧ L ≤ 3584
/-- from here on the law comes to its end as xq says, by way of x -/
def wGo (p : Program) (l : Launch) (e : Env) (R : Room) (s : State) (m : MethodId) (args : Array Value) (below : List Frame) (meth : Method) (c : Code) (nL : Nat) (G : dm_G) (base b L u : Nat) (xs : Nat → Int) (h0 : dm_H) (ad0 : Nat → Nat) (x xq : dm_X) (pc : Nat) (Lc : dm_L) (S : List dm_V) (h : dm_H) : Prop :=
  dq_os false L xs h0 h Lc S → dq_okx false L xs h x ∧ dq_Go p l e R s m args below meth c (dq_Q below G base h0 ad0 xq args s) nL G base b u h0 ad0 pc Lc S h
theorem wHk {q' : Nat} {L' : dm_L} {S' : List dm_V} {h' : dm_H} (K : wGo p l e R s m args below meth c nL G base b L u xs h0 ad0 x xq pc Lc S h) (e1 : kE pc Lc S h x q' L' S' h' = some x) (o : dq_os false L xs h0 h' L' S') : dq_okx false L xs h' x ∧ dq_Go p l e R s m args below meth c (dq_Q below G base h0 ad0 xq args s) nL G base b u h0 ad0 q' L' S' h' := by
  obtain ⟨rfl, rfl, rfl, rfl⟩ := kE_inv e1
  exact K o
theorem wp_new (F : wF p l R s m args meth c own cc nL G base b L u xs h0 x) (hat : dm_at (dm_P dm_law).1 pc = some (.new idx, n, [0, ci, m9], [])) (hz : dm_sh (gz h) = (1, ci)) (K : wGo p l e R s m args below meth c nL G base b L u xs h0 ad0 x xq (pc + 3) Lc (dR 1 ci (gz h) :: S) (sg (sz h 1) m9)) : wGo p l e R s m args below meth c nL G base b L u xs h0 ad0 x xq pc Lc S h := by
  obtain ⟨⟨hown, hcc⟩, C, hT, ⟨hR1, hR2⟩, -, -⟩ := F
  intro hs
  obtain ⟨hdg, nx, hk, -⟩ := dq_ent (Nat.le_refl dm_law) hat
  rw [← hcc] at hdg
  have hn := (bdn hk).1
  replace hk := (bdn hk).2
  subst hn
  obtain ⟨h1, h2⟩ := bdn hk
  obtain ⟨q, hq, h4⟩ := dq_any1 h2
  obtain ⟨h4, e3⟩ := bd h4
  obtain ⟨e1, e2⟩ := bd h4
  have he : dm_exec false 0 dm_sh (fun _ _ _ => none) (kE (pc + 3) Lc (dR 1 ci (gz h) :: S) (sg (sz h 1) m9) x) [] pc 3 (.new idx) [0, ci, m9] [] Lc S h = some x := by
    show (if dm_sh (gz h) = (1, ci) then kE (pc + 3) Lc (dR 1 ci (gz h) :: S) (sg (sz h 1) m9) x (pc + 3) Lc (dR 1 ci (gz h) :: S) (sg (sz h 1) m9) else none) = some x
    rw [if_pos hz]
    exact kE_self
  exact dx_new (by rw [h1]) ⟨q, hq, by rw [bn e1]; exact hown, (bn e2).symm, (bn e3).symm⟩ hR1 hR2 C hdg he hs (fun _ _ _ _ => wHk K)
theorem wp_dup {v : dm_R} (F : wF p l R s m args meth c own cc nL G base b L u xs h0 x) (hat : dm_at (dm_P dm_law).1 pc = some (.dup, n, [], [])) (K : wGo p l e R s m args below meth c nL G base b L u xs h0 ad0 x xq (pc + 1) Lc (.inr (.inl v) :: .inr (.inl v) :: S) h) : wGo p l e R s m args below meth c nL G base b L u xs h0 ad0 x xq pc Lc (.inr (.inl v) :: S) h := by
  obtain ⟨⟨hown, hcc⟩, C, hT, ⟨hR1, hR2⟩, -, -⟩ := F
  intro hs
  obtain ⟨hdg, nx, hk, -⟩ := dq_ent (Nat.le_refl dm_law) hat
  rw [← hcc] at hdg
  have hk := bn hk
  subst hk
  exact dx_dup (sv := false) (wrp := 0) (call := fun _ _ _ => none) (k := kE (pc + 1) Lc (.inr (.inl v) :: .inr (.inl v) :: S) h x) (T := []) (d := []) (cs := []) C hdg kE_self hs (fun _ _ _ _ => wHk K)
theorem wp_call (F : wF p l R s m args meth c own cc nL G base b L u xs h0 x) (hat : dm_at (dm_P dm_law).1 pc = some (.invokespecial idx, n, [5, y, 1], [])) (hc : dm_inv dm_P false dm_sh 6 400 y [dR 1 ci a] h = some (.inl none, h1)) (K : wGo p l e R s m args below meth c nL G base b L u xs h0 ad0 x xq (pc + 3) Lc [dR 1 ci a] h1) : wGo p l e R s m args below meth c nL G base b L u xs h0 ad0 x xq pc Lc [dR 1 ci a, dR 1 ci a] h := by
  obtain ⟨⟨hown, hcc⟩, C, hT, ⟨hR1, hR2⟩, ⟨hR3, hR4⟩, hLL⟩ := F
  intro hs
  obtain ⟨hdg, nx, hk, -⟩ := dq_ent (Nat.le_refl dm_law) hat
  rw [← hcc] at hdg
  have hn := (bdn hk).1
  replace hk := (bdn hk).2
  subst hn
  obtain ⟨g1, g2, g3⟩ := dq_mkq hown hk
  have he : dm_call (dm_inv dm_P false dm_sh 6 400) (kE (pc + 3) Lc [dR 1 ci a] h1 x) (dm_P dm_law).2.1 pc Lc [dR 1 ci a, dR 1 ci a] h [5, y, 1] [] = some x := by
    show (if 1 ≤ 2 ∧ [dR 1 ci a].all dm_short = true ∧ ([dR 1 ci a].map dm_cat).sum ≤ 8 then dm_back (kE (pc + 3) Lc [dR 1 ci a] h1 x) (dm_P dm_law).2.1 pc Lc [dR 1 ci a] (dm_inv dm_P false dm_sh 6 400 y [dR 1 ci a] h) else none) = some x
    rw [if_pos ⟨by decide, rfl, Nat.le_of_ble_eq_true rfl⟩, hc, bk_n]
    exact kE_self
  exact dx_c5 C g1 g2 hdg g3 he hs (fun _ _ _ _ => wHk K) (dq_main C.2.2.2.2.2.2.2.2.2 hLL 6 400) (hT pc) (fun q => nomatch q) hR1 hR2 hR3 hR4
theorem wp_ast {j : Fin 4} {v : dm_R} (F : wF p l R s m args meth c own cc nL G base b L u xs h0 x) (hat : dm_at (dm_P dm_law).1 pc = some (.astore_n j, n, [], [])) (hj : (j : Nat) < Lc.length) (K : wGo p l e R s m args below meth c nL G base b L u xs h0 ad0 x xq (pc + 1) (Lc.set j (some (.inr (.inl v)))) S h) : wGo p l e R s m args below meth c nL G base b L u xs h0 ad0 x xq pc Lc (.inr (.inl v) :: S) h := by
  obtain ⟨⟨hown, hcc⟩, C, hT, ⟨hR1, hR2⟩, -, -⟩ := F
  intro hs
  obtain ⟨hdg, nx, hk, -⟩ := dq_ent (Nat.le_refl dm_law) hat
  rw [← hcc] at hdg
  have hk := bn hk
  subst hk
  have he : dm_exec false 0 dm_sh (fun _ _ _ => none) (kE (pc + 1) (Lc.set j (some (.inr (.inl v)))) S h x) [] pc 1 (.astore_n j) [] [] Lc (.inr (.inl v) :: S) h = some x := by
    show (if (j : Nat) < Lc.length then kE (pc + 1) (Lc.set j (some (.inr (.inl v)))) S h x (pc + 1) (Lc.set j (some (.inr (.inl v)))) S h else none) = some x
    rw [if_pos hj]
    exact kE_self
  exact dx_astore_n C hdg he hs (fun _ _ _ _ => wHk K)
theorem wp_con {z : Int} (F : wF p l R s m args meth c own cc nL G base b L u xs h0 x) (hat : dm_at (dm_P dm_law).1 pc = some (.iconst z, n, [], [])) (K : wGo p l e R s m args below meth c nL G base b L u xs h0 ad0 x xq (pc + 1) Lc (dI z :: S) h) : wGo p l e R s m args below meth c nL G base b L u xs h0 ad0 x xq pc Lc S h := by
  obtain ⟨⟨hown, hcc⟩, C, hT, ⟨hR1, hR2⟩, -, -⟩ := F
  intro hs
  obtain ⟨hdg, nx, hk, -⟩ := dq_ent (Nat.le_refl dm_law) hat
  rw [← hcc] at hdg
  obtain ⟨⟨hn, h1⟩, h2⟩ := And.intro (bd (bd hk).1) (bd hk).2
  have hn := bn hn
  subst hn
  have h1 := of_decide_eq_true h1
  have h2 := of_decide_eq_true h2
  exact dx_iconst (sv := false) (wrp := 0) (call := fun _ _ _ => none) (k := kE (pc + 1) Lc (dI z :: S) h x) (T := []) (d := []) (cs := []) (by unfold dm_in; omega) C hdg kE_self hs (fun _ _ _ _ => wHk K)
theorem wp_arr (F : wF p l R s m args meth c own cc nL G base b L u xs h0 x) (hat : dm_at (dm_P dm_law).1 pc = some (.newarray .long, n, [4], [])) (hz : dm_sh (gz h) = (4, 1)) (hg : ∀ i, gl h i = 0) (K : wGo p l e R s m args below meth c nL G base b L u xs h0 ad0 x xq (pc + 2) Lc (dR 4 1 (gz h) :: S) (sg (sz h 1) 1)) : wGo p l e R s m args below meth c nL G base b L u xs h0 ad0 x xq pc Lc (dI 1 :: S) h := by
  obtain ⟨⟨hown, hcc⟩, C, hT, ⟨hR1, hR2⟩, -, -⟩ := F
  intro hs
  obtain ⟨hdg, nx, hk, -⟩ := dq_ent (Nat.le_refl dm_law) hat
  rw [← hcc] at hdg
  have hn := (bdn hk).1
  subst hn
  have he : dm_exec false 0 dm_sh (fun _ _ _ => none) (kE (pc + 2) Lc (dR 4 1 (gz h) :: S) (sg (sz h 1) 1) x) [] pc 2 (.newarray .long) [4] [] Lc (dI 1 :: S) h = some x := by
    show (if (0 : Int) ≤ 1 then (if dm_sh (gz h) = (4, 1) then kE (pc + 2) Lc (dR 4 1 (gz h) :: S) (sg (sz h 1) 1) x (pc + 2) Lc (dR 4 1 (gz h) :: S) (sg (sz h 1) 1) else none) else none) = some x
    rw [if_pos (by decide), if_pos hz]
    exact kE_self
  exact dx_newarray4 rfl hR1 hR2 C hdg he hs (fun _ _ _ _ => wHk K) hg
theorem wp_ist {j : Nat} {z : Int} (F : wF p l R s m args meth c own cc nL G base b L u xs h0 x) (hat : dm_at (dm_P dm_law).1 pc = some (.istore j, n, [], [])) (hj : j < Lc.length) (K : wGo p l e R s m args below meth c nL G base b L u xs h0 ad0 x xq (pc + 2) (Lc.set j (some (dI z))) S h) : wGo p l e R s m args below meth c nL G base b L u xs h0 ad0 x xq pc Lc (dI z :: S) h := by
  obtain ⟨⟨hown, hcc⟩, C, hT, ⟨hR1, hR2⟩, -, -⟩ := F
  intro hs
  obtain ⟨hdg, nx, hk, -⟩ := dq_ent (Nat.le_refl dm_law) hat
  rw [← hcc] at hdg
  have hk := bn hk
  subst hk
  have he : dm_exec false 0 dm_sh (fun _ _ _ => none) (kE (pc + 2) (Lc.set j (some (dI z))) S h x) [] pc 2 (.istore j) [] [] Lc (dI z :: S) h = some x := by
    show (if j < Lc.length then kE (pc + 2) (Lc.set j (some (dI z))) S h x (pc + 2) (Lc.set j (some (dI z))) S h else none) = some x
    rw [if_pos hj]
    exact kE_self
  exact dx_istore C hdg he hs (fun _ _ _ _ => wHk K)
/-- the same world, told by the table -/
theorem wp_tab (hx : ∀ j, dm_in (xs j)) (K : wGo p l e R s m args below meth c nL G base b L u xs h00 ad0 x xq pc Lc S (wM L xs)) : wGo p l e R s m args below meth c nL G base b L u xs h00 ad0 x xq pc Lc S wB := by
  intro hs
  have hzz : gz wB ≤ gz (wM L xs) := Nat.le_of_eq wB_z
  obtain ⟨o, g⟩ := K ⟨wM_ok hx, ⟨Nat.zero_le _, Nat.zero_le _, (by decide : 1 ≤ 196)⟩, (fun q => nomatch q), fun v hv => df_vkm hzz (hs.2.2.2.1 v hv), fun i v hi => ⟨df_vkm hzz (hs.2.2.2.2 i v hi).1, (hs.2.2.2.2 i v hi).2⟩⟩
  refine ⟨⟨o.1, by rw [wB_c]; exact o.2.1, by rw [wB_s]; exact o.2.2.1, by rw [wB_z]; exact o.2.2.2.1, o.2.2.2.2⟩, fun ad ls H locs hL hW hS hE hab hau => ?_⟩
  have k := g ad ls H locs hL (wWd hW) hS hE hab hau
  rw [wB_c, wB_s]
  exact k
/-- all of it -/
theorem wp_all (F : wF p l R s m args meth c own cc nL G base b L u xs h00 (.inl none, wN L xs)) (hx : ∀ j, dm_in (xs j)) (K : dq_os true L xs h00 (wN L xs) [lR 8 L 1000, lR 1 10 1, lR 1 11 165, lR 4 1 196, lI 0, none, none] [] → dq_Go p l e R s m args below meth c (dq_Q below G base h00 ad0 xq args s) nL G base b u h00 ad0 23 [lR 8 L 1000, lR 1 10 1, lR 1 11 165, lR 4 1 196, lI 0, none, none] [] (wN L xs)) : wGo p l e R s m args below meth c nL G base b L u xs h00 ad0 (.inl none, wN L xs) xq 0 [lR 8 L 1000, none, none, none, none, none, none] [] h00 := by
  refine wp_new F (idx := 8) (n := 3) (ci := 10) (m9 := 19) rfl (by decide +kernel) ?_
  refine wp_dup F (n := 1) rfl ?_
  refine wp_call F (idx := 97) (n := 3) (y := 0) rfl wA_eq ?_
  refine wp_ast F (j := 1) (n := 1) rfl (Nat.le_of_ble_eq_true rfl) ?_
  refine wp_new F (idx := 98) (n := 3) (ci := 11) (m9 := 48) rfl (by decide +kernel) ?_
  rw [wA_z]
  refine wp_dup F (n := 1) rfl ?_
  refine wp_call F (idx := 100) (n := 3) (y := 165) rfl wB_eq ?_
  refine wp_ast F (j := 2) (n := 1) rfl (Nat.le_of_ble_eq_true rfl) ?_
  refine wp_tab hx ?_
  refine wp_con F (z := 1) (n := 1) rfl ?_
  refine wp_arr F (n := 2) rfl (show dm_sh 196 = (4, 1) from by decide +kernel) (fun _ => rfl) ?_
  refine wp_ast F (j := 3) (n := 1) rfl (Nat.le_of_ble_eq_true rfl) ?_
  refine wp_con F (z := 0) (n := 1) rfl ?_
  refine wp_ist F (j := 4) (n := 2) rfl (Nat.le_of_ble_eq_true rfl) ?_
  intro hs
  have hs : dq_os false L xs h00 (wN L xs) [lR 8 L 1000, lR 1 10 1, lR 1 11 165, lR 4 1 196, lI 0, none, none] [] := hs
  refine ⟨⟨hs.1, Nat.le_refl _, Nat.le_refl _, Nat.le_refl _, (fun q => nomatch q), (fun v hv => by cases hv), fun E hE => by cases hE⟩, ?_⟩
  exact K ⟨wN_ok hx, hs.2.1, fun _ j hj => by
    rw [wN_i, if_pos rfl, if_pos ⟨by omega, by omega⟩]
    rfl, hs.2.2.2.1, hs.2.2.2.2⟩
end WP
