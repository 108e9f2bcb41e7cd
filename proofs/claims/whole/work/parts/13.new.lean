/-! new cells, and calls that lead to no method of the claim's classes: text by wip/whole/gen/simn.py -/
theorem dq_w73 : Cond.arrayClass .int ∈ dm_ws := List.mem_filter.mpr ⟨List.mem_of_getElem? (i := 184) (by decide +kernel), rfl⟩
theorem dq_w210 : Cond.arrayClass .boolean ∈ dm_ws := List.mem_filter.mpr ⟨List.mem_of_getElem? (i := 321) (by decide +kernel), rfl⟩
theorem dq_w1863 : Cond.arrayClass .long ∈ dm_ws := List.mem_filter.mpr ⟨List.mem_of_getElem? (i := 1974) (by decide +kernel), rfl⟩
theorem dq_w577 : Cond.code Lib.Math.max.name Lib.Math.max.code 2 (some .int) ∈ dm_ws := List.mem_filter.mpr ⟨List.mem_of_getElem? (i := 688) (by decide +kernel), rfl⟩
theorem dq_w596 : Cond.code Lib.Math.min.name Lib.Math.min.code 2 (some .int) ∈ dm_ws := List.mem_filter.mpr ⟨List.mem_of_getElem? (i := 707) (by decide +kernel), rfl⟩
theorem dq_w29 : Cond.code Lib.objectInit ⟨#[0xb1]⟩ 1 none ∈ dm_ws := List.mem_filter.mpr ⟨List.mem_of_getElem? (i := 140) (by decide +kernel), rfl⟩
abbrev dq_q3 : Type := Nat × Nat × List Nat
noncomputable def dq_k3 (q : dq_q3) : Bool := dq_chk [.methodLink (dm_on q.1) q.2.1 Lib.Math.max.name, .static Lib.Math.max.name, .initialized "java/lang/Math"] q.2.2
noncomputable def dq_k4 (q : dq_q3) : Bool := dq_chk [.methodLink (dm_on q.1) q.2.1 Lib.Math.min.name, .static Lib.Math.min.name, .initialized "java/lang/Math"] q.2.2
noncomputable def dq_k7 (q : dq_q3) : Bool := dq_chk [.methodLink (dm_on q.1) q.2.1 Lib.objectInit, .instanceMethod Lib.objectInit] q.2.2
theorem dq_t3 : dm_mk3.all dq_k3 = true := by decide +kernel
theorem dq_t4 : dm_mk4.all dq_k4 = true := by decide +kernel
theorem dq_t7 : dm_mk7.all dq_k7 = true := by decide +kernel
def dm_up (ad : Nat → Nat) (z n q : Nat) : Nat → Nat := fun a => if z ≤ a ∧ a < z + n then q + (a - z) else ad a
theorem dq_up0 {ad : Nat → Nat} {z n q j : Nat} (h : j < n) : dm_up ad z n q (z + j) = q + j := by
  unfold dm_up
  rw [if_pos (by omega)]
  omega
theorem dq_up1 {ad : Nat → Nat} {z n q a : Nat} (h : a < z) : dm_up ad z n q a = ad a := by
  unfold dm_up
  rw [if_neg (by omega)]
theorem dq_up2 {ad : Nat → Nat} {z n q a : Nat} (h : z + n ≤ a) : dm_up ad z n q a = ad a := by
  unfold dm_up
  rw [if_neg (by omega)]
theorem dq_enup {G : dm_G} {ad ad' : Nat → Nat} {h h' : dm_H} {a : Nat} (eI : ∀ i, gi h' a i = gi h a i) (eL : ∀ i, gl h' i = gl h i) (eR : ∀ i, gr h' a i = gr h a i) (hr : ∀ i, ad' (gr h a i) = ad (gr h a i)) : dm_en G ad' h' a = dm_en G ad h a := by
  have e1 : ∀ i, dm_rv ad' (gr h a i) = dm_rv ad (gr h a i) := fun i => by unfold dm_rv; rw [hr]
  have e2 : ∀ i, dm_ro ad' (gr h a i) = dm_ro ad (gr h a i) := fun i => by unfold dm_ro; rw [hr]
  unfold dm_en dm_fs dm_fv
  simp only [eI, eL, eR, e1, e2]
theorem dq_Wapp {G : dm_G} {ad ad' : Nat → Nat} {h h' : dm_H} {n : Nat} (h1 : 1 ≤ gz h) (hz : gz h' = gz h + n) (ha : ∀ a, a < gz h → ad' a = ad a) (he : ∀ a, a < gz h → dm_en G ad' h' a = dm_en G ad h a) : dm_W G ad' h' = dm_W G ad h ++ (List.range n).map (fun j => (ad' (gz h + j), dm_en G ad' h' (gz h + j))) := by
  unfold dm_W
  rw [hz, show gz h + n - 1 = gz h - 1 + n by omega, List.range_add, List.map_append, List.map_map]
  congr 1
  · refine List.map_congr_left fun k hk => ?_
    have := List.mem_range.mp hk
    rw [ha _ (by omega), he _ (by omega)]
  · refine List.map_congr_left fun k hk => ?_
    show (ad' (gz h - 1 + k + 1), dm_en G ad' h' (gz h - 1 + k + 1)) = _
    rw [show gz h - 1 + k + 1 = gz h + k by omega]
theorem di_new {sv : Bool} {h : dm_H} {t p n : Nat} {f : dm_H → dm_V → dm_O} {x : dm_X} (he : dm_new sv dm_sh h t p n f = some x) : sv = false ∧ dm_sh (gz h) = (t, p) ∧ f (sg (sz h 1) n) (dR t p (gz h)) = some x := by
  unfold dm_new at he
  split at he
  · cases he
  · split at he
    · exact ⟨rfl, by assumption, he⟩
    · cases he
theorem dq_outer (c : ClassId) (N h0 : Nat) : ∀ i, Jvm.Free.Multi.outerC c N h0 i = arrV c N (fun j => if j < i then .ref (h0 + 1 + j) else .null)
  | 0 => by
    rw [Jvm.Free.Multi.outerC, arrV_new]
    rfl
  | i + 1 => by
    rw [Jvm.Free.Multi.outerC, dq_outer c N h0 i, arrV_store]
    congr 1
    funext j
    unfold updV
    by_cases e : j = i
    · subst e
      rw [if_pos rfl, if_pos (by omega)]
    · rw [if_neg e]
      show (if j < i then Value.ref (h0 + 1 + j) else Value.null) = _
      by_cases e2 : j < i
      · rw [if_pos e2, if_pos (by omega)]
      · rw [if_neg e2, if_neg (by omega)]

noncomputable def dq_df (ci j : Nat) : Bool := match dm_isr (dm_fd ci j) with
  | true => decide (defaultValue (dm_ty ci j) = .null)
  | false => decide (defaultValue (dm_ty ci j) = .int 0)
theorem dq_dflt : (List.range 12).all (fun ci => (List.range (dm_fN ci)).all (dq_df ci)) = true := by decide +kernel
noncomputable def dq_nkb (q : Nat × Nat × Nat) : Bool := (dm_ws.any (fun w => dq_weq w (.classLink (dm_on q.1) q.2.1 (dm_cn q.2.2)))) && (dm_ws.any (fun w => dq_weq w (.instantiable (dm_cn q.2.2) (dm_fN q.2.2)))) && (dm_ws.any (fun w => dq_weq w (.initialized (dm_cn q.2.2)))) && decide (q.2.2 < 12)
theorem dq_nks : dm_nk.all dq_nkb = true := by decide +kernel
theorem dq_any {w : Cond} (h : dm_ws.any (fun v => dq_weq v w) = true) : w ∈ dm_ws := by
  obtain ⟨v, h1, h2⟩ := List.any_eq_true.mp h
  rw [← dq_weq_eq h2]
  exact h1
theorem dq_p10 : (List.range 197).all (fun a => decide ((dm_sh a).2 ≤ 4000)) = true := by decide +kernel
theorem dq_cl0 {G : dm_G} {U : State} {j : Nat} {cA : ClassId} {ty : FieldType} (hK : va_K (dm_D G) dm_cl (dm_tys G ++ [(cA, ty)]) U) {cB : ClassId} (hj : (dm_tys G)[j]? = some (cB, ty)) (hnm : va_RA U cA ty → U.vm.findClass ("[" ++ ty.toString) = some cA) (hnm' : va_RA U cB ty → U.vm.findClass ("[" ++ ty.toString) = some cB) : cA = cB := by
  have h1 := (hK.2 5 (cA, ty) rfl).2
  have hl : j < (dm_tys G).length := (List.getElem?_eq_some_iff.mp hj).1
  have h2 := (hK.2 j (cB, ty) (by rw [List.getElem?_append_left hl]; exact hj)).2
  exact Option.some.inj ((hnm h1).symm.trans (hnm' h2))
section DQN
variable {p : Program} {l : Launch} {e : Env} {R : Room} {s : State} {m : MethodId} {args : Array Value} {below : List Frame} {meth : Method} {c : Code} {Q : State → Prop}
variable {own : String} {cc : ByteArray} {nL : Nat} {G : dm_G} {base b L u : Nat} {xs : Nat → Int} {sv : Bool} {h0 h : dm_H} {ad0 : Nat → Nat} {x : dm_X} {wrp pc : Nat} {call : Nat → List dm_V → dm_H → dm_O} {k : dm_K} {T : dm_T} {d cs : List Nat} {Lc : dm_L} {S : List dm_V}
variable {idx : Nat}
theorem dq_al {n nc ns t q0 pc' : Nat} {S' : List dm_V} {h' : dm_H} (hs : dq_os false L xs h0 h Lc S) (hS' : ∀ w ∈ S', dm_vk L h w) (hn : 1 ≤ n) (hz : gz h' = gz h + n) (h197 : gz h' ≤ 197) (hc : gc h' = gc h + nc) (hg : gs h' = gs h + ns) (eI : ∀ a i, gi h' a i = gi h a i) (eL : ∀ i, gl h' i = gl h i) (eR : ∀ a i, gr h' a i < gz h') (eR' : ∀ a i, a < gz h → gr h' a i = gr h a i) (eZ : ∀ a i, gz h' ≤ a → gr h' a i = gr h a i) (hsh : dm_sh (gz h) = (t, q0)) (ht : 1 ≤ t ∧ t ≤ 6) (he : k pc' Lc (dR t q0 (gz h) :: S') h' = some x) (Hk : ∀ (pc' : Nat) (Lc' : dm_L) (S' : List dm_V) (h' : dm_H), k pc' Lc' S' h' = some x → dq_os false L xs h0 h' Lc' S' → dq_okx false L xs h' x ∧ dq_Go p l e R s m args below meth c Q nL G base b u h0 ad0 pc' Lc' S' h') :
    dq_okx false L xs h x ∧ (gc h' ≤ gc x.2 ∧ gs h' ≤ gs x.2) ∧ ∀ (ad : Nat → Nat) (ls : Array Slot) (q : Nat) (H1 : Heap) (locs1 : List Loc), dq_L nL ad Lc ls → dq_ext h0 ad0 ad → ad 1000 = b → ad 1001 = u → va_P (dm_D G) dm_cl (dm_W G ad h ++ (List.range n).map (fun j => (q + j, dm_en G (dm_up ad (gz h) n q) h' (gz h + j)))) H1 → va_D (dm_A base) (dm_W G ad h ++ (List.range n).map (fun j => (q + j, dm_en G (dm_up ad (gz h) n q) h' (gz h + j)))) → va_S (dm_A base) s.heap H1 locs1 →
      W p l e R s m args below meth c H1 locs1 (gc h - gc h0 + nc) (gs h - gs h0 + ns) Q (F0 m pc' ls (.ref q :: S'.map (dm_tv ad))) := by
  obtain ⟨⟨o1, o2, o3, o4, o5, o6⟩, z0, hxs, hS, hLc⟩ := id hs
  have ok' : dm_ok false h' := ⟨fun a i => by rw [eI]; exact o1 a i, fun i => by rw [eL]; exact o2 i, eR, by omega, h197, fun a i h1 h2 => ⟨by rw [eI]; exact (o6 a i (by omega) h2).1, by rw [eZ a i h1]; exact (o6 a i (by omega) h2).2⟩⟩
  have hzz : gz h ≤ gz h' := by omega
  have hs' : dq_os false L xs h0 h' Lc (dR t q0 (gz h) :: S') := ⟨ok', ⟨by omega, by omega, by omega⟩, (fun q => nomatch q), List.forall_mem_cons.mpr ⟨df_vk ht hsh (by omega) (by omega), fun w hw => df_vkm hzz (hS' w hw)⟩, fun i v hi => ⟨df_vkm hzz (hLc i v hi).1, (hLc i v hi).2⟩⟩
  obtain ⟨h1, h2⟩ := Hk _ _ _ _ he hs'
  refine ⟨⟨h1.1, by have := h1.2.1; omega, by have := h1.2.2.1; omega, by have := h1.2.2.2.1; omega, h1.2.2.2.2⟩, ⟨h1.2.1, h1.2.2.1⟩, fun ad ls q H1 locs1 hL hE hab hau hP hD hS1 => ?_⟩
  have hlow : ∀ a, a < gz h → dm_up ad (gz h) n q a = ad a := fun a ha => dq_up1 ha
  have hext : dq_ext h ad (dm_up ad (gz h) n q) := fun a ha => by
    rcases ha with ha | ha
    · exact dq_up1 ha
    · exact dq_up2 (by omega)
  have hW : dm_W G (dm_up ad (gz h) n q) h' = dm_W G ad h ++ (List.range n).map (fun j => (q + j, dm_en G (dm_up ad (gz h) n q) h' (gz h + j))) := by
    rw [dq_Wapp o4 hz hlow (fun a ha => dq_enup (eI a) eL (fun i => eR' a i ha) (fun i => hlow _ (o3 a i)))]
    congr 1
    refine List.map_congr_left fun j hj => ?_
    rw [dq_up0 (List.mem_range.mp hj)]
  have h3 := h2 (dm_up ad (gz h) n q) ls H1 locs1 (dq_Lm hext hLc hL) ⟨by rw [hW]; exact hP, by rw [hW]; exact hD⟩ hS1 (hE.trans hext z0.2.2) (by rw [hext 1000 (Or.inr (Nat.le_refl _)), hab]) (by rw [hext 1001 (Or.inr (by omega)), hau])
  rw [List.map_cons, dq_tvm hext hS'] at h3
  have e0 : dm_tv (dm_up ad (gz h) n q) (dR t q0 (gz h)) = .ref q := by
    show dm_rv _ _ = _
    unfold dm_rv
    rw [if_neg (by omega)]
    have := dq_up0 (ad := ad) (z := gz h) (n := n) (q := q) (j := 0) (by omega)
    rw [Nat.add_zero, Nat.add_zero] at this
    rw [this]
  rw [e0] at h3
  rw [show gc h - gc h0 + nc = gc h' - gc h0 by omega, show gs h - gs h0 + ns = gs h' - gs h0 by omega]
  exact h3
theorem dq_zfs {ad : Nat → Nat} {h h' : dm_H} {ci a : Nat} (eI : ∀ i, gi h' a i = 0) (eR : ∀ i, gr h' a i = 0) (hc : ci < 12) : ∀ j, j < dm_fN ci → defaultValue (dm_ty ci j) = vp_V (dm_fs ad h' ci a) j := by
  intro j hj
  unfold vp_V
  rw [List.getD_eq_getElem?_getD, dw_fs hj]
  show _ = dm_fv ad h' a j (dm_fd ci j)
  unfold dm_fv
  rw [eI, eR]
  have := List.all_eq_true.mp (List.all_eq_true.mp dq_dflt ci (List.mem_range.mpr hc)) j (List.mem_range.mpr hj)
  unfold dq_df at this
  split
  · rename_i q
    rw [q] at this
    simpa [dm_rv] using this
  · rename_i q
    rw [q] at this
    simpa using this
set_option maxHeartbeats 2000000 in
theorem dx_new {ci : Nat} (hd : d = [0, ci, dm_fN ci]) (hq : ∃ q ∈ dm_nk, own = dm_on q.1 ∧ idx = q.2.1 ∧ ci = q.2.2) (hR1 : gc x.2 - gc h0 ≤ R.cells) (hR2 : gs x.2 - gs h0 ≤ R.slots) (C : dq_C p l s m args meth c own cc nL G base b L u xs) (hdg : decode cc pc = .ok (.new idx, 3)) (he : dm_exec sv wrp dm_sh call k T pc 3 (.new idx) d cs Lc S h = some x) (hs : dq_os sv L xs h0 h Lc S) (Hk : ∀ (pc' : Nat) (Lc' : dm_L) (S' : List dm_V) (h' : dm_H), k pc' Lc' S' h' = some x → dq_os sv L xs h0 h' Lc' S' → dq_okx sv L xs h' x ∧ dq_Go p l e R s m args below meth c Q nL G base b u h0 ad0 pc' Lc' S' h') : dq_okx sv L xs h x ∧ dq_Go p l e R s m args below meth c Q nL G base b u h0 ad0 pc Lc S h := by
  obtain ⟨hx, hb, hml, hown, hts, hEv, hSt, hbs, hlocks, hntr⟩ := id C
  subst hd
  have he1 : dm_new sv dm_sh h 1 ci (dm_fN ci) (fun h' v => k (pc + 3) Lc (v :: S) h') = some x := he
  clear he
  obtain ⟨hsv, hsh, he⟩ := di_new he1
  subst hsv
  have ok := hs.1
  obtain ⟨q, hq1, hq2, hq3, hq4⟩ := hq
  have hz197 := dw_lt hsh (by decide)
  have hqb := List.all_eq_true.mp dq_nks q hq1
  unfold dq_nkb at hqb
  simp only [Bool.and_eq_true, decide_eq_true_eq] at hqb
  rw [← hq2, ← hq3, ← hq4] at hqb
  obtain ⟨⟨⟨w1, w2⟩, w3⟩, w4⟩ := hqb
  have w1 := hts _ (dq_any w1)
  have w2 := hts _ (dq_any w2)
  have w3 := hts _ (dq_any w3)
  obtain ⟨g1, ⟨g2, g3⟩, g4⟩ := dq_al (h' := sg (sz h 1) (dm_fN ci)) (n := 1) (nc := 1) (ns := dm_fN ci) hs hs.sub (Nat.le_refl _) rfl (show gz h + 1 ≤ 197 by omega) rfl rfl (fun _ _ => rfl) (fun _ => rfl) (fun a i => Nat.lt_succ_of_lt (ok.2.2.1 a i)) (fun _ _ _ => rfl) (fun _ _ _ => rfl) hsh (by decide) he Hk
  have z0 := hs.2.1
  have g2 : gc h + 1 ≤ gc x.2 := g2
  have g3 : gs h + dm_fN ci ≤ gs x.2 := g3
  refine ⟨g1, fun ad ls H locs hL hW hS hE hab hau => ?_⟩
  have hz := fun i => ok.2.2.2.2.2 (gz h) i (Nat.le_refl _) (by omega)
  refine va_new (fs := dm_fs (dm_up ad (gz h) 1 0) (sg (sz h 1) (dm_fN ci)) ci (gz h)) hx hb hts (fun w hw => df_in w4 w hw) (dm_ty ci) (fun j hj => df_desc w4 hj) hown w1 w2 w3 hEv.1 hW.1 hW.2 hS (fun q hq => by show base ≤ q; omega) (df_cl w4) (dq_zfs (h := h) (fun i => (hz i).1) (fun i => (hz i).2) w4) (by omega) (by omega) hdg fun q H1 hP hD hS1 => ?_
  have hen : dm_en G (dm_up ad (gz h) 1 q) (sg (sz h 1) (dm_fN ci)) (gz h) = .inr (ci, dm_fs (dm_up ad (gz h) 1 0) (sg (sz h 1) (dm_fN ci)) ci (gz h)) := by
    rw [dw_obj hsh]
    unfold dm_fs dm_fv
    have e9 : ∀ i, gr (sg (sz h 1) (dm_fN ci)) (gz h) i = 0 := fun i => (hz i).2
    simp only [e9, dm_rv, if_pos]
  exact g4 ad ls q H1 locs hL hE hab hau (by rw [← hen] at hP; exact hP) (by rw [← hen] at hD; exact hD) hS1
set_option maxHeartbeats 2000000 in
theorem dx_newarray2 (hd : d = [2]) (hR1 : gc x.2 - gc h0 ≤ R.cells) (hR2 : gs x.2 - gs h0 ≤ R.slots) (C : dq_C p l s m args meth c own cc nL G base b L u xs) (hdg : decode cc pc = .ok (.newarray .int, 2)) (he : dm_exec sv wrp dm_sh call k T pc 2 (.newarray .int) d cs Lc S h = some x) (hs : dq_os sv L xs h0 h Lc S) (Hk : ∀ (pc' : Nat) (Lc' : dm_L) (S' : List dm_V) (h' : dm_H), k pc' Lc' S' h' = some x → dq_os sv L xs h0 h' Lc' S' → dq_okx sv L xs h' x ∧ dq_Go p l e R s m args below meth c Q nL G base b u h0 ad0 pc' Lc' S' h')  : dq_okx sv L xs h x ∧ dq_Go p l e R s m args below meth c Q nL G base b u h0 ad0 pc Lc S h := by
  obtain ⟨hx, hb, hml, hown, hts, hEv, hSt, hbs, hlocks, hntr⟩ := id C
  subst hd
  obtain ⟨z, S', hSe, hf⟩ := di_1 he
  clear he
  split at hf
  case isFalse => cases hf
  rename_i hz0
  obtain ⟨hsv, hsh, he⟩ := di_new hf
  clear hf
  subst hsv
  subst hSe
  have ok := hs.1
  have hz197 := dw_lt hsh (by decide)
  obtain ⟨k1, k2⟩ := dq_h hs.sub
  have k1 : dm_in z := k1
  have hp : z.toNat ≤ 4000 := by
    have := of_decide_eq_true (dw_all _ dq_p10 hz197)
    rw [hsh] at this
    exact this
  obtain ⟨g1, ⟨g2, g3⟩, g4⟩ := dq_al (h' := sg (sz h 1) z.toNat) (n := 1) (nc := 1) (ns := z.toNat) hs k2 (Nat.le_refl _) rfl (show gz h + 1 ≤ 197 by omega) rfl rfl (fun _ _ => rfl) (fun _ => rfl) (fun a i => Nat.lt_succ_of_lt (ok.2.2.1 a i)) (fun _ _ _ => rfl) (fun _ _ _ => rfl) hsh (by decide) he Hk
  have z0 := hs.2.1
  have g2 : gc h + 1 ≤ gc x.2 := g2
  have g3 : gs h + z.toNat ≤ gs x.2 := g3
  refine ⟨g1, fun ad ls H locs hL hW hS hE hab hau => ?_⟩
  have hz := fun i => ok.2.2.2.2.2 (gz h) i (Nat.le_refl _) (by omega)
  have hneg : ¬ (Int32.ofInt z < 0) := by
    rw [show (0 : Int32) = Int32.ofInt 0 from rfl, dn_lt k1 dn_0]
    omega
  refine va_newa (atype := .int) (a0 := (z.toNat, .inl (fun _ => 0))) hx hb (hts _ dq_w73) rfl hEv.1 hW.1 hW.2 hS (fun q hq => by show base ≤ q; omega) (fun cA => rfl) hneg (dn_nat hz0 k1) (by show z.toNat * _ ≤ _; exact Nat.le_trans (Nat.mul_le_mul_right _ hp) (by decide)) (by omega) (by omega) hdg fun q cA H1 hK hP hD hS1 => ?_
  have hcA : cA = dm_cA G 2 := dq_cl0 (j := 0) hK rfl (fun h => h) (fun h => h)
  subst hcA
  have hen : dm_en G (dm_up ad (gz h) 1 q) (sg (sz h 1) z.toNat) (gz h) = .inl (dm_cA G 2, z.toNat, .inl (fun _ => 0)) := by
    rw [dw_2 hsh]
    have e9 : ∀ i, gi (sg (sz h 1) z.toNat) (gz h) i = 0 := fun i => (hz i).1
    simp only [e9]
    rfl
  exact g4 ad ls q H1 locs hL hE hab hau (by rw [← hen] at hP; exact hP) (by rw [← hen] at hD; exact hD) hS1
set_option maxHeartbeats 2000000 in
theorem dx_newarray3 (hd : d = [3]) (hR1 : gc x.2 - gc h0 ≤ R.cells) (hR2 : gs x.2 - gs h0 ≤ R.slots) (C : dq_C p l s m args meth c own cc nL G base b L u xs) (hdg : decode cc pc = .ok (.newarray .boolean, 2)) (he : dm_exec sv wrp dm_sh call k T pc 2 (.newarray .boolean) d cs Lc S h = some x) (hs : dq_os sv L xs h0 h Lc S) (Hk : ∀ (pc' : Nat) (Lc' : dm_L) (S' : List dm_V) (h' : dm_H), k pc' Lc' S' h' = some x → dq_os sv L xs h0 h' Lc' S' → dq_okx sv L xs h' x ∧ dq_Go p l e R s m args below meth c Q nL G base b u h0 ad0 pc' Lc' S' h')  : dq_okx sv L xs h x ∧ dq_Go p l e R s m args below meth c Q nL G base b u h0 ad0 pc Lc S h := by
  obtain ⟨hx, hb, hml, hown, hts, hEv, hSt, hbs, hlocks, hntr⟩ := id C
  subst hd
  obtain ⟨z, S', hSe, hf⟩ := di_1 he
  clear he
  split at hf
  case isFalse => cases hf
  rename_i hz0
  obtain ⟨hsv, hsh, he⟩ := di_new hf
  clear hf
  subst hsv
  subst hSe
  have ok := hs.1
  have hz197 := dw_lt hsh (by decide)
  obtain ⟨k1, k2⟩ := dq_h hs.sub
  have k1 : dm_in z := k1
  have hp : z.toNat ≤ 4000 := by
    have := of_decide_eq_true (dw_all _ dq_p10 hz197)
    rw [hsh] at this
    exact this
  obtain ⟨g1, ⟨g2, g3⟩, g4⟩ := dq_al (h' := sg (sz h 1) z.toNat) (n := 1) (nc := 1) (ns := z.toNat) hs k2 (Nat.le_refl _) rfl (show gz h + 1 ≤ 197 by omega) rfl rfl (fun _ _ => rfl) (fun _ => rfl) (fun a i => Nat.lt_succ_of_lt (ok.2.2.1 a i)) (fun _ _ _ => rfl) (fun _ _ _ => rfl) hsh (by decide) he Hk
  have z0 := hs.2.1
  have g2 : gc h + 1 ≤ gc x.2 := g2
  have g3 : gs h + z.toNat ≤ gs x.2 := g3
  refine ⟨g1, fun ad ls H locs hL hW hS hE hab hau => ?_⟩
  have hz := fun i => ok.2.2.2.2.2 (gz h) i (Nat.le_refl _) (by omega)
  have hneg : ¬ (Int32.ofInt z < 0) := by
    rw [show (0 : Int32) = Int32.ofInt 0 from rfl, dn_lt k1 dn_0]
    omega
  refine va_newa (atype := .boolean) (a0 := (z.toNat, .inl (fun _ => 0))) hx hb (hts _ dq_w210) rfl hEv.1 hW.1 hW.2 hS (fun q hq => by show base ≤ q; omega) (fun cA => rfl) hneg (dn_nat hz0 k1) (by show z.toNat * _ ≤ _; exact Nat.le_trans (Nat.mul_le_mul_right _ hp) (by decide)) (by omega) (by omega) hdg fun q cA H1 hK hP hD hS1 => ?_
  have hcA : cA = dm_cA G 3 := dq_cl0 (j := 1) hK rfl (fun h => h) (fun h => h)
  subst hcA
  have hen : dm_en G (dm_up ad (gz h) 1 q) (sg (sz h 1) z.toNat) (gz h) = .inl (dm_cA G 3, z.toNat, .inl (fun _ => 0)) := by
    rw [dw_3 hsh]
    have e9 : ∀ i, gi (sg (sz h 1) z.toNat) (gz h) i = 0 := fun i => (hz i).1
    simp only [e9]
    rfl
  exact g4 ad ls q H1 locs hL hE hab hau (by rw [← hen] at hP; exact hP) (by rw [← hen] at hD; exact hD) hS1
set_option maxHeartbeats 2000000 in
theorem dx_newarray4 (hd : d = [4]) (hR1 : gc x.2 - gc h0 ≤ R.cells) (hR2 : gs x.2 - gs h0 ≤ R.slots) (C : dq_C p l s m args meth c own cc nL G base b L u xs) (hdg : decode cc pc = .ok (.newarray .long, 2)) (he : dm_exec sv wrp dm_sh call k T pc 2 (.newarray .long) d cs Lc S h = some x) (hs : dq_os sv L xs h0 h Lc S) (Hk : ∀ (pc' : Nat) (Lc' : dm_L) (S' : List dm_V) (h' : dm_H), k pc' Lc' S' h' = some x → dq_os sv L xs h0 h' Lc' S' → dq_okx sv L xs h' x ∧ dq_Go p l e R s m args below meth c Q nL G base b u h0 ad0 pc' Lc' S' h') (hgl : ∀ i, gl h i = 0) : dq_okx sv L xs h x ∧ dq_Go p l e R s m args below meth c Q nL G base b u h0 ad0 pc Lc S h := by
  obtain ⟨hx, hb, hml, hown, hts, hEv, hSt, hbs, hlocks, hntr⟩ := id C
  subst hd
  obtain ⟨z, S', hSe, hf⟩ := di_1 he
  clear he
  split at hf
  case isFalse => cases hf
  rename_i hz0
  obtain ⟨hsv, hsh, he⟩ := di_new hf
  clear hf
  subst hsv
  subst hSe
  have ok := hs.1
  have hz197 := dw_lt hsh (by decide)
  obtain ⟨k1, k2⟩ := dq_h hs.sub
  have k1 : dm_in z := k1
  have hp : z.toNat ≤ 4000 := by
    have := of_decide_eq_true (dw_all _ dq_p10 hz197)
    rw [hsh] at this
    exact this
  obtain ⟨g1, ⟨g2, g3⟩, g4⟩ := dq_al (h' := sg (sz h 1) z.toNat) (n := 1) (nc := 1) (ns := z.toNat) hs k2 (Nat.le_refl _) rfl (show gz h + 1 ≤ 197 by omega) rfl rfl (fun _ _ => rfl) (fun _ => rfl) (fun a i => Nat.lt_succ_of_lt (ok.2.2.1 a i)) (fun _ _ _ => rfl) (fun _ _ _ => rfl) hsh (by decide) he Hk
  have z0 := hs.2.1
  have g2 : gc h + 1 ≤ gc x.2 := g2
  have g3 : gs h + z.toNat ≤ gs x.2 := g3
  refine ⟨g1, fun ad ls H locs hL hW hS hE hab hau => ?_⟩
  have hz := fun i => ok.2.2.2.2.2 (gz h) i (Nat.le_refl _) (by omega)
  have hneg : ¬ (Int32.ofInt z < 0) := by
    rw [show (0 : Int32) = Int32.ofInt 0 from rfl, dn_lt k1 dn_0]
    omega
  refine va_newa (atype := .long) (a0 := (z.toNat, .inr (.inl (fun _ => 0)))) hx hb (hts _ dq_w1863) rfl hEv.1 hW.1 hW.2 hS (fun q hq => by show base ≤ q; omega) (fun cA => rfl) hneg (dn_nat hz0 k1) (by show z.toNat * _ ≤ _; exact Nat.le_trans (Nat.mul_le_mul_right _ hp) (by decide)) (by omega) (by omega) hdg fun q cA H1 hK hP hD hS1 => ?_
  have hcA : cA = dm_cA G 4 := dq_cl0 (j := 2) hK rfl (fun h => h) (fun h => h)
  subst hcA
  have hen : dm_en G (dm_up ad (gz h) 1 q) (sg (sz h 1) z.toNat) (gz h) = .inl (dm_cA G 4, z.toNat, .inr (.inl (fun _ => 0))) := by
    rw [dw_4 hsh]
    have e9 : ∀ i, gl (sg (sz h 1) z.toNat) i = 0 := fun i => hgl i
    simp only [e9]
    rfl
  exact g4 ad ls q H1 locs hL hE hab hau (by rw [← hen] at hP; exact hP) (by rw [← hen] at hD; exact hD) hS1
set_option maxHeartbeats 2000000 in
theorem dx_anewarray (hcl : Cond.classLink own idx "DatalogMill$Rule" ∈ dm_ws) (hR1 : gc x.2 - gc h0 ≤ R.cells) (hR2 : gs x.2 - gs h0 ≤ R.slots) (C : dq_C p l s m args meth c own cc nL G base b L u xs) (hdg : decode cc pc = .ok (.anewarray idx, 3)) (he : dm_exec sv wrp dm_sh call k T pc 3 (.anewarray idx) d cs Lc S h = some x) (hs : dq_os sv L xs h0 h Lc S) (Hk : ∀ (pc' : Nat) (Lc' : dm_L) (S' : List dm_V) (h' : dm_H), k pc' Lc' S' h' = some x → dq_os sv L xs h0 h' Lc' S' → dq_okx sv L xs h' x ∧ dq_Go p l e R s m args below meth c Q nL G base b u h0 ad0 pc' Lc' S' h') : dq_okx sv L xs h x ∧ dq_Go p l e R s m args below meth c Q nL G base b u h0 ad0 pc Lc S h := by
  obtain ⟨hx, hb, hml, hown, hts, hEv, hSt, hbs, hlocks, hntr⟩ := id C
  obtain ⟨z, S', hSe, hf⟩ := di_1 he
  clear he
  split at hf
  case isFalse => cases hf
  rename_i hz0
  obtain ⟨hsv, hsh, he⟩ := di_new hf
  clear hf
  subst hsv
  subst hSe
  have ok := hs.1
  have hz197 := dw_lt hsh (by decide)
  obtain ⟨k1, k2⟩ := dq_h hs.sub
  have k1 : dm_in z := k1
  have hp : z.toNat ≤ 4000 := by
    have := of_decide_eq_true (dw_all _ dq_p10 hz197)
    rw [hsh] at this
    exact this
  obtain ⟨g1, ⟨g2, g3⟩, g4⟩ := dq_al (h' := sg (sz h 1) z.toNat) (n := 1) (nc := 1) (ns := z.toNat) hs k2 (Nat.le_refl _) rfl (show gz h + 1 ≤ 197 by omega) rfl rfl (fun _ _ => rfl) (fun _ => rfl) (fun a i => Nat.lt_succ_of_lt (ok.2.2.1 a i)) (fun _ _ _ => rfl) (fun _ _ _ => rfl) hsh (by decide) he Hk
  have z0 := hs.2.1
  have g2 : gc h + 1 ≤ gc x.2 := g2
  have g3 : gs h + z.toNat ≤ gs x.2 := g3
  refine ⟨g1, fun ad ls H locs hL hW hS hE hab hau => ?_⟩
  have hz := fun i => ok.2.2.2.2.2 (gz h) i (Nat.le_refl _) (by omega)
  have hneg : ¬ (Int32.ofInt z < 0) := by
    rw [show (0 : Int32) = Int32.ofInt 0 from rfl, dn_lt k1 dn_0]
    omega
  refine va_newq hx hb hown (hts _ hcl) hEv.2.2.2.2.1.1 hEv.1 hW.1 hW.2 hS (fun q hq => by show base ≤ q; omega) hneg (dn_nat hz0 k1) (by omega) (by omega) (by omega) hdg fun q cA H1 hK hP hD hS1 => ?_
  have hcA : cA = dm_cA G 5 := dq_cl0 (j := 3) hK rfl (fun h => by obtain ⟨kA, comp, h1, h2, h3, h4⟩ := h; exact h4) (fun h => by obtain ⟨kA, comp, h1, h2, h3, h4⟩ := h; exact h4)
  subst hcA
  have hen : dm_en G (dm_up ad (gz h) 1 q) (sg (sz h 1) z.toNat) (gz h) = .inl (dm_cA G 5, z.toNat, .inr (.inr (.inr (.inr (fun _ => none))))) := by
    rw [dw_5 hsh]
    have e9 : ∀ i, gr (sg (sz h 1) z.toNat) (gz h) i = 0 := fun i => (hz i).2
    simp only [e9, dm_ro, if_pos]
  exact g4 ad ls q H1 locs hL hE hab hau (by rw [← hen] at hP; exact hP) (by rw [← hen] at hD; exact hD) hS1
set_option maxHeartbeats 2000000 in
theorem dx_multi (hcl : Cond.classLink own idx ("[" ++ (FieldType.array .int).toString) ∈ dm_ws) (hR1 : gc x.2 - gc h0 ≤ R.cells) (hR2 : gs x.2 - gs h0 ≤ R.slots) (C : dq_C p l s m args meth c own cc nL G base b L u xs) (hdg : decode cc pc = .ok (.multianewarray idx 2, 4)) (he : dm_exec sv wrp dm_sh call k T pc 4 (.multianewarray idx 2) d cs Lc S h = some x) (hs : dq_os sv L xs h0 h Lc S) (Hk : ∀ (pc' : Nat) (Lc' : dm_L) (S' : List dm_V) (h' : dm_H), k pc' Lc' S' h' = some x → dq_os sv L xs h0 h' Lc' S' → dq_okx sv L xs h' x ∧ dq_Go p l e R s m args below meth c Q nL G base b u h0 ad0 pc' Lc' S' h') : dq_okx sv L xs h x ∧ dq_Go p l e R s m args below meth c Q nL G base b u h0 ad0 pc Lc S h := by
  obtain ⟨hx, hb, hml, hown, hts, hEv, hSt, hbs, hlocks, hntr⟩ := id C
  simp only [dm_exec] at he
  split at he
  case h_2 => cases he
  rename_i zm zn S'
  split at he
  case h_1 => cases he
  split at he
  case isFalse => cases he
  rename_i hq
  obtain ⟨rfl, rfl, hall⟩ := hq
  have hall : ∀ j, j < 7 → dm_sh (gz h + j) = if j = 0 then (6, 6) else (2, 32) := fun j hj => of_decide_eq_true (List.all_eq_true.mp hall j (List.mem_range.mpr hj))
  have ok := hs.1
  have hsh : dm_sh (gz h) = (6, 6) := hall 0 (by omega)
  have hz197 : gz h + 6 < 197 := dw_lt (hall 6 (by omega)) (by decide)
  obtain ⟨-, k1⟩ := dq_h hs.sub
  obtain ⟨-, k2⟩ := dq_h k1
  have hgr : ∀ a i, gr (dm_sgs (sg (sz (dm_grid h (gz h) 6) 7) 6) 6 32) a i = if a = gz h ∧ 0 ≤ i ∧ i < (6 : Int) then gz h + 1 + i.toNat else gr h a i := fun _ _ => rfl
  obtain ⟨g1, ⟨g2, g3⟩, g4⟩ := dq_al (h' := dm_sgs (sg (sz (dm_grid h (gz h) 6) 7) 6) 6 32) (n := 7) (nc := 7) (ns := 198) hs k2 (by decide) rfl (show gz h + 7 ≤ 197 by omega) rfl rfl (fun _ _ => rfl) (fun _ => rfl) (fun a i => by
      rw [hgr]
      show _ < gz h + 7
      have := ok.2.2.1 a i
      split <;> omega) (fun a i ha => by rw [hgr, if_neg (by omega)]) (fun a i ha => by
      have ha : gz h + 7 ≤ a := ha
      rw [hgr, if_neg (by omega)]) hsh (by decide) he Hk
  have z0 := hs.2.1
  have g2 : gc h + 7 ≤ gc x.2 := g2
  have g3 : gs h + 198 ≤ gs x.2 := g3
  refine ⟨g1, fun ad ls H locs hL hW hS hE hab hau => ?_⟩
  intro T9 hT9 X
  obtain ⟨vm1, cA, comp, hW1, hfA, hfC, X1, step⟩ := X.multianewarray2 hx (own := own) (index := idx) (ty := .int) hown (hts _ hcl) hEv.2.2.2.2.1.2 (hts _ dq_w73) (g := F0 m pc ls (.int (Int32.ofInt 32) :: .int (Int32.ofInt 6) :: S'.map (dm_tv ad))) rfl (by rw [hb]; exact hdg) (n := Int32.ofInt 6) (k := Int32.ofInt 32) (rest := S'.map (dm_tv ad)) rfl (by decide) (by decide) (by decide) (by decide) (by decide) rfl rfl (by show gc h - gc h0 + 7 ≤ R.cells; omega) (by show gs h - gs h0 + 198 ≤ R.slots; omega)
  have hA6 : cA = dm_cA G 6 := Option.some.inj (hfA.symm.trans (hEv.1.2 4 _ rfl).2)
  have hA2 : comp = dm_cA G 2 := Option.some.inj (hfC.symm.trans (hEv.1.2 0 _ rfl).2)
  subst hA6
  subst hA2
  obtain ⟨f1, f2, f3, f4⟩ := Jvm.Free.Multi.fill_facts (T9.setVm vm1) (dm_cA G 6) (dm_cA G 2) 6 32 (defaultValue .int) 6
  have hsz : (T9.setVm vm1).heap.size = H.size := by rw [← hT9]; rfl
  have fo : ∀ a, a < H.size → (Jvm.Free.Multi.fill (T9.setVm vm1) (dm_cA G 6) (dm_cA G 2) 6 32 (defaultValue .int) 6).heap[a]? = H[a]? := fun a ha => by
    rw [Jvm.Free.Multi.fill_old (T9.setVm vm1) _ _ _ _ _ (by rw [hsz]; exact ha), ← hT9]
    rfl
  have fi : ∀ j, j < 6 → (Jvm.Free.Multi.fill (T9.setVm vm1) (dm_cA G 6) (dm_cA G 2) 6 32 (defaultValue .int) 6).heap[H.size + 1 + j]? = some (arrV (dm_cA G 2) 32 (fun _ => .int 0)) := fun j hj => by
    rw [← hsz, Jvm.Free.Multi.fill_inner (T9.setVm vm1) _ _ _ _ _ 6 j hj, ← arrV_new]
    rfl
  rw [hsz] at f1 f2
  rw [dq_outer] at f2
  have e6 : (Int32.ofInt 6).toNatClampNeg = 6 := by decide
  have e32 : (Int32.ofInt 32).toNatClampNeg = 32 := by decide
  rw [e6, e32] at X1 step
  generalize hU : Jvm.Free.Multi.fill (T9.setVm vm1) (dm_cA G 6) (dm_cA G 2) 6 32 (defaultValue .int) 6 = U9 at f1 f2 f3 f4 fo fi X1 step
  have hz := fun j (hj : j < 7) i => ok.2.2.2.2.2 (gz h + j) i (Nat.le_add_right _ _) (by omega)
  generalize hh1 : dm_sgs (sg (sz (dm_grid h (gz h) 6) 7) 6) 6 32 = h1 at *
  have hgi : ∀ a i, gi h1 a i = gi h a i := fun a i => by rw [← hh1]; rfl
  have hen0 : dm_en G (dm_up ad (gz h) 7 H.size) h1 (gz h) = .inl (dm_cA G 6, 6, .inr (.inr (.inr (.inr (fun j => dm_ro (dm_up ad (gz h) 7 H.size) (gr h1 (gz h) j)))))) := dw_6 hsh
  have hen1 : ∀ j, j < 6 → dm_en G (dm_up ad (gz h) 7 H.size) h1 (gz h + (1 + j)) = .inl (dm_cA G 2, 32, .inl (fun _ => 0)) := fun j hj => by
    rw [dw_2 (by rw [hall (1 + j) (by omega), if_neg (by omega)])]
    have e9 : ∀ i, gi h1 (gz h + (1 + j)) i = 0 := fun i => by rw [hgi]; exact (hz (1 + j) (by omega) i).1
    simp only [e9]
    rfl
  have hat : ∀ j, j < 7 → va_at (dm_D G) dm_cl (H.size + j, dm_en G (dm_up ad (gz h) 7 H.size) h1 (gz h + j)) U9.heap := by
    intro j hj
    cases j with
    | zero =>
      rw [Nat.add_zero, Nat.add_zero, hen0]
      show U9.heap[H.size]? = some (vp_cell _ _)
      rw [vp_cell_q, f2]
      congr 1
      unfold arrV
      congr 2
      funext i
      have hi : (i : Nat) < 6 := i.2
      show (if (i : Nat) < 6 then Value.ref (H.size + 1 + (i : Nat)) else Value.null) = va_rf (dm_ro (dm_up ad (gz h) 7 H.size) (gr h1 (gz h) ((i : Nat) : Int)))
      rw [if_pos hi, dm_rv_ro, hgr, if_pos ⟨rfl, by omega, by omega⟩]
      unfold dm_rv
      rw [if_neg (by omega), show gz h + 1 + ((i : Nat) : Int).toNat = gz h + (1 + (i : Nat)) by rw [Int.toNat_natCast]; omega, dq_up0 (by omega)]
      rw [Nat.add_assoc]
    | succ j =>
      rw [show gz h + (j + 1) = gz h + (1 + j) by omega, hen1 j (by omega)]
      show U9.heap[H.size + (j + 1)]? = some (vp_cell _ _)
      rw [show H.size + (j + 1) = H.size + 1 + j by omega, fi j (by omega)]
      rfl
  have hPold : va_P (dm_D G) dm_cl (dm_W G ad h) U9.heap := hW.1.kept (fun k q hq => fo _ ((hW.1 k q hq).lt))
  have hPnew : va_P (dm_D G) dm_cl ((List.range 7).map (fun j => (H.size + j, dm_en G (dm_up ad (gz h) 7 H.size) h1 (gz h + j)))) U9.heap := by
    intro k q hq
    obtain ⟨j, hj, rfl⟩ := List.mem_map.mp (List.mem_of_getElem? hq)
    exact hat j (List.mem_range.mp hj)
  have hDn : va_D (dm_A base) (dm_W G ad h ++ (List.range 7).map (fun j => (H.size + j, dm_en G (dm_up ad (gz h) 7 H.size) h1 (gz h + j)))) := by
    have hnew : ∀ (k : Nat) (q : Nat × va_E), ((List.range 7).map (fun j => (H.size + j, dm_en G (dm_up ad (gz h) 7 H.size) h1 (gz h + j))))[k]? = some q → q.1 = H.size + k := by
      intro k q hq
      rw [List.getElem?_map, Option.map_eq_some_iff] at hq
      obtain ⟨j, hj, rfl⟩ := hq
      have hk : k < 7 := by
        have := (List.getElem?_eq_some_iff.mp hj).1
        rwa [List.length_range] at this
      rw [List.getElem?_range hk] at hj
      cases hj
      rfl
    refine ⟨fun i j p q hi hj hpq => ?_, fun k q hq => ?_⟩
    · by_cases c1 : i < (dm_W G ad h).length
      · rw [List.getElem?_append_left c1] at hi
        have l1 := (hW.1 i p hi).lt
        by_cases c2 : j < (dm_W G ad h).length
        · rw [List.getElem?_append_left c2] at hj
          exact hW.2.1 i j p q hi hj hpq
        · rw [List.getElem?_append_right (by omega)] at hj
          have := hnew _ _ hj
          omega
      · rw [List.getElem?_append_right (by omega)] at hi
        have h1 := hnew _ _ hi
        by_cases c2 : j < (dm_W G ad h).length
        · rw [List.getElem?_append_left c2] at hj
          have l1 := (hW.1 j q hj).lt
          omega
        · rw [List.getElem?_append_right (by omega)] at hj
          have h2 := hnew _ _ hj
          omega
    · by_cases c1 : k < (dm_W G ad h).length
      · rw [List.getElem?_append_left c1] at hq
        exact hW.2.2 k q hq
      · rw [List.getElem?_append_right (by omega)] at hq
        show base ≤ q.1
        have := hnew _ _ hq
        have := hS.1
        omega
  have hS1 : va_S (dm_A base) s.heap U9.heap (locs ++ (List.range 6).map fun j => ⟨T9.heap.size, j⟩) := by
    refine ⟨by have := hS.1; omega, fun a h1 h2 => (fo a (Nat.lt_of_lt_of_le h1 hS.1)).trans (hS.2.1 a h1 h2), fun z hz => ?_⟩
    rcases List.mem_append.mp hz with hz | hz
    · exact hS.2.2 z hz
    · obtain ⟨j, -, rfl⟩ := List.mem_map.mp hz
      show base ≤ T9.heap.size
      have := hS.1
      rw [hT9]
      omega
  have hgo := g4 ad ls H.size U9.heap _ hL hE hab hau (hPold.app hPnew) hDn hS1
  obtain ⟨t, a1, b1⟩ := hgo U9 rfl X1
  rw [hT9] at step
  exact ⟨t, step t a1, b1⟩
theorem dx_c3 (hq : ∃ q ∈ dm_mk3, own = dm_on q.1 ∧ idx = q.2.1) (hR1 : gc x.2 - gc h0 ≤ R.cells) (hR2 : gs x.2 - gs h0 ≤ R.slots) (hR3 : 1 ≤ R.frames) (hR4 : 400 ≤ R.locals) (C : dq_C p l s m args meth c own cc nL G base b L u xs) (hdg : decode cc pc = .ok (.invokestatic idx, 3)) (he : dm_call call k T pc Lc S h [3] cs = some x) (hs : dq_os sv L xs h0 h Lc S) (Hk : ∀ (pc' : Nat) (Lc' : dm_L) (S' : List dm_V) (h' : dm_H), k pc' Lc' S' h' = some x → dq_os sv L xs h0 h' Lc' S' → dq_okx sv L xs h' x ∧ dq_Go p l e R s m args below meth c Q nL G base b u h0 ad0 pc' Lc' S' h') : dq_okx sv L xs h x ∧ dq_Go p l e R s m args below meth c Q nL G base b u h0 ad0 pc Lc S h := by
  obtain ⟨hx, hb, hml, hown, hts, hEv, hSt, hbs, hlocks, hntr⟩ := id C
  obtain ⟨x9, y9, S', hSe, hf⟩ := di_2 he
  clear he
  split at hf
  case isFalse => cases hf
  rename_i hsum
  subst hSe
  obtain ⟨k1, k2⟩ := dq_h hs.sub
  obtain ⟨k3, k4⟩ := dq_h k2
  have k1 : dm_in y9 := k1
  have k3 : dm_in x9 := k3
  obtain ⟨q, hq1, hq2, hq3⟩ := hq
  have hqb := List.all_eq_true.mp dq_t3 q hq1
  unfold dq_k3 at hqb
  have hw := dq_chk_in hqb
  rw [← hq2, ← hq3] at hw
  obtain ⟨h1, h2⟩ := Hk _ _ _ _ hf (hs.to (dq_c (P := dm_vk L h) (show dm_in (if x9 < y9 then y9 else x9) by split <;> assumption) k4))
  have z0 := hs.2.1
  have z1 := h1.2.1
  have z2 := h1.2.2.1
  refine ⟨h1, fun ad ls H locs hL hW hS hE hab hau => ?_⟩
  have h3 := h2 ad ls H locs hL hW hS hE hab hau
  refine va_mmax hx hb (by rw [hml, hL.1]) hown (hts _ (hw _ (by simp))) (hts _ (hw _ (by simp))) (hts _ (hw _ (by simp))) (hts _ dq_w577) hR3 ?_ (by omega) (by omega) hdg ?_
  · rw [dq_sum]
    omega
  · rw [List.map_cons] at h3
    have e9 : dm_tv ad (dI (if x9 < y9 then y9 else x9)) = .int (if Int32.ofInt x9 < Int32.ofInt y9 then Int32.ofInt y9 else Int32.ofInt x9) := by
      show Value.int (Int32.ofInt _) = _
      by_cases c : x9 < y9
      · rw [if_pos c, if_pos (by rw [dn_lt k3 k1]; exact c)]
      · rw [if_neg c, if_neg (by rw [dn_lt k3 k1]; exact c)]
    rw [e9] at h3
    exact h3
theorem dx_c4 (hq : ∃ q ∈ dm_mk4, own = dm_on q.1 ∧ idx = q.2.1) (hR1 : gc x.2 - gc h0 ≤ R.cells) (hR2 : gs x.2 - gs h0 ≤ R.slots) (hR3 : 1 ≤ R.frames) (hR4 : 400 ≤ R.locals) (C : dq_C p l s m args meth c own cc nL G base b L u xs) (hdg : decode cc pc = .ok (.invokestatic idx, 3)) (he : dm_call call k T pc Lc S h [4] cs = some x) (hs : dq_os sv L xs h0 h Lc S) (Hk : ∀ (pc' : Nat) (Lc' : dm_L) (S' : List dm_V) (h' : dm_H), k pc' Lc' S' h' = some x → dq_os sv L xs h0 h' Lc' S' → dq_okx sv L xs h' x ∧ dq_Go p l e R s m args below meth c Q nL G base b u h0 ad0 pc' Lc' S' h') : dq_okx sv L xs h x ∧ dq_Go p l e R s m args below meth c Q nL G base b u h0 ad0 pc Lc S h := by
  obtain ⟨hx, hb, hml, hown, hts, hEv, hSt, hbs, hlocks, hntr⟩ := id C
  obtain ⟨x9, y9, S', hSe, hf⟩ := di_2 he
  clear he
  split at hf
  case isFalse => cases hf
  rename_i hsum
  subst hSe
  obtain ⟨k1, k2⟩ := dq_h hs.sub
  obtain ⟨k3, k4⟩ := dq_h k2
  have k1 : dm_in y9 := k1
  have k3 : dm_in x9 := k3
  obtain ⟨q, hq1, hq2, hq3⟩ := hq
  have hqb := List.all_eq_true.mp dq_t4 q hq1
  unfold dq_k4 at hqb
  have hw := dq_chk_in hqb
  rw [← hq2, ← hq3] at hw
  obtain ⟨h1, h2⟩ := Hk _ _ _ _ hf (hs.to (dq_c (P := dm_vk L h) (show dm_in (if y9 < x9 then y9 else x9) by split <;> assumption) k4))
  have z0 := hs.2.1
  have z1 := h1.2.1
  have z2 := h1.2.2.1
  refine ⟨h1, fun ad ls H locs hL hW hS hE hab hau => ?_⟩
  have h3 := h2 ad ls H locs hL hW hS hE hab hau
  refine va_mmin hx hb (by rw [hml, hL.1]) hown (hts _ (hw _ (by simp))) (hts _ (hw _ (by simp))) (hts _ (hw _ (by simp))) (hts _ dq_w596) hR3 ?_ (by omega) (by omega) hdg ?_
  · rw [dq_sum]
    omega
  · rw [List.map_cons] at h3
    have e9 : dm_tv ad (dI (if y9 < x9 then y9 else x9)) = .int (if Int32.ofInt y9 < Int32.ofInt x9 then Int32.ofInt y9 else Int32.ofInt x9) := by
      show Value.int (Int32.ofInt _) = _
      by_cases c : y9 < x9
      · rw [if_pos c, if_pos (by rw [dn_lt k1 k3]; exact c)]
      · rw [if_neg c, if_neg (by rw [dn_lt k1 k3]; exact c)]
    rw [e9] at h3
    exact h3
theorem dx_c7 (hq : ∃ q ∈ dm_mk7, own = dm_on q.1 ∧ idx = q.2.1) (hR3 : 1 ≤ R.frames) (hR4 : 400 ≤ R.locals) (C : dq_C p l s m args meth c own cc nL G base b L u xs) (hdg : decode cc pc = .ok (.invokespecial idx, 3)) (he : dm_call call k T pc Lc S h [7] cs = some x) (hs : dq_os sv L xs h0 h Lc S) (Hk : ∀ (pc' : Nat) (Lc' : dm_L) (S' : List dm_V) (h' : dm_H), k pc' Lc' S' h' = some x → dq_os sv L xs h0 h' Lc' S' → dq_okx sv L xs h' x ∧ dq_Go p l e R s m args below meth c Q nL G base b u h0 ad0 pc' Lc' S' h') : dq_okx sv L xs h x ∧ dq_Go p l e R s m args below meth c Q nL G base b u h0 ad0 pc Lc S h := by
  obtain ⟨hx, hb, hml, hown, hts, hEv, hSt, hbs, hlocks, hntr⟩ := id C
  obtain ⟨t9, p9, a9, S', hSe, hf⟩ := di_r1 he
  clear he
  split at hf
  case isFalse => cases hf
  rename_i hc9
  obtain ⟨rfl, hsum⟩ := hc9
  subst hSe
  obtain ⟨k1, k2⟩ := dq_h hs.sub
  obtain ⟨k3, k4, k5⟩ := df_vk' (by decide) k1
  obtain ⟨q, hq1, hq2, hq3⟩ := hq
  have hqb := List.all_eq_true.mp dq_t7 q hq1
  unfold dq_k7 at hqb
  have hw := dq_chk_in hqb
  rw [← hq2, ← hq3] at hw
  obtain ⟨h1, h2⟩ := Hk _ _ _ _ hf (hs.to k2)
  refine ⟨h1, fun ad ls H locs hL hW hS hE hab hau => ?_⟩
  have h3 := h2 ad ls H locs hL hW hS hE hab hau
  rw [List.map_cons, show dm_tv ad (dR 1 p9 a9) = .ref (ad a9) from if_neg k4]
  refine W.objInit hx hb hown (hts _ (hw _ (by simp))) (hts _ (hw _ (by simp))) (hts _ dq_w29) rfl (show ls.size = _ by rw [hml, hL.1]) rfl hdg hR3 ?_ h3
  rw [dq_sum]
  show 2 * 0 + _ + 12 ≤ _
  omega
end DQN
