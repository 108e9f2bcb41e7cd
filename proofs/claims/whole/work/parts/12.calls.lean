/-! calls, a kind each: text by wip/whole/gen/simd.py -/
theorem dq_args {n : Nat} {S : List dm_V} {f : List dm_V → List dm_V → dm_O} {x : dm_X} (h : dm_args n S f = some x) : n ≤ S.length ∧ (∀ v ∈ S.take n, dm_short v = true) ∧ ((S.drop n).map dm_cat).sum ≤ 8 ∧ f (S.take n).reverse (S.drop n) = some x := by
  unfold dm_args at h
  split at h
  · rename_i hc
    exact ⟨hc.1, List.all_eq_true.mp hc.2.1, hc.2.2, h⟩
  · cases h
theorem dq_short {v : dm_V} (h : dm_short v = true) : dq_nl v := by
  unfold dm_short at h
  unfold dq_nl
  split at h
  · cases h
  · split
    · rename_i z
      exact absurd rfl (z _)
    · trivial
theorem dq_recv0 {as : List dm_V} {f : dm_O} {x : dm_X} (h : dm_recv none as f = some x) : ∃ p a as', as = dR 1 p a :: as' ∧ f = some x := by
  unfold dm_recv at h
  split at h
  · exact ⟨_, _, _, rfl, h⟩
  · rename_i hh
    cases hh
  · cases h
theorem dq_recv1 {ci : Nat} {as : List dm_V} {f : dm_O} {x : dm_X} (h : dm_recv (some ci) as f = some x) : ∃ a as', as = dR 1 ci a :: as' ∧ f = some x := by
  unfold dm_recv at h
  split at h
  · rename_i hh
    cases hh
  · rename_i hh
    cases hh
    split at h
    · rename_i q
      subst q
      exact ⟨_, _, rfl, h⟩
    · cases h
  · cases h
theorem dq_cocons {t : Nat} {cs : List Nat} {v : dm_V} {as : List dm_V} : ∃ w, dm_co (t :: cs) (v :: as) = w :: dm_co cs as ∧ (∀ ad, dm_tv ad w = dm_tv ad v) ∧ (∀ L h, dm_vk L h v ∧ dq_nl v → dm_vk L h w ∧ dq_nl w) := by
  by_cases h7 : t = 7 ∧ ∃ k p a, v = dR k p a
  · obtain ⟨rfl, k, p, a, rfl⟩ := h7
    refine ⟨if dm_fit 7 0 k p = true then dR 7 0 a else dR k p a, rfl, fun ad => ?_, fun L h hv => ?_⟩
    · split <;> rfl
    · split
      · rename_i hf
        refine ⟨?_, trivial⟩
        simp only [dm_fit, if_true, Bool.or_eq_true, Bool.and_eq_true, beq_iff_eq] at hf
        rcases hf with (rfl | rfl) | ⟨rfl, hf⟩
        · exact Or.inl hv.1
        · exact hv.1
        · exact Or.inr ⟨hv.1.2.2, p, hv.1.1, by omega⟩
      · exact hv
  · refine ⟨v, ?_, fun _ => rfl, fun _ _ z => z⟩
    rw [dm_co.eq_def]
    split
    · rename_i h1 h2
      cases h1
      cases h2
      exact absurd ⟨rfl, _, _, _, rfl⟩ h7
    · rename_i h1 h2
      cases h1
      cases h2
      rfl
    · rename_i hx1 hx2
      exact absurd rfl (hx2 _ _ _ _ rfl)
theorem dq_co {cs : List Nat} : ∀ {as : List dm_V}, (dm_co cs as).length = as.length ∧ (∀ ad, (dm_co cs as).map (dm_tv ad) = as.map (dm_tv ad)) ∧ ∀ L h, (∀ v ∈ as, dm_vk L h v ∧ dq_nl v) → ∀ v ∈ dm_co cs as, dm_vk L h v ∧ dq_nl v := by
  induction cs with
  | nil => intro as; cases as <;> exact ⟨rfl, fun _ => rfl, fun _ _ z => z⟩
  | cons t cs ih =>
    intro as
    cases as with
    | nil => 
      have e : dm_co (t :: cs) [] = [] := by rw [dm_co.eq_def]; split <;> simp_all
      rw [e]
      exact ⟨rfl, fun _ => rfl, fun _ _ z => z⟩
    | cons v as =>
      obtain ⟨w, e, h1, h2⟩ := dq_cocons (t := t) (cs := cs) (v := v) (as := as)
      obtain ⟨i1, i2, i3⟩ := ih (as := as)
      rw [e]
      refine ⟨by simp [i1], fun ad => by rw [List.map_cons, List.map_cons, h1, i2], fun L h hv => ?_⟩
      obtain ⟨a1, a2⟩ := List.forall_mem_cons.mp hv
      exact List.forall_mem_cons.mpr ⟨h2 L h a1, i3 L h a2⟩
theorem dq_catv {ad : Nat → Nat} {v : dm_V} : (dm_tv ad v).category = dm_cat v := by
  unfold dm_tv dm_cat dm_rv
  split
  · rfl
  · split <;> rfl
  · rfl
theorem dq_sum {ad : Nat → Nat} {S : List dm_V} : ((S.map (dm_tv ad)).map fun v => v.category).sum = (S.map dm_cat).sum := by
  rw [List.map_map]
  congr 1
  exact List.map_congr_left fun v _ => dq_catv
theorem dq_stack {ad : Nat → Nat} {S : List dm_V} {n : Nat} : S.map (dm_tv ad) = (((S.take n).reverse).map (dm_tv ad)).reverse ++ (S.drop n).map (dm_tv ad) := by
  rw [List.map_reverse, List.reverse_reverse, ← List.map_append, List.take_append_drop]
/-- what of a frame's context is no frame's -/
def dq_X (p : Program) (l : Launch) (s : State) (args : Array Value) (G : dm_G) (base b L u : Nat) (xs : Nat → Int) : Prop := p.tables.exec = Jvm.exec ∧ (∀ w ∈ dm_ws, w.before args s = true) ∧ dm_Ev G s ∧ dm_St base b L u xs s s.heap ∧ base ≤ s.heap.size ∧ l.stackTraces = false
/-- what is known of the methods that are called -/
def dq_IH (l : Launch) (G : dm_G) (base b L u : Nat) (xs : Nat → Int) (sv : Bool) (dep : Nat) (call : Nat → List dm_V → dm_H → dm_O) : Prop := ∀ (y : Nat) (as : List dm_V) (h : dm_H) (x1 : dm_X), y < dm_law → as.length ≤ dm_nl y → call y as h = some x1 → dm_ok sv h → (sv = true → ∀ j : Nat, j < L → gi h 1000 j = xs j) → (∀ v ∈ as, dm_vk L h v ∧ dq_nl v) → (∀ (p : Program) (s : State) (args : Array Value), dq_X p l s args G base b L u xs → dq_okx sv L xs h x1) ∧ dq_Met l G base b L u xs dep y as h x1

section DQD
variable {p : Program} {l : Launch} {e : Env} {R : Room} {s : State} {m : MethodId} {args : Array Value} {below : List Frame} {meth : Method} {c : Code} {Q : State → Prop}
variable {own : String} {cc : ByteArray} {nL : Nat} {G : dm_G} {base b L u : Nat} {xs : Nat → Int} {sv : Bool} {h0 h : dm_H} {ad0 : Nat → Nat} {x : dm_X} {wrp pc : Nat} {call : Nat → List dm_V → dm_H → dm_O} {k : dm_K} {T : dm_T} {d cs : List Nat} {Lc : dm_L} {S : List dm_V}
variable {dep y n idx : Nat} {xq : dm_X}
set_option maxHeartbeats 2000000 in
theorem dx_c0 (C : dq_C p l s m args meth c own cc nL G base b L u xs) (hy : y < dm_law) (hnl : n ≤ dm_nl y) (hdg : decode cc pc = .ok (.invokestatic idx, 3)) (hq : ∃ q ∈ dm_mk0, own = dm_on q.1 ∧ idx = q.2.1 ∧ y = q.2.2.1 ∧ n = q.2.2.2.1) (he : dm_call call k T pc Lc S h [0, y, n] cs = some x) (hs : dq_os sv L xs h0 h Lc S) (Hk : ∀ (pc' : Nat) (Lc' : dm_L) (S' : List dm_V) (h' : dm_H), k pc' Lc' S' h' = some x → dq_os sv L xs h0 h' Lc' S' → dq_okx sv L xs h' x ∧ dq_Go p l e R s m args below meth c (dq_Q below G base h0 ad0 xq args s) nL G base b u h0 ad0 pc' Lc' S' h') (IH : dq_IH l G base b L u xs sv dep call) (hT : dq_Th s args c own cc T pc) (hxq : sv = true → xq = x) (hR1 : gc x.2 - gc h0 ≤ R.cells) (hR2 : gs x.2 - gs h0 ≤ R.slots) (hR3 : dq_fr dep + 1 ≤ R.frames) (hR4 : 59 + dq_lo dep ≤ R.locals) :
    dq_okx sv L xs h x ∧ dq_Go p l e R s m args below meth c (dq_Q below G base h0 ad0 xq args s) nL G base b u h0 ad0 pc Lc S h := by
  obtain ⟨hx, hb, hml, hown, hts, hEv, hSt, hbs, hlocks, hntr⟩ := id C
  have he : dm_args n S (fun as S2 => dm_back k T pc Lc S2 (call y (dm_co cs as) h)) = some x := he
  obtain ⟨a1, a2, a3, he⟩ := dq_args he
  have hmem : ∀ v ∈ (S.take n).reverse, dm_vk L h v ∧ dq_nl v := fun v hv => ⟨hs.sub v (List.mem_of_mem_take (List.mem_reverse.mp hv)), dq_short (a2 v (List.mem_reverse.mp hv))⟩
  obtain ⟨co1, co2, co3⟩ := dq_co (cs := cs) (as := (S.take n).reverse)
  cases hc : call y (dm_co cs (S.take n).reverse) h with
  | none => rw [hc] at he; cases he
  | some x1 =>
  rw [hc] at he
  obtain ⟨hx0, hM⟩ := IH y _ h x1 hy (by rw [co1, List.length_reverse, List.length_take]; omega) hc hs.1 hs.2.2.1 (co3 L h hmem)
  have hx1 := hx0 p s args ⟨hx, hts, hEv, hSt, hbs, hntr⟩
  refine dx_back (S' := S.drop n) (av := #[]) C hs (fun v hv => hs.sub v (List.mem_of_mem_drop hv)) hx1 hT he Hk hxq ?_
  intro ad ls H locs hL hW hS hE hab hau g1 g2
  have hpre := dq_here (ad := ad) (h := h) hEv hSt hbs hW hS
  obtain ⟨q, hq1, hq2, hq3, hq4, hq5⟩ := hq
  have hqq := List.all_eq_true.mp dq_t0 q hq1
  have hlen : (S.take n).reverse.length = n := by rw [List.length_reverse, List.length_take]; omega
  have hz0 := hs.2.1
  have hz1 := hx1.2.1
  have hz2 := hx1.2.2.1
  have hfit : gc h - gc h0 + (gc x1.2 - gc h) ≤ R.cells ∧ gs h - gs h0 + (gs x1.2 - gs h) ≤ R.slots := ⟨by omega, by omega⟩
  have hsum : 2 * (F0 m pc ls (S.map (dm_tv ad))).monitorRoom + (((S.drop n).map (dm_tv ad)).map fun v => v.category).sum ≤ 8 := by rw [dq_sum]; show 2 * 0 + _ ≤ 8; omega
  have hMa := hM ad hab hau
  rw [co2 ad] at hMa
  have hgood := dq_good hts (dq_codeIn hy)
  subst hq2
  subst hq3
  subst hq4
  subst hq5
  unfold dq_k0 at hqq
  simp only [Bool.and_eq_true, decide_eq_true_eq] at hqq
  obtain ⟨⟨h1, h2⟩, h3⟩ := hqq
  have hw := dq_chk_in h1
  obtain ⟨y1, y2, y3, y4⟩ := dq_yok_spec h2
  have hhh := List.isEmpty_iff.mp h3
  generalize q.2.2.1 = y at *
  generalize hn9 : q.2.2.2.1 = n at *
  have hcode : dq_code y = .code (dm_y y) (dm_b y) (dm_nl y) (dm_rt y) := by unfold dq_code; rw [hhh]
  have hcin : Cond.code (dm_y y) (dm_b y) (dm_nl y) (dm_rt y) ∈ dm_ws := hcode ▸ dq_codeIn hy
  have hcws : Cond.code (dm_y y) (dm_b y) (dm_nl y) (dm_rt y) ∈ dq_wsy y := List.mem_cons_of_mem _ hcin
  exact vx_runS (n := n) (As := (S.take n).reverse.map (dm_tv ad)) (rest := (S.drop n).map (dm_tv ad)) (bytes := dm_b y) (maxL := dm_nl y) (ret := dm_rt y) ⟨hx, hb, hml, hown, hts⟩ hMa ⟨⟨rfl, rfl, hR3, by show 8 + (dm_nl y + 11) + dq_lo dep ≤ _; omega, hgood, hcws, hts _ hcin, hts _ (hw _ (by simp)), ⟨y1, y2⟩, dq_len y3, hts _ (hw _ (by simp))⟩, hts _ (hw _ (by simp))⟩ ⟨dq_blind, fun U g3 g4 => ⟨rfl, hpre U g3 g4⟩⟩ rfl (by rw [List.length_map, hlen]) hL.1 dq_stack hsum hdg hfit
set_option maxHeartbeats 2000000 in
theorem dx_c1 (C : dq_C p l s m args meth c own cc nL G base b L u xs) (hy : y < dm_law) (hnl : n ≤ dm_nl y) (hdg : decode cc pc = .ok (.invokestatic idx, 3)) (hq : ∃ q ∈ dm_mk1, own = dm_on q.1 ∧ idx = q.2.1 ∧ y = q.2.2.1 ∧ n = q.2.2.2.1) (he : dm_call call k T pc Lc S h [1, y, n] cs = some x) (hs : dq_os sv L xs h0 h Lc S) (Hk : ∀ (pc' : Nat) (Lc' : dm_L) (S' : List dm_V) (h' : dm_H), k pc' Lc' S' h' = some x → dq_os sv L xs h0 h' Lc' S' → dq_okx sv L xs h' x ∧ dq_Go p l e R s m args below meth c (dq_Q below G base h0 ad0 xq args s) nL G base b u h0 ad0 pc' Lc' S' h') (IH : dq_IH l G base b L u xs sv dep call) (hT : dq_Th s args c own cc T pc) (hxq : sv = true → xq = x) (hR1 : gc x.2 - gc h0 ≤ R.cells) (hR2 : gs x.2 - gs h0 ≤ R.slots) (hR3 : dq_fr dep + 1 ≤ R.frames) (hR4 : 59 + dq_lo dep ≤ R.locals) :
    dq_okx sv L xs h x ∧ dq_Go p l e R s m args below meth c (dq_Q below G base h0 ad0 xq args s) nL G base b u h0 ad0 pc Lc S h := by
  obtain ⟨hx, hb, hml, hown, hts, hEv, hSt, hbs, hlocks, hntr⟩ := id C
  have he : dm_args n S (fun as S2 => dm_back k T pc Lc S2 (call y (dm_co cs as) h)) = some x := he
  obtain ⟨a1, a2, a3, he⟩ := dq_args he
  have hmem : ∀ v ∈ (S.take n).reverse, dm_vk L h v ∧ dq_nl v := fun v hv => ⟨hs.sub v (List.mem_of_mem_take (List.mem_reverse.mp hv)), dq_short (a2 v (List.mem_reverse.mp hv))⟩
  obtain ⟨co1, co2, co3⟩ := dq_co (cs := cs) (as := (S.take n).reverse)
  cases hc : call y (dm_co cs (S.take n).reverse) h with
  | none => rw [hc] at he; cases he
  | some x1 =>
  rw [hc] at he
  obtain ⟨hx0, hM⟩ := IH y _ h x1 hy (by rw [co1, List.length_reverse, List.length_take]; omega) hc hs.1 hs.2.2.1 (co3 L h hmem)
  have hx1 := hx0 p s args ⟨hx, hts, hEv, hSt, hbs, hntr⟩
  refine dx_back (S' := S.drop n) (av := #[]) C hs (fun v hv => hs.sub v (List.mem_of_mem_drop hv)) hx1 hT he Hk hxq ?_
  intro ad ls H locs hL hW hS hE hab hau g1 g2
  have hpre := dq_here (ad := ad) (h := h) hEv hSt hbs hW hS
  obtain ⟨q, hq1, hq2, hq3, hq4, hq5⟩ := hq
  have hqq := List.all_eq_true.mp dq_t1 q hq1
  have hlen : (S.take n).reverse.length = n := by rw [List.length_reverse, List.length_take]; omega
  have hz0 := hs.2.1
  have hz1 := hx1.2.1
  have hz2 := hx1.2.2.1
  have hfit : gc h - gc h0 + (gc x1.2 - gc h) ≤ R.cells ∧ gs h - gs h0 + (gs x1.2 - gs h) ≤ R.slots := ⟨by omega, by omega⟩
  have hsum : 2 * (F0 m pc ls (S.map (dm_tv ad))).monitorRoom + (((S.drop n).map (dm_tv ad)).map fun v => v.category).sum ≤ 8 := by rw [dq_sum]; show 2 * 0 + _ ≤ 8; omega
  have hMa := hM ad hab hau
  rw [co2 ad] at hMa
  have hgood := dq_good hts (dq_codeIn hy)
  subst hq2
  subst hq3
  subst hq4
  subst hq5
  unfold dq_k0 at hqq
  simp only [Bool.and_eq_true, decide_eq_true_eq] at hqq
  obtain ⟨⟨h1, h2⟩, h3⟩ := hqq
  have hw := dq_chk_in h1
  obtain ⟨y1, y2, y3, y4⟩ := dq_yok_spec h2
  have hhh := List.isEmpty_iff.mp h3
  generalize q.2.2.1 = y at *
  generalize hn9 : q.2.2.2.1 = n at *
  have hcode : dq_code y = .code (dm_y y) (dm_b y) (dm_nl y) (dm_rt y) := by unfold dq_code; rw [hhh]
  have hcin : Cond.code (dm_y y) (dm_b y) (dm_nl y) (dm_rt y) ∈ dm_ws := hcode ▸ dq_codeIn hy
  have hcws : Cond.code (dm_y y) (dm_b y) (dm_nl y) (dm_rt y) ∈ dq_wsy y := List.mem_cons_of_mem _ hcin
  exact vx_runS (n := n) (As := (S.take n).reverse.map (dm_tv ad)) (rest := (S.drop n).map (dm_tv ad)) (bytes := dm_b y) (maxL := dm_nl y) (ret := dm_rt y) ⟨hx, hb, hml, hown, hts⟩ hMa ⟨⟨rfl, rfl, hR3, by show 8 + (dm_nl y + 11) + dq_lo dep ≤ _; omega, hgood, hcws, hts _ hcin, hts _ (hw _ (by simp)), ⟨y1, y2⟩, dq_len y3, hts _ (hw _ (by simp))⟩, hts _ (hw _ (by simp))⟩ ⟨dq_blind, fun U g3 g4 => ⟨rfl, hpre U g3 g4⟩⟩ rfl (by rw [List.length_map, hlen]) hL.1 dq_stack hsum hdg hfit
set_option maxHeartbeats 2000000 in
theorem dx_c2 (C : dq_C p l s m args meth c own cc nL G base b L u xs) (hy : y < dm_law) (hnl : n ≤ dm_nl y) (hdg : decode cc pc = .ok (.invokestatic idx, 3)) (hq : ∃ q ∈ dm_mk2, own = dm_on q.1 ∧ idx = q.2.1 ∧ y = q.2.2.1 ∧ n = q.2.2.2.1) (he : dm_call call k T pc Lc S h [2, y, n] cs = some x) (hs : dq_os sv L xs h0 h Lc S) (Hk : ∀ (pc' : Nat) (Lc' : dm_L) (S' : List dm_V) (h' : dm_H), k pc' Lc' S' h' = some x → dq_os sv L xs h0 h' Lc' S' → dq_okx sv L xs h' x ∧ dq_Go p l e R s m args below meth c (dq_Q below G base h0 ad0 xq args s) nL G base b u h0 ad0 pc' Lc' S' h') (IH : dq_IH l G base b L u xs sv dep call) (hT : dq_Th s args c own cc T pc) (hxq : sv = true → xq = x) (hR1 : gc x.2 - gc h0 ≤ R.cells) (hR2 : gs x.2 - gs h0 ≤ R.slots) (hR3 : dq_fr dep + 1 ≤ R.frames) (hR4 : 59 + dq_lo dep ≤ R.locals) :
    dq_okx sv L xs h x ∧ dq_Go p l e R s m args below meth c (dq_Q below G base h0 ad0 xq args s) nL G base b u h0 ad0 pc Lc S h := by
  obtain ⟨hx, hb, hml, hown, hts, hEv, hSt, hbs, hlocks, hntr⟩ := id C
  have he : dm_args n S (fun as S2 => dm_back k T pc Lc S2 (call y (dm_co cs as) h)) = some x := he
  obtain ⟨a1, a2, a3, he⟩ := dq_args he
  have hmem : ∀ v ∈ (S.take n).reverse, dm_vk L h v ∧ dq_nl v := fun v hv => ⟨hs.sub v (List.mem_of_mem_take (List.mem_reverse.mp hv)), dq_short (a2 v (List.mem_reverse.mp hv))⟩
  obtain ⟨co1, co2, co3⟩ := dq_co (cs := cs) (as := (S.take n).reverse)
  cases hc : call y (dm_co cs (S.take n).reverse) h with
  | none => rw [hc] at he; cases he
  | some x1 =>
  rw [hc] at he
  obtain ⟨hx0, hM⟩ := IH y _ h x1 hy (by rw [co1, List.length_reverse, List.length_take]; omega) hc hs.1 hs.2.2.1 (co3 L h hmem)
  have hx1 := hx0 p s args ⟨hx, hts, hEv, hSt, hbs, hntr⟩
  refine dx_back (S' := S.drop n) (av := #[]) C hs (fun v hv => hs.sub v (List.mem_of_mem_drop hv)) hx1 hT he Hk hxq ?_
  intro ad ls H locs hL hW hS hE hab hau g1 g2
  have hpre := dq_here (ad := ad) (h := h) hEv hSt hbs hW hS
  obtain ⟨q, hq1, hq2, hq3, hq4, hq5⟩ := hq
  have hqq := List.all_eq_true.mp dq_t2 q hq1
  have hlen : (S.take n).reverse.length = n := by rw [List.length_reverse, List.length_take]; omega
  have hz0 := hs.2.1
  have hz1 := hx1.2.1
  have hz2 := hx1.2.2.1
  have hfit : gc h - gc h0 + (gc x1.2 - gc h) ≤ R.cells ∧ gs h - gs h0 + (gs x1.2 - gs h) ≤ R.slots := ⟨by omega, by omega⟩
  have hsum : 2 * (F0 m pc ls (S.map (dm_tv ad))).monitorRoom + (((S.drop n).map (dm_tv ad)).map fun v => v.category).sum ≤ 8 := by rw [dq_sum]; show 2 * 0 + _ ≤ 8; omega
  have hMa := hM ad hab hau
  rw [co2 ad] at hMa
  have hgood := dq_good hts (dq_codeIn hy)
  have hnest := hEv.2.2.2.1 q (by simp [hq1])
  subst hq2
  subst hq3
  subst hq4
  subst hq5
  unfold dq_k2 at hqq
  simp only [Bool.and_eq_true, decide_eq_true_eq] at hqq
  obtain ⟨⟨h1, h2⟩, h3⟩ := hqq
  have hw := dq_chk_in h1
  obtain ⟨y1, y2, y3, y4⟩ := dq_yok_spec h2
  have hhh := List.isEmpty_iff.mp h3
  generalize q.2.2.1 = y at *
  generalize hn9 : q.2.2.2.1 = n at *
  have hcode : dq_code y = .code (dm_y y) (dm_b y) (dm_nl y) (dm_rt y) := by unfold dq_code; rw [hhh]
  have hcin : Cond.code (dm_y y) (dm_b y) (dm_nl y) (dm_rt y) ∈ dm_ws := hcode ▸ dq_codeIn hy
  have hcws : Cond.code (dm_y y) (dm_b y) (dm_nl y) (dm_rt y) ∈ dq_wsy y := List.mem_cons_of_mem _ hcin
  exact vx_runSN (n := n) (As := (S.take n).reverse.map (dm_tv ad)) (rest := (S.drop n).map (dm_tv ad)) (bytes := dm_b y) (maxL := dm_nl y) (ret := dm_rt y) ⟨hx, hb, hml, hown, hts⟩ hMa ⟨⟨⟨rfl, rfl, hR3, by show 8 + (dm_nl y + 11) + dq_lo dep ≤ _; omega, hgood, hcws⟩, hts _ hcin, hts _ (hw _ (by simp)), ⟨y1, y2⟩, dq_len y3, va_Nw.use rfl hnest⟩, hts _ (hw _ (by simp)), trivial⟩ ⟨dq_blind, fun U g3 g4 => ⟨rfl, hpre U g3 g4⟩⟩ rfl (by rw [List.length_map, hlen]) hL.1 dq_stack hsum hdg hfit
set_option maxHeartbeats 2000000 in
theorem dx_c11 (C : dq_C p l s m args meth c own cc nL G base b L u xs) (hy : y < dm_law) (hnl : n ≤ dm_nl y) (hdg : decode cc pc = .ok (.invokestatic idx, 3)) (hq : ∃ q ∈ dm_mk11, own = dm_on q.1 ∧ idx = q.2.1 ∧ y = q.2.2.1 ∧ n = q.2.2.2.1) (he : dm_call call k T pc Lc S h [11, y, n] cs = some x) (hs : dq_os sv L xs h0 h Lc S) (Hk : ∀ (pc' : Nat) (Lc' : dm_L) (S' : List dm_V) (h' : dm_H), k pc' Lc' S' h' = some x → dq_os sv L xs h0 h' Lc' S' → dq_okx sv L xs h' x ∧ dq_Go p l e R s m args below meth c (dq_Q below G base h0 ad0 xq args s) nL G base b u h0 ad0 pc' Lc' S' h') (IH : dq_IH l G base b L u xs sv dep call) (hT : dq_Th s args c own cc T pc) (hxq : sv = true → xq = x) (hR1 : gc x.2 - gc h0 ≤ R.cells) (hR2 : gs x.2 - gs h0 ≤ R.slots) (hR3 : dq_fr dep + 1 ≤ R.frames) (hR4 : 59 + dq_lo dep ≤ R.locals) :
    dq_okx sv L xs h x ∧ dq_Go p l e R s m args below meth c (dq_Q below G base h0 ad0 xq args s) nL G base b u h0 ad0 pc Lc S h := by
  obtain ⟨hx, hb, hml, hown, hts, hEv, hSt, hbs, hlocks, hntr⟩ := id C
  have he : dm_args n S (fun as S2 => dm_back k T pc Lc S2 (call y (dm_co cs as) h)) = some x := he
  obtain ⟨a1, a2, a3, he⟩ := dq_args he
  have hmem : ∀ v ∈ (S.take n).reverse, dm_vk L h v ∧ dq_nl v := fun v hv => ⟨hs.sub v (List.mem_of_mem_take (List.mem_reverse.mp hv)), dq_short (a2 v (List.mem_reverse.mp hv))⟩
  obtain ⟨co1, co2, co3⟩ := dq_co (cs := cs) (as := (S.take n).reverse)
  cases hc : call y (dm_co cs (S.take n).reverse) h with
  | none => rw [hc] at he; cases he
  | some x1 =>
  rw [hc] at he
  obtain ⟨hx0, hM⟩ := IH y _ h x1 hy (by rw [co1, List.length_reverse, List.length_take]; omega) hc hs.1 hs.2.2.1 (co3 L h hmem)
  have hx1 := hx0 p s args ⟨hx, hts, hEv, hSt, hbs, hntr⟩
  refine dx_back (S' := S.drop n) (av := #[]) C hs (fun v hv => hs.sub v (List.mem_of_mem_drop hv)) hx1 hT he Hk hxq ?_
  intro ad ls H locs hL hW hS hE hab hau g1 g2
  have hpre := dq_here (ad := ad) (h := h) hEv hSt hbs hW hS
  obtain ⟨q, hq1, hq2, hq3, hq4, hq5⟩ := hq
  have hqq := List.all_eq_true.mp dq_tB q hq1
  have hlen : (S.take n).reverse.length = n := by rw [List.length_reverse, List.length_take]; omega
  have hz0 := hs.2.1
  have hz1 := hx1.2.1
  have hz2 := hx1.2.2.1
  have hfit : gc h - gc h0 + (gc x1.2 - gc h) ≤ R.cells ∧ gs h - gs h0 + (gs x1.2 - gs h) ≤ R.slots := ⟨by omega, by omega⟩
  have hsum : 2 * (F0 m pc ls (S.map (dm_tv ad))).monitorRoom + (((S.drop n).map (dm_tv ad)).map fun v => v.category).sum ≤ 8 := by rw [dq_sum]; show 2 * 0 + _ ≤ 8; omega
  have hMa := hM ad hab hau
  rw [co2 ad] at hMa
  have hgood := dq_good hts (dq_codeIn hy)
  subst hq2
  subst hq3
  subst hq4
  subst hq5
  unfold dq_kB at hqq
  simp only [Bool.and_eq_true, decide_eq_true_eq] at hqq
  obtain ⟨⟨h1, h2⟩, h3⟩ := hqq
  have hw := dq_chk_in h1
  obtain ⟨y1, y2, y3, y4⟩ := dq_yok_spec h2
  have hhh : dm_hh q.2.2.1 ≠ [] := by simpa using h3
  generalize q.2.2.1 = y at *
  generalize hn9 : q.2.2.2.1 = n at *
  obtain ⟨z9, hh9, hhh⟩ : ∃ z hh, dm_hh y = z :: hh := List.exists_cons_of_ne_nil hhh
  have hcode : dq_code y = .codeWith (dm_y y) (dm_b y) (dm_nl y) (dm_rt y) (z9 :: hh9) := by unfold dq_code; rw [hhh]
  have hcin : Cond.codeWith (dm_y y) (dm_b y) (dm_nl y) (dm_rt y) (z9 :: hh9) ∈ dm_ws := hcode ▸ dq_codeIn hy
  have hcws : Cond.codeWith (dm_y y) (dm_b y) (dm_nl y) (dm_rt y) (z9 :: hh9) ∈ dq_wsy y := List.mem_cons_of_mem _ hcin
  exact vx_runSX (n := n) (As := (S.take n).reverse.map (dm_tv ad)) (rest := (S.drop n).map (dm_tv ad)) (bytes := dm_b y) (maxL := dm_nl y) (ret := dm_rt y) (hh := z9 :: hh9) ⟨hx, hb, hml, hown, hts⟩ hMa ⟨⟨rfl, rfl, hR3, by show 8 + (dm_nl y + 11) + dq_lo dep ≤ _; omega, hgood, hcws⟩, hts _ hcin, hts _ (hw _ (by simp)), ⟨y1, y2⟩, dq_len y3, hts _ (hw _ (by simp)), hts _ (hw _ (by simp))⟩ ⟨dq_blind, fun U g3 g4 => ⟨rfl, hpre U g3 g4⟩⟩ rfl (by rw [List.length_map, hlen]) hL.1 dq_stack hsum hdg hfit
set_option maxHeartbeats 2000000 in
theorem dx_c5 (C : dq_C p l s m args meth c own cc nL G base b L u xs) (hy : y < dm_law) (hnl : n ≤ dm_nl y) (hdg : decode cc pc = .ok (.invokespecial idx, 3)) (hq : ∃ q ∈ dm_mk5, own = dm_on q.1 ∧ idx = q.2.1 ∧ y = q.2.2.1 ∧ n = q.2.2.2.1) (he : dm_call call k T pc Lc S h [5, y, n] cs = some x) (hs : dq_os sv L xs h0 h Lc S) (Hk : ∀ (pc' : Nat) (Lc' : dm_L) (S' : List dm_V) (h' : dm_H), k pc' Lc' S' h' = some x → dq_os sv L xs h0 h' Lc' S' → dq_okx sv L xs h' x ∧ dq_Go p l e R s m args below meth c (dq_Q below G base h0 ad0 xq args s) nL G base b u h0 ad0 pc' Lc' S' h') (IH : dq_IH l G base b L u xs sv dep call) (hT : dq_Th s args c own cc T pc) (hxq : sv = true → xq = x) (hR1 : gc x.2 - gc h0 ≤ R.cells) (hR2 : gs x.2 - gs h0 ≤ R.slots) (hR3 : dq_fr dep + 1 ≤ R.frames) (hR4 : 59 + dq_lo dep ≤ R.locals) :
    dq_okx sv L xs h x ∧ dq_Go p l e R s m args below meth c (dq_Q below G base h0 ad0 xq args s) nL G base b u h0 ad0 pc Lc S h := by
  obtain ⟨hx, hb, hml, hown, hts, hEv, hSt, hbs, hlocks, hntr⟩ := id C
  have he : dm_args n S (fun as S2 => dm_recv none as (dm_back k T pc Lc S2 (call y (dm_co cs as) h))) = some x := he
  obtain ⟨a1, a2, a3, he⟩ := dq_args he
  obtain ⟨p9, a9, as9, has, he⟩ := dq_recv0 he
  have hmem : ∀ v ∈ (S.take n).reverse, dm_vk L h v ∧ dq_nl v := fun v hv => ⟨hs.sub v (List.mem_of_mem_take (List.mem_reverse.mp hv)), dq_short (a2 v (List.mem_reverse.mp hv))⟩
  obtain ⟨co1, co2, co3⟩ := dq_co (cs := cs) (as := (S.take n).reverse)
  cases hc : call y (dm_co cs (S.take n).reverse) h with
  | none => rw [hc] at he; cases he
  | some x1 =>
  rw [hc] at he
  obtain ⟨hx0, hM⟩ := IH y _ h x1 hy (by rw [co1, List.length_reverse, List.length_take]; omega) hc hs.1 hs.2.2.1 (co3 L h hmem)
  have hx1 := hx0 p s args ⟨hx, hts, hEv, hSt, hbs, hntr⟩
  refine dx_back (S' := S.drop n) (av := #[]) C hs (fun v hv => hs.sub v (List.mem_of_mem_drop hv)) hx1 hT he Hk hxq ?_
  intro ad ls H locs hL hW hS hE hab hau g1 g2
  have hpre := dq_here (ad := ad) (h := h) hEv hSt hbs hW hS
  obtain ⟨q, hq1, hq2, hq3, hq4, hq5⟩ := hq
  have hqq := List.all_eq_true.mp dq_t5 q hq1
  have hlen : (S.take n).reverse.length = n := by rw [List.length_reverse, List.length_take]; omega
  have hz0 := hs.2.1
  have hz1 := hx1.2.1
  have hz2 := hx1.2.2.1
  have hfit : gc h - gc h0 + (gc x1.2 - gc h) ≤ R.cells ∧ gs h - gs h0 + (gs x1.2 - gs h) ≤ R.slots := ⟨by omega, by omega⟩
  have hsum : 2 * (F0 m pc ls (S.map (dm_tv ad))).monitorRoom + (((S.drop n).map (dm_tv ad)).map fun v => v.category).sum ≤ 8 := by rw [dq_sum]; show 2 * 0 + _ ≤ 8; omega
  have hMa := hM ad hab hau
  rw [co2 ad] at hMa
  have hgood := dq_good hts (dq_codeIn hy)
  have hvk : dm_vk L h (dR 1 p9 a9) := (hmem _ (by rw [has]; exact List.mem_cons_self)).1
  obtain ⟨hsh, ha0, hlt⟩ := hvk
  have hat := dw_at (G := G) (ad := ad) ha0 hlt
  rw [dw_obj hsh] at hat
  have hstk : S.map (dm_tv ad) = (as9.map (dm_tv ad)).reverse ++ .ref (ad a9) :: (S.drop n).map (dm_tv ad) := by
    rw [dq_stack (n := n), has, List.map_cons, List.reverse_cons, List.append_assoc]
    show _ ++ (dm_rv ad a9 :: _) = _
    rw [show dm_rv ad a9 = .ref (ad a9) from if_neg ha0]
    rfl
  have hl9 : (as9.map (dm_tv ad)).length = n - 1 := by
    have := congrArg List.length has
    rw [hlen] at this
    simp at this ⊢
    omega
  rw [has, List.map_cons, show dm_tv ad (dR 1 p9 a9) = .ref (ad a9) from if_neg ha0] at hMa
  subst hq2
  subst hq3
  subst hq4
  subst hq5
  unfold dq_k5 at hqq
  simp only [Bool.and_eq_true, decide_eq_true_eq] at hqq
  obtain ⟨⟨⟨⟨⟨h1, h2⟩, h3⟩, h4⟩, h5⟩, h6⟩ := hqq
  have hw := dq_chk_in h1
  obtain ⟨y1, y2, y3, y4⟩ := dq_yok_spec h2
  have hhh := List.isEmpty_iff.mp h3
  generalize q.2.2.1 = y at *
  generalize hn9 : q.2.2.2.1 = n at *
  have hcode : dq_code y = .code (dm_y y) (dm_b y) (dm_nl y) (dm_rt y) := by unfold dq_code; rw [hhh]
  have hcin : Cond.code (dm_y y) (dm_b y) (dm_nl y) (dm_rt y) ∈ dm_ws := hcode ▸ dq_codeIn hy
  have hcws : Cond.code (dm_y y) (dm_b y) (dm_nl y) (dm_rt y) ∈ dq_wsy y := List.mem_cons_of_mem _ hcin
  rw [h6] at hcin hcws
  exact vx_runI (n := n - 1) (As := as9.map (dm_tv ad)) (rest := (S.drop n).map (dm_tv ad)) (b := ad a9) (bytes := dm_b y) (maxL := dm_nl y) ⟨hx, hb, hml, hown, hts⟩ hMa ⟨⟨rfl, rfl, hR3, by show 8 + (dm_nl y + 11) + dq_lo dep ≤ _; omega, hgood, hcws, hts _ hcin, hts _ (hw _ (by simp)), ⟨y1, y2⟩, dq_len y3, hts _ (hw _ (by simp))⟩, h5, hts _ (hw _ (by simp))⟩ ⟨dq_blind, fun U g3 g4 => ⟨rfl, hpre U g3 g4⟩⟩ rfl hl9 hL.1 hstk hsum hdg hfit
set_option maxHeartbeats 2000000 in
theorem dx_c6 (C : dq_C p l s m args meth c own cc nL G base b L u xs) (hy : y < dm_law) (hnl : n ≤ dm_nl y) (hdg : decode cc pc = .ok (.invokespecial idx, 3)) (hq : ∃ q ∈ dm_mk6, own = dm_on q.1 ∧ idx = q.2.1 ∧ y = q.2.2.1 ∧ n = q.2.2.2.1) (he : dm_call call k T pc Lc S h [6, y, n] cs = some x) (hs : dq_os sv L xs h0 h Lc S) (Hk : ∀ (pc' : Nat) (Lc' : dm_L) (S' : List dm_V) (h' : dm_H), k pc' Lc' S' h' = some x → dq_os sv L xs h0 h' Lc' S' → dq_okx sv L xs h' x ∧ dq_Go p l e R s m args below meth c (dq_Q below G base h0 ad0 xq args s) nL G base b u h0 ad0 pc' Lc' S' h') (IH : dq_IH l G base b L u xs sv dep call) (hT : dq_Th s args c own cc T pc) (hxq : sv = true → xq = x) (hR1 : gc x.2 - gc h0 ≤ R.cells) (hR2 : gs x.2 - gs h0 ≤ R.slots) (hR3 : dq_fr dep + 1 ≤ R.frames) (hR4 : 59 + dq_lo dep ≤ R.locals) :
    dq_okx sv L xs h x ∧ dq_Go p l e R s m args below meth c (dq_Q below G base h0 ad0 xq args s) nL G base b u h0 ad0 pc Lc S h := by
  obtain ⟨hx, hb, hml, hown, hts, hEv, hSt, hbs, hlocks, hntr⟩ := id C
  have he : dm_args n S (fun as S2 => dm_recv none as (dm_back k T pc Lc S2 (call y (dm_co cs as) h))) = some x := he
  obtain ⟨a1, a2, a3, he⟩ := dq_args he
  obtain ⟨p9, a9, as9, has, he⟩ := dq_recv0 he
  have hmem : ∀ v ∈ (S.take n).reverse, dm_vk L h v ∧ dq_nl v := fun v hv => ⟨hs.sub v (List.mem_of_mem_take (List.mem_reverse.mp hv)), dq_short (a2 v (List.mem_reverse.mp hv))⟩
  obtain ⟨co1, co2, co3⟩ := dq_co (cs := cs) (as := (S.take n).reverse)
  cases hc : call y (dm_co cs (S.take n).reverse) h with
  | none => rw [hc] at he; cases he
  | some x1 =>
  rw [hc] at he
  obtain ⟨hx0, hM⟩ := IH y _ h x1 hy (by rw [co1, List.length_reverse, List.length_take]; omega) hc hs.1 hs.2.2.1 (co3 L h hmem)
  have hx1 := hx0 p s args ⟨hx, hts, hEv, hSt, hbs, hntr⟩
  refine dx_back (S' := S.drop n) (av := #[]) C hs (fun v hv => hs.sub v (List.mem_of_mem_drop hv)) hx1 hT he Hk hxq ?_
  intro ad ls H locs hL hW hS hE hab hau g1 g2
  have hpre := dq_here (ad := ad) (h := h) hEv hSt hbs hW hS
  obtain ⟨q, hq1, hq2, hq3, hq4, hq5⟩ := hq
  have hqq := List.all_eq_true.mp dq_t6 q hq1
  have hlen : (S.take n).reverse.length = n := by rw [List.length_reverse, List.length_take]; omega
  have hz0 := hs.2.1
  have hz1 := hx1.2.1
  have hz2 := hx1.2.2.1
  have hfit : gc h - gc h0 + (gc x1.2 - gc h) ≤ R.cells ∧ gs h - gs h0 + (gs x1.2 - gs h) ≤ R.slots := ⟨by omega, by omega⟩
  have hsum : 2 * (F0 m pc ls (S.map (dm_tv ad))).monitorRoom + (((S.drop n).map (dm_tv ad)).map fun v => v.category).sum ≤ 8 := by rw [dq_sum]; show 2 * 0 + _ ≤ 8; omega
  have hMa := hM ad hab hau
  rw [co2 ad] at hMa
  have hgood := dq_good hts (dq_codeIn hy)
  have hnest := hEv.2.2.2.1 q (by simp [hq1])
  have hvk : dm_vk L h (dR 1 p9 a9) := (hmem _ (by rw [has]; exact List.mem_cons_self)).1
  obtain ⟨hsh, ha0, hlt⟩ := hvk
  have hat := dw_at (G := G) (ad := ad) ha0 hlt
  rw [dw_obj hsh] at hat
  have hstk : S.map (dm_tv ad) = (as9.map (dm_tv ad)).reverse ++ .ref (ad a9) :: (S.drop n).map (dm_tv ad) := by
    rw [dq_stack (n := n), has, List.map_cons, List.reverse_cons, List.append_assoc]
    show _ ++ (dm_rv ad a9 :: _) = _
    rw [show dm_rv ad a9 = .ref (ad a9) from if_neg ha0]
    rfl
  have hl9 : (as9.map (dm_tv ad)).length = n - 1 := by
    have := congrArg List.length has
    rw [hlen] at this
    simp at this ⊢
    omega
  rw [has, List.map_cons, show dm_tv ad (dR 1 p9 a9) = .ref (ad a9) from if_neg ha0] at hMa
  subst hq2
  subst hq3
  subst hq4
  subst hq5
  unfold dq_k6 at hqq
  simp only [Bool.and_eq_true, decide_eq_true_eq] at hqq
  obtain ⟨⟨⟨⟨⟨h1, h2⟩, h3⟩, h4⟩, h5⟩, h6⟩ := hqq
  have hw := dq_chk_in h1
  obtain ⟨y1, y2, y3, y4⟩ := dq_yok_spec h2
  have hhh := List.isEmpty_iff.mp h3
  generalize q.2.2.1 = y at *
  generalize hn9 : q.2.2.2.1 = n at *
  have hcode : dq_code y = .code (dm_y y) (dm_b y) (dm_nl y) (dm_rt y) := by unfold dq_code; rw [hhh]
  have hcin : Cond.code (dm_y y) (dm_b y) (dm_nl y) (dm_rt y) ∈ dm_ws := hcode ▸ dq_codeIn hy
  have hcws : Cond.code (dm_y y) (dm_b y) (dm_nl y) (dm_rt y) ∈ dq_wsy y := List.mem_cons_of_mem _ hcin
  rw [h6] at hcin hcws
  exact vx_runIN (n := n - 1) (As := as9.map (dm_tv ad)) (rest := (S.drop n).map (dm_tv ad)) (b := ad a9) (bytes := dm_b y) (maxL := dm_nl y) ⟨hx, hb, hml, hown, hts⟩ hMa ⟨⟨⟨rfl, rfl, hR3, by show 8 + (dm_nl y + 11) + dq_lo dep ≤ _; omega, hgood, hcws⟩, hts _ hcin, hts _ (hw _ (by simp)), ⟨y1, y2⟩, dq_len y3, va_Nw.use rfl hnest⟩, h5, hts _ (hw _ (by simp))⟩ ⟨dq_blind, fun U g3 g4 => ⟨rfl, hpre U g3 g4⟩⟩ rfl hl9 hL.1 hstk hsum hdg hfit
set_option maxHeartbeats 2000000 in
theorem dx_c8 {ci : Nat} (C : dq_C p l s m args meth c own cc nL G base b L u xs) (hy : y < dm_law) (hnl : n ≤ dm_nl y) (hdg : decode cc pc = .ok (.invokevirtual idx, 3)) (hq : ∃ q ∈ dm_mk8, own = dm_on q.1 ∧ idx = q.2.1 ∧ y = q.2.2.1 ∧ n = q.2.2.2.1) (hci : dm_cn ci = (dm_y y).cls) (hc12 : ci < 12) (he : dm_call call k T pc Lc S h [8, y, n, ci] cs = some x) (hs : dq_os sv L xs h0 h Lc S) (Hk : ∀ (pc' : Nat) (Lc' : dm_L) (S' : List dm_V) (h' : dm_H), k pc' Lc' S' h' = some x → dq_os sv L xs h0 h' Lc' S' → dq_okx sv L xs h' x ∧ dq_Go p l e R s m args below meth c (dq_Q below G base h0 ad0 xq args s) nL G base b u h0 ad0 pc' Lc' S' h') (IH : dq_IH l G base b L u xs sv dep call) (hT : dq_Th s args c own cc T pc) (hxq : sv = true → xq = x) (hR1 : gc x.2 - gc h0 ≤ R.cells) (hR2 : gs x.2 - gs h0 ≤ R.slots) (hR3 : dq_fr dep + 1 ≤ R.frames) (hR4 : 59 + dq_lo dep ≤ R.locals) :
    dq_okx sv L xs h x ∧ dq_Go p l e R s m args below meth c (dq_Q below G base h0 ad0 xq args s) nL G base b u h0 ad0 pc Lc S h := by
  obtain ⟨hx, hb, hml, hown, hts, hEv, hSt, hbs, hlocks, hntr⟩ := id C
  have he : dm_args n S (fun as S2 => dm_recv (some ci) as (dm_back k T pc Lc S2 (call y (dm_co cs as) h))) = some x := he
  obtain ⟨a1, a2, a3, he⟩ := dq_args he
  obtain ⟨a9, as9, has, he⟩ := dq_recv1 he
  have hmem : ∀ v ∈ (S.take n).reverse, dm_vk L h v ∧ dq_nl v := fun v hv => ⟨hs.sub v (List.mem_of_mem_take (List.mem_reverse.mp hv)), dq_short (a2 v (List.mem_reverse.mp hv))⟩
  obtain ⟨co1, co2, co3⟩ := dq_co (cs := cs) (as := (S.take n).reverse)
  cases hc : call y (dm_co cs (S.take n).reverse) h with
  | none => rw [hc] at he; cases he
  | some x1 =>
  rw [hc] at he
  obtain ⟨hx0, hM⟩ := IH y _ h x1 hy (by rw [co1, List.length_reverse, List.length_take]; omega) hc hs.1 hs.2.2.1 (co3 L h hmem)
  have hx1 := hx0 p s args ⟨hx, hts, hEv, hSt, hbs, hntr⟩
  refine dx_back (S' := S.drop n) (av := #[]) C hs (fun v hv => hs.sub v (List.mem_of_mem_drop hv)) hx1 hT he Hk hxq ?_
  intro ad ls H locs hL hW hS hE hab hau g1 g2
  have hpre := dq_here (ad := ad) (h := h) hEv hSt hbs hW hS
  obtain ⟨q, hq1, hq2, hq3, hq4, hq5⟩ := hq
  have hqq := List.all_eq_true.mp dq_t8 q hq1
  have hlen : (S.take n).reverse.length = n := by rw [List.length_reverse, List.length_take]; omega
  have hz0 := hs.2.1
  have hz1 := hx1.2.1
  have hz2 := hx1.2.2.1
  have hfit : gc h - gc h0 + (gc x1.2 - gc h) ≤ R.cells ∧ gs h - gs h0 + (gs x1.2 - gs h) ≤ R.slots := ⟨by omega, by omega⟩
  have hsum : 2 * (F0 m pc ls (S.map (dm_tv ad))).monitorRoom + (((S.drop n).map (dm_tv ad)).map fun v => v.category).sum ≤ 8 := by rw [dq_sum]; show 2 * 0 + _ ≤ 8; omega
  have hMa := hM ad hab hau
  rw [co2 ad] at hMa
  have hgood := dq_good hts (dq_codeIn hy)
  have hvk : dm_vk L h (dR 1 ci a9) := (hmem _ (by rw [has]; exact List.mem_cons_self)).1
  obtain ⟨hsh, ha0, hlt⟩ := hvk
  have hat := dw_at (G := G) (ad := ad) ha0 hlt
  rw [dw_obj hsh] at hat
  have hstk : S.map (dm_tv ad) = (as9.map (dm_tv ad)).reverse ++ .ref (ad a9) :: (S.drop n).map (dm_tv ad) := by
    rw [dq_stack (n := n), has, List.map_cons, List.reverse_cons, List.append_assoc]
    show _ ++ (dm_rv ad a9 :: _) = _
    rw [show dm_rv ad a9 = .ref (ad a9) from if_neg ha0]
    rfl
  have hl9 : (as9.map (dm_tv ad)).length = n - 1 := by
    have := congrArg List.length has
    rw [hlen] at this
    simp at this ⊢
    omega
  rw [has, List.map_cons, show dm_tv ad (dR 1 ci a9) = .ref (ad a9) from if_neg ha0] at hMa
  have hcell : ∃ cellB : Cell, H[ad a9]? = some cellB ∧ cellB.vm.isStatics = false ∧ s.vm.findClass (dm_y y).cls = some cellB.cls := by
    rw [← hci]
    exact va_recv hEv.1 hW.1 (df_cl hc12) hat
  subst hq2
  subst hq3
  subst hq4
  subst hq5
  unfold dq_k8 at hqq
  simp only [Bool.and_eq_true, decide_eq_true_eq] at hqq
  obtain ⟨⟨⟨h1, h2⟩, h3⟩, h4⟩ := hqq
  have hw := dq_chk_in h1
  obtain ⟨y1, y2, y3, y4⟩ := dq_yok_spec h2
  have hhh := List.isEmpty_iff.mp h3
  generalize q.2.2.1 = y at *
  generalize hn9 : q.2.2.2.1 = n at *
  have hcode : dq_code y = .code (dm_y y) (dm_b y) (dm_nl y) (dm_rt y) := by unfold dq_code; rw [hhh]
  have hcin : Cond.code (dm_y y) (dm_b y) (dm_nl y) (dm_rt y) ∈ dm_ws := hcode ▸ dq_codeIn hy
  have hcws : Cond.code (dm_y y) (dm_b y) (dm_nl y) (dm_rt y) ∈ dq_wsy y := List.mem_cons_of_mem _ hcin
  exact vx_runV (n := n - 1) (C := (dm_y y).cls) (As := as9.map (dm_tv ad)) (rest := (S.drop n).map (dm_tv ad)) (b := ad a9) (bytes := dm_b y) (maxL := dm_nl y) (ret := dm_rt y) ⟨hx, hb, hml, hown, hts⟩ hMa ⟨⟨rfl, rfl, hR3, by show 8 + (dm_nl y + 11) + dq_lo dep ≤ _; omega, hgood, hcws, hts _ hcin, hts _ (hw _ (by simp)), ⟨y1, y2⟩, dq_len y3, hts _ (hw _ (by simp))⟩, hts _ (hw _ (by simp)), hts _ (hw _ (by simp))⟩ ⟨dq_blind, hcell, fun U g3 g4 => ⟨rfl, hpre U g3 g4⟩⟩ rfl hl9 hL.1 hstk hsum hdg hfit
set_option maxHeartbeats 2000000 in
theorem dx_c9 {ci : Nat} (C : dq_C p l s m args meth c own cc nL G base b L u xs) (hy : y < dm_law) (hnl : n ≤ dm_nl y) (hdg : decode cc pc = .ok (.invokevirtual idx, 3)) (hq : ∃ q ∈ dm_mk9, own = dm_on q.1 ∧ idx = q.2.1 ∧ y = q.2.2.1 ∧ n = q.2.2.2.1) (hci : dm_cn ci = (dm_y y).cls) (hc12 : ci < 12) (he : dm_call call k T pc Lc S h [9, y, n, ci] cs = some x) (hs : dq_os sv L xs h0 h Lc S) (Hk : ∀ (pc' : Nat) (Lc' : dm_L) (S' : List dm_V) (h' : dm_H), k pc' Lc' S' h' = some x → dq_os sv L xs h0 h' Lc' S' → dq_okx sv L xs h' x ∧ dq_Go p l e R s m args below meth c (dq_Q below G base h0 ad0 xq args s) nL G base b u h0 ad0 pc' Lc' S' h') (IH : dq_IH l G base b L u xs sv dep call) (hT : dq_Th s args c own cc T pc) (hxq : sv = true → xq = x) (hR1 : gc x.2 - gc h0 ≤ R.cells) (hR2 : gs x.2 - gs h0 ≤ R.slots) (hR3 : dq_fr dep + 1 ≤ R.frames) (hR4 : 59 + dq_lo dep ≤ R.locals) :
    dq_okx sv L xs h x ∧ dq_Go p l e R s m args below meth c (dq_Q below G base h0 ad0 xq args s) nL G base b u h0 ad0 pc Lc S h := by
  obtain ⟨hx, hb, hml, hown, hts, hEv, hSt, hbs, hlocks, hntr⟩ := id C
  have he : dm_args n S (fun as S2 => dm_recv (some ci) as (dm_back k T pc Lc S2 (call y (dm_co cs as) h))) = some x := he
  obtain ⟨a1, a2, a3, he⟩ := dq_args he
  obtain ⟨a9, as9, has, he⟩ := dq_recv1 he
  have hmem : ∀ v ∈ (S.take n).reverse, dm_vk L h v ∧ dq_nl v := fun v hv => ⟨hs.sub v (List.mem_of_mem_take (List.mem_reverse.mp hv)), dq_short (a2 v (List.mem_reverse.mp hv))⟩
  obtain ⟨co1, co2, co3⟩ := dq_co (cs := cs) (as := (S.take n).reverse)
  cases hc : call y (dm_co cs (S.take n).reverse) h with
  | none => rw [hc] at he; cases he
  | some x1 =>
  rw [hc] at he
  obtain ⟨hx0, hM⟩ := IH y _ h x1 hy (by rw [co1, List.length_reverse, List.length_take]; omega) hc hs.1 hs.2.2.1 (co3 L h hmem)
  have hx1 := hx0 p s args ⟨hx, hts, hEv, hSt, hbs, hntr⟩
  refine dx_back (S' := S.drop n) (av := #[]) C hs (fun v hv => hs.sub v (List.mem_of_mem_drop hv)) hx1 hT he Hk hxq ?_
  intro ad ls H locs hL hW hS hE hab hau g1 g2
  have hpre := dq_here (ad := ad) (h := h) hEv hSt hbs hW hS
  obtain ⟨q, hq1, hq2, hq3, hq4, hq5⟩ := hq
  have hqq := List.all_eq_true.mp dq_t9 q hq1
  have hlen : (S.take n).reverse.length = n := by rw [List.length_reverse, List.length_take]; omega
  have hz0 := hs.2.1
  have hz1 := hx1.2.1
  have hz2 := hx1.2.2.1
  have hfit : gc h - gc h0 + (gc x1.2 - gc h) ≤ R.cells ∧ gs h - gs h0 + (gs x1.2 - gs h) ≤ R.slots := ⟨by omega, by omega⟩
  have hsum : 2 * (F0 m pc ls (S.map (dm_tv ad))).monitorRoom + (((S.drop n).map (dm_tv ad)).map fun v => v.category).sum ≤ 8 := by rw [dq_sum]; show 2 * 0 + _ ≤ 8; omega
  have hMa := hM ad hab hau
  rw [co2 ad] at hMa
  have hgood := dq_good hts (dq_codeIn hy)
  have hnest := hEv.2.2.2.1 q (by simp [hq1])
  have hvk : dm_vk L h (dR 1 ci a9) := (hmem _ (by rw [has]; exact List.mem_cons_self)).1
  obtain ⟨hsh, ha0, hlt⟩ := hvk
  have hat := dw_at (G := G) (ad := ad) ha0 hlt
  rw [dw_obj hsh] at hat
  have hstk : S.map (dm_tv ad) = (as9.map (dm_tv ad)).reverse ++ .ref (ad a9) :: (S.drop n).map (dm_tv ad) := by
    rw [dq_stack (n := n), has, List.map_cons, List.reverse_cons, List.append_assoc]
    show _ ++ (dm_rv ad a9 :: _) = _
    rw [show dm_rv ad a9 = .ref (ad a9) from if_neg ha0]
    rfl
  have hl9 : (as9.map (dm_tv ad)).length = n - 1 := by
    have := congrArg List.length has
    rw [hlen] at this
    simp at this ⊢
    omega
  rw [has, List.map_cons, show dm_tv ad (dR 1 ci a9) = .ref (ad a9) from if_neg ha0] at hMa
  have hcell : ∃ cellB : Cell, H[ad a9]? = some cellB ∧ cellB.vm.isStatics = false ∧ s.vm.findClass (dm_y y).cls = some cellB.cls := by
    rw [← hci]
    exact va_recv hEv.1 hW.1 (df_cl hc12) hat
  subst hq2
  subst hq3
  subst hq4
  subst hq5
  unfold dq_k9 at hqq
  simp only [Bool.and_eq_true, decide_eq_true_eq] at hqq
  obtain ⟨⟨⟨h1, h2⟩, h3⟩, h4⟩ := hqq
  have hw := dq_chk_in h1
  obtain ⟨y1, y2, y3, y4⟩ := dq_yok_spec h2
  have hhh := List.isEmpty_iff.mp h3
  generalize q.2.2.1 = y at *
  generalize hn9 : q.2.2.2.1 = n at *
  have hcode : dq_code y = .code (dm_y y) (dm_b y) (dm_nl y) (dm_rt y) := by unfold dq_code; rw [hhh]
  have hcin : Cond.code (dm_y y) (dm_b y) (dm_nl y) (dm_rt y) ∈ dm_ws := hcode ▸ dq_codeIn hy
  have hcws : Cond.code (dm_y y) (dm_b y) (dm_nl y) (dm_rt y) ∈ dq_wsy y := List.mem_cons_of_mem _ hcin
  exact vx_runVN (n := n - 1) (C := (dm_y y).cls) (As := as9.map (dm_tv ad)) (rest := (S.drop n).map (dm_tv ad)) (b := ad a9) (bytes := dm_b y) (maxL := dm_nl y) (ret := dm_rt y) ⟨hx, hb, hml, hown, hts⟩ hMa ⟨⟨⟨rfl, rfl, hR3, by show 8 + (dm_nl y + 11) + dq_lo dep ≤ _; omega, hgood, hcws⟩, hts _ hcin, hts _ (hw _ (by simp)), ⟨y1, y2⟩, dq_len y3, va_Nw.use rfl hnest⟩, hts _ (hw _ (by simp)), hts _ (hw _ (by simp))⟩ ⟨dq_blind, hcell, fun U g3 g4 => ⟨rfl, hpre U g3 g4⟩⟩ rfl hl9 hL.1 hstk hsum hdg hfit
def dm_tri (ds : List Nat) : List (Nat × Nat × Nat) := match ds with
  | b :: y :: c :: ds' => (b, y, c) :: dm_tri ds'
  | _ => []
theorem dq_disp (a : Nat) (f : Nat → Nat → Nat → dm_O) (x : dm_X) (ds : List Nat) (h : dm_disp ds a f = some x) : ∃ y c, (a, y, c) ∈ dm_tri ds ∧ f y c a = some x := by
  fun_induction dm_disp ds a f with
  | case1 y c ds' =>
    exact ⟨y, c, by rw [dm_tri]; exact List.mem_cons_self, h⟩
  | case2 b y c ds' e ih =>
    obtain ⟨y', c', h1, h2⟩ := ih h
    exact ⟨y', c', by rw [dm_tri]; exact List.mem_cons_of_mem _ h1, h2⟩
  | case3 => cases h
theorem dq_declIn : Cond.declares ⟨"DatalogMill$Visitor", "reach", "(I)Z"⟩ ∈ dm_nw := List.mem_filter.mpr ⟨List.contains_iff_mem.mp (by decide +kernel), rfl⟩
theorem dq_c10 (call : Nat → List dm_V → dm_H → dm_O) (k : dm_K) (T : dm_T) (pc : Nat) (L : dm_L) (S : List dm_V) (h : dm_H) (ds cs : List Nat) {x : dm_X} (he : dm_call call k T pc L S h (10 :: ds) cs = some x) : ∃ z p a S2, S = .inl z :: .inr (.inl (7, p, a)) :: S2 ∧ (S2.map dm_cat).sum ≤ 8 ∧ dm_disp ds a (fun y c b => dm_back k T pc L S2 (call y [dR 1 c b, dI z] h)) = some x := by
  match S, he with
  | .inl z :: .inr (.inl (7, p, a)) :: S2, he =>
    have he2 : (if (S2.map dm_cat).sum ≤ 8 then dm_disp ds a (fun y c b => dm_back k T pc L S2 (call y [dR 1 c b, dI z] h)) else none) = some x := he
    by_cases q : (S2.map dm_cat).sum ≤ 8
    · rw [if_pos q] at he2
      exact ⟨z, p, a, S2, rfl, q, he2⟩
    · rw [if_neg q] at he2
      cases he2
set_option maxHeartbeats 2000000 in
theorem dx_c10 {ds : List Nat} (C : dq_C p l s m args meth c own cc nL G base b L u xs) (hdg : decode cc pc = .ok (.invokevirtual idx, 3)) (hds : ∀ t ∈ dm_tri ds, (t.2.1 < dm_law ∧ 2 ≤ dm_nl t.2.1) ∧ dm_sh t.1 = (1, t.2.2) ∧ dm_cn t.2.2 = (dm_y t.2.1).cls ∧ ∃ q ∈ dm_mk10, own = dm_on q.1 ∧ idx = q.2.1 ∧ t.2.1 = q.2.2.1) (he : dm_call call k T pc Lc S h (10 :: ds) cs = some x) (hs : dq_os sv L xs h0 h Lc S) (Hk : ∀ (pc' : Nat) (Lc' : dm_L) (S' : List dm_V) (h' : dm_H), k pc' Lc' S' h' = some x → dq_os sv L xs h0 h' Lc' S' → dq_okx sv L xs h' x ∧ dq_Go p l e R s m args below meth c (dq_Q below G base h0 ad0 xq args s) nL G base b u h0 ad0 pc' Lc' S' h') (IH : dq_IH l G base b L u xs sv dep call) (hT : dq_Th s args c own cc T pc) (hxq : sv = true → xq = x) (hR1 : gc x.2 - gc h0 ≤ R.cells) (hR2 : gs x.2 - gs h0 ≤ R.slots) (hR3 : dq_fr dep + 1 ≤ R.frames) (hR4 : 59 + dq_lo dep ≤ R.locals) :
    dq_okx sv L xs h x ∧ dq_Go p l e R s m args below meth c (dq_Q below G base h0 ad0 xq args s) nL G base b u h0 ad0 pc Lc S h := by
  obtain ⟨hx, hb, hml, hown, hts, hEv, hSt, hbs, hlocks, hntr⟩ := id C
  obtain ⟨z9, p9, a, S2, hSe, hS2, he1⟩ := dq_c10 _ _ _ _ _ _ _ _ _ he
  clear he
  subst hSe
  obtain ⟨y, ci, htri, he⟩ := dq_disp _ _ _ _ he1
  obtain ⟨⟨hy, hnl⟩, hsh, hci, hq⟩ := hds _ htri
  have hsh : dm_sh a = (1, ci) := hsh
  obtain ⟨k0, k1'⟩ := dq_h hs.sub
  obtain ⟨k1, k2⟩ := dq_h k1'
  have ha0 : a ≠ 0 := by rintro rfl; exact absurd hsh (by rw [show dm_sh 0 = (0, 0) from by decide +kernel]; simp)
  have hlt : a < gz h := by
    rcases k1 with q | q
    · exact absurd q ha0
    · exact q.1
  cases hc : call y [dR 1 ci a, dI z9] h with
  | none => rw [hc] at he; cases he
  | some x1 =>
  rw [hc] at he
  obtain ⟨hx0, hM⟩ := IH y [dR 1 ci a, dI z9] h x1 hy hnl hc hs.1 hs.2.2.1 (List.forall_mem_cons.mpr ⟨⟨⟨hsh, ha0, hlt⟩, trivial⟩, List.forall_mem_cons.mpr ⟨⟨k0, trivial⟩, fun _ q => nomatch q⟩⟩)
  have hx1 := hx0 p s args ⟨hx, hts, hEv, hSt, hbs, hntr⟩
  refine dx_back (S' := S2) (av := #[]) C hs k2 hx1 hT he Hk hxq ?_
  intro ad ls H locs hL hW hS hE hab hau g1 g2
  have hpre := dq_here (ad := ad) (h := h) hEv hSt hbs hW hS
  obtain ⟨q, hq1, hq2, hq3, hq4⟩ := hq
  have hqq := List.all_eq_true.mp dq_tA q hq1
  have hz0 := hs.2.1
  have hz1 := hx1.2.1
  have hz2 := hx1.2.2.1
  have hfit : gc h - gc h0 + (gc x1.2 - gc h) ≤ R.cells ∧ gs h - gs h0 + (gs x1.2 - gs h) ≤ R.slots := ⟨by omega, by omega⟩
  have hMa := hM ad hab hau
  have hgood := dq_good hts (dq_codeIn hy)
  have hat := dw_at (G := G) (ad := ad) ha0 hlt
  rw [dw_obj hsh] at hat
  have hcell : ∃ cellB : Cell, H[ad a]? = some cellB ∧ cellB.vm.isStatics = false ∧ s.vm.findClass (dm_y y).cls = some cellB.cls := by
    rw [← (show dm_cn ci = (dm_y y).cls from hci)]
    exact va_recv hEv.1 hW.1 (df_cl (df_ci hsh)) hat
  rw [List.map_cons, show dm_tv ad (dR 1 ci a) = .ref (ad a) from if_neg ha0] at hMa
  have hstk : (.inl z9 :: .inr (.inl (7, p9, a)) :: S2 : List dm_V).map (dm_tv ad) = ([Value.int (Int32.ofInt z9)] : List Value).reverse ++ .ref (ad a) :: S2.map (dm_tv ad) := by
    show Value.int (Int32.ofInt z9) :: dm_rv ad a :: _ = _
    rw [show dm_rv ad a = .ref (ad a) from if_neg ha0]
    rfl
  subst hq2
  subst hq3
  have hq4 : y = q.2.2.1 := hq4
  subst hq4
  unfold dq_kA at hqq
  simp only [Bool.and_eq_true, decide_eq_true_eq] at hqq
  obtain ⟨⟨h1, h2⟩, h3⟩ := hqq
  have hw := dq_chk_in h1
  obtain ⟨y1, y2, y3, y4⟩ := dq_yok_spec h2
  have hhh := List.isEmpty_iff.mp h3
  generalize q.2.2.1 = y at *
  have hcode : dq_code y = .code (dm_y y) (dm_b y) (dm_nl y) (dm_rt y) := by unfold dq_code; rw [hhh]
  have hcin : Cond.code (dm_y y) (dm_b y) (dm_nl y) (dm_rt y) ∈ dm_ws := hcode ▸ dq_codeIn hy
  have hcws : Cond.code (dm_y y) (dm_b y) (dm_nl y) (dm_rt y) ∈ dq_wsy y := List.mem_cons_of_mem _ hcin
  exact vx_runU (n := 1) (x := ⟨"DatalogMill$Visitor", "reach", "(I)Z"⟩) (C := (dm_y y).cls) (owner := "DatalogMill$Visitor") (As := [Value.int (Int32.ofInt z9)]) (rest := S2.map (dm_tv ad)) (b := ad a) (bytes := dm_b y) (maxL := dm_nl y) (ret := dm_rt y) ⟨hx, hb, hml, hown, hts⟩ hMa ⟨⟨rfl, rfl, hR3, by show 8 + (dm_nl y + 11) + dq_lo dep ≤ _; omega, hgood, hcws⟩, hts _ hcin, hts _ (hw _ (by simp)), ⟨by decide, by decide⟩, (fun sig hsig => by
    have : (parseMethodDescriptor "(I)Z").map (fun d => d.parameters.length) = some 1 := by decide +kernel
    rw [show parseMethodDescriptor "(I)Z" = some sig from hsig] at this
    exact (Option.some.inj this).symm), hts _ (hw _ (by simp)), hts _ (hw _ (by simp)), va_Decl.abs (hEv.2.2.2.2.2.1 _ dq_declIn), hts _ (hw _ (by simp)), hts _ (hw _ (by simp))⟩ ⟨dq_blind, hcell, fun U g3 g4 => ⟨rfl, hpre U g3 g4⟩⟩ rfl rfl hL.1 hstk (by rw [dq_sum]; show 2 * 0 + _ ≤ 8; omega) hdg hfit
end DQD
