/-! THE LAW FROM ITS ENTRY -/
theorem wRoom {s : State} {pl : Platform} {r r' : Room} (h : s.hasRoom pl r = true) (h1 : r'.frames ≤ r.frames) (h2 : r'.cells ≤ r.cells) (h3 : r'.slots ≤ r.slots) (h4 : r'.locals ≤ r.locals) : s.hasRoom pl r' = true := by
  unfold State.hasRoom at h ⊢
  simp only [Bool.and_eq_true, decide_eq_true_eq] at h ⊢
  obtain ⟨⟨⟨⟨a1, a2, a3, a4, a5, a6⟩, a7⟩, a8⟩, a9⟩ := h
  exact ⟨⟨⟨⟨by omega, by omega, by omega, by omega, by omega, a6⟩, by omega⟩, by omega⟩, a9⟩
section WS
variable {p : Program} {e : Env} {s : State} {m : MethodId} {args : Array Value} {below : List Frame} {meth : Method} {c : Code}
theorem wEnd {l : Launch} {R : Room} {G : dm_G} {h0 h' : dm_H} {ad0 : Nat → Nat} {H : Heap} {g : JFrame} (hR1 : R.frames ≤ room_1.frames) (hR2 : R.cells ≤ room_1.cells) (hR3 : R.slots ≤ room_1.slots) (hR4 : R.locals ≤ room_1.locals) (hc : gc h' - gc h0 ≤ 601024) (hs : gs h' - gs h0 ≤ 7293034) (k : W p l e R s m args below meth c H [] 0 0 (dq_Q below G s.heap.size h0 ad0 (.inl (some (dI 1)), h') args s) g) : W p l e room_1 s m args below meth c H [] 0 0 (lw_Z below args s) g := by
  intro T hT X
  obtain ⟨t, a, o, b1, b2, b3⟩ := k T hT { X with room := wRoom X.room hR1 hR2 hR3 hR4 }
  refine ⟨t, a, o, b1, b2, ?_⟩
  rcases b3 with ⟨⟨⟨ad, ov, -, e2, e3, -⟩, -⟩, Lo, F, hL⟩ | ⟨q, -, E, ce, Lo, ⟨⟨ad, n, -, e2, -⟩, -⟩, -⟩
  · cases e2
    refine ⟨e3.trans (congrArg (fun z => Outcome.returned (some (Value.int z))) (show Int32.ofInt 1 = 1 by decide +kernel)), F.1, F.2.1, ?_⟩
    obtain ⟨z1, z2, z3, z4, z5, z6⟩ := F.2.2
    refine ⟨z1, z2, Nat.le_trans z3 (Nat.add_le_add_left hc _), z4, Nat.le_trans z5 hs, fun x cl hx => ?_⟩
    obtain ⟨c', y1, y2, y3, y4⟩ := z6 x cl hx
    exact ⟨c', y1, y2, y3, fun i _ => y4 i (fun hm => absurd (hL _ hm) (Nat.not_le.mpr (Array.getElem?_eq_some_iff.mp hx).1))⟩
  · cases e2
theorem wHH : dm_hh dm_law = [] := by decide +kernel
theorem wOwn : dm_on (dm_o dm_law) = R_law := by decide +kernel
/-- from the entry, for every script of at most 3584 ints, the law comes to its end with true -/
theorem whole_start (l : Launch) (hflags : l.flags = flags0) {b L : Nat} {xs : Nat → Int32} (hL : L ≤ 3584) (hex : ∀ z ∈ c.exceptionTable.toList, False) (C0 : lw_At p s m meth c b L xs) : W p l e room_1 s m #[Value.ref b] below meth c s.heap [] 0 0 (lw_Z below #[Value.ref b] s) (entryFrame m ([Value.ref b] : List Value).toArray 7) := by
  obtain ⟨hx, hb, hr, hml, hown, hts, hX, hbl, hlocks, hgv⟩ := C0
  obtain ⟨G, hEv⟩ := wE_Ev hts hgv
  obtain ⟨u, hSt⟩ := wE_St hts hgv hX hbl
  have hws : ∀ w ∈ dm_ws, w.before #[Value.ref b] s = true := fun w hw => hts w (List.mem_filter.mp hw).1
  have hst : l.stackTraces = false := by
    unfold Launch.stackTraces
    rw [hflags]
    decide
  have hcode : dm_b dm_law = code := if_pos rfl
  have C : dq_C p l s m #[Value.ref b] meth c (dm_on (dm_o dm_law)) (dm_b dm_law) 7 G s.heap.size b L u (fun j => (xs j).toInt) := ⟨hx, hb.trans hcode.symm, hml, by rw [wOwn]; exact hown, hws, hEv, hSt, Nat.le_refl _, hlocks, hst⟩
  have X : dq_X p l s #[Value.ref b] G s.heap.size b L u (fun j => (xs j).toInt) := ⟨hx, hws, hEv, hSt, Nat.le_refl _, hst⟩
  have hT : ∀ pc, dq_Th s #[Value.ref b] c (dm_on (dm_o dm_law)) (dm_b dm_law) (dm_P dm_law).2.1 pc := fun pc => dq_exc (Nat.le_refl _) hws hEv (by rw [wHH]; exact List.eq_nil_iff_forall_not_mem.mpr hex) pc
  have hxs : ∀ j, dm_in ((xs j).toInt) := fun j => dn_in32 (xs j)
  have hos0 : dq_os true L (fun j => (xs j).toInt) h00 (wN L (fun j => (xs j).toInt)) [lR 8 L 1000, lR 1 10 1, lR 1 11 165, lR 4 1 196, lI 0, none, none] [] := by
    refine ⟨wN_ok hxs, ⟨Nat.zero_le _, Nat.zero_le _, (by decide : 1 ≤ 197)⟩, fun _ j hj => ?_, (fun _ z => nomatch z), fun i v hi => ?_⟩
    · rw [wN_i, if_pos rfl, if_pos ⟨by omega, by omega⟩]
      rfl
    · match i, hi with
      | 0, hi => cases hi; exact ⟨⟨rfl, rfl⟩, trivial⟩
      | 1, hi => cases hi; exact ⟨⟨by decide +kernel, by decide, (by decide : 1 < 197)⟩, trivial⟩
      | 2, hi => cases hi; exact ⟨⟨by decide +kernel, by decide, (by decide : 165 < 197)⟩, trivial⟩
      | 3, hi => cases hi; exact ⟨⟨by decide +kernel, by decide, (by decide : 196 < 197)⟩, trivial⟩
      | 4, hi => cases hi; exact ⟨⟨by decide, by decide⟩, trivial⟩
      | 5, hi => cases hi
      | 6, hi => cases hi
      | i + 7, hi => exact absurd hi (by simp)
  obtain ⟨h', x1, x2, x3, ⟨x4, x5⟩, x6⟩ := law_tail (e := e) (below := below) (h0 := h00) (ad0 := fun a => if a = 1000 then b else if a = 1001 then u else 0) rfl rfl C X hT (hr.trans (by decide +kernel)) (fun q => absurd q (by decide +kernel)) (fun _ => hex) hL (wN_L L (fun j => (xs j).toInt)) (by rw [wN_i, if_neg (by decide), wi_0 _ (by decide)]; omega) (by rw [wN_i, if_neg (by decide), wi_0 _ (by decide)]; omega) none none hos0
  have y2 : gc h' ≤ 196 + 512 := x2
  have y3 : gs h' ≤ 7680 + 3072 := x3
  have y4 : 196 ≤ gc h' := x4
  have y5 : 7680 ≤ gs h' := x5
  have go := x6 { frames := 2048, cells := gc h' - gc h00, slots := gs h' - gs h00, locals := 84000 } rfl rfl (by decide : dq_fr 18 + 1 ≤ 2048) (by decide : 59 + dq_lo 18 ≤ 84000)
  have all := wp_all (p := p) (l := l) (e := e) (below := below) (R := { frames := 2048, cells := gc h' - gc h00, slots := gs h' - gs h00, locals := 84000 }) (xq := (.inl (some (dI 1)), h')) (ad0 := fun a => if a = 1000 then b else if a = 1001 then u else 0) ⟨⟨rfl, rfl⟩, C, hT, ⟨Nat.sub_le_sub_right x4 _, Nat.sub_le_sub_right x5 _⟩, ⟨(by decide : dq_fr 6 + 1 ≤ 2048), (by decide : 59 + dq_lo 6 ≤ 84000)⟩, hL⟩ hxs (fun _ => go)
  have hos1 : dq_os false L (fun j => (xs j).toInt) h00 h00 [lR 8 L 1000, none, none, none, none, none, none] [] := by
    refine ⟨⟨fun _ _ => (show dm_in (0 : Int) from ⟨by decide, by decide⟩), fun _ => (show dm_in (0 : Int) from ⟨by decide, by decide⟩), fun _ _ => (by decide : 0 < 1), (by decide : 1 ≤ 1), (by decide : 1 ≤ 197), fun _ _ _ _ => ⟨rfl, rfl⟩⟩, ⟨Nat.le_refl _, Nat.le_refl _, Nat.le_refl _⟩, (fun q => nomatch q), (fun _ z => nomatch z), fun i v hi => ?_⟩
    match i, hi with
    | 0, hi => cases hi; exact ⟨⟨rfl, rfl⟩, trivial⟩
    | 1, hi => cases hi
    | 2, hi => cases hi
    | 3, hi => cases hi
    | 4, hi => cases hi
    | 5, hi => cases hi
    | 6, hi => cases hi
    | i + 7, hi => exact absurd hi (by simp)
  have hL0 := dq_entL (nL := 7) (as := [dR 8 L 1000]) (ad := fun a => if a = 1000 then b else if a = 1001 then u else 0) (by decide : 1 ≤ 7) (fun v hv => by
    cases List.mem_singleton.mp hv
    trivial)
  have k := (all hos1).2 (fun a => if a = 1000 then b else if a = 1001 then u else 0) _ s.heap [] hL0 ⟨fun _ _ z => absurd (wW_get z).1 (Nat.not_lt_zero _), ⟨fun _ _ _ _ z => absurd (wW_get z).1 (Nat.not_lt_zero _), fun _ _ z => absurd (wW_get z).1 (Nat.not_lt_zero _)⟩⟩ ⟨Nat.le_refl _, fun _ _ _ => rfl, fun _ z => nomatch z⟩ (fun _ _ => rfl) rfl rfl
  rw [lg_entry_eq]
  exact wEnd (R := { frames := 2048, cells := gc h' - gc h00, slots := gs h' - gs h00, locals := 84000 }) (h0 := h00) (h' := h') (Nat.le_refl _) (by show gc h' - 0 ≤ 601024; omega) (by show gs h' - 0 ≤ 7293034; omega) (Nat.le_refl _) (by show gc h' - 0 ≤ 601024; omega) (by show gs h' - 0 ≤ 7293034; omega) k
end WS
