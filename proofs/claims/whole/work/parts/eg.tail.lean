/-! THE LAW: from its loop's head the machine comes to its end with 1 -/
section LTL
variable {p : Program} {l : Launch} {e : Env} {s : State} {m : MethodId} {args : Array Value} {below : List Frame} {meth : Method} {c : Code}
variable {own : String} {cc : ByteArray} {nL : Nat} {G : dm_G} {base b L u : Nat} {xs : Nat → Int} {h0 h : dm_H} {ad0 : Nat → Nat} {π : Int → Int}
theorem law_tail (hown : own = dm_on (dm_o dm_law)) (hcc : cc = dm_b dm_law) (C : dq_C p l s m args meth c own cc nL G base b L u xs) (X : dq_X p l s args G base b L u xs) (hT : ∀ pc, dq_Th s args c own cc (dm_P dm_law).2.1 pc) (hret : meth.sig.returnType = dm_rt dm_law) (hname : (dm_y dm_law).name = "<init>" → meth.name = "<init>") (hexc : (dm_hh dm_law).isEmpty = true → ∀ z ∈ c.exceptionTable.toList, False) (hLL : L ≤ 3584) (J : LWI π h) (hT0 : gi h 1 12 ≤ 1000) (hN0 : gi h 13 3 ≤ 400) (w5 w6 : Option dm_V)
    (hos : dq_os true L xs h0 h [lR 8 L 1000, lR 1 10 1, lR 1 11 165, lR 4 1 196, lI 0, w5, w6] []) :
    ∃ h', gz h' = gz h ∧ gc h' ≤ gc h + 512 ∧ gs h' ≤ gs h + 3072 ∧ (gc h ≤ gc h' ∧ gs h ≤ gs h') ∧ ∀ R : Room, R.cells = gc h' - gc h0 → R.slots = gs h' - gs h0 → dq_fr 18 + 1 ≤ R.frames → 59 + dq_lo 18 ≤ R.locals → dq_Go p l e R s m args below meth c (dq_Q below G base h0 ad0 (.inl (some (dI 1)), h') args s) nL G base b u h0 ad0 23 [lR 8 L 1000, lR 1 10 1, lR 1 11 165, lR 4 1 196, lI 0, w5, w6] [] h := by
  obtain ⟨h', x1, x2, x3, x4⟩ := lw_loop (d := 18) (Nat.le_refl _) (scP_of X hLL) hLL 512 0 h π w5 w6 (by omega) (by omega) (by omega) J hos.1 (hos.2.2.1 rfl) (by omega) (by omega)
  have x1 : dL 18 275 23 [lR 8 L 1000, lR 1 10 1, lR 1 11 165, lR 4 1 196, lI 0, w5, w6] [] h = some (.inl (some (dI 1)), h') := x1
  obtain ⟨n, hn⟩ := dL_iff.mp x1
  have key : ∀ R : Room, R.cells = gc h' - gc h0 → R.slots = gs h' - gs h0 → dq_fr 18 + 1 ≤ R.frames → 59 + dq_lo 18 ≤ R.locals → dq_okx true L xs h (.inl (some (dI 1)), h') ∧ dq_Go p l e R s m args below meth c (dq_Q below G base h0 ad0 (.inl (some (dI 1)), h') args s) nL G base b u h0 ad0 23 [lR 8 L 1000, lR 1 10 1, lR 1 11 165, lR 4 1 196, lI 0, w5, w6] [] h := fun R r1 r2 r3 r4 =>
    dq_loop (y := dm_law) (sv := true) (x := (.inl (some (dI 1)), h')) (Nat.le_refl _) hown hcc C (dq_main (b := b) (G := G) (base := base) (u := u) (xs := xs) (sv := true) X.2.2.2.2.2 hLL 18 n) hT r1 r2 r3 r4 hret hname hexc hLL (fun q => by cases q) n 23 _ [] h hn hos
  have o := (key { frames := dq_fr 18 + 1, cells := gc h' - gc h0, slots := gs h' - gs h0, locals := 59 + dq_lo 18 } rfl rfl (Nat.le_refl _) (Nat.le_refl _)).1
  exact ⟨h', x2, x3, by omega, ⟨o.2.1, o.2.2.1⟩, fun R r1 r2 r3 r4 => (key R r1 r2 r3 r4).2⟩
end LTL
