/-! THE LAW: calls leave the script alone, out of the link -/
theorem scP_of {p : Program} {l : Launch} {s : State} {args : Array Value} {G : dm_G} {base b L u : Nat} {xs : Nat → Int} {d : Nat} (X : dq_X p l s args G base b L u xs) (hL : L ≤ 3584) : scP xs L d := fun y as h x hy hlen hc ok hv sx => by
  obtain ⟨n, hn⟩ := dF_iff.mp hc
  have k := (dq_main (b := b) (G := G) (base := base) (u := u) (xs := xs) (sv := true) X.2.2.2.2.2 hL d n y as h x hy hlen hn ok (fun _ => sx) hv).1 p s args X
  refine ⟨k.1, fun j j0 j1 => ?_⟩
  have a := k.2.2.2.2.1 rfl j.toNat (by omega)
  have b := sx j.toNat (by omega)
  rw [show ((j.toNat : Nat) : Int) = j by omega] at a b
  rw [a, b]
