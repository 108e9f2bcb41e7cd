/-! ONE RULE for visitors that leave the rows alone -/
def frC (h h' : dm_H) : Prop := (∀ a i, a < 140 → a ≠ 138 → a ≠ 139 → ¬ (a = 137 ∧ (i = 2 ∨ i = 3 ∨ i = 5)) → gi h' a i = gi h a i) ∧ (∀ a i, gr h' a i = gr h a i) ∧ h'.2.2 = h.2.2
theorem frC_refl (h : dm_H) : frC h h := ⟨fun _ _ _ _ _ _ => rfl, fun _ _ => rfl, rfl⟩
theorem frC_trans {h h1 h2 : dm_H} (a : frC h h1) (b : frC h1 h2) : frC h h2 := ⟨fun c i p1 p2 p3 p4 => by rw [b.1 c i p1 p2 p3 p4, a.1 c i p1 p2 p3 p4], fun c i => by rw [b.2.1, a.2.1], by rw [b.2.2, a.2.2]⟩
theorem frC_q {P : Nat} {h h' : dm_H} (a : Jq P h h') : frC h h' := ⟨fun c i _ p3 p4 p5 => a.1.1 c i p3 p4 p5, a.1.2, a.2⟩
/-- the rows that the rule's atoms look at are old -/
def stl (h : dm_H) (A P : Nat) (N : Int) : Prop := ∀ k, 0 ≤ k → k < N → gi h (A + 2) k = 0 → ∀ x, 0 ≤ x → x < rsz h P (gi h (A + 3) k) → rst h P (gi h (A + 3) k) x = 0
section LST
variable {A P V : Nat} {N : Int} {h0 : dm_H}
theorem frC_e {h : dm_H} (hp : rw_ P) (hr : ru A) (k : frC h0 h) : (∀ r, rsz h P r = rsz h0 P r) ∧ (∀ r p, 0 ≤ r → r < 6 → rws h P r p = rws h0 P r p) ∧ (∀ r p, 0 ≤ r → r < 6 → rst h P r p = rst h0 P r p) ∧ (∀ j, j ≤ 6 → ∀ i, gi h (A + j) i = gi h0 (A + j) i) ∧ ∀ i, ¬ (i = 2 ∨ i = 3 ∨ i = 5) → gi h 137 i = gi h0 137 i := by
  have hA := ru_ne hr
  have hlo : ∀ a, a < 137 → ∀ i, gi h a i = gi h0 a i := fun a ha i => k.1 a i (by omega) (by omega) (by omega) (by omega)
  unfold rw_ at hp
  exact ⟨fun r => hlo _ (by omega) _, fun r p q1 q2 => hlo _ (by omega) _, fun r p q1 q2 => hlo _ (by omega) _, fun j hj i => hlo _ (by omega) i, fun i hi => k.1 137 i (by omega) (by omega) (by omega) (fun q => hi q.2)⟩
theorem frC_Js {rd na : Int} {h h' : dm_H} (hr : ru A) (hp : rw_ P) (J : Js A P V N rd na h0 h) (k : frC h h') : Js A P V N rd na h0 h' := by
  have hA := ru_ne hr
  have hlo : ∀ a, a < 137 → ∀ i, gi h' a i = gi h a i := fun a ha i => k.1 a i (by omega) (by omega) (by omega) (by omega)
  obtain ⟨k1, k2, k3, k4, k5, k6, k7, k8, k9, k10, k11, k12, k13⟩ := J
  have hz : ∀ r, rsz h' P r = rsz h P r := fun r => hlo _ (by unfold rw_ at hp; omega) _
  have hw : ∀ r p, 0 ≤ r → r < 6 → rws h' P r p = rws h P r p := fun r p q1 q2 => hlo _ (by unfold rw_ at hp; omega) _
  refine ⟨by rw [k.2.1]; exact k1, by rw [k.2.1]; exact k2, by rw [k.2.1]; exact k3, by rw [hlo _ hA.1]; exact k4, fun i => by rw [hlo _ (by omega)]; exact k5 i, fun i => by rw [hlo _ (by omega)]; exact k6 i, fun i => by rw [hlo _ (by omega)]; exact k7 i, fun i => by rw [hlo _ (by omega)]; exact k8 i, fun i => by rw [hlo _ (by omega)]; exact k9 i, by rw [k.1 137 9 (by omega) (by omega) (by omega) (by omega)]; exact k10, by rw [k.1 137 10 (by omega) (by omega) (by omega) (by omega)]; exact k11, fun r q1 q2 => by rw [hz]; exact k12 r q1 q2, fun r p q1 q2 q3 q4 => by rw [hw r p q1 q2]; rw [hz] at q4; exact k13 r p q1 q2 q3 q4⟩
theorem frC_one {h : dm_H} {k p : Int} (hp : rw_ P) (hr : ru A) (q : frC h0 h) (hk : 0 ≤ k ∧ k < N) (hs : gi h0 (A + 2) k = 0) (hr6 : 0 ≤ gi h0 (A + 3) k ∧ gi h0 (A + 3) k < 6) (hst : stl h0 A P N) (hrd : gi h0 137 9 = 0) (hna : gi h0 137 10 = -1) (hAW : AW h0 A P N) (hpp : 0 ≤ p ∧ p < rsz h0 P (gi h0 (A + 3) k)) :
    vis h P k (gi h0 (A + 3) k) p ∧ (rep h A P k (gi h0 (A + 3) k) (gi h0 (A + 4) k) p ↔ ∃ e, 0 ≤ e ∧ e < p ∧ alike (tm h0 A k) (gi h0 (A + 4) k) (rws h0 P (gi h0 (A + 3) k) e) (rws h0 P (gi h0 (A + 3) k) p)) := by
  obtain ⟨e1, e2, e3, e4, e5⟩ := frC_e hp hr q
  have ht : tm h A k = tm h0 A k := by
    funext i
    exact e4 5 (by omega) _
  have hv : ∀ e, 0 ≤ e → e < rsz h0 P (gi h0 (A + 3) k) → vis h P k (gi h0 (A + 3) k) e := by
    intro e q0 q1
    unfold vis wLo wHi
    rw [e3 _ e hr6.1 hr6.2, hst k hk.1 hk.2 hs e q0 q1, e5 9 (by omega), e5 10 (by omega), hrd, hna, if_neg (by omega), if_neg (by omega)]
    omega
  obtain ⟨a1, a2⟩ := hAW k hk.1 hk.2 hs
  refine ⟨hv p hpp.1 hpp.2, ?_⟩
  unfold rep
  rw [e4 6 (by omega), ht, e2 _ p hr6.1 hr6.2]
  constructor
  · rintro ⟨-, e, q0, q1, -, q2⟩
    rw [e2 _ e hr6.1 hr6.2] at q2
    exact ⟨e, q0, q1, q2⟩
  · rintro ⟨e, q0, q1, q2⟩
    refine ⟨fun hy => ?_, e, q0, q1, hv e q0 (by omega), by rw [e2 _ e hr6.1 hr6.2]; exact q2⟩
    obtain ⟨i, i0, i1, i2⟩ := a2 e p q0 q1 hpp.2
    rcases q2 i i0 i1 with z | z
    · exact a1 hy i i0 i1 z
    · exact i2 z
theorem lst_step {St : List mA → dm_H → Prop} {Bad : dm_H → Prop} {B : List mA} {d0 : Nat} (hd0 : 3 ≤ d0) (W : SW A P N 0 h0) (hst : stl h0 A P N) (hAW : AW h0 A P N) (hrd : gi h0 137 9 = 0) (hna : gi h0 137 10 = -1) (h4 : gi h0 137 4 = 1000000) (hab : abf (cR h0 A) N.toNat 0 ≤ 999999)
    (HF : ∀ l h, St l h → frC h0 h) (HQ : ∀ l h h', St l h → Jq P h h' → St l h') (BQ : ∀ h h', Bad h → Jq P h h' → Bad h' ∧ (gi h 137 5 ≠ 0 → gi h' 137 5 = gi h 137 5 ∨ True)) (BF : ∀ h, Bad h → frC h0 h)
    (HR : ∀ (d : Nat) k v l h, d0 ≤ d → 0 ≤ k → k < N → St l h → va h 138 = v → Jv A h0 k v → (∀ w, w ∈ l → w ∈ B) → (∀ w, w ∈ bnd (cR h0 A) (cW h0 P) (N - k).toNat k v → w ∈ B) → ∃ g h2, rch d V k h = rI g h2 ∧ (g = 0 ∨ g = 1) ∧ va h2 138 = v ∧ gi h2 137 2 = gi h 137 2 ∧ gi h2 137 5 = gi h 137 5 ∧ (g = 1 → St l h2) ∧ (g = 0 → St (l ++ bnd (cR h0 A) (cW h0 P) (N - k).toNat k v) h2))
    (HN : ∀ (d : Nat) v l h, d0 ≤ d → St l h → va h 138 = v → Jv A h0 N v → (∀ w, w ∈ l → w ∈ B) → v ∈ B → ∃ g h2, rch d V N h = rI g h2 ∧ (g = 0 ∨ g = 1) ∧ va h2 138 = v ∧ gi h2 137 2 = gi h 137 2 ∧ ((St (l ++ [v]) h2 ∧ gi h2 137 5 = gi h 137 5) ∨ (Bad h2 ∧ gi h2 137 5 ≠ 0)))
    {v : mA} (hv : Jv A h0 0 v) {h : dm_H} (J : Js A P V N 0 (-1) h0 h) (hva : va h 138 = v) (hS : St [] h) (hB : ∀ w, w ∈ bnd (cR h0 A) (cW h0 P) N.toNat 0 v → w ∈ B) (h5 : gi h 137 5 = 0) (h2 : gi h 137 2 = 0) {d : Nat} (hd : d0 + 5 ≤ d) :
    ∃ h', dF d 22 [dR 1 5 137, dI 0] h = rV h' ∧ va h' 138 = v ∧ ((St (bnd (cR h0 A) (cW h0 P) N.toNat 0 v) h' ∧ gi h' 137 5 = 0) ∨ (Bad h' ∧ gi h' 137 5 ≠ 0)) := by
  have hru := W.1
  have hrw := W.2.1
  have hN4 := W.2.2.1
  have habs : ∀ k, 0 ≤ k → k < N → abf (cR h0 A) (N - k).toNat k = (if gi h0 (A + 2) k = 0 then 32 else 1) * abf (cR h0 A) (N - (k + 1)).toNat (k + 1) := fun k k0 k1 => by
    rw [show (N - k).toNat = (N - (k + 1)).toNat + 1 by omega]; rfl
  have habp := fun n k => abf_pos (cR h0 A) n k
  have hbn : ∀ k v, 0 ≤ k → k < N → bnd (cR h0 A) (cW h0 P) (N - k).toNat k v = (opt (cR h0 A) (cW h0 P) k v).flatMap (fun w => bnd (cR h0 A) (cW h0 P) (N - (k + 1)).toNat (k + 1) w) := by
    intro k v h1 h2
    rw [show (N - k).toNat = (N - (k + 1)).toNat + 1 by omega]
    rfl
  have extF : ∀ {h h' : dm_H}, frC h0 h → frC h0 h' → ext P h h' := fun a b r _ _ => by rw [(frC_e hrw hru a).1, (frC_e hrw hru b).1]; exact Int.le_refl _
  have hsub : ∀ k, 0 ≤ k → k < N → gi h0 (A + 2) k = 0 ∨ gi h0 (A + 2) k = 1 → (0 ≤ gi h0 (A + 3) k ∧ gi h0 (A + 3) k < 6) := by
    intro k k0 kN q
    rcases W.2.2.2.2 k k0 kN with z | z | z
    · exact z.2.1
    · omega
    · omega
  have hempty : ∀ k v h h2, 0 ≤ k → k < N → opt (cR h0 A) (cW h0 P) k v = [] → (∀ l, (∀ w, w ∈ l → w ∈ B) → St l h → St l h2) → gi h2 137 2 = gi h 137 2 → gi h2 137 5 = 0 → ((gi h 137 2 ≤ gi h2 137 2 ∧ gi h2 137 2 ≤ gi h 137 2 + abf (cR h0 A) (N - k).toNat k) ∧ ∀ l, (∀ w, w ∈ l → w ∈ B) → St l h → ((St (l ++ bnd (cR h0 A) (cW h0 P) (N - k).toNat k v) h2 ∧ gi h2 137 5 = 0) ∨ (Bad h2 ∧ gi h2 137 5 ≠ 0))) := by
    intro k v h h2 k0 kN ho q e e5
    have := habp (N - k).toNat k
    refine ⟨⟨by omega, by omega⟩, fun l hl hs => Or.inl ⟨?_, e5⟩⟩
    rw [hbn k v k0 kN, ho]
    show St (l ++ []) h2
    rw [List.append_nil]
    exact q l hl hs
  have hsingle : ∀ k v w h h2 h', 0 ≤ k → k < N → opt (cR h0 A) (cW h0 P) k v = [w] → (∀ l, (∀ w, w ∈ l → w ∈ B) → St l h → St l h2) → gi h2 137 2 = gi h 137 2 → ((gi h2 137 2 ≤ gi h' 137 2 ∧ gi h' 137 2 ≤ gi h2 137 2 + abf (cR h0 A) (N - (k + 1)).toNat (k + 1)) ∧ ∀ l, (∀ w, w ∈ l → w ∈ B) → St l h2 → ((St (l ++ bnd (cR h0 A) (cW h0 P) (N - (k + 1)).toNat (k + 1) w) h' ∧ gi h' 137 5 = 0) ∨ (Bad h' ∧ gi h' 137 5 ≠ 0))) → ((gi h 137 2 ≤ gi h' 137 2 ∧ gi h' 137 2 ≤ gi h 137 2 + abf (cR h0 A) (N - k).toNat k) ∧ ∀ l, (∀ w, w ∈ l → w ∈ B) → St l h → ((St (l ++ bnd (cR h0 A) (cW h0 P) (N - k).toNat k v) h' ∧ gi h' 137 5 = 0) ∨ (Bad h' ∧ gi h' 137 5 ≠ 0))) := by
    rintro k v w h h2 h' k0 kN ho q e ⟨q1, q2⟩
    have hb := habs k k0 kN
    have hap := habp (N - (k + 1)).toNat (k + 1)
    refine ⟨?_, fun l hl hs => ?_⟩
    · split at hb <;> exact ⟨by omega, by omega⟩
    · rw [hbn k v k0 kN, ho]
      have := q2 l hl (q l hl hs)
      simpa using this
  sorry
end LST
