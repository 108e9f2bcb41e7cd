/-! ONE RULE for visitors that look at the places -/
section LSP
variable {A P V : Nat} {N : Int} {h0 : dm_H}
/-- the rows taken so far stand in their places -/
def PLc (h0 : dm_H) (A P : Nat) (k : Int) (v : mA) (h : dm_H) : Prop := ∀ j, 0 ≤ j → j < k → gi h0 (A + 2) j = 0 → (0 ≤ gi h 139 j ∧ gi h 139 j < rsz h0 P (gi h0 (A + 3) j)) ∧ ftk (tm h0 A j) (gi h0 (A + 4) j) v (rws h0 P (gi h0 (A + 3) j) (gi h 139 j))
def PLq (k : Int) (h h' : dm_H) : Prop := ∀ j, 0 ≤ j → j < k → gi h' 139 j = gi h 139 j
theorem PLq_s {k : Int} {h h1 h2 : dm_H} (a : PLq k h h1) (b : PLq (k + 1) h1 h2) : PLq k h h2 := fun j j0 j1 => (b j j0 (by omega)).trans (a j j0 j1)
theorem PLc_q {k : Int} {v : mA} {h h' : dm_H} (a : PLc h0 A P k v h) (b : PLq k h h') : PLc h0 A P k v h' := fun j j0 j1 j2 => by
  rw [b j j0 j1]
  exact a j j0 j1 j2
theorem PLc_1 {k : Int} {v : mA} {h : dm_H} (hs : gi h0 (A + 2) k ≠ 0) (a : PLc h0 A P k v h) : PLc h0 A P (k + 1) v h := fun j j0 j1 j2 => a j j0 (by
  by_cases e : j = k
  · rw [e] at j2; exact absurd j2 hs
  · omega) j2
theorem PLc_l {k : Int} {v w : mA} {h : dm_H} (a : PLc h0 A P k v h) (J : Jv A h0 k v) (l : lev v w) : PLc h0 A P k w h := fun j j0 j1 j2 => by
  obtain ⟨a1, a2⟩ := a j j0 j1 j2
  refine ⟨a1, fun i i0 i1 => ?_⟩
  rw [lev_tv l (fun q => J.2.2 _ q ⟨j, j0, j1, Or.inl ⟨j2, i, i0, i1, rfl⟩⟩)]
  exact a2 i i0 i1
theorem lsp_step {St : List mA → dm_H → Prop} {Bad : dm_H → Prop} {B : List mA} {d0 : Nat} (hd0 : 3 ≤ d0) (W : SW A P N 0 h0) (hsh : ∀ k, 0 ≤ k → k < N → gi h0 (A + 2) k = 0 → ∀ i, 0 ≤ i → i < gi h0 (A + 4) k → -1 ≤ tm h0 A k i ∧ tm h0 A k i ≤ 107) (hst : stl h0 A P N) (hAW : AW h0 A P N) (hrd : gi h0 137 9 = 0) (hna : gi h0 137 10 = -1) (h4 : gi h0 137 4 = 1000000) (hab : abf (cR h0 A) N.toNat 0 ≤ 999999)
    (HF : ∀ l h, St l h → frC h0 h) (HQ : ∀ l h h', St l h → Jq P h h' → St l h') (BQ : ∀ h h', Bad h → Jq P h h' → Bad h') (BF : ∀ h, Bad h → frC h0 h)
    (HR : ∀ (d : Nat) k v l h, d0 ≤ d → 0 ≤ k → k < N → St l h → va h 138 = v → Jv A h0 k v → (∀ w, w ∈ l → w ∈ B) → (∀ w, w ∈ bnd (cR h0 A) (cW h0 P) (N - k).toNat k v → w ∈ B) → ∃ g h2, rch d V k h = rI g h2 ∧ (g = 0 ∨ g = 1) ∧ va h2 138 = v ∧ (∀ j, gi h2 139 j = gi h 139 j) ∧ gi h2 137 2 = gi h 137 2 ∧ gi h2 137 5 = gi h 137 5 ∧ (g = 1 → St l h2) ∧ (g = 0 → St (l ++ bnd (cR h0 A) (cW h0 P) (N - k).toNat k v) h2))
    (HN : ∀ (d : Nat) v l h, d0 ≤ d → St l h → va h 138 = v → Jv A h0 N v → (∀ w, w ∈ l → w ∈ B) → v ∈ B → PLc h0 A P N v h → ∃ g h2, rch d V N h = rI g h2 ∧ (g = 0 ∨ g = 1) ∧ va h2 138 = v ∧ (∀ j, gi h2 139 j = gi h 139 j) ∧ gi h2 137 2 = gi h 137 2 ∧ ((St (l ++ [v]) h2 ∧ gi h2 137 5 = gi h 137 5) ∨ (Bad h2 ∧ gi h2 137 5 ≠ 0)))
    {v : mA} (hv : Jv A h0 0 v) {h : dm_H} (J : Js A P V N 0 (-1) h0 h) (hva : va h 138 = v) (hS : St [] h) (hB : ∀ w, w ∈ bnd (cR h0 A) (cW h0 P) N.toNat 0 v → w ∈ B) (h5 : gi h 137 5 = 0) (h2 : gi h 137 2 = 0) {d : Nat} (hd : d0 + 5 ≤ d) :
    ∃ h', dF d 22 [dR 1 5 137, dI 0] h = rV h' ∧ va h' 138 = v ∧ ((St (bnd (cR h0 A) (cW h0 P) N.toNat 0 v) h' ∧ gi h' 137 5 = 0) ∨ (Bad h' ∧ gi h' 137 5 ≠ 0)) := by
  have hru := W.1
  have hrw := W.2.1
  have hN4 := W.2.2.1
  have habs : ∀ k, 0 ≤ k → k < N → abf (cR h0 A) (N - k).toNat k = (if gi h0 (A + 2) k = 0 then 32 else 1) * abf (cR h0 A) (N - (k + 1)).toNat (k + 1) := fun k k0 k1 => by
    rw [show (N - k).toNat = (N - (k + 1)).toNat + 1 by omega]; rfl
  have habp := fun n k => abf_pos (cR h0 A) n k
  have hbn : ∀ k v, 0 ≤ k → k < N → bnd (cR h0 A) (cW h0 P) (N - k).toNat k v = (opt (cR h0 A) (cW h0 P) k v).flatMap (fun w => bnd (cR h0 A) (cW h0 P) (N - (k + 1)).toNat (k + 1) w) := by
    intro k v h1 h2
    rw [show (N - k).toNat = (N - (k + 1)).toNat + 1 by omega]
    rfl
  have extF : ∀ {h h' : dm_H}, frC h0 h → frC h0 h' → ext P h h' := fun a b r _ _ => by rw [(frC_e hrw hru a).1, (frC_e hrw hru b).1]; exact Int.le_refl _
  have hsub : ∀ k, 0 ≤ k → k < N → gi h0 (A + 2) k = 0 ∨ gi h0 (A + 2) k = 1 → (0 ≤ gi h0 (A + 3) k ∧ gi h0 (A + 3) k < 6) := by
    intro k k0 kN q
    rcases W.2.2.2.2 k k0 kN with z | z | z
    · exact z.2.1
    · omega
    · omega
  have hempty : ∀ k v h h2, 0 ≤ k → k < N → opt (cR h0 A) (cW h0 P) k v = [] → (∀ l, (∀ w, w ∈ l → w ∈ B) → St l h → St l h2) → gi h2 137 2 = gi h 137 2 → gi h2 137 5 = 0 → ((gi h 137 2 ≤ gi h2 137 2 ∧ gi h2 137 2 ≤ gi h 137 2 + abf (cR h0 A) (N - k).toNat k) ∧ ∀ l, (∀ w, w ∈ l → w ∈ B) → St l h → ((St (l ++ bnd (cR h0 A) (cW h0 P) (N - k).toNat k v) h2 ∧ gi h2 137 5 = 0) ∨ (Bad h2 ∧ gi h2 137 5 ≠ 0))) := by
    intro k v h h2 k0 kN ho q e e5
    have := habp (N - k).toNat k
    refine ⟨⟨by omega, by omega⟩, fun l hl hs => Or.inl ⟨?_, e5⟩⟩
    rw [hbn k v k0 kN, ho]
    show St (l ++ []) h2
    rw [List.append_nil]
    exact q l hl hs
  have hsingle : ∀ k v w h h2 h', 0 ≤ k → k < N → opt (cR h0 A) (cW h0 P) k v = [w] → (∀ l, (∀ w, w ∈ l → w ∈ B) → St l h → St l h2) → gi h2 137 2 = gi h 137 2 → ((gi h2 137 2 ≤ gi h' 137 2 ∧ gi h' 137 2 ≤ gi h2 137 2 + abf (cR h0 A) (N - (k + 1)).toNat (k + 1)) ∧ ∀ l, (∀ w, w ∈ l → w ∈ B) → St l h2 → ((St (l ++ bnd (cR h0 A) (cW h0 P) (N - (k + 1)).toNat (k + 1) w) h' ∧ gi h' 137 5 = 0) ∨ (Bad h' ∧ gi h' 137 5 ≠ 0))) → ((gi h 137 2 ≤ gi h' 137 2 ∧ gi h' 137 2 ≤ gi h 137 2 + abf (cR h0 A) (N - k).toNat k) ∧ ∀ l, (∀ w, w ∈ l → w ∈ B) → St l h → ((St (l ++ bnd (cR h0 A) (cW h0 P) (N - k).toNat k v) h' ∧ gi h' 137 5 = 0) ∨ (Bad h' ∧ gi h' 137 5 ≠ 0))) := by
    rintro k v w h h2 h' k0 kN ho q e ⟨q1, q2⟩
    have hb := habs k k0 kN
    have hap := habp (N - (k + 1)).toNat (k + 1)
    refine ⟨?_, fun l hl hs => ?_⟩
    · split at hb <;> exact ⟨by omega, by omega⟩
    · rw [hbn k v k0 kN, ho]
      have := q2 l hl (q l hl hs)
      simpa using this
  have hfin : ∀ k v h h' h'', Jq P h' h'' → (∀ i, gi h'' 137 i = gi h' 137 i) → ((gi h 137 2 ≤ gi h' 137 2 ∧ gi h' 137 2 ≤ gi h 137 2 + abf (cR h0 A) (N - k).toNat k) ∧ ∀ l, (∀ w, w ∈ l → w ∈ B) → St l h → ((St (l ++ bnd (cR h0 A) (cW h0 P) (N - k).toNat k v) h' ∧ gi h' 137 5 = 0) ∨ (Bad h' ∧ gi h' 137 5 ≠ 0))) → ((gi h 137 2 ≤ gi h'' 137 2 ∧ gi h'' 137 2 ≤ gi h 137 2 + abf (cR h0 A) (N - k).toNat k) ∧ ∀ l, (∀ w, w ∈ l → w ∈ B) → St l h → ((St (l ++ bnd (cR h0 A) (cW h0 P) (N - k).toNat k v) h'' ∧ gi h'' 137 5 = 0) ∨ (Bad h'' ∧ gi h'' 137 5 ≠ 0))) := by
    rintro k v h h' h'' q e ⟨q1, q2⟩
    have e2 := e 2
    refine ⟨⟨by omega, by omega⟩, fun l hl hs => ?_⟩
    rw [e 5]
    rcases q2 l hl hs with ⟨z1, z2⟩ | ⟨z1, z2⟩
    · exact Or.inl ⟨HQ _ _ _ z1 q, z2⟩
    · exact Or.inr ⟨BQ _ _ z1 q, z2⟩
  have key := step_rule (A := A) (P := P) (V := V) (d0 := d0) (N := N) (rd := 0) (na := -1) (h0 := h0)
    (Pre := fun k v h => ((∃ l, (∀ w, w ∈ l → w ∈ B) ∧ St l h) ∧ (∀ w, w ∈ bnd (cR h0 A) (cW h0 P) (N - k).toNat k v → w ∈ B) ∧ gi h 137 5 = 0 ∧ (0 ≤ gi h 137 2 ∧ gi h 137 2 + abf (cR h0 A) (N - k).toNat k ≤ 999999)) ∧ PLc h0 A P k v h)
    (Mid := fun k v h g h2 => (Jv A h0 k v ∧ (∃ l, (∀ w, w ∈ l → w ∈ B) ∧ St l h) ∧ (∀ w, w ∈ bnd (cR h0 A) (cW h0 P) (N - k).toNat k v → w ∈ B) ∧ frC h0 h2 ∧ gi h2 137 2 = gi h 137 2 ∧ (0 ≤ gi h 137 2 ∧ gi h 137 2 + abf (cR h0 A) (N - k).toNat k ≤ 999999) ∧ (k < N → gi h2 137 5 = 0 ∧ ∀ l, (∀ w, w ∈ l → w ∈ B) → St l h → (g = 1 → St l h2) ∧ (g = 0 → St (l ++ bnd (cR h0 A) (cW h0 P) (N - k).toNat k v) h2)) ∧ (k = N → ∀ l, (∀ w, w ∈ l → w ∈ B) → St l h → (St (l ++ [v]) h2 ∧ gi h2 137 5 = 0) ∨ (Bad h2 ∧ gi h2 137 5 ≠ 0))) ∧ PLc h0 A P k v h2 ∧ PLq k h h2)
    (Post := fun k v h h' => (((gi h 137 2 ≤ gi h' 137 2 ∧ gi h' 137 2 ≤ gi h 137 2 + abf (cR h0 A) (N - k).toNat k) ∧ ∀ l, (∀ w, w ∈ l → w ∈ B) → St l h → ((St (l ++ bnd (cR h0 A) (cW h0 P) (N - k).toNat k v) h' ∧ gi h' 137 5 = 0) ∨ (Bad h' ∧ gi h' 137 5 ≠ 0)))) ∧ PLq k h h')
    (LI := fun k v h h2 p hh => ((∃ l, (∀ w, w ∈ l → w ∈ B) ∧ St l h) ∧ (∀ w, w ∈ bnd (cR h0 A) (cW h0 P) (N - k).toNat k v → w ∈ B) ∧ frC h0 hh ∧ (0 ≤ gi h 137 2 ∧ gi h 137 2 + abf (cR h0 A) (N - k).toNat k ≤ 999999) ∧ gi h 137 2 ≤ gi hh 137 2 ∧ gi hh 137 2 ≤ gi h 137 2 + p * abf (cR h0 A) (N - (k + 1)).toNat (k + 1) ∧ rsz h2 P (gi h0 (A + 3) k) = rsz h0 P (gi h0 (A + 3) k) ∧ ∀ l, (∀ w, w ∈ l → w ∈ B) → St l h → ((St (l ++ (opA (tm h0 A k) (gi h0 (A + 4) k) (rws h0 P (gi h0 (A + 3) k)) v p.toNat).flatMap (fun w => bnd (cR h0 A) (cW h0 P) (N - (k + 1)).toNat (k + 1) w)) hh ∧ gi hh 137 5 = 0) ∨ (Bad hh ∧ gi hh 137 5 ≠ 0))) ∧ PLc h0 A P k v hh ∧ PLq k h hh)
    W hd0 ?hR ?hE ?hS ?hN1 ?hN2 ?hM ?hL0 ?hLt ?hLf ?hLe
  case hR =>
    rintro d k v h hd k0 kN J hva Jv ⟨⟨⟨l, hl, hs⟩, p2, p3, p4⟩, pP⟩
    have dP : ∀ j, gi (dpt h k) 139 j = gi h 139 j := fun j => by unfold dpt; rw [gi_sin (by decide)]
    have q : Jq P h (dpt h k) := Jq_d
    have va1 : va (dpt h k) 138 = v := by rw [← hva]; funext x; unfold va dpt; rw [gi_sin (by decide)]
    have c1 : gi (dpt h k) 137 2 = gi h 137 2 := by unfold dpt; rw [gi_sij (by decide)]
    have c5 : gi (dpt h k) 137 5 = 0 := by unfold dpt; rw [gi_sij (by decide)]; exact p3
    have f0 := HF _ _ hs
    have J1 := frC_Js hru hrw J (frC_q q)
    by_cases e : k < N
    · obtain ⟨g, h2, r1, r2, r3, rP, r4, r5, r6, r7⟩ := HR d k v l (dpt h k) hd k0 e (HQ _ _ _ hs q) va1 Jv hl p2
      have f2 : frC h0 h2 := by
        rcases r2 with z | z
        · exact HF _ _ (r7 z)
        · exact HF _ _ (r6 z)
      have f1 := HF _ _ (HQ _ _ _ hs q)
      have f12 : frC (dpt h k) h2 := ⟨fun a i p1 p2 p3 p4 => by rw [f2.1 a i p1 p2 p3 p4, f1.1 a i p1 p2 p3 p4], fun a i => by rw [f2.2.1, f1.2.1], by rw [f2.2.2, f1.2.2]⟩
      refine ⟨g, h2, r1, r2, frC_Js hru hrw J1 f12, r3, by rw [r4, c1], extF f0 f2, ⟨Jv, ⟨l, hl, hs⟩, p2, f2, by rw [r4, c1], p4, fun _ => ⟨by rw [r5, c5], fun l' hl' hs' => ?_⟩, fun z => by omega⟩, PLc_q pP (fun j _ _ => (rP j).trans (dP j)), fun j _ _ => (rP j).trans (dP j)⟩
      obtain ⟨g', h2', y1, y2, y3, -, y4, y5, y6, y7⟩ := HR d k v l' (dpt h k) hd k0 e (HQ _ _ _ hs' q) va1 Jv hl' p2
      obtain ⟨rfl, rfl⟩ := rI_inj (r1.symm.trans y1)
      exact ⟨y6, y7⟩
    · have ek : k = N := by omega
      subst ek
      have hvB : v ∈ B := p2 v (by rw [show (k - k).toNat = 0 by omega]; exact List.mem_singleton.mpr rfl)
      obtain ⟨g, h2, r1, r2, r3, rP, r4, r5⟩ := HN d v l (dpt h k) hd (HQ _ _ _ hs q) va1 Jv hl hvB (PLc_q pP (fun j _ _ => dP j))
      have f2 : frC h0 h2 := by
        rcases r5 with z | z
        · exact HF _ _ z.1
        · exact BF _ z.1
      have f1 := HF _ _ (HQ _ _ _ hs q)
      have f12 : frC (dpt h k) h2 := ⟨fun a i p1 p2 p3 p4 => by rw [f2.1 a i p1 p2 p3 p4, f1.1 a i p1 p2 p3 p4], fun a i => by rw [f2.2.1, f1.2.1], by rw [f2.2.2, f1.2.2]⟩
      refine ⟨g, h2, r1, r2, frC_Js hru hrw J1 f12, r3, by rw [r4, c1], extF f0 f2, ⟨Jv, ⟨l, hl, hs⟩, p2, f2, by rw [r4, c1], p4, fun z => absurd z e, fun _ l' hl' hs' => ?_⟩, PLc_q pP (fun j _ _ => (rP j).trans (dP j)), fun j _ _ => (rP j).trans (dP j)⟩
      obtain ⟨g', h2', y1, y2, y3, -, y4, y5⟩ := HN d v l' (dpt h k) hd (HQ _ _ _ hs' q) va1 Jv hl' hvB (PLc_q pP (fun j _ _ => dP j))
      obtain ⟨rfl, rfl⟩ := rI_inj (r1.symm.trans y1)
      rw [c5] at y5
      exact y5
  case hE =>
    rintro v h g h2 J2 va2 Jv ⟨⟨-, -, m2, m3, m4, m5, -, m7⟩, mP, mQ⟩
    have q : Jq P h2 (fin h2) := Jq_tr (Jq_j (Or.inl rfl)) (Jq_j (Or.inr (Or.inr rfl)))
    have f2 : gi (fin h2) 137 2 = gi h2 137 2 + 1 := by unfold fin; rw [gi_sij (by decide), gi_sis]
    have f5 : gi (fin h2) 137 5 = if gi h2 137 5 = 0 ∧ gi h2 137 2 + 1 < gi h2 137 4 then 0 else 1 := by unfold fin; rw [gi_sis]
    have e4 : gi h2 137 4 = 1000000 := by rw [m3.1 137 4 (by omega) (by omega) (by omega) (by omega)]; exact h4
    have hz : (N - N).toNat = 0 := by omega
    rw [hz] at m5 ⊢
    have ha : abf (cR h0 A) 0 N = 1 := rfl
    rw [ha] at m5 ⊢
    refine ⟨⟨⟨by omega, by omega⟩, fun l hl hs => ?_⟩, fun j j0 j1 => by rw [← mQ j j0 j1]; unfold fin; rw [gi_sin (by decide), gi_sin (by decide)]⟩
    rcases m7 rfl l hl hs with ⟨z1, z2⟩ | ⟨z1, z2⟩
    · exact Or.inl ⟨HQ _ _ _ z1 q, by rw [f5, if_pos ⟨z2, by omega⟩]⟩
    · exact Or.inr ⟨BQ _ _ z1 q, by rw [f5, if_neg (fun y => z2 y.1)]; decide⟩
  case hS =>
    rintro k v h g h2 k0 kN J2 va2 ⟨⟨-, -, m2, m3, m4, m5, m6, -⟩, mP, mQ⟩ hz
    obtain ⟨z1, z2⟩ := m6 kN
    have g0 : g = 0 := by rcases hz with y | y; exact y; exact absurd z1 y
    have := habp (N - k).toNat k
    exact ⟨⟨⟨by omega, by omega⟩, fun l hl hs => Or.inl ⟨(z2 l hl hs).2 g0, z1⟩⟩, mQ⟩
  case hN1 =>
    rintro k v h h2 k0 kN s1 J2 va2 Jv ⟨⟨-, ⟨l, hl, hs⟩, m2, m3, m4, m5, m6, -⟩, mP, mQ⟩ -
    obtain ⟨z1, z2⟩ := m6 kN
    clear m6
    have hr := hsub k k0 kN (Or.inr s1)
    obtain ⟨e1, e2, -, -, -⟩ := frC_e hrw hru m3
    have hiff : (∃ p, 0 ≤ p ∧ p < rsz h2 P (gi h0 (A + 3) k) ∧ fitb (tm h0 A k) (gi h0 (A + 4) k).toNat v (rws h2 P (gi h0 (A + 3) k) p)) ↔ fitE (tm h0 A k) (gi h0 (A + 4) k) (rws h0 P (gi h0 (A + 3) k)) (rsz h0 P (gi h0 (A + 3) k)) v := by
      unfold fitE
      rw [e1]
      constructor
      · rintro ⟨p, p1, p2, p3⟩
        exact ⟨p, p1, p2, by rw [← e2 _ p hr.1 hr.2]; exact p3⟩
      · rintro ⟨p, p1, p2, p3⟩
        exact ⟨p, p1, p2, by rw [e2 _ p hr.1 hr.2]; exact p3⟩
    have ho : opt (cR h0 A) (cW h0 P) k v = @ite _ (fitE (tm h0 A k) (gi h0 (A + 4) k) (rws h0 P (gi h0 (A + 3) k)) (rsz h0 P (gi h0 (A + 3) k)) v) (Classical.propDecidable _) [] [v] := by
      show (if gi h0 (A + 2) k = 0 then _ else if gi h0 (A + 2) k = 1 then _ else _) = _
      rw [if_neg (by omega), if_pos s1]
      rfl
    refine ⟨fun hf => ?_, fun hf => ?_⟩
    · rw [@if_pos _ (Classical.propDecidable _) (hiff.mp hf)] at ho
      exact ⟨hempty k v h h2 k0 kN ho (fun l hl hs => (z2 l hl hs).1 rfl) m4 z1, mQ⟩
    · rw [@if_neg _ (Classical.propDecidable _) (fun z => hf (hiff.mpr z))] at ho
      have hb := habs k k0 kN
      rw [if_neg (by omega)] at hb
      exact ⟨⟨⟨⟨l, hl, (z2 l hl hs).1 rfl⟩, fun w hw => m2 w (by rw [hbn k v k0 kN, ho]; simpa using hw), z1, by omega, by omega⟩, PLc_1 (by omega) mP⟩, fun h' _ _ hp => ⟨hsingle k v v h h2 h' k0 kN ho (fun l hl hs => (z2 l hl hs).1 rfl) m4 hp.1, PLq_s mQ hp.2⟩⟩
  case hN2 =>
    rintro k v h h2 k0 kN s1 J2 va2 Jv ⟨⟨-, ⟨l, hl, hs⟩, m2, m3, m4, m5, m6, -⟩, mP, mQ⟩ -
    obtain ⟨z1, z2⟩ := m6 kN
    clear m6
    have ho : opt (cR h0 A) (cW h0 P) k v = if cmpb (gi h0 (A + 3) k) (tv v (tm h0 A k 0)) (tv v (tm h0 A k 1)) = true then [v] else [] := by
      show (if gi h0 (A + 2) k = 0 then _ else if gi h0 (A + 2) k = 1 then _ else if gi h0 (A + 2) k = 2 then _ else _) = _
      rw [if_neg (by omega), if_neg (by omega), if_pos s1]
      rfl
    refine ⟨fun hf => ?_, fun hf => ?_⟩
    · rw [if_neg (by rw [hf]; decide)] at ho
      exact ⟨hempty k v h h2 k0 kN ho (fun l hl hs => (z2 l hl hs).1 rfl) m4 z1, mQ⟩
    · rw [if_pos hf] at ho
      have hb := habs k k0 kN
      rw [if_neg (by omega)] at hb
      exact ⟨⟨⟨⟨l, hl, (z2 l hl hs).1 rfl⟩, fun w hw => m2 w (by rw [hbn k v k0 kN, ho]; simpa using hw), z1, by omega, by omega⟩, PLc_1 (by omega) mP⟩, fun h' _ _ hp => ⟨hsingle k v v h h2 h' k0 kN ho (fun l hl hs => (z2 l hl hs).1 rfl) m4 hp.1, PLq_s mQ hp.2⟩⟩
  case hM =>
    rintro k v h h2 k0 kN s1 J2 va2 Jv ⟨⟨-, ⟨l, hl, hs⟩, m2, m3, m4, m5, m6, -⟩, mP, mQ⟩ -
    obtain ⟨z1, z2⟩ := m6 kN
    clear m6
    have ho : opt (cR h0 A) (cW h0 P) k v = if v (slot (tm h0 A k 2)) = -1 then [upd1 v (slot (tm h0 A k 2)) (rck (gi h0 (A + 3) k) (tv v (tm h0 A k 0)) (tv v (tm h0 A k 1)))] else if v (slot (tm h0 A k 2)) = rck (gi h0 (A + 3) k) (tv v (tm h0 A k 0)) (tv v (tm h0 A k 1)) then [v] else [] := by
      show (if gi h0 (A + 2) k = 0 then _ else if gi h0 (A + 2) k = 1 then _ else if gi h0 (A + 2) k = 2 then _ else _) = _
      rw [if_neg (by omega), if_neg (by omega), if_neg (by omega)]
      rfl
    have hb := habs k k0 kN
    rw [if_neg (by omega)] at hb
    refine ⟨fun c1 => ?_, fun c1 c2 => ?_, fun c1 c2 => ?_⟩
    · rw [if_pos c1] at ho
      have hw := lev_upd (x := rck (gi h0 (A + 3) k) (tv v (tm h0 A k 0)) (tv v (tm h0 A k 1))) c1
      generalize upd1 v (slot (tm h0 A k 2)) (rck (gi h0 (A + 3) k) (tv v (tm h0 A k 0)) (tv v (tm h0 A k 1))) = w at *
      have q : Jq P h2 (sv h2 138 w) := Jq_v
      have e2 : gi (sv h2 138 w) 137 2 = gi h2 137 2 := gi_svn (by decide)
      refine ⟨⟨⟨⟨l, hl, HQ _ _ _ ((z2 l hl hs).1 rfl) q⟩, fun x hx => m2 x (by rw [hbn k v k0 kN, ho]; simpa using hx), by rw [gi_svn (by decide)]; exact z1, by omega, by omega⟩, PLc_q (PLc_1 (by omega) (PLc_l mP Jv hw)) (fun j _ _ => gi_svn (by decide))⟩, fun h' _ hp => ⟨?_, fun j j0 j1 => by rw [gi_svn (by decide), hp.2 j j0 (by omega), gi_svn (by decide)]; exact mQ j j0 j1⟩⟩
      exact hfin k v h h' _ Jq_v (fun i => gi_svn (by decide)) (hsingle k v w h (sv h2 138 w) h' k0 kN ho (fun l hl hs => HQ _ _ _ ((z2 l hl hs).1 rfl) q) (by omega) hp.1)
    · rw [if_neg c1, if_pos c2] at ho
      exact ⟨⟨⟨⟨l, hl, (z2 l hl hs).1 rfl⟩, fun w hw => m2 w (by rw [hbn k v k0 kN, ho]; simpa using hw), z1, by omega, by omega⟩, PLc_1 (by omega) mP⟩, fun h' _ _ hp => ⟨hsingle k v v h h2 h' k0 kN ho (fun l hl hs => (z2 l hl hs).1 rfl) m4 hp.1, PLq_s mQ hp.2⟩⟩
    · rw [if_neg c1, if_neg c2] at ho
      exact ⟨hempty k v h h2 k0 kN ho (fun l hl hs => (z2 l hl hs).1 rfl) m4 z1, mQ⟩
  case hL0 =>
    rintro k v h h2 k0 kN s1 J2 va2 Jv ⟨⟨-, m1, m2, m3, m4, m5, m6, -⟩, mP, mQ⟩ -
    obtain ⟨z1, z2⟩ := m6 kN
    clear m6
    refine ⟨⟨m1, m2, m3, m5, by omega, by rw [Int.zero_mul]; omega, (frC_e hrw hru m3).1 _, fun l hl hs => Or.inl ⟨?_, z1⟩⟩, mP, mQ⟩
    show St (l ++ []) h2
    rw [List.append_nil]
    exact (z2 l hl hs).1 rfl
  case hLt =>
    rintro k v h h2 p hh w k0 kN s1 Jh vah Jv p0 pE ⟨⟨⟨l, hl, hs⟩, l2, l3, l4, l5, l6, l7, l8⟩, lP, lQ⟩ hst' hvis hba hrep
    have hr := hsub k k0 kN (Or.inl s1)
    obtain ⟨e1, e2, -, -, -⟩ := frC_e hrw hru l3
    rw [l7] at pE
    obtain ⟨-, o2⟩ := frC_one hrw hru l3 ⟨k0, kN⟩ s1 hr hst hrd hna hAW ⟨p0, pE⟩
    rw [e2 _ p hr.1 hr.2] at hba
    have hone := one_some (c := rws h0 P (gi h0 (A + 3) k)) (fun z => hrep (o2.mpr z)) hba
    have hop : opA (tm h0 A k) (gi h0 (A + 4) k) (rws h0 P (gi h0 (A + 3) k)) v (p + 1).toNat = opA (tm h0 A k) (gi h0 (A + 4) k) (rws h0 P (gi h0 (A + 3) k)) v p.toNat ++ [w] := by
      rw [show (p + 1).toNat = p.toNat + 1 by omega, opA_s, show ((p.toNat : Nat) : Int) = p by omega, hone]
    have ho : opt (cR h0 A) (cW h0 P) k v = opA (tm h0 A k) (gi h0 (A + 4) k) (rws h0 P (gi h0 (A + 3) k)) v (rsz h0 P (gi h0 (A + 3) k)).toNat := by
      show (if gi h0 (A + 2) k = 0 then _ else _) = _
      rw [if_pos s1]
      rfl
    have hX : ∀ x, x ∈ (opA (tm h0 A k) (gi h0 (A + 4) k) (rws h0 P (gi h0 (A + 3) k)) v (p + 1).toNat).flatMap (fun w => bnd (cR h0 A) (cW h0 P) (N - (k + 1)).toNat (k + 1) w) → x ∈ B := by
      intro x hx
      refine l2 x ?_
      obtain ⟨r, hrr⟩ := opA_pre (tm h0 A k) (gi h0 (A + 4) k) (rws h0 P (gi h0 (A + 3) k)) v (p := (p + 1).toNat) (q := (rsz h0 P (gi h0 (A + 3) k)).toNat) (by omega)
      rw [hbn k v k0 kN, ho, hrr, List.flatMap_append]
      exact List.mem_append_left _ hx
    have q : Jq P hh (si (sv hh 138 w) 139 k p) := Jq_tr Jq_v Jq_p
    have eX : ∀ i, gi (si (sv hh 138 w) 139 k p) 137 i = gi hh 137 i := fun i => by rw [gi_sin (by decide), gi_svn (by decide)]
    have e22 := eX 2
    have h32 := Jh.2.2.2.2.2.2.2.2.2.2.2.1 _ hr.1 hr.2
    rw [e1] at h32
    have hb := habs k k0 kN
    rw [if_pos s1] at hb
    have hmul : (p + 1) * abf (cR h0 A) (N - (k + 1)).toNat (k + 1) = p * abf (cR h0 A) (N - (k + 1)).toNat (k + 1) + abf (cR h0 A) (N - (k + 1)).toNat (k + 1) := by rw [Int.add_mul, Int.one_mul]
    have hap := habp (N - (k + 1)).toNat (k + 1)
    have hmle : (p + 1) * abf (cR h0 A) (N - (k + 1)).toNat (k + 1) ≤ 32 * abf (cR h0 A) (N - (k + 1)).toNat (k + 1) := Int.mul_le_mul_of_nonneg_right (by omega) (by omega)
    have hlt : ∀ l, (∀ w, w ∈ l → w ∈ B) → St l h → St (l ++ (opA (tm h0 A k) (gi h0 (A + 4) k) (rws h0 P (gi h0 (A + 3) k)) v p.toNat).flatMap (fun w => bnd (cR h0 A) (cW h0 P) (N - (k + 1)).toNat (k + 1) w)) hh ∧ ∀ x, x ∈ l ++ (opA (tm h0 A k) (gi h0 (A + 4) k) (rws h0 P (gi h0 (A + 3) k)) v p.toNat).flatMap (fun w => bnd (cR h0 A) (cW h0 P) (N - (k + 1)).toNat (k + 1) w) → x ∈ B := by
      intro l hl hs
      refine ⟨((l8 l hl hs).resolve_right (fun y => y.2 hst')).1, fun x hx => ?_⟩
      rcases List.mem_append.mp hx with y | y
      · exact hl x y
      · exact hX x (by rw [hop, List.flatMap_append]; exact List.mem_append_left _ y)
    have hrow := Jh.2.2.2.2.2.2.2.2.2.2.2.2 _ p hr.1 hr.2 p0 (by rw [e1]; exact pE)
    rw [e2 _ p hr.1 hr.2] at hrow
    have hw3 : 0 ≤ gi h0 (A + 4) k ∧ gi h0 (A + 4) k ≤ 3 := by
      rcases W.2.2.2.2 k k0 kN with z | z | z
      · exact z.2.2
      · omega
      · omega
    have hPk : PLc h0 A P (k + 1) w (si (sv hh 138 w) 139 k p) := fun j j0 j1 j2 => by
      by_cases e : j = k
      · subst e
        rw [gi_sis]
        exact ⟨⟨p0, pE⟩, fun i i0 i1 => bA_tv hrow.1 Jv.1 (fun x x0 x1 => hsh j j0 kN s1 x x0 (by omega)) hba i i0 (by omega)⟩
      · rw [gi_sij e, gi_svn (by decide)]
        exact (PLc_l lP Jv (bA_nv Jv.1 hba).2) j j0 (by omega) j2
    refine ⟨⟨⟨⟨_, (hlt l hl hs).2, HQ _ _ _ (hlt l hl hs).1 q⟩, fun x hx => hX x (by rw [hop, List.flatMap_append]; exact List.mem_append_right _ (by simpa using hx)), by rw [eX]; exact hst', by omega, by omega⟩, hPk⟩, fun h' J' ⟨⟨q1, q2⟩, qP⟩ => ?_⟩
    have hQk : ∀ j, 0 ≤ j → j < k → gi (sv h' 138 v) 139 j = gi hh 139 j := fun j j0 j1 => by
      rw [gi_svn (by decide), qP j j0 (by omega), gi_sij (by omega), gi_svn (by decide)]
    have qY : Jq P h' (sv h' 138 v) := Jq_v
    have eY : ∀ i, gi (sv h' 138 v) 137 i = gi h' 137 i := fun i => gi_svn (by decide)
    have eY2 := eY 2
    have hfin2 : ∀ l, (∀ w, w ∈ l → w ∈ B) → St l h → ((St (l ++ (opA (tm h0 A k) (gi h0 (A + 4) k) (rws h0 P (gi h0 (A + 3) k)) v (p + 1).toNat).flatMap (fun w => bnd (cR h0 A) (cW h0 P) (N - (k + 1)).toNat (k + 1) w)) (sv h' 138 v) ∧ gi (sv h' 138 v) 137 5 = 0) ∨ (Bad (sv h' 138 v) ∧ gi (sv h' 138 v) 137 5 ≠ 0)) := by
      intro l hl hs
      rw [eY]
      have := q2 _ (hlt l hl hs).2 (HQ _ _ _ (hlt l hl hs).1 q)
      rcases this with ⟨z1, z2⟩ | ⟨z1, z2⟩
      · refine Or.inl ⟨HQ _ _ _ ?_ qY, z2⟩
        rw [hop, List.flatMap_append, ← List.append_assoc]
        simpa using z1
      · exact Or.inr ⟨BQ _ _ z1 qY, z2⟩
    have fY : frC h0 (sv h' 138 v) := by
      rcases hfin2 l hl hs with z | z
      · exact HF _ _ z.1
      · exact BF _ z.1
    exact ⟨⟨⟨l, hl, hs⟩, l2, fY, l4, by omega, by omega, l7, hfin2⟩, PLc_q lP hQk, fun j j0 j1 => (hQk j j0 j1).trans (lQ j j0 j1)⟩
  case hLf =>
    rintro k v h h2 p hh z k0 kN s1 Jh vah Jv p0 pE ⟨⟨l1, l2, l3, l4, l5, l6, l7, l8⟩, lP, lQ⟩ hst' hno
    have hr := hsub k k0 kN (Or.inl s1)
    obtain ⟨e1, e2, -, -, -⟩ := frC_e hrw hru l3
    rw [l7] at pE
    obtain ⟨o1, o2⟩ := frC_one hrw hru l3 ⟨k0, kN⟩ s1 hr hst hrd hna hAW ⟨p0, pE⟩
    rw [e2 _ p hr.1 hr.2] at hno
    have hone : one (tm h0 A k) (gi h0 (A + 4) k) (rws h0 P (gi h0 (A + 3) k)) v p = [] := by
      refine one_none ?_
      by_cases c1 : ∃ e, 0 ≤ e ∧ e < p ∧ alike (tm h0 A k) (gi h0 (A + 4) k) (rws h0 P (gi h0 (A + 3) k) e) (rws h0 P (gi h0 (A + 3) k) p)
      · exact Or.inl c1
      · right
        cases hb : bA (tm h0 A k) (rws h0 P (gi h0 (A + 3) k) p) (gi h0 (A + 4) k).toNat 0 v with
        | none => rfl
        | some u => exact absurd ⟨o1, ⟨u, hb⟩, fun z => c1 (o2.mp z)⟩ hno
    have hop : opA (tm h0 A k) (gi h0 (A + 4) k) (rws h0 P (gi h0 (A + 3) k)) v (p + 1).toNat = opA (tm h0 A k) (gi h0 (A + 4) k) (rws h0 P (gi h0 (A + 3) k)) v p.toNat := by
      rw [show (p + 1).toNat = p.toNat + 1 by omega, opA_s, show ((p.toNat : Nat) : Int) = p by omega, hone, List.append_nil]
    have q : Jq P hh (si hh 139 k z) := Jq_p
    have eY : ∀ i, gi (si hh 139 k z) 137 i = gi hh 137 i := fun i => gi_sin (by decide)
    have eY2 := eY 2
    have hmul : (p + 1) * abf (cR h0 A) (N - (k + 1)).toNat (k + 1) = p * abf (cR h0 A) (N - (k + 1)).toNat (k + 1) + abf (cR h0 A) (N - (k + 1)).toNat (k + 1) := by rw [Int.add_mul, Int.one_mul]
    have hap := habp (N - (k + 1)).toNat (k + 1)
    refine ⟨⟨l1, l2, frC_trans l3 (frC_q q), l4, by omega, by omega, l7, fun l hl hs => ?_⟩, PLc_q lP (fun j _ j1 => gi_sij (by omega)), fun j j0 j1 => by rw [gi_sij (by omega)]; exact lQ j j0 j1⟩
    rw [hop, eY]
    rcases l8 l hl hs with ⟨z1, z2⟩ | ⟨z1, z2⟩
    · exact Or.inl ⟨HQ _ _ _ z1 q, z2⟩
    · exact Or.inr ⟨BQ _ _ z1 q, z2⟩
  case hLe =>
    rintro k v h h2 p hh k0 kN s1 Jh vah ⟨⟨l1, l2, l3, l4, l5, l6, l7, l8⟩, lP, lQ⟩ p0 pE hend
    have hr := hsub k k0 kN (Or.inl s1)
    obtain ⟨e1, e2, -, -, -⟩ := frC_e hrw hru l3
    rw [l7] at pE hend
    have h32 := Jh.2.2.2.2.2.2.2.2.2.2.2.1 _ hr.1 hr.2
    rw [e1] at h32
    have hb := habs k k0 kN
    rw [if_pos s1] at hb
    have hap := habp (N - (k + 1)).toNat (k + 1)
    have hmle : p * abf (cR h0 A) (N - (k + 1)).toNat (k + 1) ≤ 32 * abf (cR h0 A) (N - (k + 1)).toNat (k + 1) := Int.mul_le_mul_of_nonneg_right (by omega) (by omega)
    have ho : opt (cR h0 A) (cW h0 P) k v = opA (tm h0 A k) (gi h0 (A + 4) k) (rws h0 P (gi h0 (A + 3) k)) v (rsz h0 P (gi h0 (A + 3) k)).toNat := by
      show (if gi h0 (A + 2) k = 0 then _ else _) = _
      rw [if_pos s1]
      rfl
    refine ⟨⟨⟨by omega, by omega⟩, fun l hl hs => ?_⟩, lQ⟩
    rcases l8 l hl hs with ⟨z1, z2⟩ | z
    · refine Or.inl ⟨?_, z2⟩
      have ep : p = rsz h0 P (gi h0 (A + 3) k) := by
        rcases hend with y | y
        · exact y
        · exact absurd z2 y
      rw [hbn k v k0 kN, ho, ← ep]
      exact z1
    · exact Or.inr z
  obtain ⟨h', r1, r2, r3, r4, r5, r6, r7⟩ := key N.toNat d 0 v h (by omega) (by omega) (by omega) J hva hv ⟨⟨⟨[], (fun w hw => nomatch hw), hS⟩, by rw [show (N - 0).toNat = N.toNat by omega]; exact hB, h5, by omega, by rw [show (N - 0).toNat = N.toNat by omega]; omega⟩, fun j j0 j1 => by omega⟩ (by omega) (by
    have : bb ((N.toNat : Nat) : Int) ≤ 1048576 := by
      unfold bb
      have h1 : 32 ^ ((N.toNat : Nat) : Int).toNat ≤ 32 ^ 4 := Nat.pow_le_pow_right (by omega) (by omega)
      omega
    omega)
  rw [show (N - 0).toNat = N.toNat by omega] at r7
  exact ⟨h', r1, r3, r7.1.2 [] (fun w hw => nomatch hw) hS⟩
end LSP
