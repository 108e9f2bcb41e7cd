/-! BINDINGS OF A RULE, as lists; and the joiner that none looks on -/
abbrev mR : Type := (Int → Int) × (Int → Int) × (Int → Int) × (Int → Int → Int)
abbrev mW : Type := (Int → Int) × (Int → Int → Int)
/-- what the p-th row makes of v, if no row ahead of it is like it -/
noncomputable def one (t : Int → Int) (w : Int) (c : Int → Int) (v : mA) (p : Int) : List mA := @ite _ (∃ e, 0 ≤ e ∧ e < p ∧ alike t w (c e) (c p)) (Classical.propDecidable _) [] (bA t (c p) w.toNat 0 v).toList
noncomputable def opA (t : Int → Int) (w : Int) (c : Int → Int) (v : mA) (n : Nat) : List mA := (List.range n).flatMap (fun p : Nat => one t w c v (p : Int))
theorem opA_s (t : Int → Int) (w : Int) (c : Int → Int) (v : mA) (n : Nat) : opA t w c v (n + 1) = opA t w c v n ++ one t w c v n := by
  unfold opA
  rw [List.range_succ, List.flatMap_append]
  simp
def fitE (t : Int → Int) (w : Int) (c : Int → Int) (n : Int) (v : mA) : Prop := ∃ p, 0 ≤ p ∧ p < n ∧ fitb t w.toNat v (c p)
/-- what literal k makes of v -/
noncomputable def opt (ρ : mR) (ω : mW) (k : Int) (v : mA) : List mA :=
  if ρ.1 k = 0 then opA (ρ.2.2.2 k) (ρ.2.2.1 k) (ω.2 (ρ.2.1 k)) v (ω.1 (ρ.2.1 k)).toNat
  else if ρ.1 k = 1 then @ite _ (fitE (ρ.2.2.2 k) (ρ.2.2.1 k) (ω.2 (ρ.2.1 k)) (ω.1 (ρ.2.1 k)) v) (Classical.propDecidable _) [] [v]
  else if ρ.1 k = 2 then (if cmpb (ρ.2.1 k) (tv v (ρ.2.2.2 k 0)) (tv v (ρ.2.2.2 k 1)) = true then [v] else [])
  else if v (slot (ρ.2.2.2 k 2)) = -1 then [upd1 v (slot (ρ.2.2.2 k 2)) (rck (ρ.2.1 k) (tv v (ρ.2.2.2 k 0)) (tv v (ρ.2.2.2 k 1)))]
  else if v (slot (ρ.2.2.2 k 2)) = rck (ρ.2.1 k) (tv v (ρ.2.2.2 k 0)) (tv v (ρ.2.2.2 k 1)) then [v] else []
/-- all bindings of the n literals from the k-th on -/
noncomputable def bnd (ρ : mR) (ω : mW) : Nat → Int → mA → List mA
  | 0, _, v => [v]
  | n + 1, k, v => (opt ρ ω k v).flatMap (fun w => bnd ρ ω n (k + 1) w)
def mx (a b : Int) : Int := if a < b then b else a
/-- how far the literals hold -/
noncomputable def dpth (ρ : mR) (ω : mW) : Nat → Int → mA → Int
  | 0, k, _ => k
  | n + 1, k, v => ((opt ρ ω k v).map (fun w => dpth ρ ω n (k + 1) w)).foldl mx k
theorem mx_a (a b c : Int) : mx (mx a b) c = mx a (mx b c) := by
  unfold mx
  repeat' split
  all_goals omega
theorem foldl_mx (l : List Int) (a b : Int) : l.foldl mx (mx a b) = mx a (l.foldl mx b) := by
  induction l generalizing b with
  | nil => rfl
  | cons x l ih => rw [List.foldl_cons, List.foldl_cons, mx_a, ih]
theorem foldl_mx_le (l : List Int) (a n : Int) (ha : a ≤ n) (h : ∀ x ∈ l, x ≤ n) : l.foldl mx a ≤ n := by
  induction l generalizing a with
  | nil => exact ha
  | cons x l ih =>
    rw [List.foldl_cons]
    refine ih _ ?_ (fun y hy => h y (List.mem_cons_of_mem _ hy))
    have := h x List.mem_cons_self
    unfold mx
    split <;> omega
theorem foldl_mx_ge (l : List Int) (a : Int) : a ≤ l.foldl mx a := by
  induction l generalizing a with
  | nil => exact Int.le_refl _
  | cons x l ih =>
    rw [List.foldl_cons]
    refine Int.le_trans ?_ (ih _)
    unfold mx
    split <;> omega
theorem foldl_mx_mem (l : List Int) (a x : Int) (h : x ∈ l) : x ≤ l.foldl mx a := by
  induction l generalizing a with
  | nil => cases h
  | cons y l ih =>
    rw [List.foldl_cons]
    rcases List.mem_cons.mp h with rfl | h
    · refine Int.le_trans ?_ (foldl_mx_ge l _)
      unfold mx
      split <;> omega
    · exact ih _ h
theorem dpth_le (ρ : mR) (ω : mW) : ∀ (n : Nat) (k : Int) (v : mA), k ≤ dpth ρ ω n k v ∧ dpth ρ ω n k v ≤ k + n
  | 0, k, v => ⟨Int.le_refl _, by show k ≤ k + 0; omega⟩
  | n + 1, k, v => by
    refine ⟨foldl_mx_ge _ _, foldl_mx_le _ _ _ (by omega) (fun x hx => ?_)⟩
    obtain ⟨w, -, rfl⟩ := List.mem_map.mp hx
    have := (dpth_le ρ ω n (k + 1) w).2
    omega
/-- where there is a binding, all literals hold -/
theorem dpth_full (ρ : mR) (ω : mW) : ∀ (n : Nat) (k : Int) (v : mA), bnd ρ ω n k v ≠ [] → dpth ρ ω n k v = k + n
  | 0, k, v, _ => by show k = k + 0; omega
  | n + 1, k, v, h => by
    have h1 := (dpth_le ρ ω (n + 1) k v).2
    obtain ⟨u, hu⟩ := List.exists_mem_of_ne_nil _ h
    obtain ⟨w, hw, hb⟩ := List.mem_flatMap.mp hu
    have h2 := dpth_full ρ ω n (k + 1) w (List.ne_nil_of_mem hb)
    have h3 : dpth ρ ω n (k + 1) w ≤ dpth ρ ω (n + 1) k v := foldl_mx_mem _ _ _ (List.mem_map.mpr ⟨w, hw, rfl⟩)
    omega
/-- the class's rule and rows -/
def cR (h : dm_H) (A : Nat) : mR := (gi h (A + 2), gi h (A + 3), gi h (A + 4), fun k => tm h A k)
def cW (h : dm_H) (P : Nat) : mW := (rsz h P, rws h P)
/-- rows are told apart by their first w columns -/
def dst (c : Int → Int) (n w : Int) : Prop := ∀ e p, 0 ≤ e → e < p → p < n → ∃ i, 0 ≤ i ∧ i < w ∧ cv i (c e) ≠ cv i (c p)
/-- all rows were there from the first round on -/
def still (h : dm_H) (P : Nat) : Prop := ∀ r p, 0 ≤ r → r < 6 → 0 ≤ p → p < rsz h P r → rst h P r p = 0
/-- atoms know whether they have ANY, and rows are told apart -/
def AW (h : dm_H) (A P : Nat) (N : Int) : Prop := ∀ k, 0 ≤ k → k < N → gi h (A + 2) k = 0 → (gi h (A + 6) k = 0 → ∀ i, 0 ≤ i → i < gi h (A + 4) k → tm h A k i ≠ -1) ∧ dst (rws h P (gi h (A + 3) k)) (rsz h P (gi h (A + 3) k)) (gi h (A + 4) k)
/-- the same counts of cells -/
def same2 (h h' : dm_H) : Prop := h'.2.2 = h.2.2
/-- counts stop at M -/
def cnt (M b L b' st : Int) : Prop := (b + L < M → b' = b + L ∧ st = 0) ∧ (M ≤ b + L → b' = M ∧ st = 1)
theorem opA_pre (t : Int → Int) (w : Int) (c : Int → Int) (v : mA) {p q : Nat} (h : p ≤ q) : ∃ l, opA t w c v q = opA t w c v p ++ l := by
  induction q with
  | zero => exact ⟨[], by rw [show p = 0 by omega]; simp⟩
  | succ q ih =>
    by_cases e : p = q + 1
    · exact ⟨[], by rw [e]; simp⟩
    · obtain ⟨l, hl⟩ := ih (by omega)
      exact ⟨l ++ one t w c v q, by rw [opA_s, hl, List.append_assoc]⟩
theorem one_some {t : Int → Int} {w : Int} {c : Int → Int} {v u : mA} {p : Int} (h1 : ¬ ∃ e, 0 ≤ e ∧ e < p ∧ alike t w (c e) (c p)) (h2 : bA t (c p) w.toNat 0 v = some u) : one t w c v p = [u] := by
  unfold one
  rw [@if_neg _ (Classical.propDecidable _) h1, h2]
  rfl
theorem one_none {t : Int → Int} {w : Int} {c : Int → Int} {v : mA} {p : Int} (h : (∃ e, 0 ≤ e ∧ e < p ∧ alike t w (c e) (c p)) ∨ bA t (c p) w.toNat 0 v = none) : one t w c v p = [] := by
  unfold one
  by_cases h1 : ∃ e, 0 ≤ e ∧ e < p ∧ alike t w (c e) (c p)
  · rw [@if_pos _ (Classical.propDecidable _) h1]
  · rw [@if_neg _ (Classical.propDecidable _) h1]
    rcases h with h | h
    · exact absurd h h1
    · rw [h]; rfl
/-- what of a row of the joiner's counts: with no window, and rows told apart -/
theorem still_one {h : dm_H} {A P : Nat} {N k p : Int} (hk : 0 ≤ k ∧ k < N) (hs : gi h (A + 2) k = 0) (hr : 0 ≤ gi h (A + 3) k ∧ gi h (A + 3) k < 6) (hst : still h P) (hrd : gi h 137 9 = 0) (hna : gi h 137 10 = -1) (hAW : AW h A P N) (hp : 0 ≤ p ∧ p < rsz h P (gi h (A + 3) k)) :
    vis h P k (gi h (A + 3) k) p ∧ (rep h A P k (gi h (A + 3) k) (gi h (A + 4) k) p ↔ ∃ e, 0 ≤ e ∧ e < p ∧ alike (tm h A k) (gi h (A + 4) k) (rws h P (gi h (A + 3) k) e) (rws h P (gi h (A + 3) k) p)) := by
  have hv : ∀ e, 0 ≤ e → e < rsz h P (gi h (A + 3) k) → vis h P k (gi h (A + 3) k) e := by
    intro e e0 e1
    unfold vis wLo wHi
    rw [hst _ e hr.1 hr.2 e0 e1, hrd, hna, if_neg (by omega), if_neg (by omega)]
    omega
  obtain ⟨a1, a2⟩ := hAW k hk.1 hk.2 hs
  refine ⟨hv p hp.1 hp.2, ⟨?_, ?_⟩⟩
  · rintro ⟨-, e, e0, e1, -, e2⟩
    exact ⟨e, e0, e1, e2⟩
  · rintro ⟨e, e0, e1, e2⟩
    refine ⟨fun hy => ?_, e, e0, e1, hv e e0 (by omega), e2⟩
    obtain ⟨i, i0, i1, i2⟩ := a2 e p e0 e1 hp.2
    rcases e2 i i0 i1 with q | q
    · exact a1 hy i i0 i1 q
    · exact i2 q
section NUL
variable {A P V : Nat} {N M : Int} {h0 : dm_H}
/-- states of the joiner, where rows stay as they are -/
def Jq (P : Nat) (h0 h : dm_H) : Prop := eqx h0 h ∧ same2 h0 h
theorem Jq_e {h : dm_H} (hp : rw_ P) (hr : ru A) (k : Jq P h0 h) : (∀ r, rsz h P r = rsz h0 P r) ∧ (∀ r p, 0 ≤ r → r < 6 → rws h P r p = rws h0 P r p) ∧ (∀ r p, 0 ≤ r → r < 6 → rst h P r p = rst h0 P r p) ∧ (∀ j, j ≤ 6 → ∀ i, gi h (A + j) i = gi h0 (A + j) i) ∧ ∀ i, ¬ (i = 2 ∨ i = 3 ∨ i = 5) → gi h 137 i = gi h0 137 i := by
  have hA := ru_ne hr
  have hlo : ∀ a, a < 137 → ∀ i, gi h a i = gi h0 a i := fun a ha i => k.1.1 a i (by omega) (by omega) (by omega)
  unfold rw_ at hp
  exact ⟨fun r => hlo _ (by omega) _, fun r p q1 q2 => hlo _ (by omega) _, fun r p q1 q2 => hlo _ (by omega) _, fun j hj i => hlo _ (by omega) i, fun i hi => k.1.1 137 i (by omega) (by omega) (fun q => hi q.2)⟩
/-- rule and rows are those of h0: what the joiner sees at a row -/
theorem Jq_one {h : dm_H} {k p : Int} (hp : rw_ P) (hr : ru A) (q : Jq P h0 h) (hk : 0 ≤ k ∧ k < N) (hs : gi h0 (A + 2) k = 0) (hr6 : 0 ≤ gi h0 (A + 3) k ∧ gi h0 (A + 3) k < 6) (hst : still h0 P) (hrd : gi h0 137 9 = 0) (hna : gi h0 137 10 = -1) (hAW : AW h0 A P N) (hpp : 0 ≤ p ∧ p < rsz h0 P (gi h0 (A + 3) k)) :
    vis h P k (gi h0 (A + 3) k) p ∧ (rep h A P k (gi h0 (A + 3) k) (gi h0 (A + 4) k) p ↔ ∃ e, 0 ≤ e ∧ e < p ∧ alike (tm h0 A k) (gi h0 (A + 4) k) (rws h0 P (gi h0 (A + 3) k) e) (rws h0 P (gi h0 (A + 3) k) p)) := by
  obtain ⟨e1, e2, e3, e4, e5⟩ := Jq_e hp hr q
  obtain ⟨a1, a2⟩ := still_one hk hs hr6 hst hrd hna hAW hpp
  have hlo : wLo h k = wLo h0 k ∧ wHi h k = wHi h0 k := by
    unfold wLo wHi
    rw [e5 9 (by omega), e5 10 (by omega)]
    exact ⟨rfl, rfl⟩
  have ht : tm h A k = tm h0 A k := by
    funext i
    exact e4 5 (by omega) _
  have hv : ∀ e, vis h P k (gi h0 (A + 3) k) e ↔ vis h0 P k (gi h0 (A + 3) k) e := by
    intro e
    unfold vis
    rw [hlo.1, hlo.2, e3 _ e hr6.1 hr6.2]
  refine ⟨(hv p).mpr a1, ?_⟩
  rw [← a2]
  unfold rep
  rw [e4 6 (by omega), ht, e2 _ p hr6.1 hr6.2]
  constructor
  · rintro ⟨b1, e, b2, b3, b4, b5⟩
    rw [e2 _ e hr6.1 hr6.2] at b5
    exact ⟨b1, e, b2, b3, (hv e).mp b4, b5⟩
  · rintro ⟨b1, e, b2, b3, b4, b5⟩
    refine ⟨b1, e, b2, b3, (hv e).mpr b4, ?_⟩
    rw [e2 _ e hr6.1 hr6.2]
    exact b5
theorem cnt_0 {M b : Int} (h : b < M) : cnt M b 0 b 0 := ⟨fun _ => ⟨by omega, rfl⟩, fun q => by omega⟩
theorem cnt_add {M b L1 L2 b1 b2 st2 : Int} (h1 : cnt M b L1 b1 0) (h2 : cnt M b1 L2 b2 st2) (hL : 0 ≤ L2) : cnt M b (L1 + L2) b2 st2 := by
  have q : b + L1 < M := by
    rcases Int.lt_or_le (b + L1) M with q | q
    · exact q
    · have := (h1.2 q).2; omega
  have e := (h1.1 q).1
  exact ⟨fun z => by have := h2.1 (by omega); omega, fun z => by have := h2.2 (by omega); omega⟩
theorem nul_step (W : SW A P N 0 h0) (hst : still h0 P) (hAW : AW h0 A P N) (J0 : Js A P 0 N 0 (-1) h0 h0) (hM : gi h0 137 4 = M) (hb0 : gi h0 137 2 = 0) (hs0 : gi h0 137 5 = 0) (hd0 : gi h0 137 3 = 0) (hM1 : 1 ≤ M) {v : mA} (hva : va h0 138 = v) (hv : nv v ∧ vr v) {d : Nat} (hd : 8 ≤ d) :
    ∃ h', dF d 22 [dR 1 5 137, dI 0] h0 = rV h' ∧ Jq P h0 h' ∧ va h' 138 = v ∧ cnt M 0 (bnd (cR h0 A) (cW h0 P) N.toNat 0 v).length (gi h' 137 2) (gi h' 137 5) ∧ gi h' 137 3 = dpth (cR h0 A) (cW h0 P) N.toNat 0 v := by
  have hru := W.1
  have hrw := W.2.1
  have hN4 := W.2.2.1
  have hrd := J0.2.2.2.2.2.2.2.2.2.1
  have hna := J0.2.2.2.2.2.2.2.2.2.2.1
  have hdp : ∀ h k, Jq P h0 h → Jq P h0 (dpt h k) := fun h k q => ⟨eqx_trans q.1 (eqx_j (Or.inr (Or.inl rfl))), q.2⟩
  have hd2 : ∀ h k, gi (dpt h k) 137 2 = gi h 137 2 := fun h k => by unfold dpt; rw [gi_sij (by omega)]
  have hd5 : ∀ h k, gi (dpt h k) 137 5 = gi h 137 5 := fun h k => by unfold dpt; rw [gi_sij (by omega)]
  have hd4 : ∀ h k, gi (dpt h k) 137 4 = gi h 137 4 := fun h k => by unfold dpt; rw [gi_sij (by omega)]
  have hd3 : ∀ h k, gi (dpt h k) 137 3 = mx (gi h 137 3) k := fun h k => by unfold dpt; rw [gi_sis]; rfl
  have hmxN : ∀ {a b : Int}, a ≤ N → b ≤ N → mx a b ≤ N := by
    intro a b h1 h2
    unfold mx
    split <;> omega
  have hbn : ∀ k v, 0 ≤ k → k < N → bnd (cR h0 A) (cW h0 P) (N - k).toNat k v = (opt (cR h0 A) (cW h0 P) k v).flatMap (fun w => bnd (cR h0 A) (cW h0 P) (N - k - 1).toNat (k + 1) w) := by
    intro k v h1 h2
    rw [show (N - k).toNat = (N - k - 1).toNat + 1 by omega]
    rfl
  have hdn : ∀ k v, 0 ≤ k → k < N → dpth (cR h0 A) (cW h0 P) (N - k).toNat k v = ((opt (cR h0 A) (cW h0 P) k v).map (fun w => dpth (cR h0 A) (cW h0 P) (N - k - 1).toNat (k + 1) w)).foldl mx k := by
    intro k v h1 h2
    rw [show (N - k).toNat = (N - k - 1).toNat + 1 by omega]
    rfl
  have hempty : ∀ k v h h2, 0 ≤ k → k < N → opt (cR h0 A) (cW h0 P) k v = [] → gi h 137 2 < M → Jq P h0 h2 → gi h2 137 2 = gi h 137 2 → gi h2 137 5 = 0 → gi h2 137 3 = mx (gi h 137 3) k → Jq P h0 h2 ∧ cnt M (gi h 137 2) (bnd (cR h0 A) (cW h0 P) (N - k).toNat k v).length (gi h2 137 2) (gi h2 137 5) ∧ gi h2 137 3 = mx (gi h 137 3) (dpth (cR h0 A) (cW h0 P) (N - k).toNat k v) := by
    intro k v h h2 k0 kN ho q1 q2 q3 q4 q5
    rw [hbn k v k0 kN, hdn k v k0 kN, ho, q3, q4, q5]
    exact ⟨q2, cnt_0 q1, rfl⟩
  have hsingle : ∀ k v w h h2 h', 0 ≤ k → k < N → opt (cR h0 A) (cW h0 P) k v = [w] → gi h2 137 2 = gi h 137 2 → gi h2 137 3 = mx (gi h 137 3) k → (Jq P h0 h' ∧ cnt M (gi h2 137 2) (bnd (cR h0 A) (cW h0 P) (N - (k + 1)).toNat (k + 1) w).length (gi h' 137 2) (gi h' 137 5) ∧ gi h' 137 3 = mx (gi h2 137 3) (dpth (cR h0 A) (cW h0 P) (N - (k + 1)).toNat (k + 1) w)) → Jq P h0 h' ∧ cnt M (gi h 137 2) (bnd (cR h0 A) (cW h0 P) (N - k).toNat k v).length (gi h' 137 2) (gi h' 137 5) ∧ gi h' 137 3 = mx (gi h 137 3) (dpth (cR h0 A) (cW h0 P) (N - k).toNat k v) := by
    intro k v w h h2 h' k0 kN ho q1 q2 q3
    rw [show (N - (k + 1)).toNat = (N - k - 1).toNat by omega, q1, q2] at q3
    rw [hbn k v k0 kN, hdn k v k0 kN, ho]
    refine ⟨q3.1, by simpa using q3.2.1, ?_⟩
    rw [q3.2.2, mx_a]
    rfl
  have key := step_rule (A := A) (P := P) (V := 0) (d0 := 3) (N := N) (rd := 0) (na := -1) (h0 := h0)
    (Pre := fun k v h => Jq P h0 h ∧ gi h 137 5 = 0 ∧ gi h 137 2 < M ∧ gi h 137 3 ≤ N)
    (Mid := fun k v h g h2 => g = 1 ∧ h2 = dpt h k ∧ Jq P h0 h ∧ gi h 137 5 = 0 ∧ gi h 137 2 < M ∧ gi h 137 3 ≤ N)
    (Post := fun k v h h' => Jq P h0 h' ∧ cnt M (gi h 137 2) (bnd (cR h0 A) (cW h0 P) (N - k).toNat k v).length (gi h' 137 2) (gi h' 137 5) ∧ gi h' 137 3 = mx (gi h 137 3) (dpth (cR h0 A) (cW h0 P) (N - k).toNat k v))
    (LI := fun k v h h2 p hh => h2 = dpt h k ∧ Jq P h0 h ∧ gi h 137 2 < M ∧ gi h 137 3 ≤ N ∧ Jq P h0 hh ∧ cnt M (gi h 137 2) ((opA (tm h0 A k) (gi h0 (A + 4) k) (rws h0 P (gi h0 (A + 3) k)) v p.toNat).flatMap (fun w => bnd (cR h0 A) (cW h0 P) (N - k - 1).toNat (k + 1) w)).length (gi hh 137 2) (gi hh 137 5) ∧ gi hh 137 3 = ((opA (tm h0 A k) (gi h0 (A + 4) k) (rws h0 P (gi h0 (A + 3) k)) v p.toNat).map (fun w => dpth (cR h0 A) (cW h0 P) (N - k - 1).toNat (k + 1) w)).foldl mx (mx (gi h 137 3) k))
    W (by omega) ?hR ?hE ?hS ?hN1 ?hN2 ?hM ?hL0 ?hLt ?hLf ?hLe
  case hR =>
    intro d k v h hd k0 kN J hva Jv hpre
    refine ⟨1, dpt h k, by unfold rch; rw [if_pos rfl], Or.inr rfl, Js_of hru hrw J (eqx_j (Or.inr (Or.inl rfl))), ?_, ?_, ext_of hrw (eqx_j (Or.inr (Or.inl rfl))), rfl, rfl, hpre⟩
    · rw [← hva]; funext s; unfold va dpt; rw [gi_sin (by omega)]
    · unfold dpt; rw [gi_sij (by omega)]
  case hE =>
    rintro v h g h2 J2 va2 Jv ⟨-, rfl, q1, q2, q3, q4⟩
    obtain ⟨-, -, -, -, e5⟩ := Jq_e hrw hru q1
    have hq := hdp h N q1
    refine ⟨⟨eqx_trans hq.1 (eqx_trans (eqx_j (Or.inl rfl)) (eqx_j (Or.inr (Or.inr rfl)))), hq.2⟩, ?_, ?_⟩
    · have f2 : gi (fin (dpt h N)) 137 2 = gi h 137 2 + 1 := by
        unfold fin
        rw [gi_sij (by omega), gi_sis, hd2]
      have f5 : gi (fin (dpt h N)) 137 5 = if gi h 137 2 + 1 < M then 0 else 1 := by
        unfold fin
        rw [gi_sis, hd5, q2, hd2, hd4, e5 4 (by omega), hM]
        simp
      rw [f2, f5, show (N - N).toNat = 0 by omega]
      show cnt M _ (([v] : List mA).length) _ _
      refine ⟨fun z => ⟨by simp, if_pos (by simpa using z)⟩, fun z => ⟨?_, if_neg (by simp at z; omega)⟩⟩
      simp at z; omega
    · have f3 : gi (fin (dpt h N)) 137 3 = mx (gi h 137 3) N := by
        unfold fin
        rw [gi_sij (by omega), gi_sij (by omega), hd3]
      rw [f3, show (N - N).toNat = 0 by omega]
      rfl
  case hS =>
    rintro k v h g h2 k0 kN J2 va2 ⟨rfl, rfl, q1, q2, q3, q4⟩ q
    rcases q with q | q
    · omega
    · rw [hd5] at q; exact absurd q2 q
  case hN1 =>
    rintro k v h h2 k0 kN s1 J2 va2 Jv ⟨-, rfl, q1, q2, q3, q4⟩ -
    obtain ⟨e1, e2, e3, e4, e5⟩ := Jq_e hrw hru (hdp h k q1)
    have hsub : (0 ≤ gi h0 (A + 3) k ∧ gi h0 (A + 3) k < 6) := by
      rcases W.2.2.2.2 k k0 kN with z | z | z
      · exact z.2.1
      · omega
      · omega
    have hiff : (∃ p, 0 ≤ p ∧ p < rsz (dpt h k) P (gi h0 (A + 3) k) ∧ fitb (tm h0 A k) (gi h0 (A + 4) k).toNat v (rws (dpt h k) P (gi h0 (A + 3) k) p)) ↔ fitE (tm h0 A k) (gi h0 (A + 4) k) (rws h0 P (gi h0 (A + 3) k)) (rsz h0 P (gi h0 (A + 3) k)) v := by
      unfold fitE
      rw [e1]
      constructor
      · rintro ⟨p, p1, p2, p3⟩
        exact ⟨p, p1, p2, by rw [← e2 _ p hsub.1 hsub.2]; exact p3⟩
      · rintro ⟨p, p1, p2, p3⟩
        exact ⟨p, p1, p2, by rw [e2 _ p hsub.1 hsub.2]; exact p3⟩
    have ho : opt (cR h0 A) (cW h0 P) k v = @ite _ (fitE (tm h0 A k) (gi h0 (A + 4) k) (rws h0 P (gi h0 (A + 3) k)) (rsz h0 P (gi h0 (A + 3) k)) v) (Classical.propDecidable _) [] [v] := by
      show (if gi h0 (A + 2) k = 0 then _ else if gi h0 (A + 2) k = 1 then _ else _) = _
      rw [if_neg (by omega), if_pos s1]
      rfl
    refine ⟨fun hf => ?_, fun hf => ?_⟩
    · rw [@if_pos _ (Classical.propDecidable _) (hiff.mp hf)] at ho
      exact hempty k v h _ k0 kN ho q3 (hdp h k q1) (hd2 h k) ((hd5 h k).trans q2) (hd3 h k)
    · rw [@if_neg _ (Classical.propDecidable _) (fun z => hf (hiff.mpr z))] at ho
      exact ⟨⟨hdp h k q1, (hd5 h k).trans q2, by rw [hd2]; exact q3, by rw [hd3]; exact hmxN q4 (by omega)⟩, fun h' _ _ hp => hsingle k v v h (dpt h k) h' k0 kN ho (hd2 h k) (hd3 h k) hp⟩
  case hN2 =>
    rintro k v h h2 k0 kN s1 J2 va2 Jv ⟨-, rfl, q1, q2, q3, q4⟩ -
    have ho : opt (cR h0 A) (cW h0 P) k v = if cmpb (gi h0 (A + 3) k) (tv v (tm h0 A k 0)) (tv v (tm h0 A k 1)) = true then [v] else [] := by
      show (if gi h0 (A + 2) k = 0 then _ else if gi h0 (A + 2) k = 1 then _ else if gi h0 (A + 2) k = 2 then _ else _) = _
      rw [if_neg (by omega), if_neg (by omega), if_pos s1]
      rfl
    refine ⟨fun hf => ?_, fun hf => ?_⟩
    · rw [if_neg (by rw [hf]; decide)] at ho
      exact hempty k v h _ k0 kN ho q3 (hdp h k q1) (hd2 h k) ((hd5 h k).trans q2) (hd3 h k)
    · rw [if_pos hf] at ho
      exact ⟨⟨hdp h k q1, (hd5 h k).trans q2, by rw [hd2]; exact q3, by rw [hd3]; exact hmxN q4 (by omega)⟩, fun h' _ _ hp => hsingle k v v h (dpt h k) h' k0 kN ho (hd2 h k) (hd3 h k) hp⟩
  case hM =>
    rintro k v h h2 k0 kN s1 J2 va2 Jv ⟨-, rfl, q1, q2, q3, q4⟩ -
    have ho : opt (cR h0 A) (cW h0 P) k v = if v (slot (tm h0 A k 2)) = -1 then [upd1 v (slot (tm h0 A k 2)) (rck (gi h0 (A + 3) k) (tv v (tm h0 A k 0)) (tv v (tm h0 A k 1)))] else if v (slot (tm h0 A k 2)) = rck (gi h0 (A + 3) k) (tv v (tm h0 A k 0)) (tv v (tm h0 A k 1)) then [v] else [] := by
      show (if gi h0 (A + 2) k = 0 then _ else if gi h0 (A + 2) k = 1 then _ else if gi h0 (A + 2) k = 2 then _ else _) = _
      rw [if_neg (by omega), if_neg (by omega), if_neg (by omega)]
      rfl
    refine ⟨fun c1 => ?_, fun c1 c2 => ?_, fun c1 c2 => ?_⟩
    · rw [if_pos c1] at ho
      have hq := hdp h k q1
      refine ⟨⟨⟨eqx_trans hq.1 eqx_sv, hq.2⟩, ?_, ?_, ?_⟩, fun h' _ hp => ?_⟩
      · rw [gi_svn (by omega), hd5]; exact q2
      · rw [gi_svn (by omega), hd2]; exact q3
      · rw [gi_svn (by omega), hd3]; exact hmxN q4 (by omega)
      · obtain ⟨p1, p2, p3⟩ := hsingle k v _ h (sv (dpt h k) 138 _) h' k0 kN ho (by rw [gi_svn (by omega), hd2]) (by rw [gi_svn (by omega), hd3]) hp
        refine ⟨⟨eqx_trans p1.1 eqx_sv, p1.2⟩, ?_, ?_⟩
        · rw [gi_svn (by omega), gi_svn (by omega)]; exact p2
        · rw [gi_svn (by omega)]; exact p3
    · rw [if_neg c1, if_pos c2] at ho
      exact ⟨⟨hdp h k q1, (hd5 h k).trans q2, by rw [hd2]; exact q3, by rw [hd3]; exact hmxN q4 (by omega)⟩, fun h' _ _ hp => hsingle k v v h (dpt h k) h' k0 kN ho (hd2 h k) (hd3 h k) hp⟩
    · rw [if_neg c1, if_neg c2] at ho
      exact hempty k v h _ k0 kN ho q3 (hdp h k q1) (hd2 h k) ((hd5 h k).trans q2) (hd3 h k)
  case hL0 =>
    rintro k v h h2 k0 kN s1 J2 va2 Jv ⟨-, rfl, q1, q2, q3, q4⟩ -
    refine ⟨rfl, q1, q3, q4, hdp h k q1, ?_, ?_⟩
    · rw [hd2, hd5, q2]
      exact cnt_0 q3
    · rw [hd3]
      rfl
  case hLt =>
    rintro k v h h2 p hh w k0 kN s1 Jh vah Jv p0 pE ⟨rfl, q1, q3, q4, q5, q6, q7⟩ hst' hvis hba hrep
    have hsub : (0 ≤ gi h0 (A + 3) k ∧ gi h0 (A + 3) k < 6) := by
      rcases W.2.2.2.2 k k0 kN with z | z | z
      · exact z.2.1
      · omega
      · omega
    obtain ⟨e1, e2, e3, e4, e5⟩ := Jq_e hrw hru (hdp h k q1)
    rw [e1] at pE
    obtain ⟨-, o2⟩ := Jq_one hrw hru q5 ⟨k0, kN⟩ s1 hsub hst hrd hna hAW ⟨p0, pE⟩
    rw [(Jq_e hrw hru q5).2.1 _ p hsub.1 hsub.2] at hba
    have hone := one_some (c := rws h0 P (gi h0 (A + 3) k)) (fun z => hrep (o2.mpr z)) hba
    have hop : opA (tm h0 A k) (gi h0 (A + 4) k) (rws h0 P (gi h0 (A + 3) k)) v (p + 1).toNat = opA (tm h0 A k) (gi h0 (A + 4) k) (rws h0 P (gi h0 (A + 3) k)) v p.toNat ++ [w] := by
      rw [show (p + 1).toNat = p.toNat + 1 by omega, opA_s, show ((p.toNat : Nat) : Int) = p by omega, hone]
    rw [hst'] at q6
    have hlt : gi hh 137 2 < M := by
      rcases Int.lt_or_le (gi h 137 2 + ((opA (tm h0 A k) (gi h0 (A + 4) k) (rws h0 P (gi h0 (A + 3) k)) v p.toNat).flatMap (fun w => bnd (cR h0 A) (cW h0 P) (N - k - 1).toNat (k + 1) w)).length) M with z | z
      · have := (q6.1 z).1; omega
      · have := (q6.2 z).2; omega
    have hdeep : gi hh 137 3 ≤ N := by
      rw [q7]
      refine foldl_mx_le _ _ _ (hmxN q4 (by omega)) (fun x hx => ?_)
      obtain ⟨u, -, rfl⟩ := List.mem_map.mp hx
      have := (dpth_le (cR h0 A) (cW h0 P) (N - k - 1).toNat (k + 1) u).2
      omega
    refine ⟨⟨⟨eqx_trans q5.1 (eqx_trans eqx_sv eqx_pl), q5.2⟩, ?_, ?_, ?_⟩, fun h' _ hp => ?_⟩
    · rw [gi_sin (by omega), gi_svn (by omega)]; exact hst'
    · rw [gi_sin (by omega), gi_svn (by omega)]; exact hlt
    · rw [gi_sin (by omega), gi_svn (by omega)]; exact hdeep
    · obtain ⟨p1, p2, p3⟩ := hp
      rw [gi_sin (by omega), gi_svn (by omega), show (N - (k + 1)).toNat = (N - k - 1).toNat by omega] at p2 p3
      refine ⟨rfl, q1, q3, q4, ⟨eqx_trans p1.1 eqx_sv, p1.2⟩, ?_, ?_⟩
      · rw [gi_svn (by omega), gi_svn (by omega), hop, List.flatMap_append, List.length_append]
        push_cast
        have := cnt_add q6 p2 (by omega)
        simpa using this
      · rw [gi_svn (by omega), hop, List.map_append, List.foldl_append, ← q7]
        exact p3
  case hLf =>
    rintro k v h h2 p hh z k0 kN s1 Jh vah Jv p0 pE ⟨rfl, q1, q3, q4, q5, q6, q7⟩ hst' hno
    have hsub : (0 ≤ gi h0 (A + 3) k ∧ gi h0 (A + 3) k < 6) := by
      rcases W.2.2.2.2 k k0 kN with z | z | z
      · exact z.2.1
      · omega
      · omega
    obtain ⟨e1, e2, e3, e4, e5⟩ := Jq_e hrw hru (hdp h k q1)
    rw [e1] at pE
    obtain ⟨o1, o2⟩ := Jq_one hrw hru q5 ⟨k0, kN⟩ s1 hsub hst hrd hna hAW ⟨p0, pE⟩
    rw [(Jq_e hrw hru q5).2.1 _ p hsub.1 hsub.2] at hno
    have hone : one (tm h0 A k) (gi h0 (A + 4) k) (rws h0 P (gi h0 (A + 3) k)) v p = [] := by
      refine one_none ?_
      by_cases c1 : ∃ e, 0 ≤ e ∧ e < p ∧ alike (tm h0 A k) (gi h0 (A + 4) k) (rws h0 P (gi h0 (A + 3) k) e) (rws h0 P (gi h0 (A + 3) k) p)
      · exact Or.inl c1
      · right
        cases hb : bA (tm h0 A k) (rws h0 P (gi h0 (A + 3) k) p) (gi h0 (A + 4) k).toNat 0 v with
        | none => rfl
        | some u => exact absurd ⟨o1, ⟨u, hb⟩, fun z => c1 (o2.mp z)⟩ hno
    have hop : opA (tm h0 A k) (gi h0 (A + 4) k) (rws h0 P (gi h0 (A + 3) k)) v (p + 1).toNat = opA (tm h0 A k) (gi h0 (A + 4) k) (rws h0 P (gi h0 (A + 3) k)) v p.toNat := by
      rw [show (p + 1).toNat = p.toNat + 1 by omega, opA_s, show ((p.toNat : Nat) : Int) = p by omega, hone, List.append_nil]
    refine ⟨rfl, q1, q3, q4, ⟨eqx_trans q5.1 eqx_pl, q5.2⟩, ?_, ?_⟩
    · rw [gi_sin (by omega), gi_sin (by omega), hop]
      exact q6
    · rw [gi_sin (by omega), hop]
      exact q7
  case hLe =>
    rintro k v h h2 p hh k0 kN s1 Jh vah ⟨rfl, q1, q3, q4, q5, q6, q7⟩ p0 pE hend
    obtain ⟨e1, e2, e3, e4, e5⟩ := Jq_e hrw hru (hdp h k q1)
    rw [e1] at hend pE
    have ho : opt (cR h0 A) (cW h0 P) k v = opA (tm h0 A k) (gi h0 (A + 4) k) (rws h0 P (gi h0 (A + 3) k)) v (rsz h0 P (gi h0 (A + 3) k)).toNat := by
      show (if gi h0 (A + 2) k = 0 then _ else _) = _
      rw [if_pos s1]
      rfl
    refine ⟨q5, ?_, ?_⟩
    · rw [hbn k v k0 kN, ho]
      by_cases c : p = rsz h0 P (gi h0 (A + 3) k)
      · rw [← c]; exact q6
      · rcases hend with z | z
        · exact absurd z c
        · obtain ⟨l, hl⟩ := opA_pre (tm h0 A k) (gi h0 (A + 4) k) (rws h0 P (gi h0 (A + 3) k)) v (p := p.toNat) (q := (rsz h0 P (gi h0 (A + 3) k)).toNat) (by omega)
          rw [hl, List.flatMap_append, List.length_append]
          push_cast
          have hM2 : M ≤ gi h 137 2 + ((opA (tm h0 A k) (gi h0 (A + 4) k) (rws h0 P (gi h0 (A + 3) k)) v p.toNat).flatMap (fun w => bnd (cR h0 A) (cW h0 P) (N - k - 1).toNat (k + 1) w)).length := by
            rcases Int.lt_or_le (gi h 137 2 + ((opA (tm h0 A k) (gi h0 (A + 4) k) (rws h0 P (gi h0 (A + 3) k)) v p.toNat).flatMap (fun w => bnd (cR h0 A) (cW h0 P) (N - k - 1).toNat (k + 1) w)).length) M with y | y
            · exact absurd (q6.1 y).2 z
            · exact y
          have := q6.2 hM2
          exact ⟨fun y => by omega, fun _ => this⟩
    · have hdn : dpth (cR h0 A) (cW h0 P) (N - k).toNat k v = ((opt (cR h0 A) (cW h0 P) k v).map (fun w => dpth (cR h0 A) (cW h0 P) (N - k - 1).toNat (k + 1) w)).foldl mx k := by
        rw [show (N - k).toNat = (N - k - 1).toNat + 1 by omega]
        rfl
      by_cases c : p = rsz h0 P (gi h0 (A + 3) k)
      · rw [hdn, ho, ← c, q7, foldl_mx]
      · rcases hend with z | z
        · exact absurd z c
        · have hne : (opA (tm h0 A k) (gi h0 (A + 4) k) (rws h0 P (gi h0 (A + 3) k)) v p.toNat).flatMap (fun w => bnd (cR h0 A) (cW h0 P) (N - k - 1).toNat (k + 1) w) ≠ [] := by
            intro y
            rw [y] at q6
            have := (q6.1 (by simpa using q3)).2
            exact z this
          obtain ⟨u, hu⟩ := List.exists_mem_of_ne_nil _ hne
          obtain ⟨w, hw, hb⟩ := List.mem_flatMap.mp hu
          have f1 := dpth_full (cR h0 A) (cW h0 P) (N - k - 1).toNat (k + 1) w (List.ne_nil_of_mem hb)
          have f2 : dpth (cR h0 A) (cW h0 P) (N - k - 1).toNat (k + 1) w ≤ gi hh 137 3 := by
            rw [q7]
            exact foldl_mx_mem _ _ _ (List.mem_map.mpr ⟨w, hw, rfl⟩)
          have f3 : gi hh 137 3 ≤ N := by
            rw [q7]
            refine foldl_mx_le _ _ _ (hmxN q4 (by omega)) (fun x hx => ?_)
            obtain ⟨y, -, rfl⟩ := List.mem_map.mp hx
            have := (dpth_le (cR h0 A) (cW h0 P) (N - k - 1).toNat (k + 1) y).2
            omega
          have f4 : dpth (cR h0 A) (cW h0 P) (N - k).toNat k v = N := by
            have g1 := (dpth_le (cR h0 A) (cW h0 P) (N - k).toNat k v).2
            have g2 : dpth (cR h0 A) (cW h0 P) (N - k - 1).toNat (k + 1) w ≤ dpth (cR h0 A) (cW h0 P) (N - k).toNat k v := by
              rw [hdn, ho]
              obtain ⟨l, hl⟩ := opA_pre (tm h0 A k) (gi h0 (A + 4) k) (rws h0 P (gi h0 (A + 3) k)) v (p := p.toNat) (q := (rsz h0 P (gi h0 (A + 3) k)).toNat) (by omega)
              rw [hl]
              exact foldl_mx_mem _ _ _ (List.mem_map.mpr ⟨w, List.mem_append_left _ hw, rfl⟩)
            omega
          rw [f4]
          unfold mx
          split <;> omega
  obtain ⟨h', r1, r2, r3, r4, r5, r6, r7⟩ := key N.toNat d 0 v h0 (by omega) (by omega) (by omega) J0 hva ⟨hv.1, hv.2, fun s _ ⟨j, j1, j2, _⟩ => by omega⟩ ⟨⟨⟨fun _ _ _ _ _ => rfl, fun _ _ => rfl⟩, rfl⟩, hs0, by omega, by omega⟩ (by omega) (by
    rw [hb0]
    have : bb ((N.toNat : Nat) : Int) ≤ 1048576 := by
      unfold bb
      have h1 : 32 ^ ((N.toNat : Nat) : Int).toNat ≤ 32 ^ 4 := Nat.pow_le_pow_right (by omega) (by omega)
      omega
    omega)
  rw [show (N - 0).toNat = N.toNat by omega, hb0, hd0] at r7
  refine ⟨h', r1, r7.1, r3, r7.2.1, ?_⟩
  rw [r7.2.2]
  have := (dpth_le (cR h0 A) (cW h0 P) N.toNat 0 v).1
  unfold mx
  split <;> omega
end NUL
