/-! STEP: one rule for every visitor -/
/-- the two heaps differ in what the joiner itself writes on its way, at most -/
def eqx (h h' : dm_H) : Prop := (∀ a i, a ≠ 138 → a ≠ 139 → ¬ (a = 137 ∧ (i = 2 ∨ i = 3 ∨ i = 5)) → gi h' a i = gi h a i) ∧ (∀ a i, gr h' a i = gr h a i)
theorem eqx_sv {h : dm_H} {v : mA} : eqx h (sv h 138 v) := ⟨fun a i h1 _ _ => gi_svn h1, fun _ _ => rfl⟩
theorem eqx_pl {h : dm_H} {k p : Int} : eqx h (si h 139 k p) := ⟨fun a i _ h2 _ => gi_sin h2, fun _ _ => rfl⟩
theorem eqx_j {h : dm_H} {k p : Int} (hk : k = 2 ∨ k = 3 ∨ k = 5) : eqx h (si h 137 k p) := by
  refine ⟨fun a i _ _ h3 => ?_, fun _ _ => rfl⟩
  rw [gi_si, if_neg]
  rintro ⟨q1, q2⟩
  exact h3 ⟨q1, by omega⟩
theorem eqx_trans {h h1 h2 : dm_H} (a : eqx h h1) (b : eqx h1 h2) : eqx h h2 := ⟨fun c i q1 q2 q3 => by rw [b.1 c i q1 q2 q3, a.1 c i q1 q2 q3], fun c i => by rw [b.2, a.2]⟩
/-- the joiner stands over the rule at A, with N literals, and the rows at P; the rule's literals are those of h0 -/
def Js (A P V : Nat) (N rd na : Int) (h0 h : dm_H) : Prop := gr h 137 6 = A ∧ gr h 137 7 = P ∧ gr h 137 8 = V ∧ gi h A 4 = N ∧ (∀ i, gi h (A + 2) i = gi h0 (A + 2) i) ∧ (∀ i, gi h (A + 3) i = gi h0 (A + 3) i) ∧ (∀ i, gi h (A + 4) i = gi h0 (A + 4) i) ∧ (∀ i, gi h (A + 5) i = gi h0 (A + 5) i) ∧ (∀ i, gi h (A + 6) i = gi h0 (A + 6) i) ∧ gi h 137 9 = rd ∧ gi h 137 10 = na ∧ (∀ r, 0 ≤ r → r < 6 → 0 ≤ rsz h P r ∧ rsz h P r ≤ 32) ∧ (∀ r p, 0 ≤ r → r < 6 → 0 ≤ p → p < rsz h P r → 0 ≤ rws h P r p ∧ rws h P r p < 1000000)
theorem ru_ne {A : Nat} (hr : ru A) : A < 137 ∧ A + 6 < 137 ∧ A + 7 < 137 := by unfold ru at hr; omega
theorem Js_of {A P V : Nat} {N rd na : Int} {h0 h h' : dm_H} (hr : ru A) (hp : rw_ P) (k : Js A P V N rd na h0 h) (e : eqx h h') : Js A P V N rd na h0 h' := by
  have hA := ru_ne hr
  have hlo : ∀ a, a < 137 → ∀ i, gi h' a i = gi h a i := fun a ha i => e.1 a i (by omega) (by omega) (by omega)
  obtain ⟨k1, k2, k3, k4, k5, k6, k7, k8, k9, k10, k11, k12, k13⟩ := k
  have hz : ∀ r, rsz h' P r = rsz h P r := fun r => hlo _ (by unfold rw_ at hp; omega) _
  have hw : ∀ r p, 0 ≤ r → r < 6 → rws h' P r p = rws h P r p := fun r p q1 q2 => hlo _ (by unfold rw_ at hp; omega) _
  refine ⟨by rw [e.2]; exact k1, by rw [e.2]; exact k2, by rw [e.2]; exact k3, by rw [hlo _ hA.1]; exact k4, fun i => by rw [hlo _ (by omega)]; exact k5 i, fun i => by rw [hlo _ (by omega)]; exact k6 i, fun i => by rw [hlo _ (by omega)]; exact k7 i, fun i => by rw [hlo _ (by omega)]; exact k8 i, fun i => by rw [hlo _ (by omega)]; exact k9 i, by rw [e.1 137 9 (by omega) (by omega) (by omega)]; exact k10, by rw [e.1 137 10 (by omega) (by omega) (by omega)]; exact k11, fun r q1 q2 => by rw [hz]; exact k12 r q1 q2, fun r p q1 q2 q3 q4 => by rw [hw r p q1 q2]; rw [hz] at q4; exact k13 r p q1 q2 q3 q4⟩
/-- variables that the first k literals give numbers -/
def kn (h0 : dm_H) (A : Nat) (k s : Int) : Prop := ∃ j, 0 ≤ j ∧ j < k ∧ ((gi h0 (A + 2) j = 0 ∧ ∃ i, 0 ≤ i ∧ i < gi h0 (A + 4) j ∧ slot (tm h0 A j i) = s) ∨ (gi h0 (A + 2) j = 3 ∧ slot (tm h0 A j 2) = s))
/-- the literals of the rule at A are as they have to be -/
def SW (A P : Nat) (N rd : Int) (h0 : dm_H) : Prop := ru A ∧ rw_ P ∧ (0 ≤ N ∧ N ≤ 4) ∧ (0 ≤ rd ∧ rd ≤ 2000000) ∧ ∀ k, 0 ≤ k → k < N → (gi h0 (A + 2) k = 0 ∨ gi h0 (A + 2) k = 1) ∧ (0 ≤ gi h0 (A + 3) k ∧ gi h0 (A + 3) k < 6) ∧ (0 ≤ gi h0 (A + 4) k ∧ gi h0 (A + 4) k ≤ 3) ∨ gi h0 (A + 2) k = 2 ∨ gi h0 (A + 2) k = 3 ∧ slot (tm h0 A k 2) ≠ -1 ∧ ∀ i, i = 0 ∨ i = 1 → (0 ≤ tm h0 A k i ∧ tm h0 A k i ≤ 107) ∧ (slot (tm h0 A k i) ≠ -1 → kn h0 A k (slot (tm h0 A k i)))
/-- numbers lie in their range -/
def vr (v : mA) : Prop := ∀ s, v s = -1 ∨ (0 ≤ v s ∧ v s ≤ 99)
def Jv (A : Nat) (h0 : dm_H) (k : Int) (v : mA) : Prop := nv v ∧ vr v ∧ ∀ s, s ≠ -1 → kn h0 A k s → v s ≠ -1
theorem vr_upd {v : mA} (hv : vr v) {s x : Int} (hx : 0 ≤ x ∧ x ≤ 99) : vr (upd1 v s x) := by
  intro j
  unfold upd1
  split
  · exact Or.inr hx
  · exact hv j
theorem bA_kn {t : Int → Int} {c : Int} (hc : 0 ≤ c ∧ c < 1000000) : ∀ {k : Nat} {i : Int} {v w : mA}, 0 ≤ i → i + k ≤ 3 → nv v → vr v → bA t c k i v = some w → vr w ∧ ∀ j, i ≤ j → j < i + k → slot (t j) ≠ -1 → w (slot (t j)) ≠ -1
  | 0, i, v, w, _, _, hn, hv, h => by cases h; exact ⟨hv, fun j h1 h2 => absurd h2 (by omega)⟩
  | k + 1, i, v, w, hi, hk, hn, hv, h => by
    have hx := cv_r (i := i) (c := c) ⟨hi, by omega⟩ hc
    unfold bA at h
    cases hb : b1 v (t i) (cv i c) with
    | none => rw [hb] at h; cases h
    | some u =>
      rw [hb] at h
      obtain ⟨n1, n2⟩ := b1_nv hn hb
      have hu : vr u ∧ (slot (t i) ≠ -1 → u (slot (t i)) ≠ -1) := by
        unfold b1 at hb
        split at hb
        · rename_i q
          cases hb
          exact ⟨hv, fun z => absurd (by rw [q]; rfl) z⟩
        split at hb
        · rename_i q
          split at hb
          · cases hb; exact ⟨hv, fun z => absurd q z⟩
          · cases hb
        split at hb
        · cases hb
          refine ⟨vr_upd hv hx, fun _ => ?_⟩
          unfold upd1
          rw [if_pos rfl]
          omega
        split at hb
        · rename_i q
          cases hb
          exact ⟨hv, fun _ => by omega⟩
        · cases hb
      obtain ⟨a1, a2⟩ := bA_kn hc (by omega) (by omega) n1 hu.1 h
      refine ⟨a1, fun j h1 h2 h3 => ?_⟩
      by_cases e : j = i
      · subst e
        have := (bA_nv n1 h).2 _ (hu.2 h3)
        rw [this]
        exact hu.2 h3
      · exact a2 j (by omega) (by omega) h3
theorem kn_succ {h0 : dm_H} {A : Nat} {k s : Int} (h : kn h0 A (k + 1) s) : kn h0 A k s ∨ (gi h0 (A + 2) k = 0 ∧ ∃ i, 0 ≤ i ∧ i < gi h0 (A + 4) k ∧ slot (tm h0 A k i) = s) ∨ (gi h0 (A + 2) k = 3 ∧ slot (tm h0 A k 2) = s) := by
  obtain ⟨j, j1, j2, j3⟩ := h
  by_cases e : j = k
  · subst e; exact Or.inr j3
  · exact Or.inl ⟨j, j1, by omega, j3⟩
/-- behind an atom -/
theorem Jv_at {A : Nat} {h0 : dm_H} {k c : Int} {v w : mA} (hv : Jv A h0 k v) (hs : gi h0 (A + 2) k = 0) (hc : 0 ≤ c ∧ c < 1000000) (hw : 0 ≤ gi h0 (A + 4) k ∧ gi h0 (A + 4) k ≤ 3) (h : bA (tm h0 A k) c (gi h0 (A + 4) k).toNat 0 v = some w) : Jv A h0 (k + 1) w := by
  obtain ⟨a1, a2⟩ := bA_nv hv.1 h
  obtain ⟨a3, a4⟩ := bA_kn hc (by omega) (by omega) hv.1 hv.2.1 h
  refine ⟨a1, a3, fun s h1 h2 => ?_⟩
  rcases kn_succ h2 with q | ⟨_, i, i1, i2, i3⟩ | ⟨q, _⟩
  · rw [a2 s (hv.2.2 s h1 q)]
    exact hv.2.2 s h1 q
  · rw [← i3]
    exact a4 i i1 (by omega) (by rw [i3]; exact h1)
  · omega
theorem Jv_1 {A : Nat} {h0 : dm_H} {k : Int} {v : mA} (hv : Jv A h0 k v) (hs : gi h0 (A + 2) k = 1 ∨ gi h0 (A + 2) k = 2) : Jv A h0 (k + 1) v := by
  refine ⟨hv.1, hv.2.1, fun s h1 h2 => ?_⟩
  rcases kn_succ h2 with q | ⟨q, _⟩ | ⟨q, _⟩
  · exact hv.2.2 s h1 q
  · omega
  · omega
theorem Jv_3 {A : Nat} {h0 : dm_H} {k x : Int} {v : mA} (hv : Jv A h0 k v) (hs : gi h0 (A + 2) k = 3) (h2 : slot (tm h0 A k 2) ≠ -1) (hx : 0 ≤ x ∧ x ≤ 99) : (v (slot (tm h0 A k 2)) = -1 → Jv A h0 (k + 1) (upd1 v (slot (tm h0 A k 2)) x)) ∧ (v (slot (tm h0 A k 2)) = x → Jv A h0 (k + 1) v) := by
  constructor
  · intro hq
    refine ⟨nv_upd hv.1 (slotne h2), vr_upd hv.2.1 hx, fun s h1 h3 => ?_⟩
    rcases kn_succ h3 with q | ⟨q, _⟩ | ⟨_, q⟩
    · rw [lev_upd hq s (hv.2.2 s h1 q)]
      exact hv.2.2 s h1 q
    · omega
    · unfold upd1
      rw [if_pos q.symm]
      omega
  · intro hq
    refine ⟨hv.1, hv.2.1, fun s h1 h3 => ?_⟩
    rcases kn_succ h3 with q | ⟨q, _⟩ | ⟨_, q⟩
    · exact hv.2.2 s h1 q
    · omega
    · rw [← q, hq]
      omega
theorem rck_r (w a b : Int) : 0 ≤ rck w a b ∧ rck w a b ≤ 99 := by
  unfold rck clamp
  generalize (if w = 0 then a + b else _) = x
  split
  · omega
  · split <;> omega
theorem tv_r {A : Nat} {h0 : dm_H} {k t : Int} {v : mA} (hv : Jv A h0 k v) (ht : 0 ≤ t ∧ t ≤ 107) (hk : slot t ≠ -1 → kn h0 A k (slot t)) : 0 ≤ tv v t ∧ tv v t ≤ 99 := by
  unfold tv
  by_cases h1 : t < 100
  · rw [if_pos h1]; omega
  · have hs : slot t = t - 100 := by unfold slot; rw [if_neg h1, if_neg (by omega)]
    rw [if_neg h1, if_neg (by omega), ← hs]
    have h3 := hv.2.2 (slot t) (by omega) (hk (by omega))
    have := hv.2.1 (slot t)
    omega
/-- what looks on -/
noncomputable def rch (d V : Nat) (k : Int) (h : dm_H) : dm_O := if V = 0 then rI 1 h else if V = 144 then dF d 23 [dR 1 0 144, dI k] h else if V = 143 then dF d 32 [dR 1 1 143, dI k] h else if V = 161 then dF d 38 [dR 1 3 161, dI k] h else if V = 140 then dF d 43 [dR 1 4 140, dI k] h else none
def dpt (h : dm_H) (k : Int) : dm_H := si h 137 3 (if gi h 137 3 < k then k else gi h 137 3)
/-- behind a binding -/
def fin (h : dm_H) : dm_H := si (si h 137 2 (gi h 137 2 + 1)) 137 5 (if gi h 137 5 = 0 ∧ gi h 137 2 + 1 < gi h 137 4 then 0 else 1)
def ext (P : Nat) (h h' : dm_H) : Prop := ∀ r, 0 ≤ r → r < 6 → rsz h P r ≤ rsz h' P r
theorem ext_of {P : Nat} (hp : rw_ P) {h h' : dm_H} (e : eqx h h') : ext P h h' := fun r _ _ => by
  unfold rsz
  rw [e.1 _ _ (by unfold rw_ at hp; omega) (by unfold rw_ at hp; omega) (by unfold rw_ at hp; omega)]
  exact Int.le_refl _
theorem ext_refl (P : Nat) (h : dm_H) : ext P h h := fun _ _ _ => Int.le_refl _
theorem ext_trans {P : Nat} {h h1 h2 : dm_H} (a : ext P h h1) (b : ext P h1 h2) : ext P h h2 := fun r q1 q2 => Int.le_trans (a r q1 q2) (b r q1 q2)
/-- the atom's literal k, for its parts -/
theorem Js_atk {A P V : Nat} {N rd na : Int} {h0 h : dm_H} {k : Int} (W : SW A P N rd h0) (J : Js A P V N rd na h0 h) (hk : 0 ≤ k ∧ k < N) (hr : 0 ≤ gi h0 (A + 3) k ∧ gi h0 (A + 3) k < 6) (hw : 0 ≤ gi h0 (A + 4) k ∧ gi h0 (A + 4) k ≤ 3) : atk h A P k (gi h0 (A + 3) k) (gi h0 (A + 4) k) := by
  obtain ⟨w1, w2, w3, w4, -⟩ := W
  obtain ⟨k1, k2, k3, k4, k5, k6, k7, k8, k9, k10, k11, k12, k13⟩ := J
  exact ⟨k1, w1, k2, w2, ⟨hk.1, by omega⟩, k6 k, hr, k7 k, hw, k12 _ hr.1 hr.2, fun p p1 p2 => k13 _ p hr.1 hr.2 p1 p2, by rw [k10]; exact w4⟩
theorem Js_tm {A P V : Nat} {N rd na : Int} {h0 h : dm_H} (J : Js A P V N rd na h0 h) (k : Int) : tm h A k = tm h0 A k := by
  funext i
  exact J.2.2.2.2.2.2.2.1 _
/-- how many bindings a step can come to -/
def bb (n : Int) : Int := ((32 ^ n.toNat : Nat) : Int)
theorem bb_succ {n : Int} (hn : 0 ≤ n) : bb (n + 1) = 32 * bb n := by
  unfold bb
  rw [show (n + 1).toNat = n.toNat + 1 by omega, Nat.pow_succ, Nat.mul_comm]
  push_cast
  rfl
theorem bb_pos (n : Int) : 1 ≤ bb n := by
  unfold bb
  have : 0 < 32 ^ n.toNat := Nat.pow_pos (by omega)
  omega
theorem fsh_1 {v : mA} {s x : Int} (hs : 0 ≤ s ∧ s < 8) (h1 : v s = -1) (hx : x ≠ -1) : fsh (dm_shl 1 s) v (upd1 v s x) := by
  refine ⟨st_shl (k := 8) (by omega) hs, fun j h0 h2 => ?_⟩
  rw [bt_shl (by omega) h0]
  unfold upd1
  by_cases e : j = s
  · subst e
    simp [h1, hx]
  · have e2 : ¬ s = j := fun q => e q.symm
    rw [if_neg e]
    simp only [e2, decide_false]
    constructor
    · intro q; cases q
    · rintro ⟨q1, q2⟩
      exact absurd q1 q2
theorem step_in {d V : Nat} {k g : Int} {h h2 : dm_H} (hd : 1 ≤ d) (hV : gr h 137 8 = V) (e1 : rch (d - 1) V k (dpt h k) = rI g h2) (g01 : g = 0 ∨ g = 1) : ∃ gg, (gg = g) ∧ dF d 22 [dR 1 5 137, dI k] h = dL (d - 1) 22 35 [lR 1 5 137, lI k, none, none, none, none, none, none] [dI gg] h2 := by
  refine ⟨g, rfl, ?_⟩
  rw [f22 hd, b22_0]
  rw [show si h 137 3 (if gi h 137 3 < k then k else gi h 137 3) = dpt h k from rfl, show gr (dpt h k) 137 8 = V from hV]
  unfold rch at e1
  by_cases v0 : V = 0
  · rw [if_pos v0] at e1 ⊢
    cases e1
    rw [b22_30]
  rw [if_neg v0] at e1 ⊢
  have hret : dm_back (dL (d - 1) 22) dm_t22 24 [lR 1 5 137, lI k, none, none, none, none, none, none] [] (rI g h2) = dL (d - 1) 22 35 [lR 1 5 137, lI k, none, none, none, none, none, none] [dI g] h2 := by
    rw [bk_v, b22_27]
    rcases g01 with rfl | rfl
    · rw [if_pos rfl]
    · rw [if_neg (by omega), b22_30]
  by_cases v1 : V = 144
  · rw [if_pos v1] at e1 ⊢
    rw [e1]; exact hret
  rw [if_neg v1] at e1 ⊢
  by_cases v2 : V = 143
  · rw [if_pos v2] at e1 ⊢
    rw [e1]; exact hret
  rw [if_neg v2] at e1 ⊢
  by_cases v3 : V = 161
  · rw [if_pos v3] at e1 ⊢
    rw [e1]; exact hret
  rw [if_neg v3] at e1 ⊢
  by_cases v4 : V = 140
  · rw [if_pos v4] at e1 ⊢
    rw [e1]; exact hret
  rw [if_neg v4] at e1
  cases e1
section STEP
variable {A P V d0 : Nat} {N rd na : Int} {h0 : dm_H}
variable {Pre : Int → mA → dm_H → Prop} {Mid : Int → mA → dm_H → Int → dm_H → Prop} {Post : Int → mA → dm_H → dm_H → Prop} {LI : Int → mA → dm_H → dm_H → Int → dm_H → Prop}
theorem step_rule (W : SW A P N rd h0) (hd0 : 3 ≤ d0)
    (hR : ∀ (d : Nat) k v h, d0 ≤ d → 0 ≤ k → k ≤ N → Js A P V N rd na h0 h → va h 138 = v → Jv A h0 k v → Pre k v h → ∃ g h2, rch d V k (dpt h k) = rI g h2 ∧ (g = 0 ∨ g = 1) ∧ Js A P V N rd na h0 h2 ∧ va h2 138 = v ∧ gi h2 137 2 = gi h 137 2 ∧ ext P h h2 ∧ Mid k v h g h2)
    (hE : ∀ v h g h2, Js A P V N rd na h0 h2 → va h2 138 = v → Jv A h0 N v → Mid N v h g h2 → Post N v h (fin h2))
    (hS : ∀ k v h g h2, 0 ≤ k → k < N → Js A P V N rd na h0 h2 → va h2 138 = v → Mid k v h g h2 → (g = 0 ∨ gi h2 137 5 ≠ 0) → Post k v h h2)
    (hN1 : ∀ k v h h2, 0 ≤ k → k < N → gi h0 (A + 2) k = 1 → Js A P V N rd na h0 h2 → va h2 138 = v → Jv A h0 k v → Mid k v h 1 h2 → gi h2 137 5 = 0 →
      ((∃ p, 0 ≤ p ∧ p < rsz h2 P (gi h0 (A + 3) k) ∧ fitb (tm h0 A k) (gi h0 (A + 4) k).toNat v (rws h2 P (gi h0 (A + 3) k) p)) → Post k v h h2) ∧
      (¬ (∃ p, 0 ≤ p ∧ p < rsz h2 P (gi h0 (A + 3) k) ∧ fitb (tm h0 A k) (gi h0 (A + 4) k).toNat v (rws h2 P (gi h0 (A + 3) k) p)) → Pre (k + 1) v h2 ∧ ∀ h', Js A P V N rd na h0 h' → va h' 138 = v → Post (k + 1) v h2 h' → Post k v h h'))
    (hN2 : ∀ k v h h2, 0 ≤ k → k < N → gi h0 (A + 2) k = 2 → Js A P V N rd na h0 h2 → va h2 138 = v → Jv A h0 k v → Mid k v h 1 h2 → gi h2 137 5 = 0 →
      (cmpb (gi h0 (A + 3) k) (tv v (tm h0 A k 0)) (tv v (tm h0 A k 1)) = false → Post k v h h2) ∧
      (cmpb (gi h0 (A + 3) k) (tv v (tm h0 A k 0)) (tv v (tm h0 A k 1)) = true → Pre (k + 1) v h2 ∧ ∀ h', Js A P V N rd na h0 h' → va h' 138 = v → Post (k + 1) v h2 h' → Post k v h h'))
    (hM : ∀ k v h h2, 0 ≤ k → k < N → gi h0 (A + 2) k = 3 → Js A P V N rd na h0 h2 → va h2 138 = v → Jv A h0 k v → Mid k v h 1 h2 → gi h2 137 5 = 0 →
      (v (slot (tm h0 A k 2)) = -1 → Pre (k + 1) (upd1 v (slot (tm h0 A k 2)) (rck (gi h0 (A + 3) k) (tv v (tm h0 A k 0)) (tv v (tm h0 A k 1)))) (sv h2 138 (upd1 v (slot (tm h0 A k 2)) (rck (gi h0 (A + 3) k) (tv v (tm h0 A k 0)) (tv v (tm h0 A k 1))))) ∧ ∀ h', Js A P V N rd na h0 h' → Post (k + 1) (upd1 v (slot (tm h0 A k 2)) (rck (gi h0 (A + 3) k) (tv v (tm h0 A k 0)) (tv v (tm h0 A k 1)))) (sv h2 138 (upd1 v (slot (tm h0 A k 2)) (rck (gi h0 (A + 3) k) (tv v (tm h0 A k 0)) (tv v (tm h0 A k 1))))) h' → Post k v h (sv h' 138 v)) ∧
      (v (slot (tm h0 A k 2)) ≠ -1 → v (slot (tm h0 A k 2)) = rck (gi h0 (A + 3) k) (tv v (tm h0 A k 0)) (tv v (tm h0 A k 1)) → Pre (k + 1) v h2 ∧ ∀ h', Js A P V N rd na h0 h' → va h' 138 = v → Post (k + 1) v h2 h' → Post k v h h') ∧
      (v (slot (tm h0 A k 2)) ≠ -1 → v (slot (tm h0 A k 2)) ≠ rck (gi h0 (A + 3) k) (tv v (tm h0 A k 0)) (tv v (tm h0 A k 1)) → Post k v h h2))
    (hL0 : ∀ k v h h2, 0 ≤ k → k < N → gi h0 (A + 2) k = 0 → Js A P V N rd na h0 h2 → va h2 138 = v → Jv A h0 k v → Mid k v h 1 h2 → gi h2 137 5 = 0 → LI k v h h2 0 h2)
    (hLt : ∀ k v h h2 p hh w, 0 ≤ k → k < N → gi h0 (A + 2) k = 0 → Js A P V N rd na h0 hh → va hh 138 = v → Jv A h0 k v → 0 ≤ p → p < rsz h2 P (gi h0 (A + 3) k) → LI k v h h2 p hh → gi hh 137 5 = 0 → vis hh P k (gi h0 (A + 3) k) p → bA (tm h0 A k) (rws hh P (gi h0 (A + 3) k) p) (gi h0 (A + 4) k).toNat 0 v = some w → ¬ rep hh A P k (gi h0 (A + 3) k) (gi h0 (A + 4) k) p →
      Pre (k + 1) w (si (sv hh 138 w) 139 k p) ∧ ∀ h', Js A P V N rd na h0 h' → Post (k + 1) w (si (sv hh 138 w) 139 k p) h' → LI k v h h2 (p + 1) (sv h' 138 v))
    (hLf : ∀ k v h h2 p hh z, 0 ≤ k → k < N → gi h0 (A + 2) k = 0 → Js A P V N rd na h0 hh → va hh 138 = v → Jv A h0 k v → 0 ≤ p → p < rsz h2 P (gi h0 (A + 3) k) → LI k v h h2 p hh → gi hh 137 5 = 0 → ¬ (vis hh P k (gi h0 (A + 3) k) p ∧ (∃ w, bA (tm h0 A k) (rws hh P (gi h0 (A + 3) k) p) (gi h0 (A + 4) k).toNat 0 v = some w) ∧ ¬ rep hh A P k (gi h0 (A + 3) k) (gi h0 (A + 4) k) p) → LI k v h h2 (p + 1) (si hh 139 k z))
    (hLe : ∀ k v h h2 p hh, 0 ≤ k → k < N → gi h0 (A + 2) k = 0 → Js A P V N rd na h0 hh → va hh 138 = v → LI k v h h2 p hh → 0 ≤ p → p ≤ rsz h2 P (gi h0 (A + 3) k) → (p = rsz h2 P (gi h0 (A + 3) k) ∨ gi hh 137 5 ≠ 0) → Post k v h hh) :
    ∀ (n : Nat) (d : Nat) (k : Int) (v : mA) (h : dm_H), 0 ≤ k → k + n = N → d0 + 1 + n ≤ d → Js A P V N rd na h0 h → va h 138 = v → Jv A h0 k v → Pre k v h → 0 ≤ gi h 137 2 → gi h 137 2 + bb n ≤ 2000000 →
      ∃ h', dF d 22 [dR 1 5 137, dI k] h = rV h' ∧ Js A P V N rd na h0 h' ∧ va h' 138 = v ∧ gi h 137 2 ≤ gi h' 137 2 ∧ gi h' 137 2 ≤ gi h 137 2 + bb n ∧ ext P h h' ∧ Post k v h h' := by
  have hru := W.1
  have hrw := W.2.1
  have hA := ru_ne hru
  have hsame : ∀ {h h' : dm_H}, Js A P V N rd na h0 h → eqx h h' → Js A P V N rd na h0 h' := fun k e => Js_of hru hrw k e
  intro n
  induction n with
  | zero =>
    intro d k v h k0 kN hd J hva hJv hpre hb0 hb1
    obtain ⟨g, h2, e1, g01, J2, va2, b2, x2, hmid⟩ := hR (d - 1) k v h (by omega) k0 (by omega) J hva hJv hpre
    have hN : k = N := by omega
    subst hN
    have hfinal : ∀ (gg : Int) (w2 w3 w4 w5 w6 w7 : Option dm_V), dL (d - 1) 22 35 [lR 1 5 137, lI k, w2, w3, w4, w5, w6, w7] [dI gg] h2 = rV (fin h2) := by
      intro gg w2 w3 w4 w5 w6 w7
      have hbb : bb 0 = 1 := rfl
      have hbb' : bb ((0 : Nat) : Int) = 1 := rfl
      rw [b22_35, J2.1, J2.2.2.2.1, if_neg (by omega), ck_p (by omega) (by omega), gi_sij (by omega), gi_sis, gi_sij (by omega)]
      unfold fin
      by_cases q1 : gi h2 137 5 = 0
      · rw [if_pos q1]
        by_cases q2 : gi h2 137 2 + 1 < gi h2 137 4
        · rw [if_pos q2, b22_81, z1_p (Or.inl rfl), if_pos ⟨q1, q2⟩]
        · rw [if_neg q2, b22_76, b22_81, z1_p (Or.inr rfl), if_neg (fun z => q2 z.2)]
      · rw [if_neg q1, b22_76, b22_81, z1_p (Or.inr rfl), if_neg (fun z => q1 z.1)]
    have hcall : dF d 22 [dR 1 5 137, dI k] h = rV (fin h2) := by
      obtain ⟨gg, -, e2⟩ := step_in (by omega) J.2.2.1 e1 g01
      rw [e2]
      exact hfinal gg _ _ _ _ _ _
    have ef : eqx h2 (fin h2) := eqx_trans (eqx_j (Or.inl rfl)) (eqx_j (Or.inr (Or.inr rfl)))
    have ev : va (fin h2) 138 = v := by
      rw [← va2]
      funext s
      unfold va fin
      rw [gi_sin (by omega), gi_sin (by omega)]
    have eb : gi (fin h2) 137 2 = gi h2 137 2 + 1 := by
      unfold fin
      rw [gi_sij (by omega), gi_sis]
    have := bb_pos ((0 : Nat) : Int)
    exact ⟨fin h2, hcall, hsame J2 ef, ev, by omega, by omega, ext_trans x2 (ext_of hrw ef), hE v h g h2 J2 va2 hJv hmid⟩
  | succ n ih =>
    intro d k v h k0 kN hd J hva hJv hpre hb0 hb1
    obtain ⟨g, h2, e1, g01, J2, va2, b2, x2, hmid⟩ := hR (d - 1) k v h (by omega) k0 (by omega) J hva hJv hpre
    have hkN : k < N := by omega
    have hN4 := W.2.2.1
    have hbb : bb ((n + 1 : Nat) : Int) = 32 * bb (n : Int) := by
      have := bb_succ (n := (n : Int)) (by omega)
      push_cast
      exact this
    have hb1' := bb_pos (n : Int)
    obtain ⟨gg, hgg, e2⟩ := step_in (by omega) J.2.2.1 e1 g01
    subst hgg
    rw [e2, b22_35, J2.1, J2.2.2.2.1, if_pos hkN]
    -- the next literal
    have hnext : ∀ (hx : dm_H) (w : mA) (w2 w3 w4 w5 w6 w7 : Option dm_V), Js A P V N rd na h0 hx → va hx 138 = w → Jv A h0 (k + 1) w → Pre (k + 1) w hx → gi h 137 2 ≤ gi hx 137 2 → gi hx 137 2 + bb n ≤ 2000000 →
        ∃ h', dL (d - 1) 22 141 [lR 1 5 137, lI k, w2, w3, w4, w5, w6, w7] [] hx = rV h' ∧ Js A P V N rd na h0 h' ∧ va h' 138 = w ∧ gi hx 137 2 ≤ gi h' 137 2 ∧ gi h' 137 2 ≤ gi hx 137 2 + bb n ∧ ext P hx h' ∧ Post (k + 1) w hx h' := by
      intro hx w w2 w3 w4 w5 w6 w7 q1 q2 q3 q4 q5 q6
      obtain ⟨h', r1, r2⟩ := ih (d - 1) (k + 1) w hx (by omega) (by omega) (by omega) q1 q2 q3 q4 (by omega) q6
      refine ⟨h', ?_, r2⟩
      rw [b22_141, ck_p (by omega) (by omega), r1, bk_n, b22_148]
    have hstop : ∀ (w2 w3 w4 w5 w6 w7 : Option dm_V), (gg = 0 ∨ gi h2 137 5 ≠ 0) → ∃ h', dL (d - 1) 22 96 [lR 1 5 137, lI k, w2, w3, w4, w5, w6, w7] [] h2 = rV h' ∧ Js A P V N rd na h0 h' ∧ va h' 138 = v ∧ gi h 137 2 ≤ gi h' 137 2 ∧ gi h' 137 2 ≤ gi h 137 2 + bb ((n + 1 : Nat) : Int) ∧ ext P h h' ∧ Post k v h h' := by
      intro w2 w3 w4 w5 w6 w7 q
      exact ⟨h2, by rw [b22_96], J2, va2, by omega, by omega, x2, hS k v h gg h2 k0 hkN J2 va2 hmid q⟩
    by_cases g0 : gg = 0
    · rw [if_pos g0]
      exact hstop _ _ _ _ _ _ (Or.inl g0)
    rw [if_neg g0]
    have g1 : gg = 1 := by omega
    subst g1
    by_cases st0 : gi h2 137 5 = 0
    case neg =>
      rw [if_neg st0]
      exact hstop _ _ _ _ _ _ (Or.inr st0)
    rw [if_pos st0, ix_p k0 (by have := W.2.2.1; omega), J2.2.2.2.2.1 k]
    have hT := Js_tm J2 k
    have hW := W.2.2.2.2 k k0 hkN
    have hk4 : k < 4 := by have := W.2.2.1; omega
    by_cases s1 : gi h0 (A + 2) k = 1
    · rw [if_pos s1]
      have hsub : (0 ≤ gi h0 (A + 3) k ∧ gi h0 (A + 3) k < 6) ∧ (0 ≤ gi h0 (A + 4) k ∧ gi h0 (A + 4) k ≤ 3) := by
        rcases hW with q | q | q
        · exact q.2
        · omega
        · omega
      obtain ⟨n1, n2⟩ := hN1 k v h h2 k0 hkN s1 J2 va2 hJv hmid st0
      have e6 : gi h2 (A + 3) k = gi h0 (A + 3) k := J2.2.2.2.2.2.1 k
      have e7 : gi h2 (A + 4) k = gi h0 (A + 4) k := J2.2.2.2.2.2.2.1 k
      have h44 := s44 (d := d - 1) (by omega) k h2 J2.1 hru J2.2.1 hrw ⟨k0, hk4⟩ (by rw [e7]; exact hsub.2) (by rw [e6]; exact hsub.1) (J2.2.2.2.2.2.2.2.2.2.2.2.1 _ (by omega) (by omega)) (fun p p1 p2 => J2.2.2.2.2.2.2.2.2.2.2.2.2 _ p (by omega) (by omega) p1 p2)
      rw [e6, e7, hT, va2] at h44
      rw [b22_117, if_pos s1, h44, bk_v, b22_127]
      by_cases hfit : ∃ p, 0 ≤ p ∧ p < rsz h2 P (gi h0 (A + 3) k) ∧ fitb (tm h0 A k) (gi h0 (A + 4) k).toNat v (rws h2 P (gi h0 (A + 3) k) p)
      · rw [@bi_1 _ (Classical.propDecidable _) hfit, if_neg (by omega)]
        exact ⟨h2, by rw [b22_148], J2, va2, by omega, by omega, x2, n1 hfit⟩
      · rw [@bi_0 _ (Classical.propDecidable _) hfit, if_pos rfl]
        obtain ⟨p1, p2⟩ := n2 hfit
        obtain ⟨h', r1, r2, r3, r4, r5, r6, r7⟩ := hnext h2 v _ _ _ _ _ _ J2 va2 (Jv_1 hJv (Or.inl s1)) p1 (by omega) (by omega)
        exact ⟨h', r1, r2, r3, by omega, by omega, ext_trans x2 r6, p2 h' r2 r3 r7⟩
    rw [if_neg s1]
    by_cases s2 : gi h0 (A + 2) k = 2
    · rw [if_pos s2]
      obtain ⟨n1, n2⟩ := hN2 k v h h2 k0 hkN s2 J2 va2 hJv hmid st0
      have e6 : gi h2 (A + 3) k = gi h0 (A + 3) k := J2.2.2.2.2.2.1 k
      have h48 := s48 (d := d - 1) (by omega) k h2 J2.1 ⟨k0, hk4⟩
      rw [e6, hT, va2] at h48
      rw [b22_117, if_neg s1, h48, bk_v, b22_138]
      cases hc : cmpb (gi h0 (A + 3) k) (tv v (tm h0 A k 0)) (tv v (tm h0 A k 1)) with
      | false =>
        rw [bi_0 (by decide), if_pos rfl]
        exact ⟨h2, by rw [b22_148], J2, va2, by omega, by omega, x2, n1 hc⟩
      | true =>
        rw [bi_1 rfl, if_neg (by omega)]
        obtain ⟨p1, p2⟩ := n2 hc
        obtain ⟨h', r1, r2, r3, r4, r5, r6, r7⟩ := hnext h2 v _ _ _ _ _ _ J2 va2 (Jv_1 hJv (Or.inr s2)) p1 (by omega) (by omega)
        exact ⟨h', r1, r2, r3, by omega, by omega, ext_trans x2 r6, p2 h' r2 r3 r7⟩
    rw [if_neg s2]
    by_cases s0 : gi h0 (A + 2) k = 0
    · rw [if_pos s0]
      have hsub : (0 ≤ gi h0 (A + 3) k ∧ gi h0 (A + 3) k < 6) ∧ (0 ≤ gi h0 (A + 4) k ∧ gi h0 (A + 4) k ≤ 3) := by
        rcases hW with q | q | q
        · exact q.2
        · omega
        · omega
      have e6 : gi h2 (A + 3) k = gi h0 (A + 3) k := J2.2.2.2.2.2.1 k
      rw [ix_p k0 hk4, e6, b22_166, if_neg (by omega), ix_p hsub.1.1 hsub.1.2, J2.2.1, b22_188]
      rw [show gi h2 (P + 1) (gi h0 (A + 3) k) = rsz h2 P (gi h0 (A + 3) k) from rfl]
      have hE0 := J2.2.2.2.2.2.2.2.2.2.2.2.1 _ hsub.1.1 hsub.1.2
      generalize hr : gi h0 (A + 3) k = r at *
      have loop : ∀ (m : Nat) (p : Int) (hh : dm_H) (w2 w3 w7 : Option dm_V), 0 ≤ p → p + m = rsz h2 P r → Js A P V N rd na h0 hh → va hh 138 = v → LI k v h h2 p hh → ext P h2 hh → gi h 137 2 ≤ gi hh 137 2 → gi hh 137 2 ≤ gi h 137 2 + p * bb n →
          ∃ h', dL (d - 1) 22 193 [lR 1 5 137, lI k, w2, w3, lI r, lI (rsz h2 P r), lI p, w7] [] hh = rV h' ∧ Js A P V N rd na h0 h' ∧ va h' 138 = v ∧ gi h 137 2 ≤ gi h' 137 2 ∧ gi h' 137 2 ≤ gi h 137 2 + rsz h2 P r * bb n ∧ ext P h2 h' ∧ Post k v h h' := by
        intro m
        induction m with
        | zero =>
          intro p hh w2 w3 w7 p0 pm Jh vah hli hx hb2 hb3
          have hp : p = rsz h2 P r := by omega
          refine ⟨hh, ?_, Jh, vah, hb2, by rw [← hp]; exact hb3, hx, hLe k v h h2 p hh k0 hkN s0 Jh vah hli p0 (by rw [hr]; omega) (Or.inl (by rw [hr]; exact hp))⟩
          rw [b22_193, if_neg (by omega), b22_257]
        | succ m ihm =>
          intro p hh w2 w3 w7 p0 pm Jh vah hli hx hb2 hb3
          have hpE : p < rsz h2 P r := by omega
          have hmul : (p + 1) * bb (n : Int) = p * bb n + bb n := by rw [Int.add_mul, Int.one_mul]
          have hmle : (p + 1) * bb (n : Int) ≤ rsz h2 P r * bb n := Int.mul_le_mul_of_nonneg_right (by omega) (by omega)
          have hmle2 : rsz h2 P r * bb (n : Int) ≤ 32 * bb n := Int.mul_le_mul_of_nonneg_right (by omega) (by omega)
          rw [b22_193, if_pos hpE]
          by_cases hst : gi hh 137 5 = 0
          case neg =>
            rw [if_neg hst, b22_257]
            exact ⟨hh, rfl, Jh, vah, hb2, by omega, hx, hLe k v h h2 p hh k0 hkN s0 Jh vah hli p0 (by rw [hr]; omega) (Or.inr hst)⟩
          rw [if_pos hst, if_neg (by omega)]
          have K := Js_atk W Jh ⟨k0, hkN⟩ (by rw [hr]; exact hsub.1) hsub.2
          rw [hr] at K
          have hTh := Js_tm Jh k
          have h53 := s53 (d := d - 1) (by omega) hh K p ⟨p0, Int.lt_of_lt_of_le hpE (hx r hsub.1.1 hsub.1.2)⟩
          rw [hTh, vah] at h53
          by_cases hok : vis hh P k r p ∧ (∃ w, bA (tm h0 A k) (rws hh P r p) (gi h0 (A + 4) k).toNat 0 v = some w) ∧ ¬ rep hh A P k r (gi h0 (A + 4) k) p
          · obtain ⟨o1, ⟨w, o2⟩, o3⟩ := hok
            obtain ⟨f, f1, f2⟩ := h53.1 w o1 o2 o3
            obtain ⟨t1, t2⟩ := hLt k v h h2 p hh w k0 hkN s0 Jh vah hJv p0 (by rw [hr]; exact hpE) (by exact hli) hst (by rw [hr]; exact o1) (by rw [hr]; exact o2) (by rw [hr]; exact o3)
            obtain ⟨bn1, bn2⟩ := bA_nv hJv.1 o2
            have hcode := Jh.2.2.2.2.2.2.2.2.2.2.2.2 r p hsub.1.1 hsub.1.2 p0 (Int.lt_of_lt_of_le hpE (hx r hsub.1.1 hsub.1.2))
            have eqw : eqx hh (si (sv hh 138 w) 139 k p) := eqx_trans eqx_sv eqx_pl
            have vaw : va (si (sv hh 138 w) 139 k p) 138 = w := by
              rw [show va (si (sv hh 138 w) 139 k p) 138 = va (sv hh 138 w) 138 from by funext s; unfold va; rw [gi_sin (by omega)], va_sv bn1]
            have bw : gi (si (sv hh 138 w) 139 k p) 137 2 = gi hh 137 2 := by rw [gi_sin (by omega), gi_svn (by omega)]
            obtain ⟨h', r1, r2, r3, r4, r5, r6, r7⟩ := ih (d - 1) (k + 1) w (si (sv hh 138 w) 139 k p) (by omega) (by omega) (by omega) (hsame Jh eqw) vaw (Jv_at hJv s0 hcode hsub.2 o2) t1 (by omega) (by omega)
            have hsvv : h' = sv h' 138 w := (sv_eq r3.symm).symm
            rw [f2, bk_v, b22_230, if_neg (fsh_ne f1), ck_p (by omega) (by omega), r1, bk_n, b22_245]
            have hrel : dF (d - 1) 47 [dR 1 5 137, dI f] h' = rV (sv h' 138 v) := by
              have := s47b (d := d - 1) (by omega) f h' f1 bn2 hJv.1 bn1
              rwa [← hsvv] at this
            rw [hrel, bk_n, b22_251, ck_p (by omega) (by omega)]
            have eb : gi (sv h' 138 v) 137 2 = gi h' 137 2 := gi_svn (by omega)
            exact ihm (p + 1) (sv h' 138 v) _ _ _ (by omega) (by omega) (hsame r2 eqx_sv) (va_sv hJv.1) (t2 h' r2 r7) (ext_trans hx (ext_trans (ext_of hrw eqw) (ext_trans r6 (ext_of hrw eqx_sv)))) (by omega) (by omega)
          · obtain ⟨z, -, f2⟩ := h53.2 hok
            have t := hLf k v h h2 p hh z k0 hkN s0 Jh vah hJv p0 (by rw [hr]; exact hpE) hli hst (by rw [hr]; exact hok)
            rw [f2, bk_v, b22_230, if_pos rfl, b22_251, ck_p (by omega) (by omega)]
            have vaw : va (si hh 139 k z) 138 = v := by
              rw [← vah]; funext s; unfold va; rw [gi_sin (by omega)]
            have bw : gi (si hh 139 k z) 137 2 = gi hh 137 2 := by rw [gi_sin (by omega)]
            exact ihm (p + 1) (si hh 139 k z) _ _ _ (by omega) (by omega) (hsame Jh eqx_pl) vaw t (ext_trans hx (ext_of hrw eqx_pl)) (by omega) (by omega)
      have hmle2 : rsz h2 P r * bb (n : Int) ≤ 32 * bb n := Int.mul_le_mul_of_nonneg_right (by omega) (by omega)
      obtain ⟨h', r1, r2, r3, r4, r5, r6, r7⟩ := loop (rsz h2 P r).toNat 0 h2 _ _ _ (by omega) (by omega) J2 va2 (hL0 k v h h2 k0 hkN s0 J2 va2 hJv hmid st0) (ext_refl P h2) (by omega) (by omega)
      exact ⟨h', r1, r2, r3, r4, by omega, ext_trans x2 r6, r7⟩
    rw [if_neg s0]
    have s3 : gi h0 (A + 2) k = 3 ∧ slot (tm h0 A k 2) ≠ -1 ∧ ∀ i, i = 0 ∨ i = 1 → (0 ≤ tm h0 A k i ∧ tm h0 A k i ≤ 107) ∧ (slot (tm h0 A k i) ≠ -1 → kn h0 A k (slot (tm h0 A k i))) := by
      rcases hW with q | q | q
      · omega
      · omega
      · exact q
    obtain ⟨s3, s4, s5⟩ := s3
    have r0 := tv_r hJv (s5 0 (Or.inl rfl)).1 (s5 0 (Or.inl rfl)).2
    have r1 := tv_r hJv (s5 1 (Or.inr rfl)).1 (s5 1 (Or.inr rfl)).2
    have rr := rck_r (gi h0 (A + 3) k) (tv v (tm h0 A k 0)) (tv v (tm h0 A k 1))
    have hsl := slotne s4
    obtain ⟨m1, m2, m3⟩ := hM k v h h2 k0 hkN s3 J2 va2 hJv hmid st0
    have e6 : gi h2 (A + 3) k = gi h0 (A + 3) k := J2.2.2.2.2.2.1 k
    have h50 := s50 (d := d - 1) (by omega) k h2 J2.1 ⟨k0, hk4⟩ (by rw [hT, va2]; exact r0) (by rw [hT, va2]; exact r1) (by rw [hT]; exact s4)
    rw [e6, hT, va2] at h50
    have hend : ∀ (hh : dm_H) (w2 w3 w7 : Option dm_V), dL (d - 1) 22 251 [lR 1 5 137, lI k, w2, w3, lI (-1), lI 1, lI 0, w7] [] hh = rV hh := by
      intro hh w2 w3 w7
      rw [b22_251, ck_p (by omega) (by omega), b22_193, if_neg (by omega), b22_257]
    rw [b22_166, if_pos rfl, b22_188, b22_193, if_pos (by omega), if_pos st0, if_pos rfl, h50]
    generalize hs : slot (tm h0 A k 2) = s at *
    generalize hx : rck (gi h0 (A + 3) k) (tv v (tm h0 A k 0)) (tv v (tm h0 A k 1)) = x at *
    have hj3 := Jv_3 hJv s3 (by rw [hs]; exact s4) rr
    rw [hs] at hj3
    by_cases c1 : v s = -1
    · rw [if_pos c1]
      obtain ⟨q1, q2⟩ := m1 c1
      have hnw : nv (upd1 v s x) := nv_upd hJv.1 hsl
      have bw : gi (sv h2 138 (upd1 v s x)) 137 2 = gi h2 137 2 := gi_svn (by omega)
      obtain ⟨h', r1, r2, r3, r4, r5, r6, r7⟩ := ih (d - 1) (k + 1) (upd1 v s x) (sv h2 138 (upd1 v s x)) (by omega) (by omega) (by omega) (hsame J2 eqx_sv) (va_sv hnw) (hj3.1 c1) q1 (by omega) (by omega)
      have hf := fsh_1 (x := x) hsl c1 (by omega)
      have hsvv : h' = sv h' 138 (upd1 v s x) := (sv_eq r3.symm).symm
      have hrel : dF (d - 1) 47 [dR 1 5 137, dI (dm_shl 1 s)] h' = rV (sv h' 138 v) := by
        have := s47b (d := d - 1) (by omega) _ h' hf (lev_upd c1) hJv.1 hnw
        rwa [← hsvv] at this
      rw [bk_v, b22_218, b22_230, if_neg (fsh_ne hf), ck_p (by omega) (by omega), r1, bk_n, b22_245, hrel, bk_n, hend]
      have eb : gi (sv h' 138 v) 137 2 = gi h' 137 2 := gi_svn (by omega)
      exact ⟨sv h' 138 v, rfl, hsame r2 eqx_sv, va_sv hJv.1, by omega, by omega, ext_trans x2 (ext_trans (ext_of hrw eqx_sv) (ext_trans r6 (ext_of hrw eqx_sv))), q2 h' r2 r7⟩
    rw [if_neg c1]
    by_cases c2 : v s = x
    · rw [if_pos c2]
      obtain ⟨q1, q2⟩ := m2 c1 c2
      obtain ⟨h', r1, r2, r3, r4, r5, r6, r7⟩ := ih (d - 1) (k + 1) v h2 (by omega) (by omega) (by omega) J2 va2 (hj3.2 c2) q1 (by omega) (by omega)
      have hrel : dF (d - 1) 47 [dR 1 5 137, dI 0] h' = rV h' := by
        rw [f47 (by omega), b47_0, if_pos rfl]
      rw [bk_v, b22_218, b22_230, if_neg (by omega), ck_p (by omega) (by omega), r1, bk_n, b22_245, hrel, bk_n, hend]
      exact ⟨h', rfl, r2, r3, by omega, by omega, ext_trans x2 r6, q2 h' r2 r3 r7⟩
    rw [if_neg c2, bk_v, b22_218, b22_230, if_pos rfl, hend]
    exact ⟨h2, rfl, J2, va2, by omega, by omega, x2, m3 c1 c2⟩
end STEP
