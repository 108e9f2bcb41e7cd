/-! WHAT FOLLOWS GROWS WITH THE ROWS: rules that are not SHRINKING, literal by literal -/
def inW (ω : mW) (r c : Int) : Prop := ∃ x, 0 ≤ x ∧ x < ω.1 r ∧ ω.2 r x = c
/-- what literal k makes of v, by the rows there are -/
def stp (ρ : mR) (ω : mW) (k : Int) (v w : mA) : Prop :=
  (ρ.1 k = 0 ∧ ∃ c, inW ω (ρ.2.1 k) c ∧ bA (ρ.2.2.2 k) c (ρ.2.2.1 k).toNat 0 v = some w) ∨
  (ρ.1 k = 1 ∧ (¬ ∃ c, inW ω (ρ.2.1 k) c ∧ fitb (ρ.2.2.2 k) (ρ.2.2.1 k).toNat v c) ∧ w = v) ∨
  (ρ.1 k = 2 ∧ cmpb (ρ.2.1 k) (tv v (ρ.2.2.2 k 0)) (tv v (ρ.2.2.2 k 1)) = true ∧ w = v) ∨
  (ρ.1 k ≠ 0 ∧ ρ.1 k ≠ 1 ∧ ρ.1 k ≠ 2 ∧ ((v (slot (ρ.2.2.2 k 2)) = -1 ∧ w = upd1 v (slot (ρ.2.2.2 k 2)) (rck (ρ.2.1 k) (tv v (ρ.2.2.2 k 0)) (tv v (ρ.2.2.2 k 1)))) ∨ (v (slot (ρ.2.2.2 k 2)) ≠ -1 ∧ v (slot (ρ.2.2.2 k 2)) = rck (ρ.2.1 k) (tv v (ρ.2.2.2 k 0)) (tv v (ρ.2.2.2 k 1)) ∧ w = v)))
/-- rows that are alike are taken alike -/
theorem bA_alike {t : Int → Int} {c c' : Int} : ∀ {n : Nat} {i : Int} {v : mA}, (∀ j, i ≤ j → j < i + n → t j = -1 ∨ cv j c = cv j c') → bA t c n i v = bA t c' n i v
  | 0, _, _, _ => rfl
  | n + 1, i, v, h => by
    have e : b1 v (t i) (cv i c) = b1 v (t i) (cv i c') := by
      rcases h i (by omega) (by omega) with q | q
      · unfold b1; rw [if_pos q, if_pos q]
      · rw [q]
    unfold bA
    rw [e]
    cases b1 v (t i) (cv i c') with
    | none => rfl
    | some u => exact bA_alike (fun j j0 j1 => h j (by omega) (by omega))
theorem mem_opA {t : Int → Int} {w : Int} {c : Int → Int} {v u : mA} {n : Nat} (hw : 0 ≤ w) : u ∈ opA t w c v n ↔ ∃ x : Int, 0 ≤ x ∧ x < n ∧ bA t (c x) w.toNat 0 v = some u := by
  constructor
  · intro h
    obtain ⟨p, hp, hu⟩ := List.mem_flatMap.mp h
    unfold one at hu
    split at hu
    · cases hu
    · exact ⟨p, by omega, by have := List.mem_range.mp hp; omega, Option.mem_toList.mp hu⟩
  · rintro ⟨x, x0, x1, x2⟩
    have key : ∀ (m : Nat) (x : Int), x.toNat ≤ m → 0 ≤ x → x < n → bA t (c x) w.toNat 0 v = some u → u ∈ opA t w c v n := by
      intro m
      induction m with
      | zero =>
        intro x hm x0 x1 x2
        have : x = 0 := by omega
        subst this
        refine List.mem_flatMap.mpr ⟨0, List.mem_range.mpr (by omega), ?_⟩
        show u ∈ one t w c v 0
        rw [one_some (u := u) (fun ⟨e, e0, e1, _⟩ => by omega) x2]
        exact List.mem_singleton.mpr rfl
      | succ m ih =>
        intro x hm x0 x1 x2
        by_cases q : ∃ e, 0 ≤ e ∧ e < x ∧ alike t w (c e) (c x)
        · obtain ⟨e, e0, e1, e2⟩ := q
          refine ih e (by omega) e0 (by omega) ?_
          rw [bA_alike (c' := c x) (fun j j0 j1 => e2 j j0 (by omega))]
          exact x2
        · refine List.mem_flatMap.mpr ⟨x.toNat, List.mem_range.mpr (by omega), ?_⟩
          rw [show ((x.toNat : Nat) : Int) = x by omega, one_some (u := u) q x2]
          exact List.mem_singleton.mpr rfl
    exact key x.toNat x (Nat.le_refl _) x0 x1 x2
theorem mem_opt {ρ : mR} {ω : mW} {k : Int} {v u : mA} (hw : ρ.1 k = 0 → 0 ≤ ρ.2.2.1 k) : u ∈ opt ρ ω k v ↔ stp ρ ω k v u := by
  unfold opt stp
  by_cases h0 : ρ.1 k = 0
  · rw [if_pos h0, mem_opA (hw h0)]
    constructor
    · rintro ⟨x, x0, x1, x2⟩
      exact Or.inl ⟨h0, _, ⟨x, x0, by omega, rfl⟩, x2⟩
    · rintro (⟨_, c, ⟨x, x0, x1, rfl⟩, x2⟩ | ⟨q, _⟩ | ⟨q, _⟩ | ⟨q, _⟩)
      · exact ⟨x, x0, by omega, x2⟩
      · omega
      · omega
      · exact absurd h0 q
  rw [if_neg h0]
  by_cases h1 : ρ.1 k = 1
  · rw [if_pos h1]
    have hiff : fitE (ρ.2.2.2 k) (ρ.2.2.1 k) (ω.2 (ρ.2.1 k)) (ω.1 (ρ.2.1 k)) v ↔ ∃ c, inW ω (ρ.2.1 k) c ∧ fitb (ρ.2.2.2 k) (ρ.2.2.1 k).toNat v c := by
      constructor
      · rintro ⟨x, x0, x1, x2⟩
        exact ⟨_, ⟨x, x0, x1, rfl⟩, x2⟩
      · rintro ⟨c, ⟨x, x0, x1, rfl⟩, x2⟩
        exact ⟨x, x0, x1, x2⟩
    by_cases q : fitE (ρ.2.2.2 k) (ρ.2.2.1 k) (ω.2 (ρ.2.1 k)) (ω.1 (ρ.2.1 k)) v
    · rw [@if_pos _ (Classical.propDecidable _) q]
      constructor
      · intro z; cases z
      · rintro (⟨z, _⟩ | ⟨_, z, _⟩ | ⟨z, _⟩ | ⟨_, z, _⟩)
        · exact absurd z h0
        · exact absurd (hiff.mp q) z
        · omega
        · exact absurd h1 z
    · rw [@if_neg _ (Classical.propDecidable _) q, List.mem_singleton]
      constructor
      · intro z
        exact Or.inr (Or.inl ⟨h1, fun y => q (hiff.mpr y), z⟩)
      · rintro (⟨z, _⟩ | ⟨_, _, z⟩ | ⟨z, _⟩ | ⟨_, z, _⟩)
        · exact absurd z h0
        · exact z
        · omega
        · exact absurd h1 z
  rw [if_neg h1]
  by_cases h2 : ρ.1 k = 2
  · rw [if_pos h2]
    by_cases q : cmpb (ρ.2.1 k) (tv v (ρ.2.2.2 k 0)) (tv v (ρ.2.2.2 k 1)) = true
    · rw [if_pos q, List.mem_singleton]
      constructor
      · intro z
        exact Or.inr (Or.inr (Or.inl ⟨h2, q, z⟩))
      · rintro (⟨z, _⟩ | ⟨z, _⟩ | ⟨_, _, z⟩ | ⟨_, _, z, _⟩)
        · exact absurd z h0
        · exact absurd z h1
        · exact z
        · exact absurd h2 z
    · rw [if_neg q]
      constructor
      · intro z; cases z
      · rintro (⟨z, _⟩ | ⟨z, _⟩ | ⟨_, z, _⟩ | ⟨_, _, z, _⟩)
        · exact absurd z h0
        · exact absurd z h1
        · exact absurd z q
        · exact absurd h2 z
  rw [if_neg h2]
  by_cases c1 : v (slot (ρ.2.2.2 k 2)) = -1
  · rw [if_pos c1, List.mem_singleton]
    constructor
    · intro z
      exact Or.inr (Or.inr (Or.inr ⟨h0, h1, h2, Or.inl ⟨c1, z⟩⟩))
    · rintro (⟨z, _⟩ | ⟨z, _⟩ | ⟨z, _⟩ | ⟨_, _, _, ⟨_, z⟩ | ⟨z, _⟩⟩)
      · exact absurd z h0
      · exact absurd z h1
      · exact absurd z h2
      · exact z
      · exact absurd c1 z
  rw [if_neg c1]
  by_cases c2 : v (slot (ρ.2.2.2 k 2)) = rck (ρ.2.1 k) (tv v (ρ.2.2.2 k 0)) (tv v (ρ.2.2.2 k 1))
  · rw [if_pos c2, List.mem_singleton]
    constructor
    · intro z
      exact Or.inr (Or.inr (Or.inr ⟨h0, h1, h2, Or.inr ⟨c1, c2, z⟩⟩))
    · rintro (⟨z, _⟩ | ⟨z, _⟩ | ⟨z, _⟩ | ⟨_, _, _, ⟨z, _⟩ | ⟨_, _, z⟩⟩)
      · exact absurd z h0
      · exact absurd z h1
      · exact absurd z h2
      · exact absurd z c1
      · exact z
  · rw [if_neg c2]
    constructor
    · intro z; cases z
    · rintro (⟨z, _⟩ | ⟨z, _⟩ | ⟨z, _⟩ | ⟨_, _, _, ⟨z, _⟩ | ⟨_, z, _⟩⟩)
      · exact absurd z h0
      · exact absurd z h1
      · exact absurd z h2
      · exact absurd z c1
      · exact absurd z c2
/-- which way a term goes -/
def coT (c : Int → Int) (t : Int) : Int := if slot t = -1 then 0 else c (slot t)
def cmb (w l r : Int) : Int := if w = 5 then 0 else if w = 1 then (if l ≠ 0 ∧ r ≠ 0 then 0 else l - r) else if l = r then l else l + r
/-- v' is ahead of v on its way, where c tells which way each variable goes -/
def cle (c : Int → Int) (v' v : mA) : Prop := ∀ s, (v s = -1 ↔ v' s = -1) ∧ (c s = 0 → v' s = v s) ∧ (c s = -1 → v' s ≤ v s) ∧ (c s = 1 → v s ≤ v' s)
theorem cle_refl (c : Int → Int) (v : mA) : cle c v v := fun _ => ⟨Iff.rfl, fun _ => rfl, fun _ => Int.le_refl _, fun _ => Int.le_refl _⟩
theorem cle_upd {c : Int → Int} {v' v : mA} (h : cle c v' v) {s x : Int} (hx : x ≠ -1) : cle c (upd1 v' s x) (upd1 v s x) := by
  intro j
  by_cases e : j = s
  · have e1 : upd1 v' s x j = x := if_pos e
    have e2 : upd1 v s x j = x := if_pos e
    rw [e1, e2]
    exact ⟨Iff.rfl, fun _ => rfl, fun _ => Int.le_refl _, fun _ => Int.le_refl _⟩
  · have e1 : upd1 v' s x j = v' j := if_neg e
    have e2 : upd1 v s x j = v j := if_neg e
    rw [e1, e2]
    exact h j
theorem tv_st {c : Int → Int} {v' v : mA} (h : cle c v' v) {t : Int} (ht : coT c t = 0) : tv v' t = tv v t := by
  unfold tv
  by_cases h1 : t < 100
  · rw [if_pos h1, if_pos h1]
  rw [if_neg h1, if_neg h1]
  by_cases h2 : 107 < t
  · rw [if_pos h2, if_pos h2]
  rw [if_neg h2, if_neg h2]
  have hs := slot_v (t := t) ⟨by omega, by omega⟩
  unfold coT at ht
  rw [if_neg (by omega), hs] at ht
  exact (h (t - 100)).2.1 ht
theorem b1_st {c : Int → Int} {v' v u : mA} (h : cle c v' v) {t x : Int} (hx : 0 ≤ x) (ht : coT c t = 0) (hb : b1 v t x = some u) : ∃ u', b1 v' t x = some u' ∧ cle c u' u := by
  unfold b1 at hb ⊢
  by_cases h1 : t = -1
  · rw [if_pos h1] at hb ⊢
    cases hb
    exact ⟨v', rfl, h⟩
  rw [if_neg h1] at hb ⊢
  by_cases h2 : slot t = -1
  · rw [if_pos h2] at hb ⊢
    by_cases h3 : t = x
    · rw [if_pos h3] at hb ⊢
      cases hb
      exact ⟨v', rfl, h⟩
    · rw [if_neg h3] at hb; cases hb
  rw [if_neg h2] at hb ⊢
  have hc : c (slot t) = 0 := by
    unfold coT at ht
    rwa [if_neg h2] at ht
  have he := (h (slot t)).2.1 hc
  rw [he]
  by_cases h3 : v (slot t) = -1
  · rw [if_pos h3] at hb ⊢
    cases hb
    exact ⟨_, rfl, cle_upd h (by omega)⟩
  rw [if_neg h3] at hb ⊢
  by_cases h4 : v (slot t) = x
  · rw [if_pos h4] at hb ⊢
    cases hb
    exact ⟨v', rfl, h⟩
  · rw [if_neg h4] at hb; cases hb
theorem bA_st {c : Int → Int} {t : Int → Int} {x x' : Int} (hx : 0 ≤ x) : ∀ {n : Nat} {i : Int} {v' v u : mA}, cle c v' v → (∀ j, i ≤ j → j < i + n → coT c (t j) = 0 ∧ (t j = -1 ∨ cv j x' = cv j x)) → bA t x n i v = some u → ∃ u', bA t x' n i v' = some u' ∧ cle c u' u
  | 0, i, v', v, u, h, _, hb => by cases hb; exact ⟨v', rfl, h⟩
  | n + 1, i, v', v, u, h, hj, hb => by
    obtain ⟨j1, j2⟩ := hj i (by omega) (by omega)
    have e : b1 v' (t i) (cv i x') = b1 v' (t i) (cv i x) := by
      rcases j2 with q | q
      · unfold b1; rw [if_pos q, if_pos q]
      · rw [q]
    unfold bA at hb ⊢
    rw [e]
    cases hv : b1 v (t i) (cv i x) with
    | none => rw [hv] at hb; cases hb
    | some y =>
      rw [hv] at hb
      obtain ⟨y', y1, y2⟩ := b1_st h (cv_nn hx) j1 hv
      rw [y1]
      exact bA_st hx y2 (fun j j0 j9 => hj j (by omega) (by omega)) hb
theorem bA_snoc {t : Int → Int} {x : Int} : ∀ {n : Nat} {i : Int} {v : mA}, bA t x (n + 1) i v = (match bA t x n i v with
    | none => none
    | some u => b1 u (t (i + n)) (cv (i + n) x))
  | 0, i, v => by
    show (match b1 v (t i) (cv i x) with
      | none => none
      | some u => some u) = b1 v (t (i + 0)) (cv (i + 0) x)
    rw [Int.add_zero]
    cases b1 v (t i) (cv i x) <;> rfl
  | n + 1, i, v => by
    show (match b1 v (t i) (cv i x) with
      | none => none
      | some u => bA t x (n + 1) (i + 1) u) = (match (match b1 v (t i) (cv i x) with
        | none => none
        | some u => bA t x n (i + 1) u) with
      | none => none
      | some u => b1 u (t (i + (n + 1 : Nat))) (cv (i + (n + 1 : Nat)) x))
    cases b1 v (t i) (cv i x) with
    | none => rfl
    | some u =>
      show bA t x (n + 1) (i + 1) u = (match bA t x n (i + 1) u with
        | none => none
        | some u => b1 u (t (i + (n + 1 : Nat))) (cv (i + (n + 1 : Nat)) x))
      rw [bA_snoc, show i + (n + 1 : Nat) = i + 1 + (n : Int) by omega]
theorem clamp_le {a b : Int} (h : a ≤ b) : clamp a ≤ clamp b := by
  unfold clamp
  repeat' split
  all_goals omega
/-- a reckoning goes on as its terms do -/
theorem rck_mono {w a a' b b' l r : Int} (ha : 0 ≤ a) (ha' : 0 ≤ a') (hb : 0 ≤ b) (hb' : 0 ≤ b') (hw : 0 ≤ w ∧ w ≤ 5) (hl : l = -1 ∨ l = 0 ∨ l = 1) (hr : r = -1 ∨ r = 0 ∨ r = 1) (la : (l = 0 → a' = a) ∧ (l = -1 → a' ≤ a) ∧ (l = 1 → a ≤ a')) (lb : (r = 0 → b' = b) ∧ (r = -1 → b' ≤ b) ∧ (r = 1 → b ≤ b')) :
    (l = 0 ∧ r = 0 → rck w a' b' = rck w a b) ∧ (cmb w l r = -1 → rck w a' b' ≤ rck w a b) ∧ (cmb w l r = 1 → rck w a b ≤ rck w a' b') ∧ (cmb w l r = -1 ∨ cmb w l r = 0 ∨ cmb w l r = 1 ∨ cmb w l r = 2 ∨ cmb w l r = -2) := by
  have m1 : a' ≤ a → b' ≤ b → a' * b' ≤ a * b := fun h1 h2 => Int.mul_le_mul h1 h2 hb' ha
  have m2 : a ≤ a' → b ≤ b' → a * b ≤ a' * b' := fun h1 h2 => Int.mul_le_mul h1 h2 hb ha'
  refine ⟨fun h => ?_, fun h => ?_, fun h => ?_, ?_⟩
  · rw [la.1 h.1, lb.1 h.2]
  · unfold rck
    apply clamp_le
    unfold cmb at h
    rcases (show w = 0 ∨ w = 1 ∨ w = 2 ∨ w = 3 ∨ w = 4 ∨ w = 5 by omega) with rfl | rfl | rfl | rfl | rfl | rfl <;> rcases hl with rfl | rfl | rfl <;> rcases hr with rfl | rfl | rfl <;> simp at h la lb ⊢ <;> first | omega | (apply m1 <;> omega) | (subst la; apply m1 <;> omega) | (repeat' split) <;> omega
  · unfold rck
    apply clamp_le
    unfold cmb at h
    rcases (show w = 0 ∨ w = 1 ∨ w = 2 ∨ w = 3 ∨ w = 4 ∨ w = 5 by omega) with rfl | rfl | rfl | rfl | rfl | rfl <;> rcases hl with rfl | rfl | rfl <;> rcases hr with rfl | rfl | rfl <;> simp at h la lb ⊢ <;> first | omega | (apply m2 <;> omega) | (repeat' split) <;> omega
  · unfold cmb
    repeat' split
    all_goals omega
