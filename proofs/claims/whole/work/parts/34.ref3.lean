/-! THE REFERENCE'S BINDINGS, one by one: the same list -/
def rsrt (h : dm_H) (p k : Int) : Int := if lq h p k 0 = 0 then (if lq h p k 2 = 0 then 0 else 1) else if lq h p k 0 = 1 then 2 else 3
def rsbj (h : dm_H) (p k : Int) : Int := if lq h p k 0 = 0 then lq h p k 1 else lq h p k 2
def rwid (h : dm_H) (p k : Int) : Int := if lq h p k 0 = 0 then gi h 166 (lq h p k 1) else 2
def rtrm (h : dm_H) (p k i : Int) : Int := if lq h p k 0 = 2 ∧ i = 2 then lq h p k 1 else lq h p k (3 + i)
def rRl (h : dm_H) (p : Int) : mR := (rsrt h p, rsbj h p, rwid h p, rtrm h p)
def rW (h : dm_H) : mW := (fun r => gi h 178 r, fun r => rrw h r)
/-- variables that the first k literals give numbers -/
def kng (ρ : mR) (k s : Int) : Prop := ∃ j, 0 ≤ j ∧ j < k ∧ ((ρ.1 j = 0 ∧ ∃ i, 0 ≤ i ∧ i < ρ.2.2.1 j ∧ slot (ρ.2.2.2 j i) = s) ∨ (ρ.1 j = 3 ∧ slot (ρ.2.2.2 j 2) = s))
def Jg (ρ : mR) (k : Int) (v : mA) : Prop := nv v ∧ vr v ∧ ∀ s, s ≠ -1 → kng ρ k s → v s ≠ -1
theorem kng_succ {ρ : mR} {k s : Int} (h : kng ρ (k + 1) s) : kng ρ k s ∨ (ρ.1 k = 0 ∧ ∃ i, 0 ≤ i ∧ i < ρ.2.2.1 k ∧ slot (ρ.2.2.2 k i) = s) ∨ (ρ.1 k = 3 ∧ slot (ρ.2.2.2 k 2) = s) := by
  obtain ⟨j, j1, j2, j3⟩ := h
  by_cases e : j = k
  · subst e; exact Or.inr j3
  · exact Or.inl ⟨j, j1, by omega, j3⟩
/-- a rule's literals, and the rows, as they have to be -/
def GW (ρ : mR) (ω : mW) (N : Int) : Prop := (0 ≤ N ∧ N ≤ 4) ∧ ∀ k, 0 ≤ k → k < N →
  (ρ.1 k = 0 ∧ (0 ≤ ρ.2.1 k ∧ ρ.2.1 k < 6) ∧ (0 ≤ ρ.2.2.1 k ∧ ρ.2.2.1 k ≤ 3) ∧ (∀ i, 0 ≤ i → i < 3 → -1 ≤ ρ.2.2.2 k i ∧ ρ.2.2.2 k i ≤ 107) ∧ (0 ≤ ω.1 (ρ.2.1 k) ∧ ω.1 (ρ.2.1 k) ≤ 32) ∧ (∀ x, 0 ≤ x → x < ω.1 (ρ.2.1 k) → 0 ≤ ω.2 (ρ.2.1 k) x ∧ ω.2 (ρ.2.1 k) x < 1000000) ∧ dst (ω.2 (ρ.2.1 k)) (ω.1 (ρ.2.1 k)) (ρ.2.2.1 k)) ∨
  (ρ.1 k = 1 ∧ (0 ≤ ρ.2.1 k ∧ ρ.2.1 k < 6) ∧ (0 ≤ ρ.2.2.1 k ∧ ρ.2.2.1 k ≤ 3) ∧ (∀ i, 0 ≤ i → i < 3 → -1 ≤ ρ.2.2.2 k i ∧ ρ.2.2.2 k i ≤ 107) ∧ (0 ≤ ω.1 (ρ.2.1 k) ∧ ω.1 (ρ.2.1 k) ≤ 32) ∧ (∀ x, 0 ≤ x → x < ω.1 (ρ.2.1 k) → 0 ≤ ω.2 (ρ.2.1 k) x ∧ ω.2 (ρ.2.1 k) x < 1000000) ∧ ∀ i, 0 ≤ i → i < ρ.2.2.1 k → slot (ρ.2.2.2 k i) ≠ -1 → kng ρ k (slot (ρ.2.2.2 k i))) ∨
  ((ρ.1 k = 2 ∨ (ρ.1 k = 3 ∧ 100 ≤ ρ.2.2.2 k 2 ∧ ρ.2.2.2 k 2 ≤ 107)) ∧ ∀ i, i = 0 ∨ i = 1 → (0 ≤ ρ.2.2.2 k i ∧ ρ.2.2.2 k i ≤ 107) ∧ (slot (ρ.2.2.2 k i) ≠ -1 → kng ρ k (slot (ρ.2.2.2 k i))))
theorem tv_g {ρ : mR} {k t : Int} {v : mA} (hv : Jg ρ k v) (ht : 0 ≤ t ∧ t ≤ 107) (hk : slot t ≠ -1 → kng ρ k (slot t)) : 0 ≤ tv v t ∧ tv v t ≤ 99 := by
  unfold tv
  by_cases h1 : t < 100
  · rw [if_pos h1]; omega
  · have hs : slot t = t - 100 := by unfold slot; rw [if_neg h1, if_neg (by omega)]
    rw [if_neg h1, if_neg (by omega), ← hs]
    have h3 := hv.2.2 (slot t) (by omega) (hk (by omega))
    have := hv.2.1 (slot t)
    omega
theorem slot_v {t : Int} (h : 100 ≤ t ∧ t ≤ 107) : slot t = t - 100 := by unfold slot; rw [if_neg (by omega), if_neg (by omega)]
/-- with known numbers, to fit is to be bound -/
theorem fit_eq {t : Int → Int} {c : Int} (hc : 0 ≤ c ∧ c < 1000000) : ∀ {n : Nat} {i : Int} {v : mA}, 0 ≤ i → i + n ≤ 3 → (∀ j, i ≤ j → j < i + n → (-1 ≤ t j ∧ t j ≤ 107) ∧ (slot (t j) ≠ -1 → v (slot (t j)) ≠ -1)) → ((bA t c n i v).isSome = true ↔ ∀ j, i ≤ j → j < i + n → t j = -1 ∨ tv v (t j) = cv j c)
  | 0, i, v, _, _, _ => ⟨fun _ j h1 h2 => absurd h2 (by omega), fun _ => rfl⟩
  | n + 1, i, v, h0, hn, hk => by
    have hx := cv_r (i := i) (c := c) ⟨h0, by omega⟩ hc
    obtain ⟨k1, k2⟩ := hk i (by omega) (by omega)
    have hb : b1 v (t i) (cv i c) = if t i = -1 ∨ tv v (t i) = cv i c then some v else none := by
      unfold b1
      by_cases h1 : t i = -1
      · rw [if_pos h1, if_pos (Or.inl h1)]
      rw [if_neg h1]
      by_cases h2 : t i < 100
      · have e1 : slot (t i) = -1 := if_pos h2
        have e2 : tv v (t i) = t i := if_pos h2
        rw [if_pos e1, e2]
        by_cases h3 : t i = cv i c
        · rw [if_pos h3, if_pos (Or.inr h3)]
        · rw [if_neg h3, if_neg (by omega)]
      · have e1 := slot_v (t := t i) ⟨by omega, by omega⟩
        have e2 : tv v (t i) = v (slot (t i)) := by unfold tv; rw [if_neg h2, if_neg (by omega), e1]
        rw [if_neg (show ¬ slot (t i) = -1 by omega), if_neg (k2 (by omega)), e2]
        by_cases h3 : v (slot (t i)) = cv i c
        · rw [if_pos h3, if_pos (Or.inr h3)]
        · rw [if_neg h3, if_neg (by omega)]
    have ih := fit_eq (t := t) (c := c) hc (n := n) (i := i + 1) (v := v) (by omega) (by omega) (fun j j1 j2 => hk j (by omega) (by omega))
    show ((match b1 v (t i) (cv i c) with
      | none => none
      | some v' => bA t c n (i + 1) v').isSome = true) ↔ _
    rw [hb]
    by_cases h1 : t i = -1 ∨ tv v (t i) = cv i c
    · rw [if_pos h1]
      show (bA t c n (i + 1) v).isSome = true ↔ _
      rw [ih]
      constructor
      · intro z j j1 j2
        by_cases e : j = i
        · rw [e]; exact h1
        · exact z j (by omega) (by omega)
      · intro z j j1 j2
        exact z j (by omega) (by omega)
    · rw [if_neg h1]
      constructor
      · intro z; cases z
      · intro z
        exact absurd (z i (by omega) (by omega)) h1
theorem Jg_at {ρ : mR} {k c : Int} {v w : mA} (hv : Jg ρ k v) (hs : ρ.1 k = 0) (hc : 0 ≤ c ∧ c < 1000000) (hw : 0 ≤ ρ.2.2.1 k ∧ ρ.2.2.1 k ≤ 3) (h : bA (ρ.2.2.2 k) c (ρ.2.2.1 k).toNat 0 v = some w) : Jg ρ (k + 1) w := by
  obtain ⟨a1, a2⟩ := bA_nv hv.1 h
  obtain ⟨a3, a4⟩ := bA_kn hc (by omega) (by omega) hv.1 hv.2.1 h
  refine ⟨a1, a3, fun s h1 h2 => ?_⟩
  rcases kng_succ h2 with q | ⟨_, i, i1, i2, i3⟩ | ⟨q, _⟩
  · rw [a2 s (hv.2.2 s h1 q)]
    exact hv.2.2 s h1 q
  · rw [← i3]
    exact a4 i i1 (by omega) (by rw [i3]; exact h1)
  · omega
/-- each option keeps what is known -/
theorem opt_J {ρ : mR} {ω : mW} {N k : Int} {v u : mA} (G : GW ρ ω N) (hk : 0 ≤ k ∧ k < N) (hv : Jg ρ k v) (hu : u ∈ opt ρ ω k v) : Jg ρ (k + 1) u ∧ lev v u := by
  unfold opt at hu
  rcases G.2 k hk.1 hk.2 with ⟨s, s1, s2, s3, s4, s5, s6⟩ | ⟨s, s1, s2, s3, s4, s5, s6⟩ | ⟨s, s1⟩
  · rw [if_pos s] at hu
    obtain ⟨x, hx, hx2⟩ := List.mem_flatMap.mp hu
    unfold one at hx2
    split at hx2
    · cases hx2
    · rw [Option.mem_toList] at hx2
      have hxr := List.mem_range.mp hx
      exact ⟨Jg_at hv s (s5 x (by omega) (by omega)) s2 hx2, (bA_nv hv.1 hx2).2⟩
  · rw [if_neg (by omega), if_pos s] at hu
    have hJ : Jg ρ (k + 1) v := by
      refine ⟨hv.1, hv.2.1, fun z z1 z2 => ?_⟩
      rcases kng_succ z2 with q | ⟨q, _⟩ | ⟨q, _⟩
      · exact hv.2.2 z z1 q
      · omega
      · omega
    split at hu
    · cases hu
    · rw [List.mem_singleton.mp hu]
      exact ⟨hJ, lev_refl _⟩
  · rcases s with s | ⟨s, s2, s3⟩
    · rw [if_neg (by omega), if_neg (by omega), if_pos s] at hu
      have hJ : Jg ρ (k + 1) v := by
        refine ⟨hv.1, hv.2.1, fun z z1 z2 => ?_⟩
        rcases kng_succ z2 with q | ⟨q, _⟩ | ⟨q, _⟩
        · exact hv.2.2 z z1 q
        · omega
        · omega
      split at hu
      · rw [List.mem_singleton.mp hu]
        exact ⟨hJ, lev_refl _⟩
      · cases hu
    · rw [if_neg (by omega), if_neg (by omega), if_neg (by omega)] at hu
      have hsl := slot_v ⟨s2, s3⟩
      have hr := rck_r (ρ.2.1 k) (tv v (ρ.2.2.2 k 0)) (tv v (ρ.2.2.2 k 1))
      split at hu
      · rename_i c1
        rw [List.mem_singleton.mp hu]
        refine ⟨⟨nv_upd hv.1 (by omega), vr_upd hv.2.1 hr, fun z z1 z2 => ?_⟩, lev_upd c1⟩
        rcases kng_succ z2 with q | ⟨q, _⟩ | ⟨_, q⟩
        · rw [lev_upd c1 z (hv.2.2 z z1 q)]
          exact hv.2.2 z z1 q
        · omega
        · unfold upd1
          rw [if_pos q.symm]
          omega
      · split at hu
        · rename_i c1 c2
          rw [List.mem_singleton.mp hu]
          refine ⟨⟨hv.1, hv.2.1, fun z z1 z2 => ?_⟩, lev_refl _⟩
          rcases kng_succ z2 with q | ⟨q, _⟩ | ⟨_, q⟩
          · exact hv.2.2 z z1 q
          · omega
          · rw [← q]; exact c1
        · cases hu
/-- the rule in place p is written as the reference writes rules -/
def RF (h : dm_H) (p N : Int) : Prop := (0 ≤ p ∧ p ≤ 10) ∧ ∀ k, 0 ≤ k → k < N → (lq h p k 0 = 0 ∨ lq h p k 0 = 1 ∨ lq h p k 0 = 2)
/-- what is left of literal k's options -/
noncomputable def ops (ρ : mR) (ω : mW) (k : Int) (v : mA) (c : Int) : List mA := if ρ.1 k = 0 then opS (ρ.2.2.2 k) (ρ.2.2.1 k) (ω.2 (ρ.2.1 k)) v (ω.1 (ρ.2.1 k)).toNat c.toNat else if c = 0 then opt ρ ω k v else []
theorem ops_0 (ρ : mR) (ω : mW) (k : Int) (v : mA) : ops ρ ω k v 0 = opt ρ ω k v := by
  unfold ops
  by_cases h : ρ.1 k = 0
  · rw [if_pos h]
    unfold opt
    rw [if_pos h]
    exact opS_0 _ _ _ _ _
  · rw [if_neg h, if_pos rfl]
theorem ops_mem {ρ : mR} {ω : mW} {k c : Int} {v u : mA} (h : u ∈ ops ρ ω k v c) : u ∈ opt ρ ω k v := by
  unfold ops at h
  by_cases hs : ρ.1 k = 0
  · rw [if_pos hs] at h
    unfold opt
    rw [if_pos hs]
    unfold opS at h
    obtain ⟨x, hx, hx2⟩ := List.mem_flatMap.mp h
    obtain ⟨i, i1, i2⟩ := List.mem_range'.mp hx
    refine List.mem_flatMap.mpr ⟨x, List.mem_range.mpr ?_, hx2⟩
    omega
  · rw [if_neg hs] at h
    split at h
    · exact h
    · cases h
/-- where a cursor may stand -/
def cuk (ρ : mR) (ω : mW) (k c : Int) : Prop := 0 ≤ c ∧ (if ρ.1 k = 0 then c ≤ ω.1 (ρ.2.1 k) else c ≤ 1)
theorem s192 {d : Nat} (hd : 5 ≤ d) {p N k : Int} {v : mA} (h : dm_H) (G : GW (rRl h p) (rW h) N) (F : RF h p N) (hk : 0 ≤ k ∧ k < N) (hva : va h 185 = v) (hJ : Jg (rRl h p) k v) (hck : ∀ s, 0 ≤ s → s < 8 → gi h 186 s ≠ k) (hci : ∀ s, 0 ≤ s → s < 8 → gi h 185 s = -1 → gi h 186 s = -1) (hcu : cuk (rRl h p) (rW h) k (gi h 187 k)) :
    (ops (rRl h p) (rW h) k v (gi h 187 k) = [] → ∃ c, dF d 192 [dR 1 11 165, dI p, dI k] h = rI 0 (si h 187 k c)) ∧ (∀ u l, ops (rRl h p) (rW h) k v (gi h 187 k) = u :: l → ∃ c, cuk (rRl h p) (rW h) k c ∧ ops (rRl h p) (rW h) k v c = l ∧ dF d 192 [dR 1 11 165, dI p, dI k] h = rI 1 (tk (si h 187 k c) k u)) := by
  obtain ⟨hp, hF⟩ := F
  have hk4 : 0 ≤ k ∧ k < 4 := by have := G.1; omega
  have hG := G.2 k hk.1 hk.2
  have hF := hF k hk.1 hk.2
  rw [f192 (by omega), b192_0, s193 (by omega) p k h hp hk4, bk_v, b192_6]
  by_cases hA : lq h p k 0 = 0
  · have et : rtrm h p k = lt h p k := by
      funext i
      unfold rtrm
      rw [if_neg (by omega)]
      rfl
    have es : rsbj h p k = lq h p k 1 := if_pos hA
    have ew : rwid h p k = gi h 166 (lq h p k 1) := if_pos hA
    have hRA : ∀ (hh : (0 ≤ rsbj h p k ∧ rsbj h p k < 6) ∧ (0 ≤ rwid h p k ∧ rwid h p k ≤ 3) ∧ (∀ i, 0 ≤ i → i < 3 → -1 ≤ rtrm h p k i ∧ rtrm h p k i ≤ 107) ∧ (0 ≤ gi h 178 (rsbj h p k) ∧ gi h 178 (rsbj h p k) ≤ 32) ∧ (∀ x, 0 ≤ x → x < gi h 178 (rsbj h p k) → 0 ≤ rrw h (rsbj h p k) x ∧ rrw h (rsbj h p k) x < 1000000)), RA h p k (lq h p k 1) (gi h 166 (lq h p k 1)) (gi h 178 (lq h p k 1)) := by
      rintro ⟨a1, a2, a3, a4, a5⟩
      rw [es] at a1 a4 a5
      rw [ew] at a2
      rw [et] at a3
      exact ⟨hp, hk4, rfl, a1, rfl, a2, a3, rfl, a4, a5⟩
    by_cases hN : lq h p k 2 = 0
    · have e0 : rsrt h p k = 0 := by unfold rsrt; rw [if_pos hA, if_pos hN]
      rcases hG with ⟨s, s1, s2, s3, s4, s5, s6⟩ | ⟨s, _⟩ | ⟨s, _⟩
      · have K := hRA ⟨s1, s2, s3, s4, s5⟩
        have hcu1 : 0 ≤ gi h 187 k ∧ gi h 187 k ≤ gi h 178 (lq h p k 1) := by
          have := hcu.2
          rw [if_pos (show (rRl h p).1 k = 0 from e0)] at this
          have e : (rW h).1 ((rRl h p).2.1 k) = gi h 178 (lq h p k 1) := congrArg (gi h 178) es
          rw [e] at this
          exact ⟨hcu.1, this⟩
        have hds : dst (rrw h (lq h p k 1)) (gi h 178 (lq h p k 1)) (gi h 166 (lq h p k 1)) := by
          have e1 : (rW h).2 ((rRl h p).2.1 k) = rrw h (lq h p k 1) := congrArg (rrw h) es
          have e2 : (rW h).1 ((rRl h p).2.1 k) = gi h 178 (lq h p k 1) := congrArg (gi h 178) es
          rw [e1, e2] at s6
          rw [← ew]
          exact s6
        have eops : ∀ c, ops (rRl h p) (rW h) k v c = opS (lt h p k) (gi h 166 (lq h p k 1)) (rrw h (lq h p k 1)) v (gi h 178 (lq h p k 1)).toNat c.toNat := by
          intro c
          unfold ops
          rw [if_pos (show (rRl h p).1 k = 0 from e0)]
          show opS (rtrm h p k) (rwid h p k) (rrw h (rsbj h p k)) v (gi h 178 (rsbj h p k)).toNat c.toNat = _
          rw [et, es, ew]
        have h194 := s194 (d := d - 1) (by omega) v (gi h 178 (lq h p k 1) - gi h 187 k).toNat h K hva hck hci (fun _ => hds) hcu1.1 (by omega) none none none
        have ecall : dF (d - 1) 194 [dR 1 11 165, dI p, dI k] h = dL (d - 1 - 1) 194 16 [lR 1 11 165, lI p, lI k, lI (lq h p k 1), lI (bi (lq h p k 3 = -1 ∨ lq h p k 4 = -1 ∨ lq h p k 5 = -1)), none, none, none] [] h := by
          rw [f194 (by omega), b194_0, s181 (by omega) p k 1 h hp hk4 (by omega), bk_v, b194_7, s195 (by omega) p k h hp hk4, bk_v, b194_14]
        rw [bi_1 ⟨hA, hN⟩, if_neg (by omega), ecall]
        refine ⟨fun hq => ?_, fun u l hq => ?_⟩
        · rw [eops] at hq
          rw [h194.1 hq, bk_v, b192_15, z1_p (Or.inl rfl)]
          exact ⟨_, rfl⟩
        · rw [eops] at hq
          obtain ⟨c, c1, c2, c3, c4⟩ := h194.2 u l hq
          rw [c4, bk_v, b192_15, z1_p (Or.inr rfl)]
          refine ⟨c, ⟨by omega, ?_⟩, by rw [eops]; exact c3, rfl⟩
          rw [if_pos (show (rRl h p).1 k = 0 from e0)]
          have e : (rW h).1 ((rRl h p).2.1 k) = gi h 178 (lq h p k 1) := congrArg (gi h 178) es
          rw [e]
          exact c2
      · have : rsrt h p k = 1 := s
        omega
      · have : rsrt h p k = 2 ∨ (rsrt h p k = 3 ∧ _) := s
        omega
    · have e0 : rsrt h p k = 1 := by unfold rsrt; rw [if_pos hA, if_neg hN]
      rcases hG with ⟨s, _⟩ | ⟨s, s1, s2, s3, s4, s5, s6⟩ | ⟨s, _⟩
      · have : rsrt h p k = 0 := s
        omega
      · have K := hRA ⟨s1, s2, s3, s4, s5⟩
        have hnot0 : ¬ (rRl h p).1 k = 0 := by show ¬ rsrt h p k = 0; omega
        have hcu1 : 0 ≤ gi h 187 k ∧ gi h 187 k ≤ 1 := by
          have := hcu.2
          rw [if_neg hnot0] at this
          exact ⟨hcu.1, this⟩
        rw [bi_0 (fun q => hN q.2), if_pos rfl, ix_p hk4.1 (by omega), ck_p (by omega) (by omega), ix_p hk4.1 (by omega), ix_p hk4.1 (by omega), gi_sis]
        by_cases hc : gi h 187 k = 0
        · rw [if_neg (by omega), hc]
          have K1 := RA_si K k (0 + 1)
          have ho : ops (rRl h p) (rW h) k v 0 = @ite _ (fitE (rtrm h p k) (rwid h p k) (rrw h (rsbj h p k)) (gi h 178 (rsbj h p k)) v) (Classical.propDecidable _) [] [v] := by
            rw [ops_0]
            unfold opt
            rw [if_neg hnot0, if_pos (show (rRl h p).1 k = 1 from e0)]
            rfl
          have hiff : (∃ x, 0 ≤ x ∧ x < gi h 178 (lq h p k 1) ∧ ftk (lt h p k) (gi h 166 (lq h p k 1)) v (rrw h (lq h p k 1) x)) ↔ fitE (rtrm h p k) (rwid h p k) (rrw h (rsbj h p k)) (gi h 178 (rsbj h p k)) v := by
            rw [et, es, ew]
            unfold fitE fitb ftk
            have hf : ∀ x, 0 ≤ x → x < gi h 178 (lq h p k 1) → ((bA (lt h p k) (rrw h (lq h p k 1) x) (gi h 166 (lq h p k 1)).toNat 0 v).isSome = true ↔ ∀ i, 0 ≤ i → i < gi h 166 (lq h p k 1) → lt h p k i = -1 ∨ tv v (lt h p k i) = cv i (rrw h (lq h p k 1) x)) := by
              intro x x0 x1
              have hxr := K.2.2.2.2.2.2.2.2.2 x x0 x1
              have hw3 := K.2.2.2.2.2.1
              have := fit_eq (t := lt h p k) (c := rrw h (lq h p k 1) x) hxr (n := (gi h 166 (lq h p k 1)).toNat) (i := 0) (v := v) (by omega) (by omega) (fun j j0 j1 => ⟨K.2.2.2.2.2.2.1 j j0 (by omega), fun q => by
                have h6 := s6 j j0 (by show j < rwid h p k; rw [ew]; omega)
                have e9 : (rRl h p).2.2.2 k j = lt h p k j := congrFun et j
                rw [e9] at h6
                exact hJ.2.2 _ q (h6 q)⟩)
              rw [this]
              constructor
              · intro z j j0 j1; exact z j j0 (by omega)
              · intro z j j0 j1; exact z j j0 (by omega)
            constructor
            · rintro ⟨x, x0, x1, x2⟩; exact ⟨x, x0, x1, (hf x x0 x1).mpr x2⟩
            · rintro ⟨x, x0, x1, x2⟩; exact ⟨x, x0, x1, (hf x x0 x1).mp x2⟩
          have e1 : ∀ z, lq (si h 187 k (0 + 1)) p k z = lq h p k z := fun z => by unfold lq; rw [gi_sin (by omega)]
          have e2 : lt (si h 187 k (0 + 1)) p k = lt h p k := by funext i; exact e1 _
          have e3 : rrw (si h 187 k (0 + 1)) (lq h p k 1) = rrw h (lq h p k 1) := by funext x; unfold rrw; rw [gi_sin (by omega)]
          have e4 : va (si h 187 k (0 + 1)) 185 = v := by rw [← hva]; funext z; unfold va; rw [gi_sin (by omega)]
          rw [s180 (by omega) p k _ hp hk4, bk_v, b192_44, e1, bi_1 hA, if_neg (by omega), s201 (by omega) _ K1, bk_v, b192_53, e2, e3, e4]
          by_cases hf : ∃ x, 0 ≤ x ∧ x < gi h 178 (lq h p k 1) ∧ ftk (lt h p k) (gi h 166 (lq h p k 1)) v (rrw h (lq h p k 1) x)
          · rw [@bi_1 _ (Classical.propDecidable _) hf, if_neg (by omega), b192_61, z1_p (Or.inl rfl)]
            rw [@if_pos _ (Classical.propDecidable _) (hiff.mp hf)] at ho
            exact ⟨fun _ => ⟨_, rfl⟩, fun u l hul => by rw [ho] at hul; cases hul⟩
          · rw [@bi_0 _ (Classical.propDecidable _) hf, if_pos rfl, b192_61, z1_p (Or.inr rfl)]
            rw [@if_neg _ (Classical.propDecidable _) (fun z => hf (hiff.mpr z))] at ho
            refine ⟨fun q => (by rw [ho] at q; cases q), fun u l hul => ?_⟩
            rw [ho] at hul
            cases hul
            refine ⟨0 + 1, ⟨by omega, by rw [if_neg hnot0]; omega⟩, ?_, ?_⟩
            · unfold ops; rw [if_neg hnot0, if_neg (by omega)]
            · rw [← e4, tk_va]
        · have hc1 : gi h 187 k = 1 := by omega
          rw [if_pos (by omega)]
          have hz : ops (rRl h p) (rW h) k v (gi h 187 k) = [] := by unfold ops; rw [if_neg hnot0, if_neg hc]
          exact ⟨fun _ => ⟨_, rfl⟩, fun u l hul => by rw [hz] at hul; cases hul⟩
      · have : rsrt h p k = 2 ∨ (rsrt h p k = 3 ∧ _) := s
        omega
  · have hnot0 : ¬ (rRl h p).1 k = 0 := by
      show ¬ rsrt h p k = 0
      unfold rsrt
      rw [if_neg hA]
      split <;> omega
    have hnot1 : ¬ (rRl h p).1 k = 1 := by
      show ¬ rsrt h p k = 1
      unfold rsrt
      rw [if_neg hA]
      split <;> omega
    have hcu1 : 0 ≤ gi h 187 k ∧ gi h 187 k ≤ 1 := by
      have := hcu.2
      rw [if_neg hnot0] at this
      exact ⟨hcu.1, this⟩
    rcases hG with ⟨s, _⟩ | ⟨s, _⟩ | ⟨s, s1⟩
    · exact absurd s hnot0
    · exact absurd s hnot1
    rw [bi_0 (fun q => hA q.1), if_pos rfl, ix_p hk4.1 (by omega), ck_p (by omega) (by omega), ix_p hk4.1 (by omega), ix_p hk4.1 (by omega), gi_sis]
    by_cases hc : gi h 187 k = 0
    case neg =>
      have hc1 : gi h 187 k = 1 := by omega
      rw [if_pos (by omega)]
      have hz : ops (rRl h p) (rW h) k v (gi h 187 k) = [] := by unfold ops; rw [if_neg hnot0, if_neg hc]
      exact ⟨fun _ => ⟨_, rfl⟩, fun u l hul => by rw [hz] at hul; cases hul⟩
    rw [if_neg (by omega), hc]
    have e1 : ∀ z, lq (si h 187 k (0 + 1)) p k z = lq h p k z := fun z => by unfold lq; rw [gi_sin (by omega)]
    have e4 : va (si h 187 k (0 + 1)) 185 = v := by rw [← hva]; funext z; unfold va; rw [gi_sin (by omega)]
    have t0 : rtrm h p k 0 = lq h p k 3 := by unfold rtrm; rw [if_neg (by omega)]; rfl
    have t1 : rtrm h p k 1 = lq h p k 4 := by unfold rtrm; rw [if_neg (by omega)]; rfl
    have q0 := s1 0 (Or.inl rfl)
    have q1 := s1 1 (Or.inr rfl)
    have r0 := tv_g hJ q0.1 q0.2
    have r1 := tv_g hJ q1.1 q1.2
    have q0' : (rRl h p).2.2.2 k 0 = lq h p k 3 := t0
    have q1' : (rRl h p).2.2.2 k 1 = lq h p k 4 := t1
    rw [q0'] at q0 r0
    rw [q1'] at q1 r1
    have esub : rsbj h p k = lq h p k 2 := if_neg hA
    rw [s180 (by omega) p k _ hp hk4, bk_v, b192_44, e1, bi_0 hA, if_pos rfl, s181 (by omega) p k 3 _ hp hk4 (by omega), bk_v, b192_70, e1, s199 (by omega) _ _ (by omega), bk_v, b192_73, s181 (by omega) p k 4 _ hp hk4 (by omega), bk_v, b192_82, e1, s199 (by omega) _ _ (by omega), bk_v, b192_85, s181 (by omega) p k 0 _ hp hk4 (by omega), bk_v, b192_94, e1, e4]
    have hone : ∀ (l : List mA) (u : mA), ops (rRl h p) (rW h) k v 0 = [v] → ops (rRl h p) (rW h) k v 0 = u :: l → ∃ c, cuk (rRl h p) (rW h) k c ∧ ops (rRl h p) (rW h) k v c = l ∧ rI 1 (si h 187 k (0 + 1)) = rI 1 (tk (si h 187 k c) k u) := by
      intro l u ho hul
      rw [ho] at hul
      cases hul
      refine ⟨0 + 1, ⟨by omega, by rw [if_neg hnot0]; omega⟩, ?_, ?_⟩
      · unfold ops; rw [if_neg hnot0, if_neg (by omega)]
      · rw [← e4, tk_va]
    by_cases hC : lq h p k 0 = 1
    · have e0 : rsrt h p k = 2 := by unfold rsrt; rw [if_neg hA, if_pos hC]
      have ho : ops (rRl h p) (rW h) k v 0 = if cmpb (lq h p k 2) (tv v (lq h p k 3)) (tv v (lq h p k 4)) = true then [v] else [] := by
        rw [ops_0]
        unfold opt
        rw [if_neg hnot0, if_neg hnot1, if_pos (show (rRl h p).1 k = 2 from e0)]
        show (if cmpb (rsbj h p k) (tv v (rtrm h p k 0)) (tv v (rtrm h p k 1)) = true then [v] else []) = _
        rw [esub, t0, t1]
      rw [if_pos hC, s181 (by omega) p k 2 _ hp hk4 (by omega), bk_v, b192_105, e1, s203 (by omega), bk_v, b192_111, z1_p (bi_01 _)]
      by_cases hcm : cmpb (lq h p k 2) (tv v (lq h p k 3)) (tv v (lq h p k 4)) = true
      · rw [bi_1 hcm]
        rw [if_pos hcm] at ho
        exact ⟨fun q => (by rw [ho] at q; cases q), fun u l hul => hone l u ho hul⟩
      · rw [bi_0 hcm]
        rw [if_neg hcm] at ho
        exact ⟨fun _ => ⟨_, rfl⟩, fun u l hul => by rw [ho] at hul; cases hul⟩
    · have hR : lq h p k 0 = 2 := by omega
      have e0 : rsrt h p k = 3 := by unfold rsrt; rw [if_neg hA, if_neg hC]
      have t2 : rtrm h p k 2 = lq h p k 1 := by unfold rtrm; rw [if_pos ⟨hR, rfl⟩]
      have hv2 : 100 ≤ lq h p k 1 ∧ lq h p k 1 ≤ 107 := by
        rcases s with s | ⟨s, s2, s3⟩
        · have : rsrt h p k = 2 := s
          omega
        · have e9 : (rRl h p).2.2.2 k 2 = lq h p k 1 := t2
          rw [e9] at s2 s3
          exact ⟨s2, s3⟩
      have hsl := slot_v hv2
      have ho : ops (rRl h p) (rW h) k v 0 = if v (lq h p k 1 - 100) = -1 then [upd1 v (lq h p k 1 - 100) (rck (lq h p k 2) (tv v (lq h p k 3)) (tv v (lq h p k 4)))] else if v (lq h p k 1 - 100) = rck (lq h p k 2) (tv v (lq h p k 3)) (tv v (lq h p k 4)) then [v] else [] := by
        rw [ops_0]
        unfold opt
        rw [if_neg hnot0, if_neg hnot1, if_neg (show ¬ (rRl h p).1 k = 2 by show ¬ rsrt h p k = 2; omega)]
        show (if v (slot (rtrm h p k 2)) = -1 then [upd1 v (slot (rtrm h p k 2)) (rck (rsbj h p k) (tv v (rtrm h p k 0)) (tv v (rtrm h p k 1)))] else if v (slot (rtrm h p k 2)) = rck (rsbj h p k) (tv v (rtrm h p k 0)) (tv v (rtrm h p k 1)) then [v] else []) = _
        rw [esub, t0, t1, t2, hsl]
      have hrr := rck_r (lq h p k 2) (tv v (lq h p k 3)) (tv v (lq h p k 4))
      have e5 : gi (si h 187 k (0 + 1)) 185 (lq h p k 1 - 100) = v (lq h p k 1 - 100) := by
        rw [gi_sin (by omega), ← hva, va_in (by omega)]
      rw [if_neg hC, s181 (by omega) p k 1 _ hp hk4 (by omega), bk_v, b192_119, e1, ck_p (by omega) (by omega), s181 (by omega) p k 2 _ hp hk4 (by omega), bk_v, b192_131, e1, s204 (by omega) _ _ _ _ r0 r1, bk_v, b192_137, ix_p (by omega) (by omega), e5]
      by_cases c1 : v (lq h p k 1 - 100) = -1
      · rw [if_pos c1, ix_p (by omega) (by omega), ix_p (by omega) (by omega)]
        rw [if_pos c1] at ho
        refine ⟨fun q => (by rw [ho] at q; cases q), fun u l hul => ?_⟩
        rw [ho] at hul
        cases hul
        refine ⟨0 + 1, ⟨by omega, by rw [if_neg hnot0]; omega⟩, ?_, ?_⟩
        · unfold ops; rw [if_neg hnot0, if_neg (by omega)]
        · have := tk_set (h := si h 187 k (0 + 1)) (k := k) (s := lq h p k 1 - 100) (x := rck (lq h p k 2) (tv v (lq h p k 3)) (tv v (lq h p k 4))) (u := va (si h 187 k (0 + 1)) 185) (by omega) (lev_refl _) (by rw [e4]; exact c1) (by omega)
          rw [tk_va, e4] at this
          rw [this]
      · rw [if_neg c1, ix_p (by omega) (by omega)]
        rw [if_neg c1] at ho
        by_cases c2 : v (lq h p k 1 - 100) = rck (lq h p k 2) (tv v (lq h p k 3)) (tv v (lq h p k 4))
        · rw [if_pos c2, b192_167, z1_p (Or.inr rfl)]
          rw [if_pos c2] at ho
          exact ⟨fun q => (by rw [ho] at q; cases q), fun u l hul => hone l u ho hul⟩
        · rw [if_neg c2, b192_167, z1_p (Or.inl rfl)]
          rw [if_neg c2] at ho
          exact ⟨fun _ => ⟨_, rfl⟩, fun u l hul => by rw [ho] at hul; cases hul⟩
