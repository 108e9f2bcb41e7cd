/-! THE JOINER TAKES A ROW -/
/-- the window of rounds that a literal looks at -/
def wLo (h : dm_H) (k : Int) : Int := if k = gi h 137 10 then gi h 137 9 else 0
def wHi (h : dm_H) (k : Int) : Int := if k < gi h 137 10 then gi h 137 9 - 1 else gi h 137 9
def vis (h : dm_H) (P : Nat) (k r p : Int) : Prop := wLo h k ≤ rst h P r p ∧ rst h P r p ≤ wHi h k
/-- what is known of the literal k, an atom, of the rule at A, and of the rows at P -/
def atk (h : dm_H) (A P : Nat) (k r w : Int) : Prop := gr h 137 6 = A ∧ ru A ∧ gr h 137 7 = P ∧ rw_ P ∧ (0 ≤ k ∧ k < 4) ∧ gi h (A + 3) k = r ∧ (0 ≤ r ∧ r < 6) ∧ gi h (A + 4) k = w ∧ (0 ≤ w ∧ w ≤ 3) ∧ (0 ≤ rsz h P r ∧ rsz h P r ≤ 32) ∧ (∀ p, 0 ≤ p → p < rsz h P r → 0 ≤ rws h P r p ∧ rws h P r p < 1000000) ∧ (0 ≤ gi h 137 9 ∧ gi h 137 9 ≤ 2000000)
theorem s54 {d : Nat} (hd : 2 ≤ d) (h : dm_H) {A P : Nat} {k r w : Int} (K : atk h A P k r w) (p lo hi : Int) (hp : 0 ≤ p ∧ p < rsz h P r) (hy : gi h (A + 6) k ≠ 0) :
    dF d 54 [dR 1 5 137, dI k, dI p, dI lo, dI hi] h = rI (@bi (∃ e, 0 ≤ e ∧ e < p ∧ (lo ≤ rst h P r e ∧ rst h P r e ≤ hi) ∧ alike (tm h A k) w (rws h P r e) (rws h P r p)) (Classical.propDecidable _)) h := by
  obtain ⟨hA, hr, hP, hpp, hk, hs, hr6, hw, hw3, hz, hc, -⟩ := K
  have hcp := hc p hp.1 hp.2
  have hw3' : 0 ≤ gi h (A + 4) k ∧ gi h (A + 4) k ≤ 3 := by omega
  rw [f54 (by omega), b54_0, ix_p hk.1 hk.2, hA, hs, ix_p hr6.1 hr6.2, ix_p hp.1 (by omega), hP, rw_e, show gi h (P + 3 + r.toNat) p = rws h P r p from rfl, s25 (by omega) A k _ h hk hw3' hcp hy, bk_v, b54_31, hw]
  have key : ∀ (n : Nat) (i : Int) (w8 : Option dm_V), 0 ≤ i → i + n = p → (∀ e, 0 ≤ e → e < i → ¬ ((lo ≤ rst h P r e ∧ rst h P r e ≤ hi) ∧ alike (tm h A k) w (rws h P r e) (rws h P r p))) → dL (d - 1) 54 36 [lR 1 5 137, lI k, lI p, lI lo, lI hi, lI r, lI (snr (tm h A k) (rws h P r p) w.toNat 0 0), lI i, w8] [] h = rI (@bi (∃ e, 0 ≤ e ∧ e < p ∧ (lo ≤ rst h P r e ∧ rst h P r e ≤ hi) ∧ alike (tm h A k) w (rws h P r e) (rws h P r p)) (Classical.propDecidable _)) h := by
    intro n
    induction n with
    | zero =>
      intro i w8 h0 hn hno
      rw [b54_36, if_neg (by omega), @bi_0 _ (Classical.propDecidable _)]
      rintro ⟨e, e1, e2, e3⟩
      exact hno e e1 (by omega) e3
    | succ n ih =>
      intro i w8 h0 hn hno
      have hgo : ∀ (y : Option dm_V), ¬ ((lo ≤ rst h P r i ∧ rst h P r i ≤ hi) ∧ alike (tm h A k) w (rws h P r i) (rws h P r p)) → dL (d - 1) 54 98 [lR 1 5 137, lI k, lI p, lI lo, lI hi, lI r, lI (snr (tm h A k) (rws h P r p) w.toNat 0 0), lI i, y] [] h = rI (@bi (∃ e, 0 ≤ e ∧ e < p ∧ (lo ≤ rst h P r e ∧ rst h P r e ≤ hi) ∧ alike (tm h A k) w (rws h P r e) (rws h P r p)) (Classical.propDecidable _)) h := by
        intro y hnot
        rw [b54_98, ck_p (by omega) (by omega)]
        refine ih (i + 1) y (by omega) (by omega) (fun e e1 e2 => ?_)
        by_cases q : e = i
        · rw [q]; exact hnot
        · exact hno e e1 (by omega)
      rw [b54_36, if_pos (by omega), ix_p hr6.1 hr6.2, ix_p h0 (by omega), hP, rw_e9, rw_e, show gi h (P + 10 + r.toNat) i = rst h P r i from rfl]
      by_cases h1 : rst h P r i < lo
      · rw [if_pos h1]
        exact hgo _ (fun q => by omega)
      rw [if_neg h1]
      by_cases h2 : hi < rst h P r i
      · rw [if_pos h2]
        exact hgo _ (fun q => by omega)
      have hci := hc i h0 (by omega)
      rw [if_neg h2, ix_p hr6.1 hr6.2, ix_p h0 (by omega), hA, show gi h (P + 3 + r.toNat) i = rws h P r i from rfl, s25 (by omega) A k _ h hk hw3' hci hy, bk_v, b54_91, hw]
      by_cases h3 : snr (tm h A k) (rws h P r i) w.toNat 0 0 = snr (tm h A k) (rws h P r p) w.toNat 0 0
      · rw [if_pos h3, @bi_1 _ (Classical.propDecidable _)]
        exact ⟨i, h0, by omega, ⟨by omega, by omega⟩, (snr_eq hw3 hci hcp).mp h3⟩
      · rw [if_neg h3]
        exact hgo _ (fun q => h3 ((snr_eq hw3 hci hcp).mpr q.2))
  exact key p.toNat 0 none (by omega) (by omega) (fun e e1 e2 => by omega)
/-- whether a row was there already, to an atom -/
def rep (h : dm_H) (A P : Nat) (k r w p : Int) : Prop := gi h (A + 6) k ≠ 0 ∧ ∃ e, 0 ≤ e ∧ e < p ∧ vis h P k r e ∧ alike (tm h A k) w (rws h P r e) (rws h P r p)
theorem s53 {d : Nat} (hd : 3 ≤ d) (h : dm_H) {A P : Nat} {k r w : Int} (K : atk h A P k r w) (p : Int) (hp : 0 ≤ p ∧ p < rsz h P r) :
    (∀ v, vis h P k r p → bA (tm h A k) (rws h P r p) w.toNat 0 (va h 138) = some v → ¬ rep h A P k r w p → ∃ f, fsh f (va h 138) v ∧ dF d 53 [dR 1 5 137, dI k, dI r, dI p] h = rI f (si (sv h 138 v) 139 k p)) ∧
    (¬ (vis h P k r p ∧ (∃ v, bA (tm h A k) (rws h P r p) w.toNat 0 (va h 138) = some v) ∧ ¬ rep h A P k r w p) → ∃ z, (z = gi h 139 k ∨ z = p) ∧ dF d 53 [dR 1 5 137, dI k, dI r, dI p] h = rI (-1) (si h 139 k z)) := by
  have K0 := K
  obtain ⟨hA, hr, hP, hpp, hk, hs, hr6, hw, hw3, hz, hc, hrd⟩ := K0
  have hcp := hc p hp.1 hp.2
  have hw3' : 0 ≤ gi h (A + 4) k ∧ gi h (A + 4) k ≤ 3 := by omega
  have hA6 : A + 6 ≠ 138 := by unfold ru at hr; omega
  have hself : si h 139 k (gi h 139 k) = h := by
    rcases h with ⟨h1, h2⟩
    unfold si
    congr 1
    funext b j
    split
    · rename_i q
      rw [q.1, q.2]
      rfl
    · rfl
  have e0 : dF d 53 [dR 1 5 137, dI k, dI r, dI p] h = dL (d - 1) 53 52 [lR 1 5 137, lI k, lI r, lI p, lI (rst h P r p), lI (wHi h k), none, none] [dI (wLo h k)] h := by
    rw [f53 (by omega), b53_0, ix_p hr6.1 hr6.2, ix_p hp.1 (by omega), hP, rw_e9, show gi h (P + 10 + r.toNat) p = rst h P r p from rfl]
    unfold wHi wLo
    by_cases q1 : k < gi h 137 10
    · simp only [if_pos q1]
      rw [ck_p (by omega) (by omega), b53_34]
      by_cases q2 : k = gi h 137 10
      · simp only [if_pos q2]
      · simp only [if_neg q2]
    · simp only [if_neg q1]
      rw [b53_34]
      by_cases q2 : k = gi h 137 10
      · simp only [if_pos q2]
      · simp only [if_neg q2]
  rw [e0, b53_52]
  by_cases h1 : rst h P r p < wLo h k
  · rw [if_pos h1]
    refine ⟨fun v hv => absurd hv.1 (by omega), fun _ => ⟨gi h 139 k, Or.inl rfl, ?_⟩⟩
    rw [b53_68, hself]
  rw [if_neg h1]
  by_cases h2 : wHi h k < rst h P r p
  · rw [if_pos h2]
    refine ⟨fun v hv => absurd hv.2 (by omega), fun _ => ⟨gi h 139 k, Or.inl rfl, ?_⟩⟩
    rw [b53_68, hself]
  have hvis : vis h P k r p := ⟨by omega, by omega⟩
  have h45 := s45 (d := d - 1) (by omega) k (rws h P r p) h hA hr hk hw3' hcp
  rw [hw] at h45
  rw [if_neg h2, ix_p hr6.1 hr6.2, ix_p hp.1 (by omega), hP, rw_e, show gi h (P + 3 + r.toNat) p = rws h P r p from rfl]
  cases hb : bA (tm h A k) (rws h P r p) w.toNat 0 (va h 138) with
  | none =>
    refine ⟨fun v _ hv => (nomatch hv), fun _ => ⟨p, Or.inr rfl, ?_⟩⟩
    rw [h45.2 hb, bk_v, b53_86, if_pos rfl, b53_127, ix_p hk.1 hk.2]
  | some v =>
    obtain ⟨f, g1, g2⟩ := h45.1 v hb
    obtain ⟨g3, g4⟩ := bA_nv (nv_va h 138) hb
    rw [g2, bk_v, b53_86, if_neg (fsh_ne g1), ix_p hk.1 hk.2, gr_sv, hA, gi_svn hA6]
    have K2 : atk (sv h 138 v) A P k r w := by
      have hx : ∀ a, a ≠ 138 → ∀ j, gi (sv h 138 v) a j = gi h a j := fun a ha j => gi_svn ha
      unfold atk rsz rws
      unfold ru at hr
      unfold rw_ at hpp
      unfold rsz at hz hc
      unfold rws at hc
      rw [gr_sv, gr_sv, hx _ (by omega), hx _ (by omega), hx _ (by omega), hx _ (by omega)]
      refine ⟨hA, hr, hP, hpp, hk, hs, hr6, hw, hw3, hz, fun q q1 q2 => ?_, hrd⟩
      rw [hx _ (by omega)]
      exact hc q q1 q2
    have erep : ∀ (X : Prop), (∃ e, 0 ≤ e ∧ e < p ∧ (wLo h k ≤ rst (sv h 138 v) P r e ∧ rst (sv h 138 v) P r e ≤ wHi h k) ∧ alike (tm (sv h 138 v) A k) w (rws (sv h 138 v) P r e) (rws (sv h 138 v) P r p)) = (∃ e, 0 ≤ e ∧ e < p ∧ vis h P k r e ∧ alike (tm h A k) w (rws h P r e) (rws h P r p)) := by
      intro _
      have e1 : ∀ e, rst (sv h 138 v) P r e = rst h P r e := fun e => gi_svn (by unfold rw_ at hpp; omega)
      have e2 : ∀ e, rws (sv h 138 v) P r e = rws h P r e := fun e => gi_svn (by unfold rw_ at hpp; omega)
      have e3 : tm (sv h 138 v) A k = tm h A k := by
        funext i
        exact gi_svn (by unfold ru at hr; omega)
      simp only [e1, e2, e3]
      rfl
    by_cases h3 : gi h (A + 6) k = 0
    · rw [if_pos h3]
      refine ⟨fun v' _ hv' _ => ?_, fun q => absurd ⟨hvis, ⟨v, rfl⟩, fun z => z.1 h3⟩ q⟩
      cases hv'
      exact ⟨f, g1, by rw [b53_127, ix_p hk.1 hk.2]⟩
    rw [if_neg h3, s54 (by omega) (sv h 138 v) K2 p _ _ (by unfold rsz; rw [gi_svn (by unfold rw_ at hpp; omega)]; exact hp) (by rw [gi_svn hA6]; exact h3), bk_v, b53_116]
    by_cases h4 : ∃ e, 0 ≤ e ∧ e < p ∧ vis h P k r e ∧ alike (tm h A k) w (rws h P r e) (rws h P r p)
    · rw [@bi_1 _ (Classical.propDecidable _) (Eq.mpr (erep True) h4), if_neg (by omega)]
      refine ⟨fun v' _ _ hn => absurd ⟨h3, h4⟩ hn, fun _ => ⟨gi h 139 k, Or.inl rfl, ?_⟩⟩
      rw [s47b (by omega) f h g1 g4 (nv_va h 138) g3, bk_n, b53_125, sv_va, hself]
    · rw [@bi_0 _ (Classical.propDecidable _) (fun z => h4 (Eq.mp (erep True) z)), if_pos rfl]
      refine ⟨fun v' _ hv' _ => ?_, fun q => absurd ⟨hvis, ⟨v, rfl⟩, fun z => h4 z.2⟩ q⟩
      cases hv'
      exact ⟨f, g1, by rw [b53_127, ix_p hk.1 hk.2]⟩
