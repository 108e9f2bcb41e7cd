/-! BINDINGS OUT OF NUMBERS PUT IN are those of all that have these numbers -/
section CMM
theorem upd1_comm {v : mA} {a b x y : Int} (h : a ≠ b) : upd1 (upd1 v a x) b y = upd1 (upd1 v b y) a x := by
  funext j
  unfold upd1
  by_cases h1 : j = a
  · have h2 : ¬ j = b := by omega
    simp only [if_pos h1, if_neg h2]
  · by_cases h2 : j = b
    · simp only [if_pos h2, if_neg h1]
    · simp only [if_neg h1, if_neg h2]
theorem upd1_at {v : mA} {a x : Int} : upd1 v a x a = x := if_pos rfl
theorem upd1_ne {v : mA} {a x j : Int} (h : j ≠ a) : upd1 v a x j = v j := if_neg h
theorem pI_lt {v : mA} {t x : Int} (h : slot t = -1) : pI v t x = if t = x then some v else none := if_pos h
theorem pI_new {v : mA} {t x : Int} (h : slot t ≠ -1) (h2 : v (slot t) = -1) : pI v t x = some (upd1 v (slot t) x) := by unfold pI; rw [if_neg h, if_pos h2]
theorem pI_old {v : mA} {t x : Int} (h : slot t ≠ -1) (h2 : v (slot t) ≠ -1) : pI v t x = if v (slot t) = x then some v else none := by unfold pI; rw [if_neg h, if_neg h2]
theorem pI_comm {v : mA} {t τ x y : Int} (hx : x ≠ -1) (hy : y ≠ -1) : (pI v t y).bind (fun u => pI u τ x) = (pI v τ x).bind (fun u => pI u t y) := by
  by_cases h1 : slot t = -1
  · rw [pI_lt h1]
    have e : ∀ u, pI u t y = if t = y then some u else none := fun u => pI_lt h1
    simp only [e]
    by_cases z : t = y
    · simp only [if_pos z]
      show pI v τ x = (pI v τ x).bind some
      cases pI v τ x <;> rfl
    · simp only [if_neg z]
      cases pI v τ x <;> rfl
  by_cases h2 : slot τ = -1
  · have e : ∀ u, pI u τ x = if τ = x then some u else none := fun u => pI_lt h2
    simp only [e]
    by_cases z : τ = x
    · simp only [if_pos z]
      show (pI v t y).bind some = pI v t y
      cases pI v t y <;> rfl
    · simp only [if_neg z]
      show (pI v t y).bind (fun _ => none) = none
      cases pI v t y <;> rfl
  by_cases v1 : v (slot t) = -1
  · rw [pI_new h1 v1]
    show pI (upd1 v (slot t) y) τ x = _
    by_cases v2 : v (slot τ) = -1
    · rw [pI_new h2 v2]
      show _ = pI (upd1 v (slot τ) x) t y
      by_cases q : slot t = slot τ
      · rw [pI_old h2 (by rw [q, upd1_at]; exact hy), pI_old h1 (by rw [q, upd1_at]; exact hx), q, upd1_at, upd1_at]
        by_cases z : y = x
        · rw [if_pos z, if_pos z.symm, z]
        · rw [if_neg z, if_neg (fun w => z w.symm)]
      · rw [pI_new h2 (by rw [upd1_ne (fun w => q w.symm)]; exact v2), pI_new h1 (by rw [upd1_ne q]; exact v1), upd1_comm q]
    · have q : slot τ ≠ slot t := fun w => v2 (by rw [w]; exact v1)
      rw [pI_old h2 (by rw [upd1_ne q]; exact v2), pI_old h2 v2, upd1_ne q]
      by_cases z : v (slot τ) = x
      · rw [if_pos z, if_pos z]
        exact (pI_new h1 v1).symm
      · rw [if_neg z, if_neg z]
        rfl
  · rw [pI_old h1 v1]
    by_cases v2 : v (slot τ) = -1
    · have q : slot t ≠ slot τ := fun w => v1 (by rw [w]; exact v2)
      rw [pI_new h2 v2]
      show _ = pI (upd1 v (slot τ) x) t y
      rw [pI_old h1 (by rw [upd1_ne q]; exact v1), upd1_ne q]
      by_cases z : v (slot t) = y
      · rw [if_pos z, if_pos z]
        exact pI_new h2 v2
      · rw [if_neg z, if_neg z]
        rfl
    · rw [pI_old h2 v2]
      by_cases z : v (slot t) = y
      · by_cases z2 : v (slot τ) = x
        · rw [if_pos z, if_pos z2]
          show pI v τ x = pI v t y
          rw [pI_old h2 v2, pI_old h1 v1, if_pos z, if_pos z2]
        · rw [if_pos z, if_neg z2]
          show pI v τ x = none
          rw [pI_old h2 v2, if_neg z2]
      · by_cases z2 : v (slot τ) = x
        · rw [if_neg z, if_pos z2]
          show none = pI v t y
          rw [pI_old h1 v1, if_neg z]
        · rw [if_neg z, if_neg z2]
          rfl
theorem b1_pIe {v : mA} {t y : Int} : b1 v t y = if t = -1 then some v else pI v t y := rfl
theorem bA_pI {t : Int → Int} {c τ x : Int} (hc : 0 ≤ c) (hx : x ≠ -1) : ∀ {n : Nat} {i : Int} {v : mA}, (bA t c n i v).bind (fun u => pI u τ x) = (pI v τ x).bind (fun u => bA t c n i u)
  | 0, i, v => by
    show pI v τ x = (pI v τ x).bind some
    cases pI v τ x <;> rfl
  | n + 1, i, v => by
    have e : ∀ u, bA t c (n + 1) i u = (b1 u (t i) (cv i c)).bind (fun w => bA t c n (i + 1) w) := by
      intro u
      show (match b1 u (t i) (cv i c) with
        | none => none
        | some v' => bA t c n (i + 1) v') = _
      cases b1 u (t i) (cv i c) <;> rfl
    have cc := cv_nn (i := i) hc
    have e1 : (b1 v (t i) (cv i c)).bind (fun u => pI u τ x) = (pI v τ x).bind (fun u => b1 u (t i) (cv i c)) := by
      by_cases z : t i = -1
      · have e2 : ∀ u, b1 u (t i) (cv i c) = some u := fun u => by rw [b1_pIe, if_pos z]
        simp only [e2]
        show pI v τ x = (pI v τ x).bind some
        cases pI v τ x <;> rfl
      · have e2 : ∀ u, b1 u (t i) (cv i c) = pI u (t i) (cv i c) := fun u => by rw [b1_pIe, if_neg z]
        simp only [e2]
        exact pI_comm hx (by omega)
    simp only [e]
    rw [Option.bind_assoc]
    have e3 : (fun w => (bA t c n (i + 1) w).bind (fun u => pI u τ x)) = fun w => (pI w τ x).bind (fun u => bA t c n (i + 1) u) := funext (fun w => bA_pI hc hx)
    rw [e3, ← Option.bind_assoc, e1, Option.bind_assoc]
theorem fm_flat {α β γ : Type} (l : List α) (g : α → List β) (f : β → Option γ) : (l.flatMap g).filterMap f = l.flatMap (fun a => (g a).filterMap f) := by
  induction l with
  | nil => rfl
  | cons a l ih => rw [List.flatMap_cons, List.filterMap_append, ih, List.flatMap_cons]
def oL {β γ : Type} (o : Option β) (g : β → List γ) : List γ := match o with
  | none => []
  | some b => g b
theorem flat_fm {α β γ : Type} (l : List α) (f : α → Option β) (g : β → List γ) : (l.filterMap f).flatMap g = l.flatMap (fun a => oL (f a) g) := by
  induction l with
  | nil => rfl
  | cons a l ih =>
    rw [List.flatMap_cons, ← ih]
    cases h : f a with
    | none => rw [List.filterMap_cons_none h]; rfl
    | some b => rw [List.filterMap_cons_some h, List.flatMap_cons]; rfl
theorem flat_cg {α β : Type} {l : List α} {g g' : α → List β} (h : ∀ a, a ∈ l → g a = g' a) : l.flatMap g = l.flatMap g' := by
  induction l with
  | nil => rfl
  | cons a l ih => rw [List.flatMap_cons, List.flatMap_cons, h a List.mem_cons_self, ih (fun w hw => h w (List.mem_cons_of_mem _ hw))]
theorem fmx_s {α β : Type} {f : α → Option β} {a : α} {b : β} (h : f a = some b) : [a].filterMap f = [b] := by rw [List.filterMap_cons_some h]; rfl
theorem fmx_n {α β : Type} {f : α → Option β} {a : α} (h : f a = none) : [a].filterMap f = [] := by rw [List.filterMap_cons_none h]; rfl
theorem toL_fm {α β : Type} (o : Option α) (f : α → Option β) : o.toList.filterMap f = (o.bind f).toList := by
  cases o with
  | none => rfl
  | some a =>
    show [a].filterMap f = (f a).toList
    cases h : f a with
    | none => rw [List.filterMap_cons_none h]; rfl
    | some b => rw [List.filterMap_cons_some h]; rfl
/-- what was no number that it may be, stays so -/
theorem pI_no {v w : mA} {τ x : Int} (hl : lev v w) (h : pI v τ x = none) : pI w τ x = none := by
  by_cases h1 : slot τ = -1
  · rw [pI_lt h1] at h ⊢
    by_cases z : τ = x
    · rw [if_pos z] at h; cases h
    · rw [if_neg z]
  by_cases h2 : v (slot τ) = -1
  · rw [pI_new h1 h2] at h; cases h
  · rw [pI_old h1 h2] at h
    rw [pI_old h1 (by rw [hl _ h2]; exact h2), hl _ h2]
    by_cases z : v (slot τ) = x
    · rw [if_pos z] at h; cases h
    · rw [if_neg z]
theorem pI_yes {v w : mA} {τ x : Int} (hl : lev v w) (h1 : slot τ = -1 ∨ v (slot τ) ≠ -1) (h : pI v τ x = some v) : pI w τ x = some w := by
  by_cases h2 : slot τ = -1
  · rw [pI_lt h2] at h ⊢
    by_cases z : τ = x
    · rw [if_pos z]
    · rw [if_neg z] at h; cases h
  · have h3 : v (slot τ) ≠ -1 := h1.resolve_left h2
    rw [pI_old h2 h3] at h
    rw [pI_old h2 (by rw [hl _ h3]; exact h3), hl _ h3]
    by_cases z : v (slot τ) = x
    · rw [if_pos z]
    · rw [if_neg z] at h; cases h
theorem fm_id {α : Type} {l : List α} {f : α → Option α} (h : ∀ w, w ∈ l → f w = some w) : l.filterMap f = l := by
  induction l with
  | nil => rfl
  | cons a l ih => rw [List.filterMap_cons_some (h a List.mem_cons_self), ih (fun w hw => h w (List.mem_cons_of_mem _ hw))]
theorem fm_none {α β : Type} {l : List α} {f : α → Option β} (h : ∀ w, w ∈ l → f w = none) : l.filterMap f = [] := by
  induction l with
  | nil => rfl
  | cons a l ih => rw [List.filterMap_cons_none (h a List.mem_cons_self), ih (fun w hw => h w (List.mem_cons_of_mem _ hw))]
noncomputable def olist (ρ : mR) (ω : mW) (n : Nat) (k : Int) (o : Option mA) : List mA := match o with
  | none => []
  | some v => bnd ρ ω n k v
theorem opt_pI {ρ : mR} {ω : mW} {N k : Int} {v : mA} {τ x : Int} (G : GW ρ ω N) (hk : 0 ≤ k ∧ k < N) (J : Jg ρ k v) (hx : 0 ≤ x ∧ x ≤ 99) : (opt ρ ω k v).filterMap (fun u => pI u τ x) = match pI v τ x with
    | none => []
    | some v' => opt ρ ω k v' := by
  have hl : ∀ w, w ∈ opt ρ ω k v → lev v w := fun w hw => (opt_J G hk J hw).2
  cases hp : pI v τ x with
  | none => exact fm_none (fun w hw => pI_no (hl w hw) hp)
  | some v' =>
    show _ = opt ρ ω k v'
    by_cases h0 : slot τ = -1 ∨ v (slot τ) ≠ -1
    · have e : v' = v := by
        by_cases h1 : slot τ = -1
        · rw [pI_lt h1] at hp
          split at hp
          · cases hp; rfl
          · cases hp
        · rw [pI_old h1 (h0.resolve_left h1)] at hp
          split at hp
          · cases hp; rfl
          · cases hp
      subst e
      exact fm_id (fun w hw => pI_yes (hl w hw) h0 hp)
    have h1 : slot τ ≠ -1 := fun z => h0 (Or.inl z)
    have h2 : v (slot τ) = -1 := Classical.byContradiction (fun z => h0 (Or.inr z))
    rw [pI_new h1 h2] at hp
    cases hp
    have hlv : lev v (upd1 v (slot τ) x) := lev_upd h2
    have hself : pI v τ x = some (upd1 v (slot τ) x) := pI_new h1 h2
    rcases G.2 k hk.1 hk.2 with ⟨g0, g1, g2, g3, g4, g5, g6⟩ | ⟨g0, g1, g2, g3, g4, g5, g6⟩ | ⟨g0, g1⟩
    · have e : ∀ u, opt ρ ω k u = opA (ρ.2.2.2 k) (ρ.2.2.1 k) (ω.2 (ρ.2.1 k)) u (ω.1 (ρ.2.1 k)).toNat := fun u => by unfold opt; rw [if_pos g0]
      rw [e, e]
      unfold opA
      rw [fm_flat]
      refine flat_cg (fun p hp => ?_)
      have hp := List.mem_range.mp hp
      show (one _ _ _ v p).filterMap _ = one _ _ _ (upd1 v (slot τ) x) p
      unfold one
      split
      · rfl
      · rw [toL_fm, bA_pI (g5 p (by omega) (by omega)).1 (by omega), hself]
        rfl
    · have e : ∀ u, opt ρ ω k u = @ite _ (fitE (ρ.2.2.2 k) (ρ.2.2.1 k) (ω.2 (ρ.2.1 k)) (ω.1 (ρ.2.1 k)) u) (Classical.propDecidable _) [] [u] := fun u => by unfold opt; rw [if_neg (by omega), if_pos g0]
      have hkn : ∀ j, 0 ≤ j → j < 0 + ((ρ.2.2.1 k).toNat : Int) → (-1 ≤ ρ.2.2.2 k j ∧ ρ.2.2.2 k j ≤ 107) ∧ (slot (ρ.2.2.2 k j) ≠ -1 → v (slot (ρ.2.2.2 k j)) ≠ -1) := fun j j0 j1 => ⟨g3 j j0 (by omega), fun z => J.2.2 _ z (g6 j j0 (by omega) z)⟩
      have hf : fitE (ρ.2.2.2 k) (ρ.2.2.1 k) (ω.2 (ρ.2.1 k)) (ω.1 (ρ.2.1 k)) (upd1 v (slot τ) x) ↔ fitE (ρ.2.2.2 k) (ρ.2.2.1 k) (ω.2 (ρ.2.1 k)) (ω.1 (ρ.2.1 k)) v := by
        have key : ∀ p, 0 ≤ p → p < ω.1 (ρ.2.1 k) → (fitb (ρ.2.2.2 k) (ρ.2.2.1 k).toNat (upd1 v (slot τ) x) (ω.2 (ρ.2.1 k) p) ↔ fitb (ρ.2.2.2 k) (ρ.2.2.1 k).toNat v (ω.2 (ρ.2.1 k) p)) := by
          intro p p0 p1
          unfold fitb
          rw [fit_eq (g5 p p0 p1) (by omega) (by omega) hkn, fit_eq (g5 p p0 p1) (by omega) (by omega) (fun j j0 j1 => ⟨(hkn j j0 j1).1, fun z => by rw [hlv _ ((hkn j j0 j1).2 z)]; exact (hkn j j0 j1).2 z⟩)]
          constructor
          · intro q j j0 j1
            rw [← lev_tv hlv (hkn j j0 j1).2]; exact q j j0 j1
          · intro q j j0 j1
            rw [lev_tv hlv (hkn j j0 j1).2]; exact q j j0 j1
        exact ⟨fun ⟨p, p0, p1, q⟩ => ⟨p, p0, p1, (key p p0 p1).mp q⟩, fun ⟨p, p0, p1, q⟩ => ⟨p, p0, p1, (key p p0 p1).mpr q⟩⟩
      rw [e, e]
      by_cases z : fitE (ρ.2.2.2 k) (ρ.2.2.1 k) (ω.2 (ρ.2.1 k)) (ω.1 (ρ.2.1 k)) v
      · rw [@if_pos _ (Classical.propDecidable _) z, @if_pos _ (Classical.propDecidable _) (hf.mpr z)]
        rfl
      · rw [@if_neg _ (Classical.propDecidable _) z, @if_neg _ (Classical.propDecidable _) (fun w => z (hf.mp w))]
        exact fmx_s (f := fun u => pI u τ x) hself
    · have ht : ∀ i, i = 0 ∨ i = 1 → tv (upd1 v (slot τ) x) (ρ.2.2.2 k i) = tv v (ρ.2.2.2 k i) := fun i hi => lev_tv hlv (fun z => J.2.2 _ z ((g1 i hi).2 z))
      have hv : ∀ i, i = 0 ∨ i = 1 → 0 ≤ tv v (ρ.2.2.2 k i) ∧ tv v (ρ.2.2.2 k i) ≤ 99 := fun i hi => tv_g J (g1 i hi).1 (g1 i hi).2
      rcases g0 with g0 | ⟨g0, g2⟩
      · have e : ∀ u, opt ρ ω k u = if cmpb (ρ.2.1 k) (tv u (ρ.2.2.2 k 0)) (tv u (ρ.2.2.2 k 1)) = true then [u] else [] := fun u => by unfold opt; rw [if_neg (by omega), if_neg (by omega), if_pos g0]
        rw [e, e, ht 0 (Or.inl rfl), ht 1 (Or.inr rfl)]
        by_cases z : cmpb (ρ.2.1 k) (tv v (ρ.2.2.2 k 0)) (tv v (ρ.2.2.2 k 1)) = true
        · rw [if_pos z, if_pos z]
          exact fmx_s (f := fun u => pI u τ x) hself
        · rw [if_neg z, if_neg z]
          rfl
      · have e : ∀ u, opt ρ ω k u = if u (slot (ρ.2.2.2 k 2)) = -1 then [upd1 u (slot (ρ.2.2.2 k 2)) (rck (ρ.2.1 k) (tv u (ρ.2.2.2 k 0)) (tv u (ρ.2.2.2 k 1)))] else if u (slot (ρ.2.2.2 k 2)) = rck (ρ.2.1 k) (tv u (ρ.2.2.2 k 0)) (tv u (ρ.2.2.2 k 1)) then [u] else [] := fun u => by unfold opt; rw [if_neg (by omega), if_neg (by omega), if_neg (by omega)]
        have hr := rck_r (ρ.2.1 k) (tv v (ρ.2.2.2 k 0)) (tv v (ρ.2.2.2 k 1))
        rw [e, e, ht 0 (Or.inl rfl), ht 1 (Or.inr rfl)]
        generalize rck (ρ.2.1 k) (tv v (ρ.2.2.2 k 0)) (tv v (ρ.2.2.2 k 1)) = y at hr
        generalize slot (ρ.2.2.2 k 2) = q
        by_cases hq : q = slot τ
        · subst hq
          rw [if_pos h2, upd1_at, if_neg (by omega)]
          have e2 : pI (upd1 v (slot τ) y) τ x = if y = x then some (upd1 v (slot τ) y) else none := by
            rw [pI_old h1 (by rw [upd1_at]; omega), upd1_at]
          by_cases z : y = x
          · rw [if_pos z] at e2
            rw [if_pos z.symm]
            refine (fmx_s (f := fun u => pI u τ x) e2).trans ?_
            rw [z]
          · rw [if_neg z] at e2
            rw [if_neg (fun w => z w.symm)]
            exact fmx_n (f := fun u => pI u τ x) e2
        · rw [upd1_ne hq]
          by_cases z : v q = -1
          · rw [if_pos z, if_pos z, ← upd1_comm hq]
            exact fmx_s (f := fun u => pI u τ x) (pI_new h1 (by rw [upd1_ne (fun w => hq w.symm)]; exact h2))
          · rw [if_neg z, if_neg z]
            by_cases z2 : v q = y
            · rw [if_pos z2, if_pos z2]
              exact fmx_s (f := fun u => pI u τ x) hself
            · rw [if_neg z2, if_neg z2]
              rfl
theorem Jg_pI {ρ : mR} {k : Int} {v w : mA} {τ x : Int} (J : Jg ρ k v) (hx : 0 ≤ x ∧ x ≤ 99) (h : pI v τ x = some w) : Jg ρ k w := by
  obtain ⟨a1, a2⟩ := pI_nv J.1 h
  refine ⟨a1, ?_, fun s hs hk => by rw [a2 s (J.2.2 s hs hk)]; exact J.2.2 s hs hk⟩
  unfold pI at h
  split at h
  · split at h
    · cases h; exact J.2.1
    · cases h
  split at h
  · cases h
    intro s
    unfold upd1
    split
    · exact Or.inr hx
    · exact J.2.1 s
  split at h
  · cases h; exact J.2.1
  · cases h
theorem bnd_pI {ρ : mR} {ω : mW} {N : Int} {τ x : Int} (G : GW ρ ω N) (hx : 0 ≤ x ∧ x ≤ 99) : ∀ (n : Nat) (k : Int) (v : mA), 0 ≤ k → k + n ≤ N → Jg ρ k v → (bnd ρ ω n k v).filterMap (fun u => pI u τ x) = olist ρ ω n k (pI v τ x)
  | 0, k, v, _, _, _ => by
    show [v].filterMap (fun u => pI u τ x) = _
    cases hp : pI v τ x with
    | none => exact fmx_n (f := fun u => pI u τ x) hp
    | some w => exact fmx_s (f := fun u => pI u τ x) hp
  | n + 1, k, v, k0, kn, J => by
    have ho := opt_pI (τ := τ) (x := x) G (k := k) ⟨k0, by omega⟩ J hx
    show ((opt ρ ω k v).flatMap (fun w => bnd ρ ω n (k + 1) w)).filterMap (fun u => pI u τ x) = _
    rw [fm_flat]
    have e : (opt ρ ω k v).flatMap (fun w => (bnd ρ ω n (k + 1) w).filterMap (fun u => pI u τ x)) = (opt ρ ω k v).flatMap (fun w => oL (pI w τ x) (fun w => bnd ρ ω n (k + 1) w)) := by
      refine flat_cg (fun w hw => ?_)
      rw [bnd_pI G hx n (k + 1) w (by omega) (by omega) (opt_J G ⟨k0, by omega⟩ J hw).1]
      cases pI w τ x <;> rfl
    rw [e]
    refine (flat_fm (opt ρ ω k v) (fun w => pI w τ x) (fun w => bnd ρ ω n (k + 1) w)).symm.trans ?_
    rw [ho]
    cases pI v τ x with
    | none => rfl
    | some w => rfl
theorem fm_bind {α β γ : Type} (l : List α) (f : α → Option β) (g : β → Option γ) : l.filterMap (fun a => (f a).bind g) = (l.filterMap f).filterMap g := by
  induction l with
  | nil => rfl
  | cons a l ih =>
    cases h : f a with
    | none => rw [List.filterMap_cons_none h, List.filterMap_cons_none (by rw [h]; rfl), ih]
    | some b =>
      rw [List.filterMap_cons_some h]
      cases h2 : g b with
      | none => rw [List.filterMap_cons_none h2, List.filterMap_cons_none (by rw [h]; exact h2), ih]
      | some c => rw [List.filterMap_cons_some h2, List.filterMap_cons_some (by rw [h]; exact h2), ih]
/-- bindings out of a head -/
theorem bnd_pG {ρ : mR} {ω : mW} {N : Int} {t f : Int → Int} (G : GW ρ ω N) (n : Nat) (k : Int) (k0 : 0 ≤ k) (kn : k + n ≤ N) : ∀ (m : Nat) (i : Int) (v : mA), (∀ j, i ≤ j → j < i + m → f j = -1 ∨ (0 ≤ f j ∧ f j ≤ 99)) → Jg ρ k v → (bnd ρ ω n k v).filterMap (fun u => pG t f m i u) = olist ρ ω n k (pG t f m i v)
  | 0, i, v, _, _ => by
    show (bnd ρ ω n k v).filterMap (fun u => some u) = bnd ρ ω n k v
    exact fm_id (fun w _ => rfl)
  | m + 1, i, v, hf, J => by
    have h0 := hf i (by omega) (by omega)
    by_cases z : f i = -1
    · have e : ∀ u, pG t f (m + 1) i u = pG t f m (i + 1) u := fun u => by
        show (if f i = -1 then _ else _) = _
        rw [if_pos z]
      simp only [e]
      exact bnd_pG G n k k0 kn m (i + 1) v (fun j a b => hf j (by omega) (by omega)) J
    · have e : ∀ u, pG t f (m + 1) i u = (pI u (t i) (f i)).bind (fun w => pG t f m (i + 1) w) := fun u => by
        show (if f i = -1 then _ else _) = _
        rw [if_neg z]
        cases pI u (t i) (f i) <;> rfl
      have hx : 0 ≤ f i ∧ f i ≤ 99 := by omega
      simp only [e]
      rw [fm_bind, bnd_pI G hx n k v k0 kn J]
      cases hp : pI v (t i) (f i) with
      | none => rfl
      | some w => exact bnd_pG G n k k0 kn m (i + 1) w (fun j a b => hf j (by omega) (by omega)) (Jg_pI J hx hp)
/-- the head of a binding has these numbers -/
def hmt (t f : Int → Int) (m : Int) (u : mA) : Prop := ∀ i, 0 ≤ i → i < m → tv u (t i) = f i
theorem pG_full {t f : Int → Int} : ∀ (m : Nat) (i : Int) (u : mA), (∀ j, i ≤ j → j < i + m → f j ≠ -1 ∧ t j ≤ 107 ∧ (slot (t j) ≠ -1 → u (slot (t j)) ≠ -1)) → ((∀ j, i ≤ j → j < i + m → tv u (t j) = f j) → pG t f m i u = some u) ∧ (¬ (∀ j, i ≤ j → j < i + m → tv u (t j) = f j) → pG t f m i u = none)
  | 0, i, u, _ => ⟨fun _ => rfl, fun q => absurd (fun j a b => by omega) q⟩
  | m + 1, i, u, h => by
    obtain ⟨h1, h2, h3⟩ := h i (by omega) (by omega)
    have e : pI u (t i) (f i) = if tv u (t i) = f i then some u else none := by
      by_cases q : slot (t i) = -1
      · rw [pI_lt q]
        have : tv u (t i) = t i := by
          unfold slot at q
          unfold tv
          by_cases w : t i < 100
          · rw [if_pos w]
          · rw [if_neg w, if_neg (by omega)] at q; omega
        rw [this]
      · rw [pI_old q (h3 q)]
        have : tv u (t i) = u (slot (t i)) := by
          unfold slot at q ⊢
          unfold tv
          by_cases w : t i < 100
          · rw [if_pos w] at q; exact absurd rfl q
          · rw [if_neg w, if_neg (by omega), if_neg w, if_neg (by omega)]
        rw [this]
    have ih := pG_full (t := t) (f := f) m (i + 1) u (fun j a b => h j (by omega) (by omega))
    have e2 : pG t f (m + 1) i u = if tv u (t i) = f i then pG t f m (i + 1) u else none := by
      show (if f i = -1 then _ else (match pI u (t i) (f i) with
        | none => none
        | some v' => pG t f m (i + 1) v')) = _
      rw [if_neg h1, e]
      by_cases z : tv u (t i) = f i
      · rw [if_pos z, if_pos z]
      · rw [if_neg z, if_neg z]
    rw [e2]
    by_cases z : tv u (t i) = f i
    · rw [if_pos z]
      refine ⟨fun q => ih.1 (fun j a b => q j (by omega) (by omega)), fun q => ih.2 (fun w => q (fun j a b => ?_))⟩
      by_cases y : j = i
      · rw [y]; exact z
      · exact w j (by omega) (by omega)
    · rw [if_neg z]
      exact ⟨fun q => absurd (q i (by omega) (by omega)) z, fun _ => rfl⟩
end CMM
