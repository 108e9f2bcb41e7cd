/-! NUMBERS PUT INTO A HEAD; THE CALL reaches -/
section RCH
variable {h : dm_H} {π : Int → Int}
/-- three numbers by their places -/
def f3 (a b c : Int) : Int → Int := fun i => if i = 0 then a else if i = 1 then b else c
/-- terms are given numbers, but for those that are -1 -/
def pG (t f : Int → Int) : Nat → Int → mA → Option mA
  | 0, _, v => some v
  | k + 1, i, v => if f i = -1 then pG t f k (i + 1) v else match pI v (t i) (f i) with
    | none => none
    | some v' => pG t f k (i + 1) v'
theorem pG_J {t f : Int → Int} : ∀ {k : Nat} {i : Int} {v w : mA}, (∀ j, i ≤ j → j < i + k → f j = -1 ∨ (0 ≤ f j ∧ f j ≤ 99)) → nv v → vr v → pG t f k i v = some w → nv w ∧ vr w ∧ lev v w
  | 0, i, v, w, _, hv, hr, e => by cases e; exact ⟨hv, hr, lev_refl _⟩
  | k + 1, i, v, w, hf, hv, hr, e => by
    unfold pG at e
    have h0 := hf i (by omega) (by omega)
    by_cases z : f i = -1
    · rw [if_pos z] at e
      exact pG_J (fun j a b => hf j (by omega) (by omega)) hv hr e
    rw [if_neg z] at e
    cases hp : pI v (t i) (f i) with
    | none => rw [hp] at e; cases e
    | some u =>
      rw [hp] at e
      obtain ⟨a1, a2⟩ := pI_nv hv hp
      have hu : vr u := by
        unfold pI at hp
        split at hp
        · split at hp
          · cases hp; exact hr
          · cases hp
        split at hp
        · cases hp
          intro s
          unfold upd1
          split
          · exact h0
          · exact hr s
        split at hp
        · cases hp; exact hr
        · cases hp
      obtain ⟨b1, b2, b3⟩ := pG_J (fun j a b => hf j (by omega) (by omega)) a1 hu e
      exact ⟨b1, b2, lev_trans a2 b3⟩
theorem pH_G {t f : Int → Int} {c : Int} : ∀ {k : Nat} {i : Int} {v : mA}, (∀ j, i ≤ j → j < i + k → f j ≠ -1 ∧ cv j c = f j) → pH t c k i v = pG t f k i v
  | 0, _, _, _ => rfl
  | k + 1, i, v, hf => by
    unfold pH pG
    obtain ⟨h1, h2⟩ := hf i (by omega) (by omega)
    rw [if_neg h1, h2]
    cases pI v (t i) (f i) with
    | none => rfl
    | some u => exact pH_G (fun j a b => hf j (by omega) (by omega))
theorem cv_f3 {a b c : Int} (ha : 0 ≤ a ∧ a ≤ 99) (hb : 0 ≤ b ∧ b ≤ 99) (hc : 0 ≤ c ∧ c ≤ 99) (i : Int) : cv i (a * 10000 + b * 100 + c) = f3 a b c i := by
  unfold cv f3
  split
  · omega
  split <;> omega
/-- the reference puts numbers in -/
theorem s254 {d : Nat} (hd : 3 ≤ d) {p n : Int} (hp : 0 ≤ p ∧ p ≤ 10) (hk : gi h 172 (38 * p) ≠ 3) (hr : 0 ≤ gi h 172 (38 * p + 1) ∧ gi h 172 (38 * p + 1) < 6) (hn : gi h 166 (gi h 172 (38 * p + 1)) = n) (n3 : 0 ≤ n ∧ n ≤ 3) {a b c e : Int} {m : Nat} (hm : (m : Int) ≤ n ∧ (m : Int) ≤ e ∧ ((m : Int) = n ∨ (m : Int) = e)) {t : Int → Int} (et : ∀ i, 0 ≤ i → i < 3 → gi h 172 (38 * p + (2 + i)) = t i) (ht : ∀ i : Int, 0 ≤ i → i < m → 0 ≤ t i ∧ t i ≤ 107) :
    (∀ w, pG t (f3 a b c) m 0 (va h 185) = some w → dF d 254 [dR 1 11 165, dI p, dI a, dI b, dI c, dI e] h = rI 1 (sv h 185 w)) ∧ (pG t (f3 a b c) m 0 (va h 185) = none → ∃ u, dF d 254 [dR 1 11 165, dI p, dI a, dI b, dI c, dI e] h = rI 0 (sv h 185 u)) := by
  rw [f254 (by omega), b254_0]
  have key : ∀ (j : Nat) (i : Int) (u : mA) (w7 w8 : Option dm_V), 0 ≤ i → i + j = m → nv u →
      (∀ w, pG t (f3 a b c) j i u = some w → dL (d - 1) 254 3 [lR 1 11 165, lI p, lI a, lI b, lI c, lI e, lI i, w7, w8] [] (sv h 185 u) = rI 1 (sv h 185 w)) ∧ (pG t (f3 a b c) j i u = none → ∃ u', dL (d - 1) 254 3 [lR 1 11 165, lI p, lI a, lI b, lI c, lI e, lI i, w7, w8] [] (sv h 185 u) = rI 0 (sv h 185 u')) := by
    intro j
    induction j with
    | zero =>
      intro i u w7 w8 i0 ij hu
      have q : dL (d - 1) 254 3 [lR 1 11 165, lI p, lI a, lI b, lI c, lI e, lI i, w7, w8] [] (sv h 185 u) = rI 1 (sv h 185 u) := by
        rw [b254_3, s206 (n := n) (by omega) hp (by rw [gi_svn (by decide)]; exact hk) (by rw [gi_svn (by decide)]; exact hr) (by rw [gi_svn (by decide), gi_svn (by decide)]; exact hn), bk_v, b254_10]
        by_cases z : i < n
        · rw [if_pos z, if_neg (by omega), b254_122]
        · rw [if_neg z, b254_122]
      exact ⟨fun w hw => by cases (show some u = some w from hw); exact q, fun hw => nomatch (show (some u : Option mA) = none from hw)⟩
    | succ j ih =>
      intro i u w7 w8 i0 ij hu
      have hti := ht i i0 (by omega)
      have eti := et i i0 (by omega)
      -- one place on
      have on : ∀ (w : mA) (y7 y8 : Option dm_V), nv w → (∀ w', pG t (f3 a b c) j (i + 1) w = some w' → dL (d - 1) 254 116 [lR 1 11 165, lI p, lI a, lI b, lI c, lI e, lI i, y7, y8] [] (sv h 185 w) = rI 1 (sv h 185 w')) ∧ (pG t (f3 a b c) j (i + 1) w = none → ∃ u', dL (d - 1) 254 116 [lR 1 11 165, lI p, lI a, lI b, lI c, lI e, lI i, y7, y8] [] (sv h 185 w) = rI 0 (sv h 185 u')) := by
        intro w y7 y8 hw
        rw [b254_116, ck_p (by omega) (by omega)]
        exact ih (i + 1) w y7 y8 (by omega) (by omega) hw
      have st : dL (d - 1) 254 3 [lR 1 11 165, lI p, lI a, lI b, lI c, lI e, lI i, w7, w8] [] (sv h 185 u) = dL (d - 1) 254 52 [lR 1 11 165, lI p, lI a, lI b, lI c, lI e, lI i, lI (f3 a b c i), w8] [dI (t i)] (sv h 185 u) := by
        have e41 : dL (d - 1) 254 41 [lR 1 11 165, lI p, lI a, lI b, lI c, lI e, lI i, w7, w8] [dI (f3 a b c i)] (sv h 185 u) = dL (d - 1) 254 52 [lR 1 11 165, lI p, lI a, lI b, lI c, lI e, lI i, lI (f3 a b c i), w8] [dI (t i)] (sv h 185 u) := by
          rw [b254_41, ck_p (by omega) (by omega), s179 (by omega) p (2 + i) _ hp (by omega), bk_v, gi_svn (by decide), eti]
        rw [b254_3, s206 (n := n) (by omega) hp (by rw [gi_svn (by decide)]; exact hk) (by rw [gi_svn (by decide)]; exact hr) (by rw [gi_svn (by decide), gi_svn (by decide)]; exact hn), bk_v, b254_10, if_pos (by omega), if_pos (by omega), ← e41]
        unfold f3
        by_cases z0 : i = 0
        · rw [if_pos z0, if_pos z0]
        by_cases z1 : i = 1
        · rw [if_neg z0, if_neg z0, if_pos z1, if_pos z1]
        · rw [if_neg z0, if_neg z0, if_neg z1, if_neg z1]
      rw [st]
      show (∀ w, (if f3 a b c i = -1 then pG t (f3 a b c) j (i + 1) u else match pI u (t i) (f3 a b c i) with
        | none => none
        | some v' => pG t (f3 a b c) j (i + 1) v') = some w → _) ∧ ((if f3 a b c i = -1 then pG t (f3 a b c) j (i + 1) u else match pI u (t i) (f3 a b c i) with
        | none => none
        | some v' => pG t (f3 a b c) j (i + 1) v') = none → _)
      generalize f3 a b c i = x
      generalize t i = s at hti
      by_cases zx : x = -1
      · rw [b254_52, if_pos zx, b254_97, if_pos zx, if_pos zx]
        exact on u _ _ hu
      rw [if_neg zx, b254_52, if_neg zx, s200 (by omega), bk_v]
      have m65 : dL (d - 1) 254 65 [lR 1 11 165, lI p, lI a, lI b, lI c, lI e, lI i, lI x, lI s] [dI (bi (100 ≤ s))] (sv h 185 u) = if slot s = -1 then (if s = x then dL (d - 1) 254 116 [lR 1 11 165, lI p, lI a, lI b, lI c, lI e, lI i, lI x, lI s] [] (sv h 185 u) else rI 0 (sv h 185 u)) else if u (slot s) = -1 then dL (d - 1) 254 116 [lR 1 11 165, lI p, lI a, lI b, lI c, lI e, lI i, lI x, lI s] [] (sv h 185 (upd1 u (slot s) x)) else if u (slot s) = x then dL (d - 1) 254 116 [lR 1 11 165, lI p, lI a, lI b, lI c, lI e, lI i, lI x, lI s] [] (sv h 185 u) else rI 0 (sv h 185 u) := by
        -- a number that is there already is the same, or not
        have same : dL (d - 1) 254 97 [lR 1 11 165, lI p, lI a, lI b, lI c, lI e, lI i, lI x, lI s] [] (sv h 185 u) = if tv u s = x then dL (d - 1) 254 116 [lR 1 11 165, lI p, lI a, lI b, lI c, lI e, lI i, lI x, lI s] [] (sv h 185 u) else rI 0 (sv h 185 u) := by
          rw [b254_97, if_neg zx, s199 (by omega) s _ hti.2, bk_v, b254_109, va_sv hu]
        by_cases q : 100 ≤ s
        · have es : slot s = s - 100 := slot_v ⟨q, hti.2⟩
          have et2 : tv u s = u (s - 100) := by unfold tv; rw [if_neg (by omega), if_neg (by omega)]
          rw [bi_1 q, b254_65, if_neg (by decide), ck_p (by omega) (by omega), ix_p (by omega) (by omega), gi_svi ⟨by omega, by omega⟩, es]
          have hne : ¬ (s - 100 = -1) := by omega
          rw [if_neg hne]
          by_cases q2 : u (s - 100) = -1
          · rw [if_pos q2, if_pos q2, ck_p (by omega) (by omega), ix_p (by omega) (by omega), si_svw hu ⟨by omega, by omega⟩]
          · rw [if_neg q2, if_neg q2, same, et2]
        · have es : slot s = -1 := slot_lt (by omega)
          have et2 : tv u s = s := by unfold tv; rw [if_pos (by omega)]
          rw [bi_0 q, b254_65, if_pos rfl, es, if_pos rfl, same, et2]
      rw [show (bi (100 ≤ s) : Int) = bi (100 ≤ s) from rfl, m65]
      unfold pI
      by_cases q1 : slot s = -1
      · simp only [if_pos q1]
        by_cases q3 : s = x
        · simp only [if_pos q3]
          exact on u _ _ hu
        · simp only [if_neg q3]
          exact ⟨fun w hw => (nomatch hw), fun _ => ⟨u, rfl⟩⟩
      · simp only [if_neg q1]
        by_cases q2 : u (slot s) = -1
        · simp only [if_pos q2]
          exact on _ _ _ (nv_upd hu (slotne q1))
        · simp only [if_neg q2]
          by_cases q3 : u (slot s) = x
          · simp only [if_pos q3]
            exact on u _ _ hu
          · simp only [if_neg q3]
            exact ⟨fun w hw => (nomatch hw), fun _ => ⟨u, rfl⟩⟩
  have := key m 0 (va h 185) none none (by omega) (by omega) (nv_va h 185)
  rw [sv_va] at this
  exact this
/-- how far literals hold -/
theorem foldl_mx_iff (l : List Int) (a c : Int) : c ≤ l.foldl mx a ↔ c ≤ a ∨ ∃ x, x ∈ l ∧ c ≤ x := by
  induction l generalizing a with
  | nil => exact ⟨Or.inl, fun q => q.elim id (fun ⟨x, hx, _⟩ => by cases hx)⟩
  | cons y l ih =>
    rw [List.foldl_cons, ih]
    have e : c ≤ mx a y ↔ c ≤ a ∨ c ≤ y := by
      unfold mx
      split <;> omega
    rw [e]
    constructor
    · rintro ((q | q) | ⟨x, hx, q⟩)
      · exact Or.inl q
      · exact Or.inr ⟨y, List.mem_cons_self, q⟩
      · exact Or.inr ⟨x, List.mem_cons_of_mem _ hx, q⟩
    · rintro (q | ⟨x, hx, q⟩)
      · exact Or.inl (Or.inl q)
      · rcases List.mem_cons.mp hx with rfl | hx
        · exact Or.inl (Or.inr q)
        · exact Or.inr ⟨x, hx, q⟩
theorem dpth_ge (ρ : mR) (ω : mW) : ∀ (n m : Nat) (k : Int) (v : mA), m ≤ n → (k + m ≤ dpth ρ ω n k v ↔ bnd ρ ω m k v ≠ [])
  | n, 0, k, v, _ => by
    have := (dpth_le ρ ω n k v).1
    exact ⟨fun _ q => (nomatch (show ([v] : List mA) = [] from q)), fun _ => by omega⟩
  | 0, m + 1, k, v, h => by omega
  | n + 1, m + 1, k, v, h => by
    show k + ((m + 1 : Nat) : Int) ≤ ((opt ρ ω k v).map (fun w => dpth ρ ω n (k + 1) w)).foldl mx k ↔ (opt ρ ω k v).flatMap (fun w => bnd ρ ω m (k + 1) w) ≠ []
    rw [foldl_mx_iff]
    constructor
    · rintro (q | ⟨x, hx, q⟩)
      · omega
      · obtain ⟨w, hw, rfl⟩ := List.mem_map.mp hx
        have := (dpth_ge ρ ω n m (k + 1) w (by omega)).mp (by omega)
        obtain ⟨u, hu⟩ := List.exists_mem_of_ne_nil _ this
        exact List.ne_nil_of_mem (List.mem_flatMap.mpr ⟨w, hw, hu⟩)
    · intro q
      obtain ⟨u, hu⟩ := List.exists_mem_of_ne_nil _ q
      obtain ⟨w, hw, hu⟩ := List.mem_flatMap.mp hu
      have := (dpth_ge ρ ω n m (k + 1) w (by omega)).mpr (List.ne_nil_of_mem hu)
      exact Or.inr ⟨_, List.mem_map.mpr ⟨w, hw, rfl⟩, by omega⟩
theorem GW_le {ρ : mR} {ω : mW} {N n : Int} (G : GW ρ ω N) (n0 : 0 ≤ n) (nN : n ≤ N) : GW ρ ω n := ⟨⟨n0, by have := G.1; omega⟩, fun k k0 k1 => G.2 k k0 (by omega)⟩
theorem RF_le {p N n : Int} (F : RF h p N) (nN : n ≤ N) : RF h p n := ⟨F.1, fun k k0 k1 => F.2 k k0 (by omega)⟩
/-- after begins and putsIn the search stands before all bindings out of these numbers -/
theorem Itr_put {h0 H1 : dm_H} {p n : Int} {w : mA} {l : List mA} (z3 : gi H1 165 32 = n) (z4 : gi H1 165 33 = 1) (z5 : gi H1 187 0 = 0) (z6 : ∀ s, 0 ≤ s → s < 8 → gi H1 186 s = -1) (hw : nv w ∧ vr w) (el : bnd (rRl h0 p) (rW h0) n.toNat 0 w = l) : Itr (rRl h0 p) (rW h0) n (sv H1 185 w) l := by
  have e : va (sv H1 185 w) 185 = w := va_sv hw.1
  refine ⟨by rw [gi_svn (by decide)]; exact z3, Or.inl ⟨by rw [gi_svn (by decide)]; exact z4, by rw [gi_svn (by decide)]; exact z5, fun s s0 s1 => by rw [gi_svn (by decide)]; exact z6 s s0 s1, ?_, ?_⟩⟩
  · rw [e]; exact ⟨hw.1, hw.2, fun s _ ⟨j, j1, j2, _⟩ => by omega⟩
  · rw [e]; exact el.symm
theorem frM_sv {w : mA} : frM h (sv h 185 w) := ⟨fun a i _ _ q _ => gi_svn (by omega), fun _ _ => rfl, rfl⟩
theorem s159 {d : Nat} (hd : 1 ≤ d) (x a b c : Int) (y : dm_O) (e : dF (d - 1) 160 [dR 1 10 1, dI x, dI a, dI b, dI c] h = y) : (∀ v h', y = rI v h' → dF d 159 [dR 1 10 1, dI x, dI a, dI b, dI c, dR 4 1 196] h = rI 0 (sl h' 0 v)) ∧ (∀ h', y = rX 0 h' → dF d 159 [dR 1 10 1, dI x, dI a, dI b, dI c, dR 4 1 196] h = rI 1 h') ∧ (∀ h', y = rX 1 h' → dF d 159 [dR 1 10 1, dI x, dI a, dI b, dI c, dR 4 1 196] h = rI 2 h') := by
  rw [f159 (by omega), b159_0, e]
  refine ⟨fun v h' ex => ?_, fun h' ex => ?_, fun h' ex => ?_⟩
  · rw [ex, bk_v, b159_12, ix_p (by omega) (by omega)]
  · rw [ex, bk_c (g := 17) (j := 6) (n := 2) (L' := [lR 1 10 1, lI x, lI a, lI b, lI c, lR 4 1 196, none]) rfl (fun f => rfl)]
    exact b159_19 _ _ _ _ _ _ _ _ _
  · rw [ex, bk_c (g := 21) (j := 6) (n := 2) (L' := [lR 1 10 1, lI x, lI a, lI b, lI c, lR 4 1 196, none]) rfl (fun f => rfl)]
    exact b159_23 _ _ _ _ _ _ _ _ _
/-- the reference tries fewer and fewer literals -/
theorem s269l {d : Nat} (hd : 8 ≤ d) {h0 : dm_H} {p N n D : Int} (G : GW (rRl h0 p) (rW h0) N) (F : RF h0 p N) (hk : gi h0 172 (38 * p) ≠ 3) (hr : 0 ≤ gi h0 172 (38 * p + 1) ∧ gi h0 172 (38 * p + 1) < 6) (hn : gi h0 166 (gi h0 172 (38 * p + 1)) = n) (n3 : 0 ≤ n ∧ n ≤ 3) {a b c : Int} {t : Int → Int} (et : ∀ i, 0 ≤ i → i < 3 → gi h0 172 (38 * p + (2 + i)) = t i) (ht : ∀ i, 0 ≤ i → i < n → 0 ≤ t i ∧ t i ≤ 107) (hf : ∀ i, 0 ≤ i → i < n → f3 a b c i = -1 ∨ (0 ≤ f3 a b c i ∧ f3 a b c i ≤ 99)) (w1 w6 : Option dm_V) :
    (pG t (f3 a b c) n.toNat 0 v0 = none → ∀ (k : Nat) (h : dm_H), (k : Int) ≤ N → eqf h0 h → ∃ h', dL (d - 1) 269 90 [lR 1 11 165, w1, lI a, lI b, lI c, lI p, w6, lI (k : Int)] [] h = rI (-1) h' ∧ frM h h') ∧
    (∀ w, pG t (f3 a b c) n.toNat 0 v0 = some w → dpth (rRl h0 p) (rW h0) N.toNat 0 w = D → ∀ (k : Nat) (h : dm_H), (k : Int) ≤ N → D ≤ k → eqf h0 h → ∃ h', dL (d - 1) 269 90 [lR 1 11 165, w1, lI a, lI b, lI c, lI p, w6, lI (k : Int)] [] h = rI D h' ∧ frM h h') := by
  have hp := F.1
  have N4 := G.1
  have put : ∀ (k : Nat) (h : dm_H), (k : Int) ≤ N → eqf h0 h → ∃ H1, dF (d - 1) 189 [dR 1 11 165, dI (k : Int)] h = rV H1 ∧ frM h H1 ∧ (gi H1 165 32 = (k : Int) ∧ gi H1 165 33 = 1 ∧ gi H1 187 0 = 0 ∧ (∀ s, 0 ≤ s → s < 8 → gi H1 186 s = -1) ∧ va H1 185 = v0) ∧ ((∀ w, pG t (f3 a b c) n.toNat 0 v0 = some w → dF (d - 1) 254 [dR 1 11 165, dI p, dI a, dI b, dI c, dI 3] H1 = rI 1 (sv H1 185 w)) ∧ (pG t (f3 a b c) n.toNat 0 v0 = none → ∃ u, dF (d - 1) 254 [dR 1 11 165, dI p, dI a, dI b, dI c, dI 3] H1 = rI 0 (sv H1 185 u))) := by
    intro k h kN e
    obtain ⟨H1, z1, z2, z3, -⟩ := s189v (d := d - 1) (by omega) (k : Int) h
    have e1 : eqf h0 H1 := ⟨fun i => by rw [(frM_f z2).1]; exact e.1 i, fun i => by rw [(frM_f z2).2.1]; exact e.2.1 i, fun i => by rw [(frM_f z2).2.2.1]; exact e.2.2.1 i, fun i => by rw [(frM_f z2).2.2.2]; exact e.2.2.2 i⟩
    refine ⟨H1, z1, z2, z3, ?_⟩
    have := s254 (d := d - 1) (h := H1) (n := n) (a := a) (b := b) (c := c) (e := 3) (m := n.toNat) (t := t) (by omega) hp (by rw [e1.1]; exact hk) (by rw [e1.1]; exact hr) (by rw [e1.1, e1.2.1]; exact hn) n3 (by omega) (fun i i0 i1 => by rw [e1.1]; exact et i i0 i1) (fun i i0 i1 => ht i i0 (by omega))
    rw [z3.2.2.2.2] at this
    exact this
  refine ⟨fun hw k h kN e => ?_, fun w hw hD k => ?_⟩
  · obtain ⟨H1, z1, z2, z3, z4⟩ := put k h kN e
    obtain ⟨u, z5⟩ := z4.2 hw
    refine ⟨sv H1 185 u, ?_, frM_trans z2 frM_sv⟩
    rw [b269_90, if_neg (by omega), z1, bk_n, b269_101, z5, bk_v, b269_112, if_pos rfl]
  · have hJ := pG_J (fun j a b => hf j (by omega) (by omega)) (v0_J (rRl h0 p)).1 (v0_J (rRl h0 p)).2.1 hw
    have D0 := (dpth_le (rRl h0 p) (rW h0) N.toNat 0 w).1
    rw [hD] at D0
    induction k with
    | zero =>
      intro h kN Dk e
      obtain ⟨H1, z1, z2, ⟨y1, y2, y3, y4, y5⟩, z4⟩ := put 0 h kN e
      have z5 := z4.1 w hw
      have e1 : eqf h0 (sv H1 185 w) := ⟨fun i => by rw [gi_svn (by decide), (frM_f z2).1]; exact e.1 i, fun i => by rw [gi_svn (by decide), (frM_f z2).2.1]; exact e.2.1 i, fun i => by rw [gi_svn (by decide), (frM_f z2).2.2.1]; exact e.2.2.1 i, fun i => by rw [gi_svn (by decide), (frM_f z2).2.2.2]; exact e.2.2.2 i⟩
      have It : Itr (rRl h0 p) (rW h0) 0 (sv H1 185 w) [w] := Itr_put y1 y2 y3 y4 ⟨hJ.1, hJ.2.1⟩ rfl
      obtain ⟨H2, x1, x2, -⟩ := (s190e (d := d - 1) (by omega) (GW_le G (by omega) (by omega)) (RF_le F (by omega)) e1 It).2 w [] rfl
      refine ⟨H2, ?_, frM_trans z2 (frM_trans frM_sv (frM_r x2))⟩
      rw [b269_90, if_neg (by omega), z1, bk_n, b269_101, z5, bk_v, b269_112, if_neg (by decide), x1, bk_v, b269_123, if_neg (by decide), show D = ((0 : Nat) : Int) by omega]
    | succ k ih =>
      intro h kN Dk e
      obtain ⟨H1, z1, z2, ⟨y1, y2, y3, y4, y5⟩, z4⟩ := put (k + 1) h kN e
      have z5 := z4.1 w hw
      have e1 : eqf h0 (sv H1 185 w) := ⟨fun i => by rw [gi_svn (by decide), (frM_f z2).1]; exact e.1 i, fun i => by rw [gi_svn (by decide), (frM_f z2).2.1]; exact e.2.1 i, fun i => by rw [gi_svn (by decide), (frM_f z2).2.2.1]; exact e.2.2.1 i, fun i => by rw [gi_svn (by decide), (frM_f z2).2.2.2]; exact e.2.2.2 i⟩
      have It : Itr (rRl h0 p) (rW h0) ((k + 1 : Nat) : Int) (sv H1 185 w) (bnd (rRl h0 p) (rW h0) (k + 1) 0 w) := Itr_put y1 y2 y3 y4 ⟨hJ.1, hJ.2.1⟩ (by rw [Int.toNat_natCast])
      have R := s190e (d := d - 1) (by omega) (GW_le G (by omega) (by omega)) (RF_le F (by omega)) e1 It
      have dg := dpth_ge (rRl h0 p) (rW h0) N.toNat (k + 1) 0 w (by omega)
      rw [hD] at dg
      cases hb : bnd (rRl h0 p) (rW h0) (k + 1) 0 w with
      | nil =>
        rw [hb] at dg
        obtain ⟨H2, x1, x2⟩ := R.1 hb
        have f2 : frM h H2 := frM_trans z2 (frM_trans frM_sv (frM_r x2))
        have nd : ¬ (0 + ((k + 1 : Nat) : Int) ≤ D) := fun q => dg.mp q rfl
        have e2 : eqf h0 H2 := eqf_r e1 x2
        obtain ⟨H3, u1, u2⟩ := ih H2 (by omega) (by omega) e2
        refine ⟨H3, ?_, frM_trans f2 u2⟩
        rw [b269_90, if_neg (by omega), z1, bk_n, b269_101, z5, bk_v, b269_112, if_neg (by decide), x1, bk_v, b269_123, if_pos rfl, ck_p (by omega) (by omega), show ((k + 1 : Nat) : Int) + -1 = (k : Int) by omega, u1]
      | cons u l =>
        rw [hb] at dg
        obtain ⟨H2, x1, x2, -⟩ := R.2 u l hb
        have := dg.mpr (by simp)
        refine ⟨H2, ?_, frM_trans z2 (frM_trans frM_sv (frM_r x2))⟩
        rw [b269_90, if_neg (by omega), z1, bk_n, b269_101, z5, bk_v, b269_112, if_neg (by decide), x1, bk_v, b269_123, if_neg (by decide), show D = ((k + 1 : Nat) : Int) by omega]
end RCH
