/-! COSTS: the mathematics; there is one greatest stable cost -/
section CSM
/-- the least of those that have P -/
noncomputable def mnI (P : Int → Prop) (g : Int → Int) : Nat → Int
  | 0 => 1000000
  | n + 1 => @ite _ (P n ∧ g n < mnI P g n) (Classical.propDecidable _) (g n) (mnI P g n)
theorem mnI_le {P : Int → Prop} {g : Int → Int} : ∀ (n : Nat), mnI P g n ≤ 1000000 ∧ ∀ x : Int, 0 ≤ x → x < n → P x → mnI P g n ≤ g x
  | 0 => ⟨Int.le_refl _, fun x x0 x1 _ => by omega⟩
  | n + 1 => by
    obtain ⟨a, b⟩ := mnI_le (P := P) (g := g) n
    show @ite _ (P n ∧ g n < mnI P g n) (Classical.propDecidable _) (g n) (mnI P g n) ≤ 1000000 ∧ ∀ x : Int, 0 ≤ x → x < ((n + 1 : Nat) : Int) → P x → @ite _ (P n ∧ g n < mnI P g n) (Classical.propDecidable _) (g n) (mnI P g n) ≤ g x
    by_cases z : P n ∧ g n < mnI P g n
    · rw [@if_pos _ (Classical.propDecidable _) z]
      refine ⟨by omega, fun x x0 x1 px => ?_⟩
      by_cases e : x = n
      · rw [e]; omega
      · have := b x x0 (by omega) px; omega
    · rw [@if_neg _ (Classical.propDecidable _) z]
      refine ⟨a, fun x x0 x1 px => ?_⟩
      by_cases e : x = n
      · rw [e] at px ⊢
        exact Int.not_lt.mp (fun w => z ⟨px, w⟩)
      · exact b x x0 (by omega) px
theorem mnI_at {P : Int → Prop} {g : Int → Int} : ∀ (n : Nat), mnI P g n = 1000000 ∨ ∃ x : Int, 0 ≤ x ∧ x < n ∧ P x ∧ g x = mnI P g n
  | 0 => Or.inl rfl
  | n + 1 => by
    show @ite _ (P n ∧ g n < mnI P g n) (Classical.propDecidable _) (g n) (mnI P g n) = 1000000 ∨ ∃ x : Int, 0 ≤ x ∧ x < ((n + 1 : Nat) : Int) ∧ P x ∧ g x = @ite _ (P n ∧ g n < mnI P g n) (Classical.propDecidable _) (g n) (mnI P g n)
    by_cases z : P n ∧ g n < mnI P g n
    · rw [@if_pos _ (Classical.propDecidable _) z]
      exact Or.inr ⟨n, by omega, by omega, z.1, rfl⟩
    · rw [@if_neg _ (Classical.propDecidable _) z]
      rcases mnI_at (P := P) (g := g) n with a | ⟨x, x0, x1, x2, x3⟩
      · exact Or.inl a
      · exact Or.inr ⟨x, x0, by omega, x2, x3⟩
theorem mnI_mono {P : Int → Prop} {g g' : Int → Int} {n : Nat} (h : ∀ x : Int, 0 ≤ x → x < n → g x ≤ g' x) : mnI P g n ≤ mnI P g' n := by
  rcases mnI_at (P := P) (g := g') n with a | ⟨x, x0, x1, x2, x3⟩
  · rw [a]; exact (mnI_le n).1
  · rw [← x3]
    exact Int.le_trans ((mnI_le n).2 x x0 x1 x2) (h x x0 x1)
/-- costs: 0 to 9999, or none -/
def vcc (x : Int) : Prop := (0 ≤ x ∧ x ≤ 9999) ∨ x = 1000000
def cmg (pr a b : Int) : Int := if b = 1000000 ∨ a = 1000000 then 1000000 else if pr = 0 then (if a < b then b else a) else m9 (a + b)
def ocv (s : Int) : Int := if s = 1000000 then 1000000 else m9 (s + 1)
theorem cmg_v {pr a b : Int} (ha : vcc a) (hb : vcc b) : vcc (cmg pr a b) := by
  unfold vcc cmg m9 at *
  split
  · omega
  split
  · split <;> omega
  · split <;> omega
theorem cmg_mono {pr a b a' b' : Int} (ha : vcc a) (hb : vcc b) (ha' : vcc a') (hb' : vcc b') (h1 : a ≤ a') (h2 : b ≤ b') : cmg pr a b ≤ cmg pr a' b' := by
  have v := cmg_v (pr := pr) ha hb
  by_cases z : b' = 1000000 ∨ a' = 1000000
  · have : cmg pr a' b' = 1000000 := if_pos z
    rw [this]
    unfold vcc at v
    omega
  · have z2 : ¬ (b = 1000000 ∨ a = 1000000) := by unfold vcc at *; omega
    unfold cmg
    rw [if_neg z, if_neg z2]
    split
    · split <;> split <;> omega
    · unfold m9
      split <;> split <;> omega
theorem cmg_le {pr a b k : Int} (ha : vcc a) (hb : vcc b) (hk : k ≤ 9998) (h : cmg pr a b ≤ k) : a ≤ k ∧ b ≤ k := by
  unfold cmg at h
  unfold vcc at ha hb
  split at h
  · omega
  split at h
  · split at h <;> omega
  · unfold m9 at h
    split at h <;> omega
theorem ocv_v {s : Int} (h : vcc s) : vcc (ocv s) := by
  unfold vcc ocv m9 at *
  split
  · omega
  · split <;> omega
theorem ocv_mono {s s' : Int} (h : vcc s) (h' : vcc s') (l : s ≤ s') : ocv s ≤ ocv s' := by
  unfold vcc ocv m9 at *
  split <;> split <;> (try split) <;> (try split) <;> omega
variable {ω : mW} {cl : Int → Int} {RL : mU → Prop} {fc : Int → Int → Int → Prop} {pr : Int}
/-- the cost of literal k -/
noncomputable def acv (ρ : mR) (ω : mW) (f : Int → Int → Int) (k : Int) (v : mA) : Int := mnI (fun x => ftk (ρ.2.2.2 k) (ρ.2.2.1 k) v (ω.2 (ρ.2.1 k) x)) (fun x => f (ρ.2.1 k) x) (ω.1 (ρ.2.1 k)).toNat
/-- the cost of the first literals -/
noncomputable def bcv (pr : Int) (ρ : mR) (ω : mW) (f : Int → Int → Int) (v : mA) : Nat → Int
  | 0 => 0
  | n + 1 => cmg pr (bcv pr ρ ω f v n) (if ρ.1 n = 0 then acv ρ ω f n v else 0)
/-- the cost of a group: of the bindings whose key it is -/
noncomputable def gcv (pr : Int) (ρ : mR) (ω : mW) (f : Int → Int → Int) (N : Nat) (g : mA → Int) (key : Int) (l : List mA) : Int := l.foldl (fun a v => if g v = key then cmg pr a (bcv pr ρ ω f v N) else a) 0
theorem gcv_s {pr : Int} {ρ : mR} {ω : mW} {f : Int → Int → Int} {N : Nat} {g : mA → Int} {key : Int} {l : List mA} {v : mA} : gcv pr ρ ω f N g key (l ++ [v]) = if g v = key then cmg pr (gcv pr ρ ω f N g key l) (bcv pr ρ ω f v N) else gcv pr ρ ω f N g key l := by
  unfold gcv
  rw [List.foldl_append]
  rfl
/-- costs of rows that there are -/
def vcf (ω : mW) (f : Int → Int → Int) : Prop := ∀ r x, 0 ≤ r → r < 6 → 0 ≤ x → x < ω.1 r → vcc (f r x)
def lef (ω : mW) (f f' : Int → Int → Int) : Prop := ∀ r x, 0 ≤ r → r < 6 → 0 ≤ x → x < ω.1 r → f r x ≤ f' r x
theorem acv_v {ρ : mR} {f : Int → Int → Int} {k : Int} {v : mA} (hs : 0 ≤ ρ.2.1 k ∧ ρ.2.1 k < 6) (hf : vcf ω f) : vcc (acv ρ ω f k v) := by
  unfold acv
  rcases mnI_at (P := fun x => ftk (ρ.2.2.2 k) (ρ.2.2.1 k) v (ω.2 (ρ.2.1 k) x)) (g := fun x => f (ρ.2.1 k) x) (ω.1 (ρ.2.1 k)).toNat with a | ⟨x, x0, x1, x2, x3⟩
  · exact Or.inr a
  · rw [← x3]
    exact hf _ x hs.1 hs.2 x0 (by omega)
theorem acv_mono {ρ : mR} {f f' : Int → Int → Int} {k : Int} {v : mA} (hs : 0 ≤ ρ.2.1 k ∧ ρ.2.1 k < 6) (h : lef ω f f') : acv ρ ω f k v ≤ acv ρ ω f' k v := mnI_mono (fun x x0 x1 => h _ x hs.1 hs.2 x0 (by omega))
/-- positive literals speak of relations -/
def psr (ρ : mR) (N : Nat) : Prop := ∀ k, 0 ≤ k → k < (N : Int) → ρ.1 k = 0 → 0 ≤ ρ.2.1 k ∧ ρ.2.1 k < 6
theorem bcv_v {ρ : mR} {f : Int → Int → Int} {v : mA} (hf : vcf ω f) : ∀ {n : Nat}, psr ρ n → vcc (bcv pr ρ ω f v n)
  | 0, _ => Or.inl ⟨Int.le_refl _, by show (0 : Int) ≤ 9999; omega⟩
  | n + 1, h => by
    refine cmg_v (bcv_v hf (fun k k0 k1 => h k k0 (by omega))) ?_
    split
    · rename_i q
      exact acv_v (h n (by omega) (by omega) q) hf
    · exact Or.inl ⟨Int.le_refl _, by omega⟩
theorem bcv_mono {ρ : mR} {f f' : Int → Int → Int} {v : mA} (hf : vcf ω f) (hf' : vcf ω f') (l : lef ω f f') : ∀ {n : Nat}, psr ρ n → bcv pr ρ ω f v n ≤ bcv pr ρ ω f' v n
  | 0, _ => Int.le_refl _
  | n + 1, h => by
    have h' : psr ρ n := fun k k0 k1 => h k k0 (by omega)
    by_cases q : ρ.1 n = 0
    · have hs := h n (by omega) (by omega) q
      show cmg pr _ (if ρ.1 n = 0 then _ else _) ≤ cmg pr _ (if ρ.1 n = 0 then _ else _)
      rw [if_pos q, if_pos q]
      exact cmg_mono (bcv_v hf h') (acv_v hs hf) (bcv_v hf' h') (acv_v hs hf') (bcv_mono hf hf' l h') (acv_mono hs l)
    · show cmg pr _ (if ρ.1 n = 0 then _ else _) ≤ cmg pr _ (if ρ.1 n = 0 then _ else _)
      rw [if_neg q, if_neg q]
      exact cmg_mono (bcv_v hf h') (Or.inl ⟨Int.le_refl _, by omega⟩) (bcv_v hf' h') (Or.inl ⟨Int.le_refl _, by omega⟩) (bcv_mono hf hf' l h') (Int.le_refl _)
/-- costs that are final up to k -/
def fin9 (ω : mW) (c f : Int → Int → Int) (k : Int) : Prop := ∀ r x, 0 ≤ r → r < 6 → 0 ≤ x → x < ω.1 r → c r x ≤ k → f r x ≤ c r x
theorem bcv_loc {ρ : mR} {c f : Int → Int → Int} {v : mA} {k : Int} (hf : vcf ω f) (hc : vcf ω c) (hk : k ≤ 9998) (l : fin9 ω c f k) : ∀ {n : Nat}, psr ρ n → bcv pr ρ ω c v n ≤ k → bcv pr ρ ω f v n ≤ bcv pr ρ ω c v n
  | 0, _, _ => Int.le_refl _
  | n + 1, h, q => by
    have h' : psr ρ n := fun k k0 k1 => h k k0 (by omega)
    have vo : vcc (if ρ.1 n = 0 then acv ρ ω c n v else 0) := by
      split
      · rename_i z; exact acv_v (h n (by omega) (by omega) z) hc
      · exact Or.inl ⟨Int.le_refl _, by omega⟩
    have vo' : vcc (if ρ.1 n = 0 then acv ρ ω f n v else 0) := by
      split
      · rename_i z; exact acv_v (h n (by omega) (by omega) z) hf
      · exact Or.inl ⟨Int.le_refl _, by omega⟩
    obtain ⟨a1, a2⟩ := cmg_le (bcv_v hc h') vo hk q
    refine cmg_mono (bcv_v hf h') vo' (bcv_v hc h') vo (bcv_loc hf hc hk l h' a1) ?_
    by_cases z : ρ.1 n = 0
    · rw [if_pos z] at a2 ⊢
      rw [if_pos z]
      have hs := h n (by omega) (by omega) z
      unfold acv at a2 ⊢
      rcases mnI_at (P := fun x => ftk (ρ.2.2.2 n) (ρ.2.2.1 n) v (ω.2 (ρ.2.1 n) x)) (g := fun x => c (ρ.2.1 n) x) (ω.1 (ρ.2.1 n)).toNat with a | ⟨x, x0, x1, x2, x3⟩
      · rw [a]; exact (mnI_le _).1
      · rw [← x3] at a2 ⊢
        exact Int.le_trans ((mnI_le _).2 x x0 x1 x2) (l _ x hs.1 hs.2 x0 (by omega) a2)
    · rw [if_neg z, if_neg z]; exact Int.le_refl _
theorem gcv_v {ρ : mR} {f : Int → Int → Int} {N : Nat} {g : mA → Int} {key : Int} (hf : vcf ω f) (h : psr ρ N) (l : List mA) : vcc (gcv pr ρ ω f N g key l) := by
  unfold gcv
  have key' : ∀ (l : List mA) (a : Int), vcc a → vcc (l.foldl (fun a v => if g v = key then cmg pr a (bcv pr ρ ω f v N) else a) a) := by
    intro l
    induction l with
    | nil => exact fun a ha => ha
    | cons v l ih =>
      intro a ha
      rw [List.foldl_cons]
      refine ih _ ?_
      split
      · exact cmg_v ha (bcv_v hf h)
      · exact ha
  exact key' l 0 (Or.inl ⟨Int.le_refl _, by omega⟩)
theorem gcv_mono {ρ : mR} {f f' : Int → Int → Int} {N : Nat} {g : mA → Int} {key : Int} (hf : vcf ω f) (hf' : vcf ω f') (le : lef ω f f') (h : psr ρ N) (l : List mA) : gcv pr ρ ω f N g key l ≤ gcv pr ρ ω f' N g key l := by
  unfold gcv
  have key' : ∀ (l : List mA) (a a' : Int), vcc a → vcc a' → a ≤ a' → l.foldl (fun a v => if g v = key then cmg pr a (bcv pr ρ ω f v N) else a) a ≤ l.foldl (fun a v => if g v = key then cmg pr a (bcv pr ρ ω f' v N) else a) a' := by
    intro l
    induction l with
    | nil => exact fun a a' _ _ q => q
    | cons v l ih =>
      intro a a' ha ha' q
      rw [List.foldl_cons, List.foldl_cons]
      by_cases z : g v = key
      · rw [if_pos z, if_pos z]
        exact ih _ _ (cmg_v ha (bcv_v hf h)) (cmg_v ha' (bcv_v hf' h)) (cmg_mono ha (bcv_v hf h) ha' (bcv_v hf' h) q (bcv_mono hf hf' le h))
      · rw [if_neg z, if_neg z]
        exact ih _ _ ha ha' q
  exact key' l 0 0 (Or.inl ⟨Int.le_refl _, by omega⟩) (Or.inl ⟨Int.le_refl _, by omega⟩) (Int.le_refl _)
theorem gcv_loc {ρ : mR} {c f : Int → Int → Int} {N : Nat} {g : mA → Int} {key k : Int} (hf : vcf ω f) (hc : vcf ω c) (hk : k ≤ 9998) (lo : fin9 ω c f k) (h : psr ρ N) (l : List mA) (q : gcv pr ρ ω c N g key l ≤ k) : gcv pr ρ ω f N g key l ≤ gcv pr ρ ω c N g key l := by
  unfold gcv at q ⊢
  have up : ∀ (l : List mA) (a : Int), vcc a → l.foldl (fun a v => if g v = key then cmg pr a (bcv pr ρ ω c v N) else a) a ≤ k → a ≤ k := by
    intro l
    induction l with
    | nil => exact fun a _ q => q
    | cons v l ih =>
      intro a ha q
      rw [List.foldl_cons] at q
      by_cases z : g v = key
      · rw [if_pos z] at q
        exact (cmg_le ha (bcv_v hc h) hk (ih _ (cmg_v ha (bcv_v hc h)) q)).1
      · rw [if_neg z] at q
        exact ih _ ha q
  have key' : ∀ (l : List mA) (a a' : Int), vcc a → vcc a' → a ≤ a' → l.foldl (fun a v => if g v = key then cmg pr a (bcv pr ρ ω c v N) else a) a' ≤ k → l.foldl (fun a v => if g v = key then cmg pr a (bcv pr ρ ω f v N) else a) a ≤ l.foldl (fun a v => if g v = key then cmg pr a (bcv pr ρ ω c v N) else a) a' := by
    intro l
    induction l with
    | nil => exact fun a a' _ _ q _ => q
    | cons v l ih =>
      intro a a' ha ha' q1 q2
      rw [List.foldl_cons] at q2
      rw [List.foldl_cons, List.foldl_cons]
      by_cases z : g v = key
      · rw [if_pos z] at q2
        rw [if_pos z, if_pos z]
        have b2 := (cmg_le ha' (bcv_v hc h) hk (up l _ (cmg_v ha' (bcv_v hc h)) q2)).2
        exact ih _ _ (cmg_v ha (bcv_v hf h)) (cmg_v ha' (bcv_v hc h)) (cmg_mono ha (bcv_v hf h) ha' (bcv_v hc h) q1 (bcv_loc hf hc hk lo h b2)) q2
      · rw [if_neg z] at q2
        rw [if_neg z, if_neg z]
        exact ih _ _ ha ha' q1 q2
  exact key' l 0 0 (Or.inl ⟨Int.le_refl _, by omega⟩) (Or.inl ⟨Int.le_refl _, by omega⟩) (Int.le_refl _) q
/-- the row of a way, and what it costs -/
noncomputable def wrow (cl : Int → Int) (u : mU) (ω : mW) (v : mA) : Int := if u.1 = 0 then hdc cl u v else grow cl u ω (gkv cl u v)
noncomputable def wcost (pr : Int) (cl : Int → Int) (u : mU) (ω : mW) (f : Int → Int → Int) (v : mA) : Int := if u.1 = 0 then bcv pr u.2.2.2.1 ω f v u.2.2.2.2.toNat else gcv pr u.2.2.2.1 ω f u.2.2.2.2.toNat (gkv cl u) (gkv cl u v) (bnds u ω)
def plW (ω : mW) (r c x : Int) : Prop := (0 ≤ x ∧ x < ω.1 r) ∧ ω.2 r x = c
/-- each way would cost as much at least -/
def STB (pr : Int) (cl : Int → Int) (RL : mU → Prop) (fc : Int → Int → Int → Prop) (ω : mW) (f : Int → Int → Int) : Prop := vcf ω f ∧ (∀ r c a, 0 ≤ r → r < 6 → fc r c a → ∀ x, plW ω r c x → f r x ≤ a) ∧ ∀ u, RL u → ∀ v, v ∈ bnds u ω → ∀ x, plW ω u.2.1 (wrow cl u ω v) x → f u.2.1 x ≤ ocv (wcost pr cl u ω f v)
def LBd (pr : Int) (cl : Int → Int) (RL : mU → Prop) (fc : Int → Int → Int → Prop) (ω : mW) (f : Int → Int → Int) : Prop := ∀ s, STB pr cl RL fc ω s → lef ω s f
/-- the greatest stable cost -/
def GSB (pr : Int) (cl : Int → Int) (RL : mU → Prop) (fc : Int → Int → Int → Prop) (ω : mW) (f : Int → Int → Int) : Prop := STB pr cl RL fc ω f ∧ LBd pr cl RL fc ω f
theorem GSB_one {f f' : Int → Int → Int} (a : GSB pr cl RL fc ω f) (b : GSB pr cl RL fc ω f') : ∀ r x, 0 ≤ r → r < 6 → 0 ≤ x → x < ω.1 r → f r x = f' r x := fun r x r0 r1 x0 x1 => Int.le_antisymm (b.2 f a.1 r x r0 r1 x0 x1) (a.2 f' b.1 r x r0 r1 x0 x1)
/-- rules whose positive literals speak of relations -/
def psR (RL : mU → Prop) : Prop := ∀ u, RL u → (0 ≤ u.2.1 ∧ u.2.1 < 6) ∧ psr u.2.2.2.1 u.2.2.2.2.toNat
theorem wcost_v (hR : psR RL) {f : Int → Int → Int} (hf : vcf ω f) {u : mU} (hu : RL u) (v : mA) : vcc (wcost pr cl u ω f v) := by
  unfold wcost
  split
  · exact bcv_v hf (hR u hu).2
  · exact gcv_v hf (hR u hu).2 _
theorem wcost_mono (hR : psR RL) {f f' : Int → Int → Int} (hf : vcf ω f) (hf' : vcf ω f') (l : lef ω f f') {u : mU} (hu : RL u) (v : mA) : wcost pr cl u ω f v ≤ wcost pr cl u ω f' v := by
  unfold wcost
  split
  · exact bcv_mono hf hf' l (hR u hu).2
  · exact gcv_mono hf hf' l (hR u hu).2 _
theorem wcost_loc (hR : psR RL) {c f : Int → Int → Int} {k : Int} (hf : vcf ω f) (hc : vcf ω c) (hk : k ≤ 9998) (l : fin9 ω c f k) {u : mU} (hu : RL u) {v : mA} (q : wcost pr cl u ω c v ≤ k) : wcost pr cl u ω f v ≤ wcost pr cl u ω c v := by
  unfold wcost at q ⊢
  split
  · rename_i z
    rw [if_pos z] at q
    exact bcv_loc hf hc hk l (hR u hu).2 q
  · rename_i z
    rw [if_neg z] at q
    exact gcv_loc hf hc hk l (hR u hu).2 _ q
/-- the greatest stable cost of a row is that of a way -/
theorem GSB_at (hR : psR RL) (hfc : ∀ r c a, fc r c a → 0 ≤ a ∧ a ≤ 99) {c : Int → Int → Int} (g : GSB pr cl RL fc ω c) {r x : Int} (r0 : 0 ≤ r) (r1 : r < 6) (x0 : 0 ≤ x) (x1 : x < ω.1 r) (hc : c r x ≠ 1000000) : (∃ a, fc r (ω.2 r x) a ∧ a ≤ c r x) ∨ ∃ u v, RL u ∧ v ∈ bnds u ω ∧ u.2.1 = r ∧ plW ω r (wrow cl u ω v) x ∧ ocv (wcost pr cl u ω c v) ≤ c r x := by
  refine Classical.byContradiction (fun q => ?_)
  have q1 : ∀ a, fc r (ω.2 r x) a → c r x < a := fun a ha => Int.not_le.mp (fun w => q (Or.inl ⟨a, ha, w⟩))
  have q2 : ∀ u v, RL u → v ∈ bnds u ω → u.2.1 = r → plW ω r (wrow cl u ω v) x → c r x < ocv (wcost pr cl u ω c v) := fun u v a b e d => Int.not_le.mp (fun w => q (Or.inr ⟨u, v, a, b, e, d, w⟩))
  obtain ⟨⟨s1, s2, s3⟩, s4⟩ := g
  have vx := s1 r x r0 r1 x0 x1
  obtain ⟨y, ey⟩ : ∃ y, y = if c r x = 9999 then 1000000 else c r x + 1 := ⟨_, rfl⟩
  obtain ⟨c', ec⟩ : ∃ c' : Int → Int → Int, c' = fun a b => if a = r ∧ b = x then y else c a b := ⟨_, rfl⟩
  have hy : vcc y ∧ c r x < y := by
    unfold vcc at vx ⊢
    rw [ey]
    split <;> omega
  have c1 : c' r x = y := by rw [ec]; exact if_pos ⟨rfl, rfl⟩
  have c2 : ∀ a b, ¬ (a = r ∧ b = x) → c' a b = c a b := fun a b z => by rw [ec]; exact if_neg z
  have v' : vcf ω c' := fun a b a0 a1 b0 b1 => by
    by_cases z : a = r ∧ b = x
    · rw [z.1, z.2, c1]; exact hy.1
    · rw [c2 a b z]; exact s1 a b a0 a1 b0 b1
  have le : lef ω c c' := fun a b a0 a1 b0 b1 => by
    by_cases z : a = r ∧ b = x
    · rw [z.1, z.2, c1]; omega
    · rw [c2 a b z]; exact Int.le_refl _
  have st : STB pr cl RL fc ω c' := by
    refine ⟨v', fun a cc p a0 a1 hp b hb => ?_, fun u hu v hv b hb => ?_⟩
    · by_cases z : a = r ∧ b = x
      · obtain ⟨rfl, rfl⟩ := z
        have e : cc = ω.2 a b := hb.2.symm
        subst e
        have := q1 p hp
        have := hfc _ _ _ hp
        rw [c1, ey]
        split <;> omega
      · rw [c2 a b z]; exact s2 a cc p a0 a1 hp b hb
    · have m := ocv_mono (wcost_v (pr := pr) (cl := cl) hR s1 hu v) (wcost_v hR v' hu v) (wcost_mono (pr := pr) (cl := cl) hR s1 v' le hu v)
      by_cases z : u.2.1 = r ∧ b = x
      · obtain ⟨e1, rfl⟩ := z
        have w := q2 u v hu hv e1 (by rw [← e1]; exact hb)
        have vv := ocv_v (wcost_v (pr := pr) (cl := cl) hR s1 hu v)
        rw [e1, c1, ey]
        unfold vcc at vv
        split <;> omega
      · rw [c2 _ b z]
        exact Int.le_trans (s3 u hu v hv b hb) m
  have := s4 c' st r x r0 r1 x0 x1
  rw [c1] at this
  omega
/-- one round more, one cost more is final -/
theorem fin9_s (hR : psR RL) (hfc : ∀ r c a, fc r c a → 0 ≤ a ∧ a ≤ 99) {c f f' : Int → Int → Int} {k : Int} (hk : k ≤ 9998) (g : GSB pr cl RL fc ω c) (hf : vcf ω f) (le : lef ω f' f) (hfa : ∀ r d a, 0 ≤ r → r < 6 → fc r d a → ∀ x, plW ω r d x → f' r x ≤ a) (hw : ∀ u, RL u → ∀ v, v ∈ bnds u ω → ∀ x, plW ω u.2.1 (wrow cl u ω v) x → f' u.2.1 x ≤ ocv (wcost pr cl u ω f v)) (K : fin9 ω c f (k - 1)) : fin9 ω c f' k := by
  intro r x r0 r1 x0 x1 q
  have vx := g.1.1 r x r0 r1 x0 x1
  by_cases z : c r x ≤ k - 1
  · exact Int.le_trans (le r x r0 r1 x0 x1) (K r x r0 r1 x0 x1 z)
  · rcases GSB_at hR hfc g r0 r1 x0 x1 (by omega) with ⟨a, a1, a2⟩ | ⟨u, v, u1, u2, u3, u4, u5⟩
    · exact Int.le_trans (hfa r _ a r0 r1 a1 x ⟨⟨x0, x1⟩, rfl⟩) a2
    · have w := hw u u1 v u2 x (by rw [u3]; exact u4)
      rw [u3] at w
      have vw := wcost_v (pr := pr) (cl := cl) hR g.1.1 u1 v
      have e : wcost pr cl u ω c v ≤ k - 1 := by
        unfold ocv m9 at u5
        unfold vcc at vw
        split at u5
        · omega
        · split at u5 <;> omega
      have l := wcost_loc (pr := pr) (cl := cl) hR hf g.1.1 (by omega) K u1 e
      exact Int.le_trans w (Int.le_trans (ocv_mono (wcost_v hR hf u1 v) vw l) u5)
end CSM
