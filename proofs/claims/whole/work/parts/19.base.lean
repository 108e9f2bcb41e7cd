/-! RULES for equations of the small machine -/
theorem ix_p {i : Int} {n : Nat} {f : dm_O} (h0 : 0 ≤ i) (h1 : i < (n : Int)) : dm_ix i n f = f := if_pos ⟨h0, h1⟩
theorem ck_p {z : Int} {f : Int → dm_O} (h0 : -2147483648 ≤ z) (h1 : z ≤ 2147483647) : dm_ck z f = f z := if_pos ⟨h0, h1⟩
theorem z1_p {x : Int} {f : dm_O} (h : x = 0 ∨ x = 1) : dm_z1 x f = f := if_pos h
theorem dv_p {x y : Int} {f : dm_O} (h0 : 0 ≤ x) (h1 : 0 < y) : (if 0 ≤ x ∧ 0 < y then f else none) = f := if_pos ⟨h0, h1⟩
theorem bk_v {k : dm_K} {T : dm_T} {pc : Nat} {L : dm_L} {S : List dm_V} {v : dm_V} {h : dm_H} : dm_back k T pc L S (some (.inl (some v), h)) = k (pc + 3) L (v :: S) h := rfl
theorem bk_n {k : dm_K} {T : dm_T} {pc : Nat} {L : dm_L} {S : List dm_V} {h : dm_H} : dm_back k T pc L S (some (.inl none, h)) = k (pc + 3) L S h := rfl
theorem bk_x {k : dm_K} {T : dm_T} {pc : Nat} {L : dm_L} {S : List dm_V} {E : Nat} {h : dm_H} (hT : dm_find T pc E = none) : dm_back k T pc L S (some (.inr E, h)) = some (.inr E, h) := by
  show (match dm_find T pc E with
    | some (g, j, n) => dm_put L j none (fun L' => k (g + n) L' [] h)
    | none => some (.inr E, h)) = _
  rw [hT]
theorem gr_sg {h : dm_H} {n a : Nat} {i : Int} : gr (sg h n) a i = gr h a i := rfl
theorem gi_sg {h : dm_H} {n a : Nat} {i : Int} : gi (sg h n) a i = gi h a i := rfl
theorem gl_sg {h : dm_H} {n : Nat} {i : Int} : gl (sg h n) i = gl h i := rfl
/-- the truth of a condition, as an int -/
def bi (p : Prop) [Decidable p] : Int := if p then 1 else 0
theorem bi_01 (p : Prop) [Decidable p] : bi p = 0 ∨ bi p = 1 := by unfold bi; split <;> simp
theorem bi_0 {p : Prop} [Decidable p] (h : ¬ p) : bi p = 0 := if_neg h
theorem bi_1 {p : Prop} [Decidable p] (h : p) : bi p = 1 := if_pos h
theorem bi_e0 {p : Prop} [Decidable p] : bi p = 0 ↔ ¬ p := by unfold bi; split <;> simp_all
theorem bi_e1 {p : Prop} [Decidable p] : bi p = 1 ↔ p := by unfold bi; split <;> simp_all
theorem bi_c {p q : Prop} [Decidable p] [Decidable q] (h : p ↔ q) : bi p = bi q := by unfold bi; simp only [h]
/-! loops that look for the first place -/
/-- the first of the k places from i on for which P holds; -1 if there is none -/
def fz (P : Int → Prop) [DecidablePred P] : Nat → Int → Int
  | 0, _ => -1
  | k + 1, i => if P i then i else fz P k (i + 1)
theorem fz_spec (P : Int → Prop) [DecidablePred P] : ∀ (k : Nat) (i : Int), (fz P k i = -1 ∧ ∀ j, i ≤ j → j < i + k → ¬ P j) ∨ (i ≤ fz P k i ∧ fz P k i < i + k ∧ P (fz P k i) ∧ ∀ j, i ≤ j → j < fz P k i → ¬ P j)
  | 0, i => Or.inl ⟨rfl, fun j h1 h2 => by omega⟩
  | k + 1, i => by
    unfold fz
    by_cases h : P i
    · rw [if_pos h]
      exact Or.inr ⟨by omega, by omega, h, fun j h1 h2 => by omega⟩
    · rw [if_neg h]
      rcases fz_spec P k (i + 1) with ⟨h1, h2⟩ | ⟨h1, h2, h3, h4⟩
      · refine Or.inl ⟨h1, fun j h3 h4 => ?_⟩
        by_cases e : j = i
        · rw [e]; exact h
        · exact h2 j (by omega) (by omega)
      · refine Or.inr ⟨by omega, by omega, h3, fun j h5 h6 => ?_⟩
        by_cases e : j = i
        · rw [e]; exact h
        · exact h4 j (by omega) h6
theorem fz_congr {P Q : Int → Prop} [DecidablePred P] [DecidablePred Q] : ∀ (k : Nat) (i : Int), (∀ j, i ≤ j → j < i + k → (P j ↔ Q j)) → fz P k i = fz Q k i
  | 0, _, _ => rfl
  | k + 1, i, h => by
    unfold fz
    rw [fz_congr k (i + 1) (fun j h1 h2 => h j (by omega) (by omega))]
    have := h i (by omega) (by omega)
    by_cases q : P i
    · rw [if_pos q, if_pos (this.mp q)]
    · rw [if_neg q, if_neg (fun z => q (this.mpr z))]
/-- a loop that ends at the first place for which P holds -/
theorem fz_loop {P : Int → Prop} [DecidablePred P] {Hd : Int → dm_O} {r : Int → dm_O} {N : Int} (h1 : ∀ i, 0 ≤ i → i < N → P i → Hd i = r i) (h2 : ∀ i, 0 ≤ i → i < N → ¬ P i → Hd i = Hd (i + 1)) (h3 : ∀ i, 0 ≤ i → N ≤ i → Hd i = r (-1)) : ∀ (k : Nat) (i : Int), 0 ≤ i → i + k = N → Hd i = r (fz P k i)
  | 0, i, h0, hk => h3 i h0 (by omega)
  | k + 1, i, h0, hk => by
    unfold fz
    by_cases h : P i
    · rw [if_pos h]
      exact h1 i h0 (by omega) h
    · rw [if_neg h, h2 i h0 (by omega) h]
      exact fz_loop h1 h2 h3 k (i + 1) (by omega) (by omega)
/-- from i on k times: what a loop makes of a state -/
def it {σ : Type} (f : Int → σ → σ) : Nat → Int → σ → σ
  | 0, _, s => s
  | k + 1, i, s => it f k (i + 1) (f i s)
theorem it_loop {σ : Type} {f : Int → σ → σ} {Hd : Int → σ → dm_O} {Ex : σ → dm_O} {I : Int → σ → Prop} {N : Int} (h1 : ∀ i s, 0 ≤ i → i < N → I i s → Hd i s = Hd (i + 1) (f i s) ∧ I (i + 1) (f i s)) (h2 : ∀ i s, 0 ≤ i → N ≤ i → I i s → Hd i s = Ex s) : ∀ (k : Nat) (i : Int) (s : σ), 0 ≤ i → i + k = N → I i s → Hd i s = Ex (it f k i s) ∧ I N (it f k i s)
  | 0, i, s, h0, hk, hi => by
    have : i = N := by omega
    subst this
    exact ⟨h2 i s h0 (by omega) hi, hi⟩
  | k + 1, i, s, h0, hk, hi => by
    obtain ⟨a1, a2⟩ := h1 i s h0 (by omega) hi
    rw [a1]
    exact it_loop h1 h2 k (i + 1) (f i s) (by omega) (by omega) a2
theorem it_congr {σ : Type} {f g : Int → σ → σ} : ∀ (k : Nat) (i : Int) (s : σ), (∀ j s, i ≤ j → j < i + k → f j s = g j s) → it f k i s = it g k i s
  | 0, _, _, _ => rfl
  | k + 1, i, s, h => by
    unfold it
    rw [h i s (by omega) (by omega)]
    exact it_congr k (i + 1) _ (fun j s h1 h2 => h j s (by omega) (by omega))
theorem it_snoc {σ : Type} (f : Int → σ → σ) : ∀ (k : Nat) (i : Int) (s : σ), it f (k + 1) i s = f (i + k) (it f k i s)
  | 0, i, s => by simp [it]
  | k + 1, i, s => by
    show it f (k + 1) (i + 1) (f i s) = _
    rw [it_snoc f k (i + 1) (f i s)]
    show f (i + 1 + k) _ = f (i + (k + 1 : Nat)) _
    rw [show i + 1 + (k : Int) = i + (k + 1 : Nat) by omega]
    rfl
theorem it_inv {σ : Type} {f : Int → σ → σ} {I : Int → σ → Prop} : ∀ (k : Nat) (i : Int) (s : σ), (∀ j s, i ≤ j → j < i + k → I j s → I (j + 1) (f j s)) → I i s → I (i + k) (it f k i s)
  | 0, i, s, _, h => by simpa [it] using h
  | k + 1, i, s, hs, h => by
    have := it_inv (I := I) k (i + 1) (f i s) (fun j s h1 h2 => hs j s (by omega) (by omega)) (hs i s (by omega) (by omega) h)
    rw [show i + (k + 1 : Nat) = i + 1 + (k : Int) by omega]
    exact this
