/-! THE CALL pass: the reference's list while facts go behind all and come back -/
section PAS
/-- all the facts, in some order -/
def PK (f0 : Int → mT) (n : Int) (f : Int → mT) : Prop := (∀ s, inF f n s ↔ inF f0 n s) ∧ ∀ x y, 0 ≤ x → x < y → y < n → kyF (f x) ≠ kyF (f y)
theorem PK_perm {f0 f f' : Int → mT} {n : Int} {σ τ : Int → Int} (P : PK f0 n f) (e : ∀ x, 0 ≤ x → x < n → f' x = f (σ x)) (hs : ∀ x, 0 ≤ x → x < n → 0 ≤ σ x ∧ σ x < n) (ht : ∀ x, 0 ≤ x → x < n → (0 ≤ τ x ∧ τ x < n) ∧ σ (τ x) = x) (hi : ∀ x y, 0 ≤ x → x < y → y < n → σ x ≠ σ y) : PK f0 n f' := by
  obtain ⟨p1, p2⟩ := P
  refine ⟨fun s => Iff.trans ⟨fun ⟨x, x0, x1, x2⟩ => ⟨σ x, (hs x x0 x1).1, (hs x x0 x1).2, by rw [← e x x0 x1]; exact x2⟩, fun ⟨x, x0, x1, x2⟩ => ⟨τ x, (ht x x0 x1).1.1, (ht x x0 x1).1.2, by rw [e _ (ht x x0 x1).1.1 (ht x x0 x1).1.2, (ht x x0 x1).2]; exact x2⟩⟩ (p1 s), fun x y x0 xy y1 => ?_⟩
  have a := hs x x0 (by omega)
  have b := hs y (by omega) y1
  rw [e x x0 (by omega), e y (by omega) y1]
  rcases Int.lt_or_gt_of_ne (hi x y x0 xy y1) with q | q
  · exact p2 _ _ a.1 q b.2
  · exact fun h => p2 _ _ b.1 q a.2 h.symm
/-- one goes behind the first m -/
theorem PK_last {f0 f f' : Int → mT} {n m p : Int} (P : PK f0 n f) (hm : m ≤ n) (hp : 0 ≤ p ∧ p < m) (e1 : ∀ x, 0 ≤ x → x < p → f' x = f x) (e2 : ∀ x, p ≤ x → x < m - 1 → f' x = f (x + 1)) (e3 : f' (m - 1) = f p) (e4 : ∀ x, m ≤ x → f' x = f x) : PK f0 n f' := by
  refine PK_perm (σ := fun x => if x < p ∨ m ≤ x then x else if x < m - 1 then x + 1 else p) (τ := fun x => if x < p ∨ m ≤ x then x else if x = p then m - 1 else x - 1) P (fun x x0 x1 => ?_) (fun x x0 x1 => ?_) (fun x x0 x1 => ?_) (fun x y x0 xy y1 => ?_)
  · show f' x = f (if x < p ∨ m ≤ x then x else if x < m - 1 then x + 1 else p)
    by_cases a : x < p
    · rw [if_pos (Or.inl a)]; exact e1 x x0 a
    by_cases b : m ≤ x
    · rw [if_pos (Or.inr b)]; exact e4 x b
    rw [if_neg (by omega)]
    by_cases c : x < m - 1
    · rw [if_pos c]; exact e2 x (by omega) c
    · rw [if_neg c, show x = m - 1 by omega]; exact e3
  · show 0 ≤ (if x < p ∨ m ≤ x then x else if x < m - 1 then x + 1 else p) ∧ (if x < p ∨ m ≤ x then x else if x < m - 1 then x + 1 else p) < n
    repeat' split
    all_goals omega
  · show (0 ≤ (if x < p ∨ m ≤ x then x else if x = p then m - 1 else x - 1) ∧ (if x < p ∨ m ≤ x then x else if x = p then m - 1 else x - 1) < n) ∧ (if (if x < p ∨ m ≤ x then x else if x = p then m - 1 else x - 1) < p ∨ m ≤ (if x < p ∨ m ≤ x then x else if x = p then m - 1 else x - 1) then (if x < p ∨ m ≤ x then x else if x = p then m - 1 else x - 1) else if (if x < p ∨ m ≤ x then x else if x = p then m - 1 else x - 1) < m - 1 then (if x < p ∨ m ≤ x then x else if x = p then m - 1 else x - 1) + 1 else p) = x
    generalize eu : (if x < p ∨ m ≤ x then x else if x = p then m - 1 else x - 1) = u
    have hu : (x < p ∨ m ≤ x) ∧ u = x ∨ (p ≤ x ∧ x < m ∧ x = p ∧ u = m - 1) ∨ (p < x ∧ x < m ∧ u = x - 1) := by
      rw [← eu]
      repeat' split
      all_goals omega
    refine ⟨by omega, ?_⟩
    repeat' split
    all_goals omega
  · show (if x < p ∨ m ≤ x then x else if x < m - 1 then x + 1 else p) ≠ (if y < p ∨ m ≤ y then y else if y < m - 1 then y + 1 else p)
    repeat' split
    all_goals omega
/-- one comes in among the first m from the place behind them -/
theorem PK_in {f0 f f' : Int → mT} {n m p : Int} (P : PK f0 n f) (hm : m < n) (hp : 0 ≤ p ∧ p ≤ m) (e1 : ∀ x, 0 ≤ x → x < p → f' x = f x) (e2 : ∀ x, p < x → x ≤ m → f' x = f (x - 1)) (e3 : f' p = f m) (e4 : ∀ x, m < x → f' x = f x) : PK f0 n f' := by
  refine PK_perm (σ := fun x => if x < p ∨ m < x then x else if x = p then m else x - 1) (τ := fun x => if x < p ∨ m < x then x else if x < m then x + 1 else p) P (fun x x0 x1 => ?_) (fun x x0 x1 => ?_) (fun x x0 x1 => ?_) (fun x y x0 xy y1 => ?_)
  · show f' x = f (if x < p ∨ m < x then x else if x = p then m else x - 1)
    by_cases a : x < p
    · rw [if_pos (Or.inl a)]; exact e1 x x0 a
    by_cases b : m < x
    · rw [if_pos (Or.inr b)]; exact e4 x b
    rw [if_neg (by omega)]
    by_cases c : x = p
    · rw [if_pos c, c]; exact e3
    · rw [if_neg c]; exact e2 x (by omega) (by omega)
  · show 0 ≤ (if x < p ∨ m < x then x else if x = p then m else x - 1) ∧ (if x < p ∨ m < x then x else if x = p then m else x - 1) < n
    repeat' split
    all_goals omega
  · show (0 ≤ (if x < p ∨ m < x then x else if x < m then x + 1 else p) ∧ (if x < p ∨ m < x then x else if x < m then x + 1 else p) < n) ∧ (if (if x < p ∨ m < x then x else if x < m then x + 1 else p) < p ∨ m < (if x < p ∨ m < x then x else if x < m then x + 1 else p) then (if x < p ∨ m < x then x else if x < m then x + 1 else p) else if (if x < p ∨ m < x then x else if x < m then x + 1 else p) = p then m else (if x < p ∨ m < x then x else if x < m then x + 1 else p) - 1) = x
    generalize eu : (if x < p ∨ m < x then x else if x < m then x + 1 else p) = u
    have hu : (x < p ∨ m < x) ∧ u = x ∨ (p ≤ x ∧ x < m ∧ u = x + 1) ∨ (p ≤ x ∧ x = m ∧ u = p) := by
      rw [← eu]
      repeat' split
      all_goals omega
    refine ⟨by omega, ?_⟩
    repeat' split
    all_goals omega
  · show (if x < p ∨ m < x then x else if x = p then m else x - 1) ≠ (if y < p ∨ m < y then y else if y = p then m else y - 1)
    repeat' split
    all_goals omega
/-- how many have ended -/
def cE (f : Int → mT) (t : Int) : Nat → Int
  | 0 => 0
  | k + 1 => cE f t k + (if (f k).2.2.2 ≠ -1 ∧ (f k).2.2.2 ≤ t then 1 else 0)
theorem cE_r (f : Int → mT) (t : Int) : ∀ k : Nat, 0 ≤ cE f t k ∧ cE f t k ≤ k
  | 0 => ⟨Int.le_refl _, Int.le_refl _⟩
  | k + 1 => by
    have := cE_r f t k
    show 0 ≤ cE f t k + (if (f k).2.2.2 ≠ -1 ∧ (f k).2.2.2 ≤ t then 1 else 0) ∧ cE f t k + (if (f k).2.2.2 ≠ -1 ∧ (f k).2.2.2 ≤ t then 1 else 0) ≤ ((k + 1 : Nat) : Int)
    split <;> omega
theorem cE_cg {f g : Int → mT} {t : Int} : ∀ k : Nat, (∀ x : Int, 0 ≤ x → x < (k : Int) → g x = f x) → cE g t k = cE f t k
  | 0, _ => rfl
  | k + 1, e => by
    show cE g t k + (if (g k).2.2.2 ≠ -1 ∧ (g k).2.2.2 ≤ t then 1 else 0) = cE f t k + (if (f k).2.2.2 ≠ -1 ∧ (f k).2.2.2 ≤ t then 1 else 0)
    rw [cE_cg k (fun x x0 x1 => e x x0 (by omega)), e k (by omega) (by omega)]
theorem cE_ex {f : Int → mT} {t : Int} : ∀ k : Nat, 0 < cE f t k → ∃ x : Int, 0 ≤ x ∧ x < (k : Int) ∧ edd t (f x)
  | 0, q => absurd q (Int.lt_irrefl 0)
  | k + 1, q => by
    have q : 0 < cE f t k + (if (f k).2.2.2 ≠ -1 ∧ (f k).2.2.2 ≤ t then 1 else 0) := q
    by_cases z : (f k).2.2.2 ≠ -1 ∧ (f k).2.2.2 ≤ t
    · exact ⟨k, by omega, by omega, z⟩
    · rw [if_neg z] at q
      obtain ⟨x, x0, x1, x2⟩ := cE_ex (f := f) (t := t) k (by omega)
      exact ⟨x, x0, by omega, x2⟩
theorem cE_no {f : Int → mT} {t : Int} : ∀ k : Nat, cE f t k = 0 → ∀ x : Int, 0 ≤ x → x < (k : Int) → ¬ edd t (f x)
  | 0, _ => fun x x0 x1 => by omega
  | k + 1, q => by
    have q : cE f t k + (if (f k).2.2.2 ≠ -1 ∧ (f k).2.2.2 ≤ t then 1 else 0) = 0 := q
    have r := cE_r f t k
    intro x x0 x1
    by_cases z : (f k).2.2.2 ≠ -1 ∧ (f k).2.2.2 ≤ t
    · rw [if_pos z] at q; omega
    · rw [if_neg z] at q
      by_cases y : x = k
      · rw [y]; exact z
      · exact cE_no (f := f) (t := t) k (by omega) x x0 (by omega)
theorem cE_del {f g : Int → mT} {t : Int} {p : Nat} (e1 : ∀ x : Int, 0 ≤ x → x < (p : Int) → g x = f x) (hp : edd t (f (p : Int))) : ∀ k : Nat, p ≤ k → (∀ x : Int, (p : Int) ≤ x → x < (k : Int) → g x = f (x + 1)) → cE g t k + 1 = cE f t (k + 1) := by
  intro k
  induction k with
  | zero =>
    intro pk _
    have : p = 0 := by omega
    subst this
    show (0 : Int) + 1 = 0 + (if (f ((0 : Nat) : Int)).2.2.2 ≠ -1 ∧ (f ((0 : Nat) : Int)).2.2.2 ≤ t then 1 else 0)
    have hp : (f ((0 : Nat) : Int)).2.2.2 ≠ -1 ∧ (f ((0 : Nat) : Int)).2.2.2 ≤ t := hp
    rw [if_pos hp]
  | succ k ih =>
    intro pk e2
    by_cases z : p = k + 1
    · show cE g t (k + 1) + 1 = cE f t (k + 1) + (if (f ((k + 1 : Nat) : Int)).2.2.2 ≠ -1 ∧ (f ((k + 1 : Nat) : Int)).2.2.2 ≤ t then 1 else 0)
      rw [z] at hp
      have hp : (f ((k + 1 : Nat) : Int)).2.2.2 ≠ -1 ∧ (f ((k + 1 : Nat) : Int)).2.2.2 ≤ t := hp
      rw [if_pos hp, cE_cg (k + 1) (fun x x0 x1 => e1 x x0 (by rw [z]; exact x1))]
    · have a := ih (by omega) (fun x x0 x1 => e2 x x0 (by omega))
      show cE g t k + (if (g k).2.2.2 ≠ -1 ∧ (g k).2.2.2 ≤ t then 1 else 0) + 1 = cE f t (k + 1) + (if (f ((k + 1 : Nat) : Int)).2.2.2 ≠ -1 ∧ (f ((k + 1 : Nat) : Int)).2.2.2 ≤ t then 1 else 0)
      rw [e2 k (by omega) (by omega), show ((k : Int) + 1) = ((k + 1 : Nat) : Int) from rfl]
      omega
end PAS
