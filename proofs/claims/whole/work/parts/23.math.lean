/-! WORDS for what class and reference speak of -/
def slot (t : Int) : Int := if t < 100 then -1 else if 107 < t then -1 else t - 100
abbrev mA : Type := Int → Int
def upd1 (v : mA) (s x : Int) : mA := fun j => if j = s then x else v j
/-- a term's number under an assignment -/
def tv (v : mA) (t : Int) : Int := if t < 100 then t else if 107 < t then t else v (t - 100)
/-- a row's column -/
def cv (i c : Int) : Int := if i = 0 then c / 10000 else if i = 1 then c / 100 % 100 else c % 100
def cmpb (w a b : Int) : Bool := if w = 0 then decide (a = b) else if w = 1 then decide (¬ a = b) else if w = 2 then decide (a < b) else decide (a ≤ b)
def clamp (x : Int) : Int := if x < 0 then 0 else if 99 < x then 99 else x
def rck (w a b : Int) : Int := clamp (if w = 0 then a + b else if w = 1 then a - b else if w = 2 then a * b else if w = 3 then (if a < b then a else b) else if w = 4 then (if a < b then b else a) else (if b = 0 then 0 else a % b))
def inr (v lo hi : Int) : Prop := lo ≤ v ∧ v ≤ hi
/-- whether the first columns are in a range, and the others 0 -/
abbrev wit (n lo hi a b c : Int) : Prop := ((0 < n ∧ lo ≤ a ∧ a ≤ hi) ∨ (n ≤ 0 ∧ a = 0)) ∧ ((1 < n ∧ lo ≤ b ∧ b ≤ hi) ∨ (n ≤ 1 ∧ b = 0)) ∧ ((2 < n ∧ lo ≤ c ∧ c ≤ hi) ∨ (n ≤ 2 ∧ c = 0))
theorem dm_unit0 : dm_unit 0 = 10000 := rfl
theorem dm_unit1 : dm_unit 1 = 100 := rfl
theorem dm_unit2 : dm_unit 2 = 1 := rfl
theorem tab_3 {pc : Nat} {d : Int} {a b c : Int} {x : Int} {f : Nat → dm_O} : dm_tab pc d 0 2 #[a, b, c] x f = if x = 0 then f (dm_to pc a) else if x = 1 then f (dm_to pc b) else if x = 2 then f (dm_to pc c) else f (dm_to pc d) := by
  unfold dm_tab
  by_cases h : 0 ≤ x ∧ x ≤ 2
  · rw [if_pos h]
    rcases (show x = 0 ∨ x = 1 ∨ x = 2 by omega) with rfl | rfl | rfl <;> rfl
  · rw [if_neg h, if_neg (by omega), if_neg (by omega), if_neg (by omega)]
theorem tab_5 {pc : Nat} {d : Int} {a b c a3 a4 : Int} {x : Int} {f : Nat → dm_O} : dm_tab pc d 0 4 #[a, b, c, a3, a4] x f = if x = 0 then f (dm_to pc a) else if x = 1 then f (dm_to pc b) else if x = 2 then f (dm_to pc c) else if x = 3 then f (dm_to pc a3) else if x = 4 then f (dm_to pc a4) else f (dm_to pc d) := by
  unfold dm_tab
  by_cases h : 0 ≤ x ∧ x ≤ 4
  · rw [if_pos h]
    rcases (show x = 0 ∨ x = 1 ∨ x = 2 ∨ x = 3 ∨ x = 4 by omega) with rfl | rfl | rfl | rfl | rfl <;> rfl
  · rw [if_neg h, if_neg (by omega), if_neg (by omega), if_neg (by omega), if_neg (by omega), if_neg (by omega)]
theorem slot_r (t : Int) : slot t = -1 ∨ (0 ≤ slot t ∧ slot t < 8) := by
  unfold slot
  by_cases h1 : t < 100
  · exact Or.inl (if_pos h1)
  · rw [if_neg h1]
    by_cases h2 : 107 < t
    · exact Or.inl (if_pos h2)
    · rw [if_neg h2]
      omega
