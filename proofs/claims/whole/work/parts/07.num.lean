/-! numbers -/
theorem dn_toInt {x : Int} (h : dm_in x) : (Int32.ofInt x).toInt = x := by
  unfold dm_in at h
  rw [Int32.toInt_ofInt]
  have hz : (Int32.size : Int) = 4294967296 := rfl
  exact Int.bmod_eq_of_le (by omega) (by omega)
theorem dn_inj {x y : Int} (hx : dm_in x) (hy : dm_in y) : Int32.ofInt x = Int32.ofInt y ↔ x = y := by
  constructor
  · intro h
    rw [← dn_toInt hx, ← dn_toInt hy, h]
  · intro h
    rw [h]
theorem dn_lt {x y : Int} (hx : dm_in x) (hy : dm_in y) : Int32.ofInt x < Int32.ofInt y ↔ x < y := by
  rw [Int32.lt_iff_toInt_lt, dn_toInt hx, dn_toInt hy]
theorem dn_le {x y : Int} (hx : dm_in x) (hy : dm_in y) : Int32.ofInt x ≤ Int32.ofInt y ↔ x ≤ y := by
  rw [Int32.le_iff_toInt_le, dn_toInt hx, dn_toInt hy]
theorem dn_in32 (x : Int32) : dm_in x.toInt := ⟨Int32.le_toInt x, by have := Int32.toInt_lt x; omega⟩
theorem dn_0 : dm_in 0 := by unfold dm_in; omega
theorem dn_nat {i : Int} (h0 : 0 ≤ i) (h : dm_in i) : (Int32.ofInt i).toNatClampNeg = i.toNat := by
  rw [← Int32.toNat_toInt, dn_toInt h]
theorem dn_vpin {i : Int} {n : Nat} (h0 : 0 ≤ i) (h1 : i < (n : Int)) (h : dm_in i) : vp_in (Int32.ofInt i) n := by
  rw [vp_in_iff, dn_toInt h]
  exact ⟨h0, h1⟩
theorem dn_add (x y : Int) : Int32.ofInt x + Int32.ofInt y = Int32.ofInt (x + y) := (Int32.ofInt_add x y).symm
theorem dn_sub (x y : Int) : Int32.ofInt x - Int32.ofInt y = Int32.ofInt (x - y) := (Int32.ofInt_sub x y).symm
theorem dn_mul (x y : Int) : Int32.ofInt x * Int32.ofInt y = Int32.ofInt (x * y) := (Int32.ofInt_mul x y).symm
theorem dn_w (x : Int) : Int32.ofInt (dm_w x) = Int32.ofInt x := by
  apply Int32.toInt_inj.mp
  unfold dm_w
  rw [Int32.toInt_ofInt, Int32.toInt_ofInt]
  exact Int.bmod_bmod
theorem dn_win (x : Int) : dm_in (dm_w x) := by
  unfold dm_w dm_in
  have h1 := Int.le_bmod (x := x) (m := 4294967296) (by omega)
  have h2 := Int.bmod_lt (x := x) (m := 4294967296) (by omega)
  omega
theorem dn_div {x y : Int} (hx : dm_in x) (hy : dm_in y) (h0 : 0 ≤ x) (h1 : 0 < y) : Int32.ofInt x / Int32.ofInt y = Int32.ofInt (x / y) ∧ dm_in (x / y) := by
  have hq : dm_in (x / y) := by
    unfold dm_in at *
    have h2 := Int.ediv_nonneg h0 (Int.le_of_lt h1)
    have h3 : x / y ≤ x := Int.ediv_le_self y h0
    omega
  refine ⟨?_, hq⟩
  apply Int32.toInt_inj.mp
  rw [Int32.toInt_div, dn_toInt hx, dn_toInt hy, dn_toInt hq, Int.tdiv_eq_ediv_of_nonneg h0]
  unfold dm_in at hq
  exact Int.bmod_eq_of_le (by omega) (by omega)
theorem dn_rem {x y : Int} (hx : dm_in x) (hy : dm_in y) (h0 : 0 ≤ x) (h1 : 0 < y) : Int32.ofInt x - Int32.ofInt x / Int32.ofInt y * Int32.ofInt y = Int32.ofInt (x % y) ∧ dm_in (x % y) := by
  rw [(dn_div hx hy h0 h1).1, dn_mul, dn_sub]
  have h2 : x - x / y * y = x % y := by
    have := Int.emod_add_mul_ediv x y
    rw [Int.mul_comm] at this
    omega
  rw [h2]
  refine ⟨rfl, ?_⟩
  have h3 := Int.emod_nonneg x (show y ≠ 0 by omega)
  have h4 := Int.emod_lt_of_pos x h1
  unfold dm_in at *
  omega
theorem dn_l {x : Int} (h : dm_in x) : (Int32.ofInt x).toInt64 = Int64.ofInt x := by
  apply Int64.toInt_inj.mp
  rw [Int32.toInt_toInt64, dn_toInt h, Int64.toInt_ofInt]
  unfold dm_in at h
  have hz : (Int64.size : Int) = 18446744073709551616 := rfl
  exact (Int.bmod_eq_of_le (by omega) (by omega)).symm
theorem dn_ltoInt {x : Int} (h : dm_in x) : (Int64.ofInt x).toInt = x := by
  unfold dm_in at h
  rw [Int64.toInt_ofInt]
  have hz : (Int64.size : Int) = 18446744073709551616 := rfl
  exact Int.bmod_eq_of_le (by omega) (by omega)
theorem dn_lcmp {x y : Int} (hx : dm_in x) (hy : dm_in y) : lg_cmp (Int64.ofInt x) (Int64.ofInt y) = Int32.ofInt (if x < y then -1 else if x = y then 0 else 1) := by
  unfold lg_cmp
  have e1 : (Int64.ofInt x > Int64.ofInt y) ↔ y < x := by
    show Int64.ofInt y < Int64.ofInt x ↔ _
    rw [Int64.lt_iff_toInt_lt, dn_ltoInt hx, dn_ltoInt hy]
  have e2 : (Int64.ofInt x = Int64.ofInt y) ↔ x = y := by
    constructor
    · intro h; rw [← dn_ltoInt hx, ← dn_ltoInt hy, h]
    · intro h; rw [h]
  by_cases h1 : x < y
  · rw [if_neg (by rw [e1]; omega), if_neg (by rw [e2]; omega), if_pos h1]; rfl
  · by_cases h2 : x = y
    · rw [if_neg (by rw [e1]; omega), if_pos (e2.mpr h2), if_neg h1, if_pos h2]; rfl
    · rw [if_pos (by rw [e1]; omega), if_neg h1, if_neg h2]; rfl
theorem dn_lcin {x y : Int} : dm_in (if x < y then -1 else if x = y then 0 else 1) := by
  unfold dm_in
  split
  · omega
  · split <;> omega
