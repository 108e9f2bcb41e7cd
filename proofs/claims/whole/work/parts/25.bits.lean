/-! SETS that are bits of an int -/
theorem db_I (n : Nat) : Int32.ofInt (n : Int) = nI n := by
  apply Int32.toBitVec_inj.mp
  show BitVec.ofInt 32 (n : Int) = BitVec.ofNat 32 n
  exact BitVec.ofInt_natCast 32 n
theorem db_smod : ∀ j : Fin 31, ((nI j).toBitVec.smod 32).toNat = j := by decide +kernel
theorem db_and31 {j : Nat} (hj : j < 31) : Int32.ofInt (j : Int) &&& 31 = nI j := by
  rw [db_I, pk_andN (n := j) (by omega) 5 (by decide), Nat.mod_eq_of_lt (by omega)]
theorem db_toInt {n : Nat} (h : n < 2147483648) : (nI n).toInt = (n : Int) := nI_toInt h
theorem db_or (a b : Nat) (ha : a < 2147483648) (hb : b < 2147483648) : dm_or a b = ((a ||| b : Nat) : Int) := by
  unfold dm_or
  rw [db_I, db_I]
  have hn : (nI a ||| nI b).toBitVec.toNat = a ||| b := by
    rw [Int32.toBitVec_or, BitVec.toNat_or, pk_tn (by omega), pk_tn (by omega)]
  have hl : a ||| b < 2 ^ 31 := Nat.or_lt_two_pow ha hb
  show (nI a ||| nI b).toBitVec.toInt = _
  rw [BitVec.toInt_eq_toNat_of_lt (by rw [hn]; omega), hn]
theorem db_and (a b : Nat) (ha : a < 2147483648) (hb : b < 2147483648) : dm_and a b = ((a &&& b : Nat) : Int) := by
  unfold dm_and
  rw [db_I, db_I]
  have hn : (nI a &&& nI b).toBitVec.toNat = a &&& b := by
    rw [Int32.toBitVec_and, BitVec.toNat_and, pk_tn (by omega), pk_tn (by omega)]
  have hl : a &&& b < 2 ^ 31 := Nat.and_lt_two_pow a hb
  show (nI a &&& nI b).toBitVec.toInt = _
  rw [BitVec.toInt_eq_toNat_of_lt (by rw [hn]; omega), hn]
theorem db_shr (a j : Nat) (ha : a < 2147483648) (hj : j < 31) : dm_shr a j = ((a / 2 ^ j : Nat) : Int) := by
  unfold dm_shr
  rw [db_and31 hj, db_I, pk_shrN ha (nI j) j (db_smod ⟨j, hj⟩), db_toInt (Nat.lt_of_le_of_lt (Nat.div_le_self _ _) ha)]
theorem db_shl (j : Nat) (hj : j < 31) : dm_shl 1 j = ((2 ^ j : Nat) : Int) := by
  unfold dm_shl
  have h1 : 1 * 2 ^ j < 2 ^ 31 := by rw [Nat.one_mul]; exact Nat.pow_lt_pow_right (by omega) hj
  rw [db_and31 hj, show Int32.ofInt (1 : Int) = nI 1 from db_I 1, pk_shlN (nI j) j (db_smod ⟨j, hj⟩) (by omega), db_toInt h1, Nat.one_mul]
/-- a set of k things -/
abbrev st (k : Nat) (s : Int) : Prop := 0 ≤ s ∧ s < 2 ^ k
/-- whether j is in the set -/
def bt (s j : Int) : Bool := s.toNat.testBit j.toNat
theorem st_nat {k : Nat} (hk : k ≤ 31) {s : Int} (h : st k s) : s = (s.toNat : Int) ∧ s.toNat < 2 ^ k ∧ s.toNat < 2147483648 := by
  have h1 : s.toNat < 2 ^ k := by
    have : ((s.toNat : Nat) : Int) < ((2 ^ k : Nat) : Int) := by
      rw [Int.toNat_of_nonneg h.1]
      push_cast
      exact h.2
    omega
  exact ⟨(Int.toNat_of_nonneg h.1).symm, h1, Nat.lt_of_lt_of_le h1 (Nat.pow_le_pow_right (by omega) hk)⟩
theorem nat_st {k n : Nat} (h : n < 2 ^ k) : st k (n : Int) := by
  refine ⟨by omega, ?_⟩
  have : (n : Int) < ((2 ^ k : Nat) : Int) := by omega
  push_cast at this
  exact this
theorem bt_get {k : Nat} (hk : k ≤ 31) {s j : Int} (hs : st k s) (hj : 0 ≤ j ∧ j < 31) : dm_and (dm_shr s j) 1 = if bt s j = true then 1 else 0 := by
  obtain ⟨e1, e2, e3⟩ := st_nat hk hs
  have e4 : j = (j.toNat : Int) := by omega
  rw [e1, e4, db_shr _ _ e3 (by omega), show (1 : Int) = ((1 : Nat) : Int) from rfl, db_and _ _ (Nat.lt_of_le_of_lt (Nat.div_le_self _ _) e3) (by omega), Nat.and_one_is_mod]
  unfold bt
  rw [Int.toNat_natCast, Int.toNat_natCast, Nat.testBit_eq_decide_div_mod_eq]
  have : s.toNat / 2 ^ j.toNat % 2 < 2 := Nat.mod_lt _ (by omega)
  by_cases h : s.toNat / 2 ^ j.toNat % 2 = 1
  · rw [h]; simp
  · have h0 : s.toNat / 2 ^ j.toNat % 2 = 0 := by omega
    rw [h0]; simp
theorem bt_0 {k : Nat} (hk : k ≤ 31) {s j : Int} (hs : st k s) (hj : 0 ≤ j ∧ j < 31) : dm_and (dm_shr s j) 1 = 0 ↔ bt s j = false := by
  rw [bt_get hk hs hj]
  cases bt s j <;> simp
theorem bt_1 {k : Nat} (hk : k ≤ 31) {s j : Int} (hs : st k s) (hj : 0 ≤ j ∧ j < 31) : dm_and (dm_shr s j) 1 = 1 ↔ bt s j = true := by
  rw [bt_get hk hs hj]
  cases bt s j <;> simp
theorem st_or {k : Nat} (hk : k ≤ 31) {s t : Int} (hs : st k s) (ht : st k t) : st k (dm_or s t) := by
  obtain ⟨e1, e2, e3⟩ := st_nat hk hs
  obtain ⟨f1, f2, f3⟩ := st_nat hk ht
  rw [e1, f1, db_or _ _ e3 f3]
  exact nat_st (Nat.or_lt_two_pow e2 f2)
theorem bt_or {k : Nat} (hk : k ≤ 31) {s t : Int} (hs : st k s) (ht : st k t) (j : Int) : bt (dm_or s t) j = (bt s j || bt t j) := by
  obtain ⟨e1, e2, e3⟩ := st_nat hk hs
  obtain ⟨f1, f2, f3⟩ := st_nat hk ht
  have : bt (dm_or (s.toNat : Int) (t.toNat : Int)) j = (bt s j || bt t j) := by
    rw [db_or _ _ e3 f3]
    unfold bt
    rw [Int.toNat_natCast, Nat.testBit_or]
  rw [← e1, ← f1] at this
  exact this
theorem st_shl {k : Nat} (hk : k ≤ 31) {i : Int} (hi : 0 ≤ i ∧ i < k) : st k (dm_shl 1 i) := by
  have e : i = (i.toNat : Int) := by omega
  rw [e, db_shl _ (by omega)]
  exact nat_st (Nat.pow_lt_pow_right (by omega) (by omega))
theorem bt_shl {i j : Int} (hi : 0 ≤ i ∧ i < 31) (hj : 0 ≤ j) : bt (dm_shl 1 i) j = decide (i = j) := by
  have e : i = (i.toNat : Int) := by omega
  rw [e, db_shl _ (by omega)]
  unfold bt
  rw [Int.toNat_natCast, Nat.testBit_two_pow]
  have : (i.toNat = j.toNat) ↔ (((i.toNat : Nat) : Int) = j) := by omega
  simp only [this]
theorem bt_z (j : Int) : bt 0 j = false := by unfold bt; simp
theorem st_z (k : Nat) : st k 0 := nat_st (n := 0) (Nat.two_pow_pos k)
theorem bt_hi {k : Nat} {s j : Int} (hs : st k s) (hj : (k : Int) ≤ j) : bt s j = false := by
  unfold bt
  have h1 : s.toNat < 2 ^ k := by
    have : ((s.toNat : Nat) : Int) < ((2 ^ k : Nat) : Int) := by
      rw [Int.toNat_of_nonneg hs.1]
      push_cast
      exact hs.2
    omega
  exact Nat.testBit_lt_two_pow (Nat.lt_of_lt_of_le h1 (Nat.pow_le_pow_right (by omega) (by omega)))
/-- sets are what they hold -/
theorem bt_ext {k : Nat} (hk : k ≤ 31) {s t : Int} (hs : st k s) (ht : st k t) (h : ∀ j : Int, 0 ≤ j → j < k → bt s j = bt t j) : s = t := by
  obtain ⟨e1, e2, e3⟩ := st_nat hk hs
  obtain ⟨f1, f2, f3⟩ := st_nat hk ht
  rw [e1, f1]
  congr 1
  apply Nat.eq_of_testBit_eq
  intro i
  by_cases hi : i < k
  · have := h i (by omega) (by omega)
    unfold bt at this
    rwa [Int.toNat_natCast] at this
  · rw [Nat.testBit_lt_two_pow (Nat.lt_of_lt_of_le e2 (Nat.pow_le_pow_right (by omega) (by omega))), Nat.testBit_lt_two_pow (Nat.lt_of_lt_of_le f2 (Nat.pow_le_pow_right (by omega) (by omega)))]
/-- what is in s, and not in t -/
theorem bt_andnot {k : Nat} (hk : k ≤ 31) {s t : Int} (hs : st k s) (ht : st k t) : dm_and s (dm_xor t (-1)) = 0 ↔ ∀ j : Int, 0 ≤ j → j < k → bt s j = true → bt t j = true := by
  obtain ⟨e1, e2, e3⟩ := st_nat hk hs
  obtain ⟨f1, f2, f3⟩ := st_nat hk ht
  have hx : (Int32.ofInt (dm_xor t (-1))).toBitVec = ~~~ (nI t.toNat).toBitVec := by
    unfold dm_xor
    rw [Int32.ofInt_toInt]
    rw [show Int32.ofInt t = nI t.toNat from by rw [← db_I, ← f1]]
    rw [Int32.toBitVec_xor]
    show (nI t.toNat).toBitVec ^^^ BitVec.allOnes 32 = _
    rw [BitVec.xor_allOnes]
  have hv : (dm_and s (dm_xor t (-1)) = 0) ↔ (nI s.toNat).toBitVec &&& ~~~ (nI t.toNat).toBitVec = 0#32 := by
    unfold dm_and
    rw [show Int32.ofInt s = nI s.toNat from by rw [← db_I, ← e1]]
    constructor
    · intro h
      have h2 : nI s.toNat &&& Int32.ofInt (dm_xor t (-1)) = 0 := Int32.toInt_inj.mp (by rw [h]; rfl)
      have h3 := congrArg Int32.toBitVec h2
      rw [Int32.toBitVec_and, hx] at h3
      exact h3
    · intro h
      have h3 : (nI s.toNat &&& Int32.ofInt (dm_xor t (-1))).toBitVec = (0 : Int32).toBitVec := by
        rw [Int32.toBitVec_and, hx, h]
        rfl
      rw [Int32.toBitVec_inj.mp h3]
      rfl
  have hb : ∀ (a : Nat), a < 2147483648 → ∀ i, (nI a).toBitVec.getLsbD i = a.testBit i := by
    intro a ha i
    rw [← BitVec.testBit_toNat, pk_tn (by omega)]
  rw [hv]
  constructor
  · intro h j h0 h1 h2
    have h3 := congrArg (fun b : BitVec 32 => b.getLsbD j.toNat) h
    simp only [BitVec.getLsbD_and, BitVec.getLsbD_not, BitVec.getLsbD_zero, hb _ e3, hb _ f3] at h3
    unfold bt at *
    rw [h2] at h3
    simp only [Bool.true_and] at h3
    have h4 : j.toNat < 32 := by omega
    simp only [h4, decide_true, Bool.true_and, Bool.not_eq_false'] at h3
    exact h3
  · intro h
    apply BitVec.eq_of_getLsbD_eq
    intro i hi
    simp only [BitVec.getLsbD_and, BitVec.getLsbD_not, BitVec.getLsbD_zero, hb _ e3, hb _ f3]
    by_cases hk2 : i < k
    · have := h i (by omega) (by omega)
      unfold bt at this
      rw [Int.toNat_natCast] at this
      cases h5 : s.toNat.testBit i
      · simp
      · rw [this h5]; simp
    · rw [Nat.testBit_lt_two_pow (Nat.lt_of_lt_of_le e2 (Nat.pow_le_pow_right (by omega) (by omega)))]
      simp
theorem st_and1 {k : Nat} (hk : k ≤ 31) {s t : Int} (hs : st k s) (ht : st k t) : dm_and s t = 0 ↔ ∀ j : Int, 0 ≤ j → j < k → bt s j = true → bt t j = false := by
  obtain ⟨e1, e2, e3⟩ := st_nat hk hs
  obtain ⟨f1, f2, f3⟩ := st_nat hk ht
  have hh : dm_and s t = ((s.toNat &&& t.toNat : Nat) : Int) := by
    have := db_and s.toNat t.toNat e3 f3
    rwa [← e1, ← f1] at this
  rw [hh]
  constructor
  · intro h j h0 h1 h2
    have h3 : s.toNat &&& t.toNat = 0 := by omega
    have h4 := congrArg (fun n : Nat => n.testBit j.toNat) h3
    simp only [Nat.testBit_and, Nat.zero_testBit] at h4
    unfold bt at *
    rw [h2] at h4
    simpa using h4
  · intro h
    have : s.toNat &&& t.toNat = 0 := by
      apply Nat.eq_of_testBit_eq
      intro i
      simp only [Nat.testBit_and, Nat.zero_testBit]
      by_cases hk2 : i < k
      · have := h i (by omega) (by omega)
        unfold bt at this
        rw [Int.toNat_natCast] at this
        cases h5 : s.toNat.testBit i
        · simp
        · rw [this h5]; simp
      · rw [Nat.testBit_lt_two_pow (Nat.lt_of_lt_of_le e2 (Nat.pow_le_pow_right (by omega) (by omega)))]
        simp
    omega
