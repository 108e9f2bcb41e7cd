/-! THE FRESH OBJECTS: what the constructors leave, run by the kernel; then the same heap told by a table (wip/whole/gen/tab.py knows the numbers) -/
def h00 : dm_H := (fun _ _ => 0, fun _ _ => 0, fun _ => 0, 1, 0, 0)
def wO (r : dm_O) : dm_H := match r with
  | some (.inl none, h) => h
  | _ => h00
def wV (r : dm_O) : Bool := match r with
  | some (.inl none, _) => true
  | _ => false
theorem wO_eq {r : dm_O} (h : wV r = true) : r = some (.inl none, wO r) := by
  unfold wV at h
  split at h
  · rfl
  · cases h
noncomputable def w1 : dm_H := sg (sz h00 1) 19
noncomputable def wA : dm_H := wO (dm_inv dm_P false dm_sh 6 400 0 [dR 1 10 1] w1)
theorem wA_ok : wV (dm_inv dm_P false dm_sh 6 400 0 [dR 1 10 1] w1) = true := by decide +kernel
theorem wA_eq : dm_inv dm_P false dm_sh 6 400 0 [dR 1 10 1] w1 = some (.inl none, wA) := wO_eq wA_ok
theorem wA_z : gz wA = 165 := by decide +kernel
noncomputable def w2 : dm_H := sg (sz wA 1) 48
noncomputable def wB : dm_H := wO (dm_inv dm_P false dm_sh 6 400 165 [dR 1 11 165] w2)
theorem wB_ok : wV (dm_inv dm_P false dm_sh 6 400 165 [dR 1 11 165] w2) = true := by decide +kernel
theorem wB_eq : dm_inv dm_P false dm_sh 6 400 165 [dR 1 11 165] w2 = some (.inl none, wB) := wO_eq wB_ok
theorem wB_z : gz wB = 196 := by decide +kernel
theorem wB_c : gc wB = 195 := by decide +kernel
theorem wB_s : gs wB = 7679 := by decide +kernel
/-- the references, cell by cell -/
def wR : List (List Nat) := [[], [2, 8, 13, 137, 140, 143, 144, 161, 95, 112, 129, 0, 0, 0, 0, 0, 0, 0, 164], [0, 3, 4, 5, 6, 7], [], [], [], [], [], [0, 9, 10, 11, 12], [], [], [], [], [2, 0, 14],
  [15, 23, 31, 39, 47, 55, 63, 71, 79, 87], [0, 0, 0, 0, 0, 0, 0, 0, 16, 17, 18, 19, 20, 21, 22], [], [], [], [], [], [], [], [0, 0, 0, 0, 0, 0, 0, 0, 24, 25, 26, 27, 28, 29, 30], [], [], [], [],
  [], [], [], [0, 0, 0, 0, 0, 0, 0, 0, 32, 33, 34, 35, 36, 37, 38], [], [], [], [], [], [], [], [0, 0, 0, 0, 0, 0, 0, 0, 40, 41, 42, 43, 44, 45, 46], [], [],
  [], [], [], [], [], [0, 0, 0, 0, 0, 0, 0, 0, 48, 49, 50, 51, 52, 53, 54], [], [], [], [], [], [], [], [0, 0, 0, 0, 0, 0, 0, 0, 56, 57, 58, 59, 60, 61, 62],
  [], [], [], [], [], [], [], [0, 0, 0, 0, 0, 0, 0, 0, 64, 65, 66, 67, 68, 69, 70], [], [], [], [], [], [],
  [], [0, 0, 0, 0, 0, 0, 0, 0, 72, 73, 74, 75, 76, 77, 78], [], [], [], [], [], [], [], [0, 0, 0, 0, 0, 0, 0, 0, 80, 81, 82, 83, 84, 85, 86], [], [], [], [],
  [], [], [], [0, 0, 0, 0, 0, 0, 0, 0, 88, 89, 90, 91, 92, 93, 94], [], [], [], [], [], [], [], [2, 96, 97, 104, 111], [], [98, 99, 100, 101, 102, 103],
  [], [], [], [], [], [], [105, 106, 107, 108, 109, 110], [], [], [], [], [], [], [],
  [2, 113, 114, 121, 128], [], [115, 116, 117, 118, 119, 120], [], [], [], [], [], [], [122, 123, 124, 125, 126, 127], [], [], [], [],
  [], [], [], [0, 0, 0, 0, 0, 0, 0, 0, 130, 131, 132, 133, 134, 135, 136], [], [], [], [], [], [], [], [138, 139, 0, 0, 0, 0, 129, 95], [], [],
  [137, 129, 0, 0, 141, 142], [], [], [2, 13, 8, 137, 140, 95, 129], [2, 13, 8, 137, 140, 95, 129, 145, 152, 159, 160], [146, 147, 148, 149, 150, 151], [], [], [], [], [], [], [153, 154, 155, 156, 157, 158], [],
  [], [], [], [], [], [], [], [2, 13, 137, 129, 0, 162, 163], [], [], [], [0, 0, 166, 167, 0, 0, 168, 169, 170, 171, 0, 0, 172, 173, 174, 0, 0, 175, 176, 177, 178, 179, 180, 181, 182, 183, 184, 0, 185, 186, 187, 0, 0, 0, 0, 188, 189, 190, 191, 192, 193, 194, 195], [], [],
  [], [], [], [], [], [], [], [], [], [], [], [], [], [],
  [], [], [], [], [], [], [], [], [], [], [], [], [], [],
  []]
def wr (a : Nat) (i : Int) : Nat := if 0 ≤ i then (wR.getD a []).getD i.toNat 0 else 0
def wi (a : Nat) (i : Int) : Int := if a = 165 ∧ (i = 10 ∨ i = 11) then -1 else 0
noncomputable def wC1 (a k : Nat) : Bool := Nat.beq (gr wB a k) (wr a k)
noncomputable def wC2 (a k : Nat) : Bool := decide (gi wB a k = wi a k)
noncomputable def wCk (a : Nat) : Bool := match dm_sh a with
  | (1, ci) => (List.range (dm_fN ci)).all (fun k => wC1 a k && wC2 a k)
  | (5, n) => (List.range n).all (wC1 a)
  | (6, n) => (List.range n).all (wC1 a)
  | (_, n) => (List.range n).all (wC2 a)
theorem wCks : (List.range 196).all wCk = true := by decide +kernel
