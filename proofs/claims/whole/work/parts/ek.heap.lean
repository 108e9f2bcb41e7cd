/-! THE HEAP THAT THE CONSTRUCTORS LEAVE, AND THE SAME TOLD BY A TABLE: a world of the one is a world of the other -/
theorem wgetD {α : Type} {P : α → Prop} {l : List α} {d : α} (h : ∀ x ∈ l, P x) (hd : P d) (i : Nat) : P (l.getD i d) := by
  rw [List.getD_eq_getElem?_getD]
  cases h2 : l[i]? with
  | none => exact hd
  | some x => exact h x (List.mem_of_getElem? h2)
/-- the heap behind both constructors; the script is put where the small machine looks for it -/
noncomputable def wM (L : Nat) (xs : Nat → Int) : dm_H := (fun a i => if a = 1000 then (if 0 ≤ i ∧ i < (L : Int) then xs i.toNat else 0) else wi a i, wr, fun _ => 0, 196, 195, 7679)
/-- and with the array of one long -/
noncomputable def wN (L : Nat) (xs : Nat → Int) : dm_H := sg (sz (wM L xs) 1) 1
theorem wr_lt (a : Nat) (i : Int) : wr a i < 196 := by
  unfold wr
  split
  · have h : ∀ l ∈ wR, ∀ x ∈ l, x < 196 := by decide +kernel
    exact wgetD (P := fun x => x < 196) (wgetD (P := fun l => ∀ x ∈ l, x < 196) h (fun _ h => absurd h List.not_mem_nil) a) (show (0 : Nat) < 196 by decide) _
  · decide
theorem wr_out {a : Nat} (i : Int) (h : 196 ≤ a) : wr a i = 0 := by
  unfold wr
  have h2 : wR.getD a [] = [] := by
    by_cases e : a = 196
    · subst e
      decide +kernel
    · have h3 : wR.length = 197 := by decide +kernel
      rw [List.getD_eq_getElem?_getD, List.getElem?_eq_none (by omega)]
      rfl
  rw [h2]
  split <;> rfl
theorem wi_in (a : Nat) (i : Int) : dm_in (wi a i) := by
  unfold wi dm_in
  split <;> omega
theorem wi_0 {a : Nat} (i : Int) (h : a ≠ 165) : wi a i = 0 := if_neg (fun q => h q.1)
section WH
variable {L : Nat} {xs : Nat → Int}
theorem wM_i (a : Nat) (i : Int) : gi (wM L xs) a i = if a = 1000 then (if 0 ≤ i ∧ i < (L : Int) then xs i.toNat else 0) else wi a i := rfl
theorem wM_r (a : Nat) (i : Int) : gr (wM L xs) a i = wr a i := rfl
theorem wM_ok (hx : ∀ j, dm_in (xs j)) : dm_ok false (wM L xs) := by
  refine ⟨fun a i => ?_, fun i => ?_, wr_lt, (by decide : 1 ≤ 196), (by decide : 196 ≤ 197), fun a i h1 h2 => ?_⟩
  · rw [wM_i]
    split
    · split
      · exact hx _
      · exact ⟨by omega, by omega⟩
    · exact wi_in a i
  · show dm_in (0 : Int)
    exact ⟨by decide, by decide⟩
  · have h1 : 196 ≤ a := h1
    rw [wM_i, wM_r, if_neg (by omega), wi_0 i (by omega), wr_out i h1]
    exact ⟨rfl, rfl⟩
theorem wCk_at {a : Nat} (h : a < 196) : wCk a = true := List.all_eq_true.mp wCks a (List.mem_range.mpr h)
theorem wi_at {a : Nat} {i : Int} (h : a < 196) : gi (wM L xs) a i = wi a i := by
  rw [wM_i, if_neg (by omega)]
theorem wArr {cI : ClassId} {N : Nat} {f g : Nat → Value} (h : ∀ j, j < N → f j = g j) : arrV cI N f = arrV cI N g := by
  unfold arrV
  rw [show (fun j : Fin N => f j.val) = fun j => g j.val from funext fun j => h j.val j.isLt]
theorem wSh {a : Nat} (h1 : 1 ≤ a) (h2 : a < 196) : (∃ ci, ci < 12 ∧ dm_sh a = (1, ci)) ∨ (∃ n, dm_sh a = (2, n)) ∨ (∃ n, dm_sh a = (3, n)) ∨ (∃ n, dm_sh a = (5, n)) ∨ ∃ n, dm_sh a = (6, n) := by
  have k := of_decide_eq_true (List.all_eq_true.mp (show (List.range 196).all (fun a => decide (a = 0 ∨ ((dm_sh a).1 = 1 ∧ (dm_sh a).2 < 12) ∨ (dm_sh a).1 = 2 ∨ (dm_sh a).1 = 3 ∨ (dm_sh a).1 = 5 ∨ (dm_sh a).1 = 6)) = true from by decide +kernel) a (List.mem_range.mpr h2))
  rcases k with k | ⟨k, k'⟩ | k | k | k | k
  · omega
  · exact Or.inl ⟨_, k', Prod.ext k rfl⟩
  · exact Or.inr (Or.inl ⟨_, Prod.ext k rfl⟩)
  · exact Or.inr (Or.inr (Or.inl ⟨_, Prod.ext k rfl⟩))
  · exact Or.inr (Or.inr (Or.inr (Or.inl ⟨_, Prod.ext k rfl⟩)))
  · exact Or.inr (Or.inr (Or.inr (Or.inr ⟨_, Prod.ext k rfl⟩)))
theorem wAt {D : va_G} {cl : List vw_C} {G : dm_G} {ad : Nat → Nat} {H : Heap} {q a : Nat} (h1 : 1 ≤ a) (h2 : a < 196) (k : va_at D cl (q, dm_en G ad wB a) H) : va_at D cl (q, dm_en G ad (wM L xs) a) H := by
  have c := wCk_at h2
  unfold wCk at c
  rcases wSh h1 h2 with ⟨ci, hc, hs⟩ | ⟨n, hs⟩ | ⟨n, hs⟩ | ⟨n, hs⟩ | ⟨n, hs⟩
  · rw [dw_obj hs] at k ⊢
    rw [hs] at c
    have c : (List.range (dm_fN ci)).all (fun k => wC1 a k && wC2 a k) = true := c
    have e : dm_fs ad (wM L xs) ci a = dm_fs ad wB ci a := by
      unfold dm_fs
      refine List.map_congr_left fun j hj => ?_
      obtain ⟨c1, c2⟩ := Bool.and_eq_true_iff.mp (List.all_eq_true.mp c j hj)
      have c1 : gr wB a j = wr a j := Nat.eq_of_beq_eq_true c1
      have c2 : gi wB a j = wi a j := of_decide_eq_true c2
      show dm_fv ad (wM L xs) a j (dm_fd ci j) = dm_fv ad wB a j (dm_fd ci j)
      unfold dm_fv
      rw [wi_at h2, wM_r, c1, c2]
    rw [e]
    exact k
  · rw [dw_2 hs] at k ⊢
    rw [hs] at c
    have c : (List.range n).all (wC2 a) = true := c
    have k : H[q]? = some (vp_cell (dm_cA G 2) (n, .inl (fun j => Int32.ofInt (gi wB a j)))) := k
    show H[q]? = some (vp_cell (dm_cA G 2) (n, .inl (fun j => Int32.ofInt (gi (wM L xs) a j))))
    rw [k]
    refine congrArg some (wArr (f := fun j => .int (Int32.ofInt (gi wB a j))) (g := fun j => .int (Int32.ofInt (gi (wM L xs) a j))) fun j hj => ?_)
    have c2 : gi wB a j = wi a j := of_decide_eq_true (List.all_eq_true.mp c j (List.mem_range.mpr hj))
    show Value.int (Int32.ofInt (gi wB a j)) = .int (Int32.ofInt (gi (wM L xs) a j))
    rw [wi_at h2, c2]
  · rw [dw_3 hs] at k ⊢
    rw [hs] at c
    have c : (List.range n).all (wC2 a) = true := c
    have k : H[q]? = some (vp_cell (dm_cA G 3) (n, .inl (fun j => Int32.ofInt (gi wB a j)))) := k
    show H[q]? = some (vp_cell (dm_cA G 3) (n, .inl (fun j => Int32.ofInt (gi (wM L xs) a j))))
    rw [k]
    refine congrArg some (wArr (f := fun j => .int (Int32.ofInt (gi wB a j))) (g := fun j => .int (Int32.ofInt (gi (wM L xs) a j))) fun j hj => ?_)
    have c2 : gi wB a j = wi a j := of_decide_eq_true (List.all_eq_true.mp c j (List.mem_range.mpr hj))
    show Value.int (Int32.ofInt (gi wB a j)) = .int (Int32.ofInt (gi (wM L xs) a j))
    rw [wi_at h2, c2]
  · rw [dw_5 hs] at k ⊢
    rw [hs] at c
    have c : (List.range n).all (wC1 a) = true := c
    have k : H[q]? = some (vp_cell (dm_cA G 5) (n, .inr (.inr (.inr (.inr (fun j => dm_ro ad (gr wB a j))))))) := k
    show H[q]? = some (vp_cell (dm_cA G 5) (n, .inr (.inr (.inr (.inr (fun j => dm_ro ad (gr (wM L xs) a j)))))))
    rw [k]
    refine congrArg some (wArr (f := fun j => va_rf (dm_ro ad (gr wB a j))) (g := fun j => va_rf (dm_ro ad (gr (wM L xs) a j))) fun j hj => ?_)
    have c1 : gr wB a j = wr a j := Nat.eq_of_beq_eq_true (List.all_eq_true.mp c j (List.mem_range.mpr hj))
    show va_rf (dm_ro ad (gr wB a j)) = va_rf (dm_ro ad (gr (wM L xs) a j))
    rw [wM_r, c1]
  · rw [dw_6 hs] at k ⊢
    rw [hs] at c
    have c : (List.range n).all (wC1 a) = true := c
    have k : H[q]? = some (vp_cell (dm_cA G 6) (n, .inr (.inr (.inr (.inr (fun j => dm_ro ad (gr wB a j))))))) := k
    show H[q]? = some (vp_cell (dm_cA G 6) (n, .inr (.inr (.inr (.inr (fun j => dm_ro ad (gr (wM L xs) a j)))))))
    rw [k]
    refine congrArg some (wArr (f := fun j => va_rf (dm_ro ad (gr wB a j))) (g := fun j => va_rf (dm_ro ad (gr (wM L xs) a j))) fun j hj => ?_)
    have c1 : gr wB a j = wr a j := Nat.eq_of_beq_eq_true (List.all_eq_true.mp c j (List.mem_range.mpr hj))
    show va_rf (dm_ro ad (gr wB a j)) = va_rf (dm_ro ad (gr (wM L xs) a j))
    rw [wM_r, c1]
theorem wW_get {G : dm_G} {ad : Nat → Nat} {h : dm_H} {k : Nat} {q : Nat × va_E} (hk : (dm_W G ad h)[k]? = some q) : k < gz h - 1 ∧ q = (ad (k + 1), dm_en G ad h (k + 1)) := by
  unfold dm_W at hk
  by_cases hl : k < gz h - 1
  · rw [List.getElem?_map, List.getElem?_range hl] at hk
    cases hk
    exact ⟨hl, rfl⟩
  · rw [List.getElem?_eq_none (by simp; omega)] at hk
    cases hk
theorem wW_put {G : dm_G} {ad : Nat → Nat} {h : dm_H} {k : Nat} (hk : k < gz h - 1) : (dm_W G ad h)[k]? = some (ad (k + 1), dm_en G ad h (k + 1)) := by
  unfold dm_W
  rw [List.getElem?_map, List.getElem?_range hk]
  rfl
theorem wWd {G : dm_G} {base : Nat} {ad : Nat → Nat} {H : Heap} (k : dm_Wd G base ad wB H) : dm_Wd G base ad (wM L xs) H := by
  have hz : gz (wM L xs) = 196 := rfl
  refine ⟨fun j q hq => ?_, fun i j p q hp hq e => ?_, fun j q hq => ?_⟩
  · obtain ⟨h1, hq⟩ := wW_get hq
    rw [hq]
    exact wAt (by omega) (by omega) (k.1 j (ad (j + 1), dm_en G ad wB (j + 1)) (wW_put (by rw [wB_z]; omega)))
  · obtain ⟨h1, hp⟩ := wW_get hp
    obtain ⟨h2, hq⟩ := wW_get hq
    have e1 : ad (i + 1) = ad (j + 1) := by
      rw [hp, hq] at e
      exact e
    exact k.2.1 i j (ad (i + 1), dm_en G ad wB (i + 1)) (ad (j + 1), dm_en G ad wB (j + 1)) (wW_put (by rw [wB_z]; omega)) (wW_put (by rw [wB_z]; omega)) e1
  · obtain ⟨h1, hq⟩ := wW_get hq
    have k3 : dm_A base (ad (j + 1)) := k.2.2 j (ad (j + 1), dm_en G ad wB (j + 1)) (wW_put (by rw [wB_z]; omega))
    rw [hq]
    exact k3
/-! sealed -/
noncomputable def wK (a k : Nat) (d : List Nat) : Bool := match d with
  | [0, _, _, _] => true
  | [1, t, p, _] => match Nat.beq t 7 with
    | true => Nat.beq (wr a k) 0
    | false => decide (dm_sh (wr a k) = (t, p)) && !(Nat.beq (wr a k) 0)
  | [2, t, p, o] => Nat.beq (wr a k) (a + o) && (decide (dm_sh (a + o) = (t, p)) && !(Nat.beq (a + o) 0))
  | [3, t, p, o] => Nat.beq (wr a k) o && (decide (dm_sh o = (t, p)) && !(Nat.beq o 0))
  | _ => false
noncomputable def wKs (a : Nat) : Bool := match dm_sh a with
  | (1, ci) => (List.range (dm_fN ci)).all (fun k => wK a k (dm_fd ci k))
  | (5, n) => (List.range n).all (fun k => decide (dm_sh (wr a k) = (1, 8)) && !(Nat.beq (wr a k) 0))
  | (6, n) => (List.range n).all (fun k => Nat.beq (wr a k) (a + 1 + k) && decide (dm_sh (a + 1 + k) = (2, 32)))
  | _ => true
theorem wK_all : (List.range 197).all wKs = true := by decide +kernel
theorem wnb {n : Nat} (h : (!(Nat.beq n 0)) = true) : n ≠ 0 := fun e => by
  subst e
  exact absurd h (by decide)
theorem wK_1 {h : dm_H} (hr : ∀ a i, gr h a i = wr a i) {a k t p o : Nat} (hk : (match Nat.beq t 7 with
    | true => Nat.beq (wr a k) 0
    | false => decide (dm_sh (wr a k) = (t, p)) && !(Nat.beq (wr a k) 0)) = true) : dm_fk1 h a k [1, t, p, o] := by
  by_cases h7 : t = 7
  · subst h7
    have hk : Nat.beq (wr a k) 0 = true := hk
    exact Or.inl ((hr _ _).trans (Nat.eq_of_beq_eq_true hk))
  · have e : Nat.beq t 7 = false := by
      cases q : Nat.beq t 7 with
      | false => rfl
      | true => exact absurd (Nat.eq_of_beq_eq_true q) h7
    rw [e] at hk
    have hk : (decide (dm_sh (wr a k) = (t, p)) && !(Nat.beq (wr a k) 0)) = true := hk
    obtain ⟨h1, h2⟩ := Bool.and_eq_true_iff.mp hk
    have q : dm_sh (gr h a k) = (t, p) ∧ gr h a k ≠ 0 := by rw [hr]; exact ⟨of_decide_eq_true h1, wnb h2⟩
    match t, h7, q with
    | 0, _, q => exact q
    | 1, _, q => exact q
    | 2, _, q => exact q
    | 3, _, q => exact q
    | 4, _, q => exact q
    | 5, _, q => exact q
    | 6, _, q => exact q
    | 7, z, _ => exact absurd rfl z
    | _ + 8, _, q => exact q
theorem wK_s {h : dm_H} (hr : ∀ a i, gr h a i = wr a i) {a k : Nat} {d : List Nat} (hk : wK a k d = true) : dm_fk1 h a k d := by
  unfold wK at hk
  split at hk
  · trivial
  · exact wK_1 hr hk
  · obtain ⟨h1, h2⟩ := Bool.and_eq_true_iff.mp hk
    obtain ⟨h2, h3⟩ := Bool.and_eq_true_iff.mp h2
    exact ⟨(hr _ _).trans (Nat.eq_of_beq_eq_true h1), of_decide_eq_true h2, wnb h3⟩
  · obtain ⟨h1, h2⟩ := Bool.and_eq_true_iff.mp hk
    obtain ⟨h2, h3⟩ := Bool.and_eq_true_iff.mp h2
    exact ⟨(hr _ _).trans (Nat.eq_of_beq_eq_true h1), of_decide_eq_true h2, wnb h3⟩
  · cases hk
theorem wN_i (a : Nat) (i : Int) : gi (wN L xs) a i = if a = 1000 then (if 0 ≤ i ∧ i < (L : Int) then xs i.toNat else 0) else wi a i := rfl
theorem wN_r (a : Nat) (i : Int) : gr (wN L xs) a i = wr a i := rfl
theorem wcast {i : Int} (h : 0 ≤ i) : ((i.toNat : Nat) : Int) = i := by omega
theorem wN_ok (hx : ∀ j, dm_in (xs j)) : dm_ok true (wN L xs) := by
  obtain ⟨k1, k2, k3, k4, k5, k6⟩ := wM_ok (L := L) hx
  refine ⟨k1, k2, fun a i => Nat.lt_succ_of_lt (k3 a i), Nat.le_succ_of_le k4, (by decide : 197 ≤ 197), rfl, ?_, ?_, ?_, fun a i h1 h2 => k6 a i (Nat.le_of_succ_le h1) h2⟩
  · intro a ci k hs hk
    have c := dw_all wKs wK_all (dw_lt hs (by decide))
    unfold wKs at c
    rw [hs] at c
    have c : (List.range (dm_fN ci)).all (fun k => wK a k (dm_fd ci k)) = true := c
    exact wK_s wN_r (List.all_eq_true.mp c k (List.mem_range.mpr hk))
  · intro a n i hs h0 h1
    have c := dw_all wKs wK_all (dw_lt hs (by decide))
    unfold wKs at c
    rw [hs] at c
    have c : (List.range n).all (fun k => decide (dm_sh (wr a k) = (1, 8)) && !(Nat.beq (wr a k) 0)) = true := c
    obtain ⟨c1, c2⟩ := Bool.and_eq_true_iff.mp (List.all_eq_true.mp c i.toNat (List.mem_range.mpr (by omega)))
    rw [wcast h0] at c1 c2
    exact ⟨of_decide_eq_true c1, wnb c2⟩
  · intro a n i hs h0 h1
    have c := dw_all wKs wK_all (dw_lt hs (by decide))
    unfold wKs at c
    rw [hs] at c
    have c : (List.range n).all (fun k => Nat.beq (wr a k) (a + 1 + k) && decide (dm_sh (a + 1 + k) = (2, 32))) = true := c
    obtain ⟨c1, c2⟩ := Bool.and_eq_true_iff.mp (List.all_eq_true.mp c i.toNat (List.mem_range.mpr (by omega)))
    rw [wcast h0] at c1
    exact ⟨Nat.eq_of_beq_eq_true c1, of_decide_eq_true c2⟩
end WH
