/-! the world's cells, read and written -/
theorem dw_at {G : dm_G} {ad : Nat → Nat} {h : dm_H} {a : Nat} (h1 : a ≠ 0) (h2 : a < gz h) : (dm_W G ad h)[a - 1]? = some (ad a, dm_en G ad h a) := by
  unfold dm_W
  rw [List.getElem?_map, List.getElem?_range (by omega)]
  show some (ad (a - 1 + 1), dm_en G ad h (a - 1 + 1)) = _
  rw [Nat.sub_add_cancel (by omega)]
theorem dw_set {G : dm_G} {ad : Nat → Nat} {h h' : dm_H} {a : Nat} {e : va_E} (h1 : a ≠ 0) (hz : gz h' = gz h) (he : dm_en G ad h' a = e) (ho : ∀ b, b ≠ a → b < gz h → dm_en G ad h' b = dm_en G ad h b) : (dm_W G ad h).set (a - 1) (ad a, e) = dm_W G ad h' := by
  apply List.ext_getElem?
  intro k
  unfold dm_W
  rw [hz]
  by_cases hk : k < gz h - 1
  · by_cases ha : a - 1 = k
    · subst ha
      rw [List.getElem?_set_self (by simpa using hk), List.getElem?_map, List.getElem?_range hk]
      show _ = some (ad (a - 1 + 1), dm_en G ad h' (a - 1 + 1))
      rw [Nat.sub_add_cancel (by omega), he]
    · rw [List.getElem?_set_ne ha, List.getElem?_map, List.getElem?_map, List.getElem?_range hk]
      show some (ad (k + 1), dm_en G ad h (k + 1)) = some (ad (k + 1), dm_en G ad h' (k + 1))
      rw [ho (k + 1) (by omega) (by omega)]
  · rw [List.getElem?_eq_none (by simp; omega), List.getElem?_eq_none (by simp; omega)]
theorem dw_obj {G : dm_G} {ad : Nat → Nat} {h : dm_H} {a ci : Nat} (hs : dm_sh a = (1, ci)) : dm_en G ad h a = .inr (ci, dm_fs ad h ci a) := by
  unfold dm_en
  rw [hs]
  rfl
theorem dw_2 {G : dm_G} {ad : Nat → Nat} {h : dm_H} {a n : Nat} (hs : dm_sh a = (2, n)) : dm_en G ad h a = .inl (dm_cA G 2, n, .inl (fun j => Int32.ofInt (gi h a j))) := by
  unfold dm_en
  rw [hs]
  rfl
theorem dw_3 {G : dm_G} {ad : Nat → Nat} {h : dm_H} {a n : Nat} (hs : dm_sh a = (3, n)) : dm_en G ad h a = .inl (dm_cA G 3, n, .inl (fun j => Int32.ofInt (gi h a j))) := by
  unfold dm_en
  rw [hs]
  rfl
theorem dw_4 {G : dm_G} {ad : Nat → Nat} {h : dm_H} {a n : Nat} (hs : dm_sh a = (4, n)) : dm_en G ad h a = .inl (dm_cA G 4, n, .inr (.inl (fun j => Int64.ofInt (gl h j)))) := by
  unfold dm_en
  rw [hs]
  rfl
theorem dw_5 {G : dm_G} {ad : Nat → Nat} {h : dm_H} {a n : Nat} (hs : dm_sh a = (5, n)) : dm_en G ad h a = .inl (dm_cA G 5, n, .inr (.inr (.inr (.inr (fun j => dm_ro ad (gr h a j)))))) := by
  unfold dm_en
  rw [hs]
  rfl
theorem dw_6 {G : dm_G} {ad : Nat → Nat} {h : dm_H} {a n : Nat} (hs : dm_sh a = (6, n)) : dm_en G ad h a = .inl (dm_cA G 6, n, .inr (.inr (.inr (.inr (fun j => dm_ro ad (gr h a j)))))) := by
  unfold dm_en
  rw [hs]
  rfl
theorem dw_fs {ad : Nat → Nat} {h : dm_H} {ci a k : Nat} (hk : k < dm_fN ci) : (dm_fs ad h ci a)[k]? = some (dm_fv ad h a k (dm_fd ci k)) := by
  unfold dm_fs
  rw [List.getElem?_map, List.getElem?_range hk]
  rfl
theorem dw_fsl {ad : Nat → Nat} {h : dm_H} {ci a : Nat} : (dm_fs ad h ci a).length = dm_fN ci := by
  unfold dm_fs
  simp
theorem dw_fset {ad : Nat → Nat} {h h' : dm_H} {ci a k : Nat} {v : Value} (hk : k < dm_fN ci) (hv : dm_fv ad h' a k (dm_fd ci k) = v) (ho : ∀ j, j ≠ k → j < dm_fN ci → dm_fv ad h' a j (dm_fd ci j) = dm_fv ad h a j (dm_fd ci j)) : (dm_fs ad h ci a).set k v = dm_fs ad h' ci a := by
  apply List.ext_getElem?
  intro j
  by_cases hj : j < dm_fN ci
  · by_cases e : k = j
    · subst e
      rw [List.getElem?_set_self (by rw [dw_fsl]; exact hk), dw_fs hk, hv]
    · rw [List.getElem?_set_ne e, dw_fs hj, dw_fs hj, ho j (fun q => e q.symm) hj]
  · rw [List.getElem?_eq_none (by simp [dw_fsl]; omega), List.getElem?_eq_none (by rw [dw_fsl]; omega)]
/-- reads behind writes -/
theorem gi_si (h : dm_H) (a b : Nat) (i j v : Int) : gi (si h a i v) b j = if b = a ∧ j = i then v else gi h b j := rfl
theorem gr_si (h : dm_H) (a b : Nat) (i j v : Int) : gr (si h a i v) b j = gr h b j := rfl
theorem gl_si (h : dm_H) (a : Nat) (i j v : Int) : gl (si h a i v) j = gl h j := rfl
theorem gi_sr (h : dm_H) (a b : Nat) (i j : Int) (v : Nat) : gi (sr h a i v) b j = gi h b j := rfl
theorem gr_sr (h : dm_H) (a b : Nat) (i j : Int) (v : Nat) : gr (sr h a i v) b j = if b = a ∧ j = i then v else gr h b j := rfl
theorem gl_sr (h : dm_H) (a : Nat) (i j : Int) (v : Nat) : gl (sr h a i v) j = gl h j := rfl
theorem gi_sl (h : dm_H) (b : Nat) (i j v : Int) : gi (sl h i v) b j = gi h b j := rfl
theorem gr_sl (h : dm_H) (b : Nat) (i j v : Int) : gr (sl h i v) b j = gr h b j := rfl
theorem gl_sl (h : dm_H) (i j v : Int) : gl (sl h i v) j = if j = i then v else gl h j := rfl
theorem dw_enI {G : dm_G} {ad : Nat → Nat} {h : dm_H} {a b : Nat} {i v : Int} (hb : b ≠ a) : dm_en G ad (si h a i v) b = dm_en G ad h b := by
  have e : ∀ j, gi (si h a i v) b j = gi h b j := fun j => by rw [gi_si, if_neg (fun q => hb q.1)]
  unfold dm_en dm_fs dm_fv
  simp only [e, gr_si, gl_si]
theorem dw_enR {G : dm_G} {ad : Nat → Nat} {h : dm_H} {a b : Nat} {i : Int} {v : Nat} (hb : b ≠ a) : dm_en G ad (sr h a i v) b = dm_en G ad h b := by
  have e : ∀ j, gr (sr h a i v) b j = gr h b j := fun j => by rw [gr_sr, if_neg (fun q => hb q.1)]
  unfold dm_en dm_fs dm_fv
  simp only [e, gi_sr, gl_sr]
theorem dw_lt {a t p : Nat} (h : dm_sh a = (t, p)) (ht : t ≠ 0) : a < 197 := by
  rcases Nat.lt_or_ge a 197 with q | q
  · exact q
  · unfold dm_sh at h
    rw [List.getD_eq_getElem?_getD, List.getElem?_eq_none (by rw [show dm_sha.length = 197 from by decide +kernel]; exact q)] at h
    exact absurd (congrArg Prod.fst h).symm ht
theorem dw_all (P : Nat → Bool) (h : (List.range 197).all P = true) {a : Nat} (ha : a < 197) : P a = true := List.all_eq_true.mp h a (List.mem_range.mpr ha)
theorem dw_one4 {a n : Nat} (h : dm_sh a = (4, n)) : a = 196 := by
  have := dw_all (fun a => decide ((dm_sh a).1 = 4 → a = 196)) (by decide +kernel) (dw_lt h (by decide))
  exact of_decide_eq_true this (by rw [h])
theorem dw_enL {G : dm_G} {ad : Nat → Nat} {h : dm_H} {b : Nat} {i v : Int} (hb : b ≠ 196) : dm_en G ad (sl h i v) b = dm_en G ad h b := by
  unfold dm_en dm_fs dm_fv
  simp only [gi_sl, gr_sl]
  split
  · rfl
  · rename_i n hs
    exact absurd (dw_one4 hs) hb
  · rfl
  · rfl
  · rfl
/-- the last two numbers of a memory say nothing of its cells -/
theorem dw_sg {G : dm_G} {ad : Nat → Nat} {h : dm_H} {n : Nat} : dm_W G ad (sg h n) = dm_W G ad h := rfl
theorem dw_upd {f : Nat → Int32} {g : Nat → Int32} {k : Nat} {x : Int32} (h1 : g k = x) (h2 : ∀ j, j ≠ k → g j = f j) : upd f k x = g := by
  funext j
  by_cases e : j = k
  · subst e
    rw [pk_us, h1]
  · rw [pk_un e, h2 j e]
theorem dw_nar (x : Int) (h : x = 0 ∨ x = 1) : narrow .boolean (.int (Int32.ofInt x)) = .int (Int32.ofInt x) := by
  rcases h with rfl | rfl <;> rfl
