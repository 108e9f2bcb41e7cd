/-! fields: what the tables say, checked by the kernel; reads and writes of them -/
/-- a mode as the tables write it -/
def dm_wfm (d : List Nat) : Bool := match d with
  | [0, _, z, _] => decide (z < 2)
  | [1, t, _, _] => t == 1 || t == 7
  | [2, t, _, _] => decide (1 ≤ t ∧ t ≤ 6)
  | [3, t, _, _] => decide (1 ≤ t ∧ t ≤ 6)
  | _ => false
/-- a field's own row: its mode, its type, whether it is final, and that its name is its class's only one -/
noncomputable def df_row (ci k : Nat) : Bool := dm_wfm (dm_fd ci k) && (match dm_fd ci k, dm_ty ci k, (dm_ff ci k).2.2.2 with
  | [0, _, 0, _], .int, false => true
  | [0, _, 1, _], .boolean, false => true
  | [1, _, _, _], .object _, false => true
  | [2, _, _, _], .object _, true => true
  | [2, _, _, _], .array _, true => true
  | [3, _, _, _], .object _, true => true
  | [3, _, _, _], .array _, true => true
  | _, _, _ => false) && decide ((dm_ff ci k).1 = dm_cn ci) && decide (parseFieldDescriptor (dm_ff ci k).2.2.1 = some (dm_ty ci k)) && (List.range (dm_fN ci)).all (fun j => decide (k ≠ j → (dm_ff ci k).2.1 ≠ (dm_ff ci j).2.1))
theorem df_rows : (List.range 12).all (fun ci => (List.range (dm_fN ci)).all (df_row ci)) = true := by decide +kernel
theorem df_at {ci k : Nat} (hc : ci < 12) (hk : k < dm_fN ci) : df_row ci k = true := List.all_eq_true.mp (List.all_eq_true.mp df_rows ci (List.mem_range.mpr hc)) k (List.mem_range.mpr hk)
theorem df_wfm {ci k : Nat} (hc : ci < 12) (hk : k < dm_fN ci) : dm_wfm (dm_fd ci k) = true := by
  have h := df_at hc hk
  unfold df_row at h
  simp only [Bool.and_eq_true] at h
  exact h.1.1.1.1
theorem df_own {ci k : Nat} (hc : ci < 12) (hk : k < dm_fN ci) : (dm_ff ci k).1 = dm_cn ci := by
  have h := df_at hc hk
  unfold df_row at h
  simp only [Bool.and_eq_true, decide_eq_true_eq] at h
  exact h.1.1.2
theorem df_desc {ci k : Nat} (hc : ci < 12) (hk : k < dm_fN ci) : parseFieldDescriptor (dm_ff ci k).2.2.1 = some (dm_ty ci k) := by
  have h := df_at hc hk
  unfold df_row at h
  simp only [Bool.and_eq_true, decide_eq_true_eq] at h
  exact h.1.2
theorem df_names {ci : Nat} (hc : ci < 12) : ∀ a, a < dm_fN ci → ∀ b, b < dm_fN ci → a ≠ b → (dm_ff ci a).2.1 ≠ (dm_ff ci b).2.1 := by
  intro a ha b hb hn
  have h := df_at hc ha
  unfold df_row at h
  simp only [Bool.and_eq_true] at h
  exact of_decide_eq_true (List.all_eq_true.mp h.2 b (List.mem_range.mpr hb)) hn
theorem df_kind {ci k : Nat} (hc : ci < 12) (hk : k < dm_fN ci) : (match dm_fd ci k, dm_ty ci k, (dm_ff ci k).2.2.2 with
  | [0, _, 0, _], .int, false => true
  | [0, _, 1, _], .boolean, false => true
  | [1, _, _, _], .object _, false => true
  | [2, _, _, _], .object _, true => true
  | [2, _, _, _], .array _, true => true
  | [3, _, _, _], .object _, true => true
  | [3, _, _, _], .array _, true => true
  | _, _, _ => false) = true := by
  have h := df_at hc hk
  unfold df_row at h
  simp only [Bool.and_eq_true] at h
  exact h.1.1.1.2
/-- where the fixed references of each object lie -/
noncomputable def df_pt (a : Nat) : Bool := match dm_sh a with
  | (1, ci) => decide (ci < 12) && (List.range (dm_fN ci)).all (fun k => match dm_fd ci k with
    | [2, t, p, o] => decide (dm_sh (a + o) = (t, p)) && decide (a + o ≠ 0)
    | [3, t, p, o] => decide (dm_sh o = (t, p)) && decide (o ≠ 0)
    | _ => true)
  | (6, n) => (List.range n).all (fun i => decide (dm_sh (a + 1 + i) = (2, 32)))
  | _ => true
theorem df_pts : (List.range 197).all df_pt = true := by decide +kernel
theorem df_pat {a : Nat} (ha : a < 197) : df_pt a = true := dw_all df_pt df_pts ha
theorem df_ci {a ci : Nat} (h : dm_sh a = (1, ci)) : ci < 12 := by
  have h1 := df_pat (dw_lt h (by decide))
  unfold df_pt at h1
  rw [h] at h1
  simp only [Bool.and_eq_true, decide_eq_true_eq] at h1
  exact h1.1
theorem df_2 {a ci k t p o : Nat} (h : dm_sh a = (1, ci)) (hk : k < dm_fN ci) (hd : dm_fd ci k = [2, t, p, o]) : dm_sh (a + o) = (t, p) ∧ a + o ≠ 0 := by
  have h1 := df_pat (dw_lt h (by decide))
  unfold df_pt at h1
  rw [h] at h1
  simp only [Bool.and_eq_true, decide_eq_true_eq] at h1
  have h2 := List.all_eq_true.mp h1.2 k (List.mem_range.mpr hk)
  rw [hd] at h2
  simp only [Bool.and_eq_true, decide_eq_true_eq] at h2
  exact h2
theorem df_3 {a ci k t p o : Nat} (h : dm_sh a = (1, ci)) (hk : k < dm_fN ci) (hd : dm_fd ci k = [3, t, p, o]) : dm_sh o = (t, p) ∧ o ≠ 0 := by
  have h1 := df_pat (dw_lt h (by decide))
  unfold df_pt at h1
  rw [h] at h1
  simp only [Bool.and_eq_true, decide_eq_true_eq] at h1
  have h2 := List.all_eq_true.mp h1.2 k (List.mem_range.mpr hk)
  rw [hd] at h2
  simp only [Bool.and_eq_true, decide_eq_true_eq] at h2
  exact h2
theorem df_6 {a n i : Nat} (h : dm_sh a = (6, n)) (hi : i < n) : dm_sh (a + 1 + i) = (2, 32) := by
  have h1 := df_pat (dw_lt h (by decide))
  unfold df_pt at h1
  rw [h] at h1
  exact of_decide_eq_true (List.all_eq_true.mp h1 i (List.mem_range.mpr hi))
theorem df_vk {L : Nat} {h : dm_H} {t p a : Nat} (ht : 1 ≤ t ∧ t ≤ 6) (hs : dm_sh a = (t, p)) (h0 : a ≠ 0) (hl : a < gz h) : dm_vk L h (dR t p a) := by
  have : t = 1 ∨ t = 2 ∨ t = 3 ∨ t = 4 ∨ t = 5 ∨ t = 6 := by omega
  rcases this with rfl | rfl | rfl | rfl | rfl | rfl <;> exact ⟨hs, h0, hl⟩
theorem df_vk' {L : Nat} {h : dm_H} {t p a : Nat} (ht : 1 ≤ t ∧ t ≤ 6) (k : dm_vk L h (dR t p a)) : dm_sh a = (t, p) ∧ a ≠ 0 ∧ a < gz h := by
  have : t = 1 ∨ t = 2 ∨ t = 3 ∨ t = 4 ∨ t = 5 ∨ t = 6 := by omega
  rcases this with rfl | rfl | rfl | rfl | rfl | rfl <;> exact k
/-- a read -/
theorem df_ld {sv : Bool} {L : Nat} {h : dm_H} {a j ci : Nat} {f : dm_V → dm_O} {x : dm_X} (hs : dm_sh a = (1, ci)) (hj : j < dm_fN ci) (ha : a < gz h) (ok : dm_ok sv h) (he : dm_ld sv dm_sh h a j (dm_fd ci j) f = some x) :
    ∃ v, f v = some x ∧ dm_vk L h v ∧ ∀ ad, dm_fv ad h a j (dm_fd ci j) = dm_tv ad v := by
  have hw := df_wfm (df_ci hs) hj
  obtain ⟨o1, o2, o3, o4, o5, o6⟩ := ok
  have hfk : sv = true → dm_fk1 h a j (dm_fd ci j) := fun q => by subst q; exact o6.2.1 a ci j hs hj
  have h2 := fun t p o => df_2 (t := t) (p := p) (o := o) hs hj
  have h3 := fun t p o => df_3 (t := t) (p := p) (o := o) hs hj
  revert he hw hfk h2 h3
  generalize dm_fd ci j = d
  intro he hw hfk h2 h3
  have hlt : ∀ r t p, dm_sh r = (t, p) → t ≠ 0 → sv = true → r < gz h := by
    intro r t p q1 q2 q3
    subst q3
    rw [o6.1]
    exact dw_lt q1 q2
  unfold dm_ld at he
  split at he
  · exact ⟨_, he, o1 _ _, fun ad => rfl⟩
  · rename_i t p o
    simp only [dm_wfm, Bool.or_eq_true, beq_iff_eq] at hw
    split at he
    · refine ⟨_, he, ?_, fun ad => rfl⟩
      have hq := hfk rfl
      rcases hw with rfl | rfl
      · obtain ⟨q1, q2⟩ := (show dm_sh (gr h a j) = (1, p) ∧ gr h a j ≠ 0 from hq)
        exact ⟨q1, q2, hlt _ _ _ q1 (by decide) rfl⟩
      · rcases (show gr h a j = 0 ∨ ∃ c, dm_sh (gr h a j) = (1, c) ∧ (c = 0 ∨ c = 1 ∨ c = 3 ∨ c = 4) from hq) with q | ⟨c, q1, q2⟩
        · exact Or.inl q
        · exact Or.inr ⟨hlt _ _ _ q1 (by decide) rfl, c, q1, q2⟩
    · split at he
      · rename_i hc
        refine ⟨_, he, ?_, fun ad => rfl⟩
        rcases hw with rfl | rfl
        · exact ⟨hc.1, hc.2, o3 _ _⟩
        · exact absurd (dw_all (fun a => decide ((dm_sh a).1 ≠ 7)) (by decide +kernel) (dw_lt hc.1 (by decide))) (by rw [hc.1]; simp)
      · cases he
  · rename_i t p o
    simp only [dm_wfm, decide_eq_true_eq] at hw
    obtain ⟨q1, q2⟩ := h2 t p o rfl
    split at he
    · obtain ⟨q, -, -⟩ := (show gr h a j = a + o ∧ _ ∧ _ from hfk rfl)
      exact ⟨_, he, df_vk hw q1 q2 (hlt _ _ _ q1 (by omega) rfl), fun ad => by show dm_rv ad (gr h a j) = dm_rv ad (a + o); rw [q]⟩
    · split at he
      · rename_i q
        exact ⟨_, he, df_vk hw q1 q2 (by rw [← q]; exact o3 _ _), fun ad => by show dm_rv ad (gr h a j) = dm_rv ad (a + o); rw [q]⟩
      · cases he
  · rename_i t p o
    simp only [dm_wfm, decide_eq_true_eq] at hw
    obtain ⟨q1, q2⟩ := h3 t p o rfl
    split at he
    · obtain ⟨q, -, -⟩ := (show gr h a j = o ∧ _ ∧ _ from hfk rfl)
      exact ⟨_, he, df_vk hw q1 q2 (hlt _ _ _ q1 (by omega) rfl), fun ad => by show dm_rv ad (gr h a j) = dm_rv ad o; rw [q]⟩
    · split at he
      · rename_i q
        exact ⟨_, he, df_vk hw q1 q2 (by rw [← q]; exact o3 _ _), fun ad => by show dm_rv ad (gr h a j) = dm_rv ad o; rw [q]⟩
      · cases he
  · cases he
/-- memories behind writes are memories that may be -/
theorem df_okI {sv : Bool} {h : dm_H} {a : Nat} {i v : Int} (ok : dm_ok sv h) (ha : a < gz h) (hv : dm_in v) : dm_ok sv (si h a i v) := by
  obtain ⟨o1, o2, o3, o4, o5, o6⟩ := ok
  refine ⟨fun b j => ?_, o2, o3, o4, o5, ?_⟩
  · rw [gi_si]
    split
    · exact hv
    · exact o1 b j
  · cases sv
    · intro b j hb hb2
      have := o6 b j hb hb2
      rw [gi_si, if_neg (by rintro ⟨rfl, -⟩; exact absurd ha (Nat.not_lt.mpr hb))]
      exact this
    · obtain ⟨s1, s2, s3, s4, s5⟩ := o6
      refine ⟨s1, s2, s3, s4, fun b j hb hb2 => ?_⟩
      rw [gi_si, if_neg (by rintro ⟨rfl, -⟩; omega)]
      exact s5 b j hb hb2
theorem df_okL {sv : Bool} {h : dm_H} {i v : Int} (ok : dm_ok sv h) (hv : dm_in v) : dm_ok sv (sl h i v) := by
  obtain ⟨o1, o2, o3, o4, o5, o6⟩ := ok
  refine ⟨o1, fun j => ?_, o3, o4, o5, o6⟩
  rw [gl_sl]
  split
  · exact hv
  · exact o2 j
theorem df_fk1 {h h' : dm_H} {a k : Nat} {d : List Nat} (e : gr h' a k = gr h a k) (q : dm_fk1 h a k d) : dm_fk1 h' a k d := by
  have : dm_fk1 h' a k d = dm_fk1 h a k d := by
    unfold dm_fk1
    simp only [e]
  rw [this]
  exact q
theorem df_okR {sv : Bool} {h : dm_H} {a j ci b : Nat} (ok : dm_ok sv h) (hs : dm_sh a = (1, ci)) (ha : a < gz h) (hb : b < gz h) (hm : sv = true → dm_fk1 (sr h a j b) a j (dm_fd ci j)) : dm_ok sv (sr h a j b) := by
  obtain ⟨o1, o2, o3, o4, o5, o6⟩ := ok
  refine ⟨o1, o2, fun c i => ?_, o4, o5, ?_⟩
  · rw [gr_sr]
    split
    · exact hb
    · exact o3 c i
  · cases sv
    · intro c i hc hc2
      have := o6 c i hc hc2
      rw [gr_sr, if_neg (by rintro ⟨rfl, -⟩; exact absurd ha (Nat.not_lt.mpr hc))]
      exact this
    · obtain ⟨s1, s2, s3, s4, s5⟩ := o6
      refine ⟨s1, fun a' ci' k' hs' hk' => ?_, fun a' n i hs' h0 h1 => ?_, fun a' n i hs' h0 h1 => ?_, fun b' i h1 h2 => ⟨(s5 b' i h1 h2).1, by rw [gr_sr, if_neg (by rintro ⟨rfl, -⟩; omega)]; exact (s5 b' i h1 h2).2⟩⟩
      · by_cases e : a' = a ∧ (k' : Int) = j
        · obtain ⟨rfl, e2⟩ := e
          have e2 : k' = j := by omega
          subst e2
          rw [hs] at hs'
          cases hs'
          exact hm rfl
        · exact df_fk1 (by rw [gr_sr, if_neg e]) (s2 a' ci' k' hs' hk')
      · rw [gr_sr, if_neg (by rintro ⟨rfl, -⟩; rw [hs] at hs'; cases hs')]
        exact s3 a' n i hs' h0 h1
      · rw [gr_sr, if_neg (by rintro ⟨rfl, -⟩; rw [hs] at hs'; cases hs')]
        exact s4 a' n i hs' h0 h1
theorem df_okA {sv : Bool} {h : dm_H} {a n b : Nat} {i : Int} (ok : dm_ok sv h) (hs : dm_sh a = (5, n)) (ha : a < gz h) (hb : dm_sh b = (1, 8) ∧ b ≠ 0 ∧ b < gz h) : dm_ok sv (sr h a i b) := by
  obtain ⟨o1, o2, o3, o4, o5, o6⟩ := ok
  refine ⟨o1, o2, fun c j => ?_, o4, o5, ?_⟩
  · rw [gr_sr]
    split
    · exact hb.2.2
    · exact o3 c j
  · cases sv
    · intro c j hc hc2
      have := o6 c j hc hc2
      rw [gr_sr, if_neg (by rintro ⟨rfl, -⟩; exact absurd ha (Nat.not_lt.mpr hc))]
      exact this
    · obtain ⟨s1, s2, s3, s4, s5⟩ := o6
      refine ⟨s1, fun a' ci' k' hs' hk' => ?_, fun a' n' j hs' h0 h1 => ?_, fun a' n' j hs' h0 h1 => ?_, fun b' i h1 h2 => ⟨(s5 b' i h1 h2).1, by rw [gr_sr, if_neg (by rintro ⟨rfl, -⟩; omega)]; exact (s5 b' i h1 h2).2⟩⟩
      · exact df_fk1 (by rw [gr_sr, if_neg (by rintro ⟨rfl, -⟩; rw [hs] at hs'; cases hs')]) (s2 a' ci' k' hs' hk')
      · rw [gr_sr]
        split
        · exact ⟨hb.1, hb.2.1⟩
        · exact s3 a' n' j hs' h0 h1
      · rw [gr_sr, if_neg (by rintro ⟨rfl, -⟩; rw [hs] at hs'; cases hs')]
        exact s4 a' n' j hs' h0 h1
theorem df_vkm {L : Nat} {h h' : dm_H} (hz : gz h ≤ gz h') {v : dm_V} (k : dm_vk L h v) : dm_vk L h' v := by
  unfold dm_vk at *
  split <;> simp_all
  · rcases k with k | k
    · exact Or.inl k
    · exact Or.inr ⟨by omega, k.2⟩
  · omega
theorem df_cl {ci : Nat} (h : ci < 12) : dm_cl[ci]? = some (dm_cn ci, dm_ff ci, dm_fN ci) := by
  unfold dm_cl
  rw [List.getElem?_map, List.getElem?_range h]
  rfl
theorem df_inb : (List.range 12).all (fun ci => (u_ws (dm_cn ci) (dm_ff ci) (dm_fN ci)).all (fun w => goodWord w && lw_tbl.contains w)) = true := by decide +kernel
theorem df_in {ci : Nat} (h : ci < 12) : ∀ w ∈ u_ws (dm_cn ci) (dm_ff ci) (dm_fN ci), w ∈ dm_ws := by
  intro w hw
  have h1 := List.all_eq_true.mp (List.all_eq_true.mp df_inb ci (List.mem_range.mpr h)) w hw
  simp only [Bool.and_eq_true] at h1
  exact List.mem_filter.mpr ⟨List.contains_iff_mem.mp h1.2, h1.1⟩
theorem df_fit {ci k : Nat} {t p o t' p' b : Nat} (h : dm_fd ci k = [1, t, p, o]) (ht : t = 1 ∨ t = 7) (hf : dm_fit t p t' p' = true) {L : Nat} {m : dm_H} (hv : dm_vk L m (dR t' p' b)) {a : Nat} : b < gz m ∨ b = 0 := by
  unfold dm_fit at hf
  split at hf
  · simp only [Bool.or_eq_true, Bool.and_eq_true, beq_iff_eq] at hf
    rcases hf with (rfl | rfl) | ⟨rfl, -⟩
    · exact Or.inr hv
    · rcases hv with q | q
      · exact Or.inr q
      · exact Or.inl q.1
    · exact Or.inl hv.2.2
  · simp only [Bool.and_eq_true, beq_iff_eq] at hf
    obtain ⟨rfl, rfl⟩ := hf
    rcases ht with rfl | rfl
    · exact Or.inl hv.2.2
    · rcases hv with q | q
      · exact Or.inr q
      · exact Or.inl q.1
/-- a write: what it is, and that it may be -/
theorem df_st {sv : Bool} {L : Nat} {h : dm_H} {a j ci : Nat} {v : dm_V} {f : dm_H → dm_O} {x : dm_X} (hs : dm_sh a = (1, ci)) (hj : j < dm_fN ci) (ha : a < gz h) (ok : dm_ok sv h) (hv : dm_vk L h v) (he : dm_st sv h a j (dm_fd ci j) v f = some x) :
    ∃ h', f h' = some x ∧ dm_ok sv h' ∧ gz h' = gz h ∧ gc h' = gc h ∧ gs h' = gs h ∧ (∀ b i, b ≠ a → gi h' b i = gi h b i) ∧ (∀ G ad b, b ≠ a → dm_en G ad h' b = dm_en G ad h b) ∧
      (∀ ad, narrow (dm_ty ci j) (dm_tv ad v) = dm_tv ad v ∧ fits (dm_ty ci j) (dm_tv ad v) = true ∧ (dm_fs ad h ci a).set j (dm_tv ad v) = dm_fs ad h' ci a) ∧ ((dm_ff ci j).2.2.2 = true → sv = false) := by
  have hc := df_ci hs
  have hw := df_wfm hc hj
  have hk := df_kind hc hj
  have hset : ∀ (h' : dm_H) (ad : Nat → Nat) (w : Value), dm_fv ad h' a j (dm_fd ci j) = w → (∀ i, i ≠ (j : Int) → gi h' a i = gi h a i) → (∀ i, i ≠ (j : Int) → gr h' a i = gr h a i) → (dm_fs ad h ci a).set j w = dm_fs ad h' ci a := by
    intro h' ad w q1 q2 q3
    refine dw_fset hj q1 (fun i hi _ => ?_)
    unfold dm_fv
    rw [q2 i (by omega), q3 i (by omega)]
  revert he hw hk
  generalize hd : dm_fd ci j = d at *
  generalize hty : dm_ty ci j = ty at *
  generalize hfin : (dm_ff ci j).2.2.2 = fin at *
  intro he hw hk
  unfold dm_st at he
  split at he
  · rename_i z _ y
    split at he
    · refine ⟨_, he, df_okI ok ha hv, rfl, rfl, rfl, fun b i hb => by rw [gi_si, if_neg (fun q => hb q.1)], fun G ad b hb => dw_enI hb, fun ad => ?_, ?_⟩
      · refine ⟨?_, ?_, hset _ ad _ ?_ (fun i hi => by rw [gi_si, if_neg (fun q => hi q.2)]) (fun i hi => rfl)⟩
        · split at hk <;> first | rfl | simp_all
        · split at hk <;> first | rfl | simp_all
        · show Value.int (Int32.ofInt (gi (si h a j y) a j)) = _
          rw [gi_si, if_pos ⟨rfl, rfl⟩]
          rfl
      · split at hk <;> simp_all
    · obtain ⟨hz, he⟩ := (show (y = 0 ∨ y = 1) ∧ f (si h a j y) = some x by
        unfold dm_z1 at he
        split at he
        · exact ⟨by assumption, he⟩
        · cases he)
      refine ⟨_, he, df_okI ok ha hv, rfl, rfl, rfl, fun b i hb => by rw [gi_si, if_neg (fun q => hb q.1)], fun G ad b hb => dw_enI hb, fun ad => ?_, ?_⟩
      · refine ⟨?_, ?_, hset _ ad _ ?_ (fun i hi => by rw [gi_si, if_neg (fun q => hi q.2)]) (fun i hi => rfl)⟩
        · split at hk <;> first | exact dw_nar y hz | simp_all
        · split at hk <;> first | (rcases hz with rfl | rfl <;> rfl) | simp_all
        · show Value.int (Int32.ofInt (gi (si h a j y) a j)) = _
          rw [gi_si, if_pos ⟨rfl, rfl⟩]
          rfl
      · split at hk <;> simp_all
  · rename_i t p o k' p' b
    simp only [dm_wfm, Bool.or_eq_true, beq_iff_eq] at hw
    split at he
    case isFalse => cases he
    rename_i hf
    have hb : b < gz h := by
      rcases df_fit (a := a) hd hw hf hv with q | q
      · exact q
      · have := ok.2.2.2.1; omega
    refine ⟨_, he, df_okR ok hs ha hb (fun _ => ?_), rfl, rfl, rfl, fun b i hb => rfl, fun G ad b hb => dw_enR hb, fun ad => ?_, ?_⟩
    · rw [hd]
      rcases hw with rfl | rfl
      · show dm_sh (gr (sr h a j b) a j) = (1, p) ∧ gr (sr h a j b) a j ≠ 0
        rw [gr_sr, if_pos ⟨rfl, rfl⟩]
        have hf' : (k' == 1 && p' == p) = true := hf
        simp only [Bool.and_eq_true, beq_iff_eq] at hf'
        obtain ⟨rfl, rfl⟩ := hf'
        exact ⟨hv.1, hv.2.1⟩
      · show gr (sr h a j b) a j = 0 ∨ ∃ c, dm_sh (gr (sr h a j b) a j) = (1, c) ∧ (c = 0 ∨ c = 1 ∨ c = 3 ∨ c = 4)
        rw [gr_sr, if_pos ⟨rfl, rfl⟩]
        simp only [dm_fit, if_true, Bool.or_eq_true, Bool.and_eq_true, beq_iff_eq] at hf
        rcases hf with (rfl | rfl) | ⟨rfl, hf⟩
        · exact Or.inl hv
        · rcases hv with q | q
          · exact Or.inl q
          · exact Or.inr q.2
        · exact Or.inr ⟨p', hv.1, by omega⟩
    · refine ⟨?_, ?_, hset _ ad _ ?_ (fun i hi => rfl) (fun i hi => by rw [gr_sr, if_neg (fun q => hi q.2)])⟩
      · split at hk <;> first | (show narrow _ (dm_rv ad b) = dm_rv ad b; unfold dm_rv; split <;> rfl) | simp_all
      · split at hk <;> first | (show fits _ (dm_rv ad b) = true; unfold dm_rv; split <;> rfl) | simp_all
      · show dm_rv ad (gr (sr h a j b) a j) = dm_rv ad b
        rw [gr_sr, if_pos ⟨rfl, rfl⟩]
    · split at hk <;> simp_all
  · rename_i t p o k' p' b
    simp only [dm_wfm, decide_eq_true_eq] at hw
    split at he
    · cases he
    split at he
    case isFalse => cases he
    rename_i hf
    have hb : b < gz h := by
      have hf1 := hf.1
      unfold dm_fit at hf1
      rw [if_neg (by omega)] at hf1
      simp only [Bool.and_eq_true, beq_iff_eq] at hf1
      obtain ⟨rfl, rfl⟩ := hf1
      exact (df_vk' hw hv).2.2
    refine ⟨_, he, df_okR ok hs ha hb (fun q => by cases q), rfl, rfl, rfl, fun b i hb => rfl, fun G ad b hb => dw_enR hb, fun ad => ?_, fun _ => rfl⟩
    refine ⟨?_, ?_, hset _ ad _ ?_ (fun i hi => rfl) (fun i hi => by rw [gr_sr, if_neg (fun q => hi q.2)])⟩
    · split at hk <;> first | (show narrow _ (dm_rv ad b) = dm_rv ad b; unfold dm_rv; split <;> rfl) | simp_all
    · split at hk <;> first | (show fits _ (dm_rv ad b) = true; unfold dm_rv; split <;> rfl) | simp_all
    · show dm_rv ad (gr (sr h a j b) a j) = dm_rv ad b
      rw [gr_sr, if_pos ⟨rfl, rfl⟩]
  · rename_i t p o k' p' b
    simp only [dm_wfm, decide_eq_true_eq] at hw
    split at he
    · cases he
    split at he
    case isFalse => cases he
    rename_i hf
    have hb : b < gz h := by
      have hf1 := hf.1
      unfold dm_fit at hf1
      rw [if_neg (by omega)] at hf1
      simp only [Bool.and_eq_true, beq_iff_eq] at hf1
      obtain ⟨rfl, rfl⟩ := hf1
      exact (df_vk' hw hv).2.2
    refine ⟨_, he, df_okR ok hs ha hb (fun q => by cases q), rfl, rfl, rfl, fun b i hb => rfl, fun G ad b hb => dw_enR hb, fun ad => ?_, fun _ => rfl⟩
    refine ⟨?_, ?_, hset _ ad _ ?_ (fun i hi => rfl) (fun i hi => by rw [gr_sr, if_neg (fun q => hi q.2)])⟩
    · split at hk <;> first | (show narrow _ (dm_rv ad b) = dm_rv ad b; unfold dm_rv; split <;> rfl) | simp_all
    · split at hk <;> first | (show fits _ (dm_rv ad b) = true; unfold dm_rv; split <;> rfl) | simp_all
    · show dm_rv ad (gr (sr h a j b) a j) = dm_rv ad b
      rw [gr_sr, if_pos ⟨rfl, rfl⟩]
  · cases he
