/-! BINDINGS: what an atom's terms make of a row; the joiner's values -/
/-- one term takes a number -/
def b1 (v : mA) (t x : Int) : Option mA := if t = -1 then some v else if slot t = -1 then (if t = x then some v else none) else if v (slot t) = -1 then some (upd1 v (slot t) x) else if v (slot t) = x then some v else none
/-- k terms from the i-th on take the columns of row c -/
def bA (t : Int → Int) (c : Int) : Nat → Int → mA → Option mA
  | 0, _, v => some v
  | k + 1, i, v => match b1 v (t i) (cv i c) with
    | none => none
    | some v' => bA t c k (i + 1) v'
/-- an assignment of eight variables, as it lies at a -/
def va (h : dm_H) (a : Nat) : mA := fun s => if 0 ≤ s ∧ s < 8 then gi h a s else -1
/-- the same heap with other values at a -/
def sv (h : dm_H) (a : Nat) (v : mA) : dm_H := (fun b j => if b = a ∧ 0 ≤ j ∧ j < 8 then v j else h.1 b j, h.2)
/-- nothing is told of other variables -/
def nv (v : mA) : Prop := ∀ s, ¬ (0 ≤ s ∧ s < 8) → v s = -1
theorem gi_sv (h : dm_H) (a b : Nat) (v : mA) (j : Int) : gi (sv h a v) b j = if b = a ∧ 0 ≤ j ∧ j < 8 then v j else gi h b j := rfl
theorem gr_sv (h : dm_H) (a b : Nat) (v : mA) (j : Int) : gr (sv h a v) b j = gr h b j := rfl
theorem gi_svn {h : dm_H} {a b : Nat} {v : mA} {j : Int} (hb : b ≠ a) : gi (sv h a v) b j = gi h b j := by
  rw [gi_sv, if_neg (fun q => hb q.1)]
theorem gi_sis {h : dm_H} {a : Nat} {i v : Int} : gi (si h a i v) a i = v := by
  rw [gi_si, if_pos ⟨rfl, rfl⟩]
theorem gi_sin {h : dm_H} {a b : Nat} {i j v : Int} (hb : b ≠ a) : gi (si h a i v) b j = gi h b j := by
  rw [gi_si, if_neg (fun q => hb q.1)]
theorem gi_sij {h : dm_H} {a b : Nat} {i j v : Int} (hj : j ≠ i) : gi (si h a i v) b j = gi h b j := by
  rw [gi_si, if_neg (fun q => hj q.2)]
theorem gi_svi {h : dm_H} {a : Nat} {v : mA} {j : Int} (hj : 0 ≤ j ∧ j < 8) : gi (sv h a v) a j = v j := by
  rw [gi_sv, if_pos ⟨rfl, hj⟩]
theorem nv_va (h : dm_H) (a : Nat) : nv (va h a) := fun _ hs => if_neg hs
theorem va_in {h : dm_H} {a : Nat} {s : Int} (hs : 0 ≤ s ∧ s < 8) : va h a s = gi h a s := if_pos hs
theorem va_sv {h : dm_H} {a : Nat} {v : mA} (hv : nv v) : va (sv h a v) a = v := by
  funext s
  unfold va
  by_cases hs : 0 ≤ s ∧ s < 8
  · rw [if_pos hs, gi_sv, if_pos ⟨rfl, hs⟩]
  · rw [if_neg hs, hv s hs]
theorem sv_sv (h : dm_H) (a : Nat) (v v' : mA) : sv (sv h a v) a v' = sv h a v' := by
  unfold sv
  congr 1
  funext b j
  show (if b = a ∧ 0 ≤ j ∧ j < 8 then v' j else if b = a ∧ 0 ≤ j ∧ j < 8 then v j else h.1 b j) = _
  by_cases q : b = a ∧ 0 ≤ j ∧ j < 8
  · rw [if_pos q, if_pos q]
  · rw [if_neg q, if_neg q, if_neg q]
theorem sv_va (h : dm_H) (a : Nat) : sv h a (va h a) = h := by
  rcases h with ⟨h1, h2⟩
  unfold sv
  congr 1
  funext b j
  by_cases q : b = a ∧ 0 ≤ j ∧ j < 8
  · rw [if_pos q]
    obtain ⟨rfl, q⟩ := q
    exact if_pos q
  · rw [if_neg q]
theorem sv_eq {h : dm_H} {a : Nat} {v : mA} (e : v = va h a) : sv h a v = h := by rw [e, sv_va]
theorem si_sv {h : dm_H} {a : Nat} {s x : Int} (hs : 0 ≤ s ∧ s < 8) : si h a s x = sv h a (upd1 (va h a) s x) := by
  unfold si sv
  congr 1
  funext b j
  by_cases hb : b = a
  · by_cases hj : j = s
    · rw [if_pos ⟨hb, hj⟩, if_pos ⟨hb, by omega, by omega⟩]
      unfold upd1
      rw [if_pos hj]
    · rw [if_neg (fun q => hj q.2)]
      by_cases hr : 0 ≤ j ∧ j < 8
      · rw [if_pos ⟨hb, hr⟩]
        unfold upd1
        rw [if_neg hj, va_in hr, hb]
        rfl
      · rw [if_neg (fun q => hr q.2)]
  · rw [if_neg (fun q => hb q.1), if_neg (fun q => hb q.1)]
theorem si_svw {h : dm_H} {a : Nat} {v : mA} {s x : Int} (hv : nv v) (hs : 0 ≤ s ∧ s < 8) : si (sv h a v) a s x = sv h a (upd1 v s x) := by
  rw [si_sv hs, va_sv hv, sv_sv]
theorem nv_upd {v : mA} (hv : nv v) {s x : Int} (hs : 0 ≤ s ∧ s < 8) : nv (upd1 v s x) := by
  intro j hj
  unfold upd1
  rw [if_neg (by omega)]
  exact hv j hj
theorem tv_va (h : dm_H) (a : Nat) (t : Int) : tv (gi h a) t = tv (va h a) t := by
  unfold tv
  repeat' split
  · rfl
  · rfl
  · rw [va_in (by omega)]
/-- what has a number keeps it -/
def lev (v w : mA) : Prop := ∀ s, v s ≠ -1 → w s = v s
theorem lev_refl (v : mA) : lev v v := fun _ _ => rfl
theorem lev_trans {u v w : mA} (h1 : lev u v) (h2 : lev v w) : lev u w := fun s hs => by rw [h2 s (by rw [h1 s hs]; exact hs), h1 s hs]
theorem lev_upd {v : mA} {s x : Int} (hs : v s = -1) : lev v (upd1 v s x) := by
  intro j hj
  unfold upd1
  by_cases e : j = s
  · rw [e] at hj; exact absurd hs hj
  · rw [if_neg e]
theorem cv_nn {i c : Int} (hc : 0 ≤ c) : 0 ≤ cv i c := by
  unfold cv
  repeat' split
  all_goals omega
theorem slotne {t : Int} (h : slot t ≠ -1) : 0 ≤ slot t ∧ slot t < 8 := by
  rcases slot_r t with q | q
  · exact absurd q h
  · exact q
theorem b1_nv {v w : mA} {t x : Int} (hv : nv v) (h : b1 v t x = some w) : nv w ∧ lev v w := by
  unfold b1 at h
  split at h
  · cases h; exact ⟨hv, lev_refl _⟩
  split at h
  · split at h
    · cases h; exact ⟨hv, lev_refl _⟩
    · cases h
  rename_i h2
  split at h
  · rename_i h3
    cases h
    exact ⟨nv_upd hv (slotne h2), lev_upd h3⟩
  split at h
  · cases h; exact ⟨hv, lev_refl _⟩
  · cases h
theorem bA_nv {t : Int → Int} {c : Int} : ∀ {k : Nat} {i : Int} {v w : mA}, nv v → bA t c k i v = some w → nv w ∧ lev v w
  | 0, i, v, w, hv, h => by cases h; exact ⟨hv, lev_refl _⟩
  | k + 1, i, v, w, hv, h => by
    unfold bA at h
    cases hb : b1 v (t i) (cv i c) with
    | none => rw [hb] at h; cases h
    | some u =>
      rw [hb] at h
      obtain ⟨a1, a2⟩ := b1_nv hv hb
      obtain ⟨a3, a4⟩ := bA_nv a1 h
      exact ⟨a3, lev_trans a2 a4⟩
/-- the set of the variables that w has, and v has not -/
def fsh (f : Int) (v w : mA) : Prop := st 8 f ∧ ∀ s, 0 ≤ s → s < 8 → (bt f s = true ↔ v s = -1 ∧ w s ≠ -1)
theorem fsh_0 (v : mA) : fsh 0 v v := ⟨st_z 8, fun s _ _ => by rw [bt_z]; simp⟩
theorem fsh_upd {f s x : Int} {v w : mA} (h : fsh f v w) (hl : lev v w) (hs : 0 ≤ s ∧ s < 8) (h1 : w s = -1) (hx : x ≠ -1) : fsh (dm_or f (dm_shl 1 s)) v (upd1 w s x) := by
  have h8 := st_shl (k := 8) (by omega) hs
  refine ⟨st_or (by omega) h.1 h8, fun j h0 h2 => ?_⟩
  rw [bt_or (by omega) h.1 h8, bt_shl (by omega) h0]
  have h3 := h.2 j h0 h2
  unfold upd1
  by_cases e : j = s
  · subst e
    have h4 : v j = -1 := by
      by_cases q : v j = -1
      · exact q
      · have := hl j q
        omega
    simp [h4, hx]
  · rw [if_neg e]
    have e2 : ¬ s = j := fun q => e q.symm
    simp only [e2, decide_false, Bool.or_false]
    exact h3
theorem fsh_back {f : Int} {v w : mA} (h : fsh f v w) (hl : lev v w) (hv : nv v) (hw : nv w) : (fun s => if bt f s = true then -1 else w s) = v := by
  funext s
  by_cases hs : 0 ≤ s ∧ s < 8
  · have h1 := h.2 s hs.1 hs.2
    by_cases hb : bt f s = true
    · rw [if_pos hb]
      exact (h1.mp hb).1.symm
    · rw [if_neg hb]
      by_cases q : v s = -1
      · by_cases q2 : w s = -1
        · rw [q, q2]
        · exact absurd (h1.mpr ⟨q, q2⟩) hb
      · exact hl s q
  · rw [hw s hs, hv s hs]
    split <;> rfl
/-- addresses of rules -/
def ru (A : Nat) : Prop := (15 ≤ A ∧ A ≤ 87 ∧ A % 8 = 7) ∨ A = 129
def rw_ (P : Nat) : Prop := P = 95 ∨ P = 112
theorem s47 {d : Nat} (hd : 1 ≤ d) (f : Int) (h : dm_H) (hf : st 8 f) : dF d 47 [dR 1 5 137, dI f] h = rV (sv h 138 (fun s => if bt f s = true then -1 else va h 138 s)) := by
  rw [f47 hd, b47_0]
  by_cases h0 : f = 0
  · rw [if_pos h0, sv_eq]
    funext s
    rw [h0, bt_z, if_neg (by decide)]
  rw [if_neg h0]
  have key : ∀ (k : Nat) (i : Int), 0 ≤ i → i + k = 8 → dL (d - 1) 47 7 [lR 1 5 137, lI f, lI i] [] (sv h 138 (fun s => if bt f s = true ∧ s < i then -1 else va h 138 s)) = rV (sv h 138 (fun s => if bt f s = true then -1 else va h 138 s)) := by
    intro k
    induction k with
    | zero =>
      intro i h0 hk
      rw [b47_7, if_neg (by omega)]
      congr 2
      funext s
      by_cases hb : bt f s = true
      · have hs : s < i := by
          rcases Int.lt_or_le s 8 with q | q
          · omega
          · rw [bt_hi (k := 8) hf q] at hb; cases hb
        rw [if_pos ⟨hb, hs⟩, if_pos hb]
      · rw [if_neg (fun q => hb q.1), if_neg hb]
    | succ k ih =>
      intro i h0 hk
      have hn : nv (fun s => if bt f s = true ∧ s < i then -1 else va h 138 s) := by
        intro s hs
        show (if bt f s = true ∧ s < i then -1 else va h 138 s) = -1
        rw [nv_va h 138 s hs]
        split <;> rfl
      rw [b47_7, if_pos (by omega), bt_get (k := 8) (by omega) hf (by omega)]
      by_cases hb : bt f i = true
      · rw [if_pos hb, if_neg (by omega), ix_p h0 (by omega), b47_28, ck_p (by omega) (by omega), si_svw hn (by omega), ← ih (i + 1) (by omega) (by omega)]
        congr 2
        funext s
        unfold upd1
        by_cases e : s = i
        · subst e
          rw [if_pos rfl, if_pos ⟨hb, by omega⟩]
        · rw [if_neg e]
          show (if bt f s = true ∧ s < i then -1 else va h 138 s) = _
          by_cases q : bt f s = true ∧ s < i
          · rw [if_pos q, if_pos ⟨q.1, by omega⟩]
          · rw [if_neg q, if_neg (fun z => q ⟨z.1, by omega⟩)]
      · rw [if_neg hb, if_pos rfl, b47_28, ck_p (by omega) (by omega), ← ih (i + 1) (by omega) (by omega)]
        congr 2
        funext s
        by_cases q : bt f s = true ∧ s < i
        · rw [if_pos q, if_pos ⟨q.1, by omega⟩]
        · rw [if_neg q, if_neg]
          rintro ⟨z1, z2⟩
          by_cases e : s = i
          · subst e; exact hb z1
          · exact q ⟨z1, by omega⟩
  have h1 := key 8 0 (by omega) (by omega)
  rw [sv_eq (v := fun s => if bt f s = true ∧ s < 0 then -1 else va h 138 s)] at h1
  · exact h1
  · funext s
    by_cases q : bt f s = true ∧ s < 0
    · rw [if_pos q, nv_va h 138 s (by omega)]
    · rw [if_neg q]
theorem s47b {d : Nat} (hd : 1 ≤ d) (f : Int) (h : dm_H) {v w : mA} (hf : fsh f v w) (hl : lev v w) (hv : nv v) (hw : nv w) : dF d 47 [dR 1 5 137, dI f] (sv h 138 w) = rV (sv h 138 v) := by
  rw [s47 hd f _ hf.1, va_sv hw, sv_sv, fsh_back hf hl hv hw]
