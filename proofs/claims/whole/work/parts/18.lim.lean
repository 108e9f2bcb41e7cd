/-! THE SMALL MACHINE WITHOUT A COUNT OF STEPS: what it comes to, if it comes to an end -/
/-- f is what g comes to, from some n on -/
def dct (f : dm_O) (g : Nat → dm_O) : Prop := ∀ x, f = some x → ∃ N, ∀ n, N ≤ n → g n = some x
theorem dct_none {g : Nat → dm_O} : dct none g := fun _ h => nomatch h
theorem dct_c (f : dm_O) : dct f (fun _ => f) := fun _ h => ⟨0, fun _ _ => h⟩
theorem dct_2 {S : List dm_V} {f : Int → Int → List dm_V → dm_O} {g : Nat → Int → Int → List dm_V → dm_O} (h : ∀ a b S', dct (f a b S') (fun n => g n a b S')) : dct (dm_2 S f) (fun n => dm_2 S (g n)) := by
  unfold dm_2
  split
  · exact h _ _ _
  · exact dct_none
theorem dct_1 {S : List dm_V} {f : Int → List dm_V → dm_O} {g : Nat → Int → List dm_V → dm_O} (h : ∀ a S', dct (f a S') (fun n => g n a S')) : dct (dm_1 S f) (fun n => dm_1 S (g n)) := by
  unfold dm_1
  split
  · exact h _ _
  · exact dct_none
theorem dct_r1 {S : List dm_V} {f : Nat → Nat → Nat → List dm_V → dm_O} {g : Nat → Nat → Nat → Nat → List dm_V → dm_O} (h : ∀ t p a S', dct (f t p a S') (fun n => g n t p a S')) : dct (dm_r1 S f) (fun n => dm_r1 S (g n)) := by
  unfold dm_r1
  split
  · exact h _ _ _ _
  · exact dct_none
theorem dct_ri {S : List dm_V} {f : Nat → Nat → Nat → Int → List dm_V → dm_O} {g : Nat → Nat → Nat → Nat → Int → List dm_V → dm_O} (h : ∀ t p a i S', dct (f t p a i S') (fun n => g n t p a i S')) : dct (dm_ri S f) (fun n => dm_ri S (g n)) := by
  unfold dm_ri
  split
  · exact h _ _ _ _ _
  · exact dct_none
theorem dct_ite {c : Prop} [Decidable c] {f1 f2 : dm_O} {g1 g2 : Nat → dm_O} (h1 : dct f1 g1) (h2 : dct f2 g2) : dct (if c then f1 else f2) (fun n => if c then g1 n else g2 n) := by
  by_cases q : c
  · simp only [if_pos q]; exact h1
  · simp only [if_neg q]; exact h2
theorem dct_ck {z : Int} {f : Int → dm_O} {g : Nat → Int → dm_O} (h : ∀ z, dct (f z) (fun n => g n z)) : dct (dm_ck z f) (fun n => dm_ck z (g n)) := dct_ite (h z) dct_none
theorem dct_ix {i : Int} {p : Nat} {f : dm_O} {g : Nat → dm_O} (h : dct f g) : dct (dm_ix i p f) (fun n => dm_ix i p (g n)) := dct_ite h dct_none
theorem dct_z1 {i : Int} {f : dm_O} {g : Nat → dm_O} (h : dct f g) : dct (dm_z1 i f) (fun n => dm_z1 i (g n)) := dct_ite h dct_none
theorem dct_geti {L : dm_L} {i : Nat} {f : Int → dm_O} {g : Nat → Int → dm_O} (h : ∀ z, dct (f z) (fun n => g n z)) : dct (dm_geti L i f) (fun n => dm_geti L i (g n)) := by
  unfold dm_geti
  split
  · exact h _
  · exact dct_none
theorem dct_getr {L : dm_L} {i : Nat} {f : Nat → Nat → Nat → dm_O} {g : Nat → Nat → Nat → Nat → dm_O} (h : ∀ t p a, dct (f t p a) (fun n => g n t p a)) : dct (dm_getr L i f) (fun n => dm_getr L i (g n)) := by
  unfold dm_getr
  split
  · exact h _ _ _
  · exact dct_none
theorem dct_put {L : dm_L} {i : Nat} {v : Option dm_V} {f : dm_L → dm_O} {g : Nat → dm_L → dm_O} (h : ∀ L, dct (f L) (fun n => g n L)) : dct (dm_put L i v f) (fun n => dm_put L i v (g n)) := dct_ite (h _) dct_none
theorem dct_cmp {c : Jvm.ClassFile.Cond} {x y : Int} {f1 f2 : dm_O} {g1 g2 : Nat → dm_O} (h1 : dct f1 g1) (h2 : dct f2 g2) : dct (dm_cmp c x y f1 f2) (fun n => dm_cmp c x y (g1 n) (g2 n)) := by
  cases c
  · exact dct_ite h1 h2
  · exact dct_ite h2 h1
  · exact dct_ite h1 h2
  · exact dct_ite h2 h1
  · exact dct_ite h1 h2
  · exact dct_ite h2 h1
theorem dct_tab {pc : Nat} {d lo hi : Int} {offs : Array Int} {x : Int} {f : Nat → dm_O} {g : Nat → Nat → dm_O} (h : ∀ q, dct (f q) (fun n => g n q)) : dct (dm_tab pc d lo hi offs x f) (fun n => dm_tab pc d lo hi offs x (g n)) := dct_ite (h _) (h _)
theorem dct_ld {sh : Nat → Nat × Nat} {h : dm_H} {a k : Nat} {d : List Nat} {f : dm_V → dm_O} {g : Nat → dm_V → dm_O} (hf : ∀ v, dct (f v) (fun n => g n v)) : dct (dm_ld true sh h a k d f) (fun n => dm_ld true sh h a k d (g n)) := by
  unfold dm_ld
  split <;> first | exact hf _ | exact dct_none
theorem dct_st {h : dm_H} {a k : Nat} {d : List Nat} {v : dm_V} {f : dm_H → dm_O} {g : Nat → dm_H → dm_O} (hf : ∀ h, dct (f h) (fun n => g n h)) : dct (dm_st true h a k d v f) (fun n => dm_st true h a k d v (g n)) := by
  unfold dm_st
  split
  · split
    · exact hf _
    · exact dct_z1 (hf _)
  · exact dct_ite (hf _) dct_none
  · exact dct_none
  · exact dct_none
  · exact dct_none
theorem dct_args {m : Nat} {S : List dm_V} {f : List dm_V → List dm_V → dm_O} {g : Nat → List dm_V → List dm_V → dm_O} (h : ∀ as S', dct (f as S') (fun n => g n as S')) : dct (dm_args m S f) (fun n => dm_args m S (g n)) := dct_ite (h _ _) dct_none
theorem dct_recv {ci : Option Nat} {as : List dm_V} {f : dm_O} {g : Nat → dm_O} (h : dct f g) : dct (dm_recv ci as f) (fun n => dm_recv ci as (g n)) := by
  unfold dm_recv
  split
  · exact h
  · exact dct_ite h dct_none
  · exact dct_none
theorem dct_disp {a : Nat} {f : Nat → Nat → Nat → dm_O} {g : Nat → Nat → Nat → Nat → dm_O} (h : ∀ y c b, dct (f y c b) (fun n => g n y c b)) : ∀ ds : List Nat, dct (dm_disp ds a f) (fun n => dm_disp ds a (g n))
  | [] => dct_none
  | [_] => dct_none
  | [_, _] => dct_none
  | _ :: _ :: _ :: ds => dct_ite (h _ _ _) (dct_disp h ds)
theorem dct_back {k : dm_K} {kn : Nat → dm_K} {T : dm_T} {pc : Nat} {L : dm_L} {S : List dm_V} {r : dm_O} {rn : Nat → dm_O} (hk : ∀ pc L S h, dct (k pc L S h) (fun n => kn n pc L S h)) (hr : dct r rn) : dct (dm_back k T pc L S r) (fun n => dm_back (kn n) T pc L S (rn n)) := by
  intro x hx
  cases hq : r with
  | none => rw [hq] at hx; cases hx
  | some w =>
    obtain ⟨N1, h1⟩ := hr w hq
    rw [hq] at hx
    have key : ∃ N, ∀ n, N ≤ n → dm_back (kn n) T pc L S (some w) = some x := by
      obtain ⟨r', h'⟩ := w
      cases r' with
      | inl ov =>
        cases ov with
        | some v => exact hk _ _ _ _ x hx
        | none => exact hk _ _ _ _ x hx
      | inr E =>
        have hx : (match dm_find T pc E with
          | some (g, j, n) => dm_put L j none (fun L' => k (g + n) L' [] h')
          | none => some (.inr E, h')) = some x := hx
        show ∃ N, ∀ m, N ≤ m → (match dm_find T pc E with
          | some (g, j, n) => dm_put L j none (fun L' => kn m (g + n) L' [] h')
          | none => some (.inr E, h')) = some x
        cases hfd : dm_find T pc E with
        | none => rw [hfd] at hx; exact ⟨0, fun _ _ => hx⟩
        | some w =>
          rw [hfd] at hx
          exact dct_put (f := fun L' => k (w.1 + w.2.2) L' [] h') (g := fun m L' => kn m (w.1 + w.2.2) L' [] h') (fun L' => hk _ _ _ _) x hx
    obtain ⟨N2, h2⟩ := key
    exact ⟨N1 + N2, fun n hn => by
      show dm_back (kn n) T pc L S (rn n) = some x
      rw [h1 n (by omega)]
      exact h2 n (by omega)⟩
section LIM
variable {call : Nat → List dm_V → dm_H → dm_O} {calln : Nat → Nat → List dm_V → dm_H → dm_O} {k : dm_K} {kn : Nat → dm_K} {sh : Nat → Nat × Nat}
theorem dct_call {T : dm_T} {pc : Nat} {L : dm_L} {S : List dm_V} {h : dm_H} {d cs : List Nat} (hc : ∀ y as h, dct (call y as h) (fun n => calln n y as h)) (hk : ∀ pc L S h, dct (k pc L S h) (fun n => kn n pc L S h)) : dct (dm_call call k T pc L S h d cs) (fun n => dm_call (calln n) (kn n) T pc L S h d cs) := by
  unfold dm_call
  split
  · exact dct_2 (fun _ _ _ => dct_ite (hk _ _ _ _) dct_none)
  · exact dct_2 (fun _ _ _ => dct_ite (hk _ _ _ _) dct_none)
  · exact dct_r1 (fun _ _ _ _ => dct_ite (hk _ _ _ _) dct_none)
  · split
    · exact dct_ite (dct_disp (fun _ _ _ => dct_back hk (hc _ _ _)) _) dct_none
    · exact dct_none
  · exact dct_args (fun _ _ => dct_back hk (hc _ _ _))
  · exact dct_args (fun _ _ => dct_back hk (hc _ _ _))
  · exact dct_args (fun _ _ => dct_back hk (hc _ _ _))
  · exact dct_args (fun _ _ => dct_back hk (hc _ _ _))
  · exact dct_args (fun _ _ => dct_recv (dct_back hk (hc _ _ _)))
  · exact dct_args (fun _ _ => dct_recv (dct_back hk (hc _ _ _)))
  · exact dct_args (fun _ _ => dct_recv (dct_back hk (hc _ _ _)))
  · exact dct_args (fun _ _ => dct_recv (dct_back hk (hc _ _ _)))
  · exact dct_none
set_option maxHeartbeats 4000000 in
theorem dct_exec {w : Nat} {T : dm_T} {pc len : Nat} {i : Instr} {d cs : List Nat} {L : dm_L} {S : List dm_V} {h : dm_H} (hc : ∀ y as h, dct (call y as h) (fun n => calln n y as h)) (hk : ∀ pc L S h, dct (k pc L S h) (fun n => kn n pc L S h)) : dct (dm_exec true w sh call k T pc len i d cs L S h) (fun n => dm_exec true w sh (calln n) (kn n) T pc len i d cs L S h) := by
  cases i
  all_goals dsimp only [dm_exec]
  all_goals (repeat' (first | exact hk _ _ _ _ | exact dct_none | exact dct_c _ | exact dct_call hc hk | refine dct_2 (fun _ _ _ => ?_) | refine dct_1 (fun _ _ => ?_) | refine dct_r1 (fun _ _ _ _ => ?_) | refine dct_ri (fun _ _ _ _ _ => ?_) | refine dct_ck (fun _ => ?_) | refine dct_ix ?_ | refine dct_z1 ?_ | refine dct_geti (fun _ => ?_) | refine dct_getr (fun _ _ _ => ?_) | refine dct_put (fun _ => ?_) | refine dct_cmp ?_ ?_ | refine dct_tab (fun _ => ?_) | refine dct_ld (fun _ => ?_) | refine dct_st (fun _ => ?_) | refine dct_ite ?_ ?_ | split))
end LIM
theorem dle_of {f g : dm_O} (h : dct f (fun _ => g)) : ∀ x, f = some x → g = some x := fun x hx => by
  obtain ⟨N, hN⟩ := h x hx
  exact hN N (Nat.le_refl _)
theorem dm_loop_mono {C : List dm_E1} {T : dm_T} {w : Nat} {sh : Nat → Nat × Nat} {call call' : Nat → List dm_V → dm_H → dm_O} (hc : ∀ y as h x, call y as h = some x → call' y as h = some x) : ∀ (n n' : Nat), n ≤ n' → ∀ pc L S h x, dm_loop C T w true sh call n pc L S h = some x → dm_loop C T w true sh call' n' pc L S h = some x
  | 0, _, _ => fun _ _ _ _ _ h => nomatch (show (none : dm_O) = some _ from h)
  | n + 1, 0, hn => absurd hn (by omega)
  | n + 1, n' + 1, hn => by
    intro pc L S h x hx
    have ih := dm_loop_mono (C := C) (T := T) (w := w) (sh := sh) hc n n' (by omega)
    have hx : (match dm_at C pc with
      | some (i, len, d, cs) => dm_exec true w sh call (dm_loop C T w true sh call n) T pc len i d cs L S h
      | none => none) = some x := hx
    show (match dm_at C pc with
      | some (i, len, d, cs) => dm_exec true w sh call' (dm_loop C T w true sh call' n') T pc len i d cs L S h
      | none => none) = some x
    cases hat : dm_at C pc with
    | none => rw [hat] at hx; cases hx
    | some z =>
      obtain ⟨i, len, d, cs⟩ := z
      rw [hat] at hx
      exact dle_of (dct_exec (calln := fun _ => call') (kn := fun _ => dm_loop C T w true sh call' n') (fun y as h x hx => ⟨0, fun _ _ => hc _ _ _ _ hx⟩) (fun pc L S h x hx => ⟨0, fun _ _ => ih _ _ _ _ _ hx⟩)) x hx
theorem dm_inv_mono {P : dm_Pg} {sh : Nat → Nat × Nat} : ∀ (d d' n n' : Nat), d ≤ d' → n ≤ n' → ∀ y as h x, dm_inv P true sh d n y as h = some x → dm_inv P true sh d' n' y as h = some x
  | 0, _, _, _, _, _ => fun _ _ _ _ h => nomatch (show (none : dm_O) = some _ from h)
  | d + 1, 0, _, _, hd, _ => absurd hd (by omega)
  | d + 1, d' + 1, n, n', hd, hn => fun y as h x hx => dm_loop_mono (fun y as h x hx => dm_inv_mono d d' n n' (by omega) hn y as h x hx) n n' hn 0 _ [] h x hx
noncomputable def dlim (f : Nat → dm_O) : dm_O := @dite dm_O (∃ n x, f n = some x) (Classical.propDecidable _) (fun h => f h.choose) (fun _ => none)
theorem dlim_some {f : Nat → dm_O} (hm : ∀ n n' x, n ≤ n' → f n = some x → f n' = some x) {x : dm_X} : dlim f = some x ↔ ∃ n, f n = some x := by
  unfold dlim
  constructor
  · intro h
    split at h
    · exact ⟨_, h⟩
    · cases h
  · rintro ⟨n, hn⟩
    have hq : ∃ n x, f n = some x := ⟨n, x, hn⟩
    rw [dif_pos hq]
    obtain ⟨z, hz⟩ := hq.choose_spec
    rcases Nat.le_total n hq.choose with q | q
    · exact hm _ _ _ q hn
    · have := hm _ _ _ q hz
      rw [hn] at this
      rw [hz, this]
/-- what method y comes to, in calls at most d deep -/
noncomputable def dF (d y : Nat) (as : List dm_V) (h : dm_H) : dm_O := dlim (fun n => dm_inv dm_P true dm_sh d n y as h)
noncomputable def dL (d y : Nat) : dm_K := fun pc L S h => dlim (fun n => dm_loop (dm_P y).1 (dm_P y).2.1 (dm_P y).2.2.2 true dm_sh (dm_inv dm_P true dm_sh d n) n pc L S h)
theorem dF_iff {d y : Nat} {as : List dm_V} {h : dm_H} {x : dm_X} : dF d y as h = some x ↔ ∃ n, dm_inv dm_P true dm_sh d n y as h = some x := dlim_some (fun n n' x hn hx => dm_inv_mono d d n n' (Nat.le_refl _) hn y as h x hx)
theorem dL_iff {d y pc : Nat} {L : dm_L} {S : List dm_V} {h : dm_H} {x : dm_X} : dL d y pc L S h = some x ↔ ∃ n, dm_loop (dm_P y).1 (dm_P y).2.1 (dm_P y).2.2.2 true dm_sh (dm_inv dm_P true dm_sh d n) n pc L S h = some x := dlim_some (fun n n' x hn hx => dm_loop_mono (fun y as h x hx => dm_inv_mono d d n n' (Nat.le_refl _) hn y as h x hx) n n' hn pc L S h x hx)
theorem dO_ext {a b : dm_O} (h1 : ∀ x, a = some x → b = some x) (h2 : ∀ x, b = some x → a = some x) : a = b := by
  cases a with
  | some x => exact (h1 x rfl).symm
  | none =>
    cases b with
    | none => rfl
    | some x => exact h2 x rfl
theorem dF_in {d y : Nat} (hd : 1 ≤ d) (as : List dm_V) (h : dm_H) : dF d y as h = dL (d - 1) y 0 (dm_ent (dm_P y).2.2.1 as) [] h := by
  obtain ⟨d, rfl⟩ : ∃ e, d = e + 1 := ⟨d - 1, by omega⟩
  rfl
theorem dF_mono {d d' y : Nat} {as : List dm_V} {h : dm_H} {x : dm_X} (hd : d ≤ d') (hx : dF d y as h = some x) : dF d' y as h = some x := by
  obtain ⟨n, hn⟩ := dF_iff.mp hx
  exact dF_iff.mpr ⟨n, dm_inv_mono d d' n n hd (Nat.le_refl _) y as h x hn⟩
/-- one step -/
noncomputable def dS1 (d y : Nat) (C : List dm_E1) (T : dm_T) (w : Nat) (k : dm_K) : dm_K := fun pc L S h => match dm_at C pc with
  | some (i, len, dd, cs) => dm_exec true w dm_sh (dF d) k T pc len i dd cs L S h
  | none => none
theorem dL_step (d y : Nat) : dL d y = dS1 d y (dm_P y).1 (dm_P y).2.1 (dm_P y).2.2.2 (dL d y) := by
  funext pc L S h
  apply dO_ext
  · intro x hx
    obtain ⟨n, hn⟩ := dL_iff.mp hx
    cases n with
    | zero => exact nomatch (show (none : dm_O) = some x from hn)
    | succ n =>
      have hn : (match dm_at (dm_P y).1 pc with
        | some (i, len, dd, cs) => dm_exec true (dm_P y).2.2.2 dm_sh (dm_inv dm_P true dm_sh d (n + 1)) (dm_loop (dm_P y).1 (dm_P y).2.1 (dm_P y).2.2.2 true dm_sh (dm_inv dm_P true dm_sh d (n + 1)) n) (dm_P y).2.1 pc len i dd cs L S h
        | none => none) = some x := hn
      unfold dS1
      cases hat : dm_at (dm_P y).1 pc with
      | none => rw [hat] at hn; cases hn
      | some z =>
        obtain ⟨i, len, dd, cs⟩ := z
        rw [hat] at hn
        exact dle_of (dct_exec (calln := fun _ => dF d) (kn := fun _ => dL d y) (fun y as h x hx => ⟨0, fun _ _ => dF_iff.mpr ⟨n + 1, hx⟩⟩) (fun pc L S h x hx => ⟨0, fun _ _ => dL_iff.mpr ⟨n + 1, dm_loop_mono (fun _ _ _ _ q => q) n (n + 1) (by omega) pc L S h x hx⟩⟩)) x hn
  · intro x hx
    unfold dS1 at hx
    cases hat : dm_at (dm_P y).1 pc with
    | none => rw [hat] at hx; cases hx
    | some z =>
      obtain ⟨i, len, dd, cs⟩ := z
      rw [hat] at hx
      obtain ⟨N, hN⟩ := dct_exec (calln := fun n => dm_inv dm_P true dm_sh d n) (kn := fun n => dm_loop (dm_P y).1 (dm_P y).2.1 (dm_P y).2.2.2 true dm_sh (dm_inv dm_P true dm_sh d n) n) (fun y as h x hx => by
        obtain ⟨n, hn⟩ := dF_iff.mp hx
        exact ⟨n, fun m hm => dm_inv_mono d d n m (Nat.le_refl _) hm y as h x hn⟩) (fun pc L S h x hx => by
        obtain ⟨n, hn⟩ := dL_iff.mp hx
        exact ⟨n, fun m hm => dm_loop_mono (fun y as h x hx => dm_inv_mono d d n m (Nat.le_refl _) hm y as h x hx) n m hm pc L S h x hn⟩) x hx
      have hN := hN N (Nat.le_refl _)
      refine dL_iff.mpr ⟨N + 1, ?_⟩
      show (match dm_at (dm_P y).1 pc with
        | some (i, len, dd, cs) => dm_exec true (dm_P y).2.2.2 dm_sh (dm_inv dm_P true dm_sh d (N + 1)) (dm_loop (dm_P y).1 (dm_P y).2.1 (dm_P y).2.2.2 true dm_sh (dm_inv dm_P true dm_sh d (N + 1)) N) (dm_P y).2.1 pc len i dd cs L S h
        | none => none) = some x
      rw [hat]
      exact dle_of (dct_exec (calln := fun _ => dm_inv dm_P true dm_sh d (N + 1)) (kn := fun _ => dm_loop (dm_P y).1 (dm_P y).2.1 (dm_P y).2.2.2 true dm_sh (dm_inv dm_P true dm_sh d (N + 1)) N) (fun y as h x hx => ⟨0, fun _ _ => dm_inv_mono d d N (N + 1) (Nat.le_refl _) (by omega) y as h x hx⟩) (fun pc L S h x hx => ⟨0, fun _ _ => dm_loop_mono (fun y as h x hx => dm_inv_mono d d N (N + 1) (Nat.le_refl _) (by omega) y as h x hx) N N (Nat.le_refl _) pc L S h x hx⟩)) x hN
/-- a call, or a jump by a table: behind it the machine goes on as it goes -/
def dm_isc (i : Instr) (dd : List Nat) : Bool := match i with
  | .invokestatic _ => (match dd with
    | [3] => false
    | [4] => false
    | _ => true)
  | .invokespecial _ => (match dd with
    | [7] => false
    | _ => true)
  | .invokevirtual _ => true
  | .tableswitch _ _ _ _ => true
  | _ => false
/-- many steps, to the places of st -/
noncomputable def dRn (d y : Nat) (C : List dm_E1) (T : dm_T) (w : Nat) (st : List Nat) : Nat → dm_K
  | 0 => dL d y
  | n + 1 => fun pc L S h => match dm_at C pc with
    | some (i, len, dd, cs) => dm_exec true w dm_sh (dF d) (match dm_isc i dd with
      | true => dL d y
      | false => fun pc L S h => match List.elem pc st with
        | true => dL d y pc L S h
        | false => dRn d y C T w st n pc L S h) T pc len i dd cs L S h
    | none => none
theorem dR_eq (d y : Nat) {C : List dm_E1} {T : dm_T} {w nl : Nat} (hP : dm_P y = (C, T, nl, w)) (st : List Nat) : ∀ n : Nat, dL d y = dRn d y C T w st n
  | 0 => rfl
  | n + 1 => by
    have hk : ∀ b : Bool, (match b with
      | true => dL d y
      | false => fun pc L S h => match List.elem pc st with
        | true => dL d y pc L S h
        | false => dRn d y C T w st n pc L S h) = dL d y := by
      intro b
      cases b
      · funext pc L S h
        rw [← dR_eq d y hP st n]
        show (match List.elem pc st with
          | true => dL d y pc L S h
          | false => dL d y pc L S h) = _
        cases List.elem pc st <;> rfl
      · rfl
    funext pc L S h
    rw [dL_step]
    unfold dS1
    show _ = (match dm_at C pc with
      | some (i, len, dd, cs) => dm_exec true w dm_sh (dF d) (match dm_isc i dd with
        | true => dL d y
        | false => fun pc L S h => match List.elem pc st with
          | true => dL d y pc L S h
          | false => dRn d y C T w st n pc L S h) T pc len i dd cs L S h
      | none => none)
    rw [hP]
    show (match dm_at C pc with
      | some (i, len, dd, cs) => dm_exec true w dm_sh (dF d) (dL d y) T pc len i dd cs L S h
      | none => none) = _
    cases dm_at C pc with
    | none => rfl
    | some z =>
      obtain ⟨i, len, dd, cs⟩ := z
      show _ = dm_exec true w dm_sh (dF d) (match dm_isc i dd with
        | true => dL d y
        | false => fun pc L S h => match List.elem pc st with
          | true => dL d y pc L S h
          | false => dRn d y C T w st n pc L S h) T pc len i dd cs L S h
      rw [hk]
abbrev lI (x : Int) : Option dm_V := some (.inl x)
abbrev lR (k p a : Nat) : Option dm_V := some (.inr (.inl (k, p, a)))
abbrev rI (x : Int) (h : dm_H) : dm_O := some (.inl (some (.inl x)), h)
abbrev rR (k p a : Nat) (h : dm_H) : dm_O := some (.inl (some (.inr (.inl (k, p, a)))), h)
abbrev rV (h : dm_H) : dm_O := some (.inl none, h)
abbrev rX (E : Nat) (h : dm_H) : dm_O := some (.inr E, h)
