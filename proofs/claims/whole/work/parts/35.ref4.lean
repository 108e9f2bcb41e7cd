/-! THE REFERENCE'S SEARCH: begins, finds -/
theorem s189 {d : Nat} (hd : 1 ≤ d) (n : Int) (h : dm_H) : dF d 189 [dR 1 11 165, dI n] h = rV (sv (sv (si (si (si (si h 165 32 n) 165 33 1) 165 31 0) 187 0 0) 185 (fun _ => -1)) 186 (fun _ => -1)) := by
  rw [f189 hd, b189_0, ix_p (by omega) (by omega)]
  generalize si (si (si (si h 165 32 n) 165 33 1) 165 31 0) 187 0 0 = H
  have key : ∀ (m : Nat) (i : Int), 0 ≤ i → i + m = 8 → dL (d - 1) 189 24 [lR 1 11 165, lI n, lI i] [] (fun b j => if (b = 185 ∨ b = 186) ∧ 0 ≤ j ∧ j < i then -1 else H.1 b j, H.2) = rV (sv (sv H 185 (fun _ => -1)) 186 (fun _ => -1)) := by
    intro m
    induction m with
    | zero =>
      intro i h0 hm
      have : i = 8 := by omega
      subst this
      rw [b189_24, if_neg (by omega)]
      congr 1
      unfold sv
      congr 1
      funext b j
      by_cases h1 : b = 186
      · subst h1; simp
      · by_cases h2 : b = 185
        · subst h2; simp
        · simp [h1, h2]
    | succ m ih =>
      intro i h0 hm
      rw [b189_24, if_pos (by omega), ix_p h0 (by omega), ix_p h0 (by omega), ck_p (by omega) (by omega), ← ih (i + 1) (by omega) (by omega)]
      congr 1
      unfold si
      congr 1
      funext b j
      by_cases hj : j = i
      · subst hj
        by_cases h1 : b = 186
        · subst h1; simp [h0, show j < j + 1 by omega]
        · by_cases h2 : b = 185
          · subst h2; simp [h0, show j < j + 1 by omega]
          · simp [h1, h2]
      · have e : (j < i + 1) ↔ (j < i) := by omega
        simp [hj, e]
  have e0 : (fun b j => if (b = 185 ∨ b = 186) ∧ 0 ≤ j ∧ j < (0 : Int) then -1 else H.1 b j, H.2) = H := by
    rcases H with ⟨H1, H2⟩
    congr 1
    funext b j
    rw [if_neg (by omega)]
  have := key 8 0 (by omega) (by omega)
  rw [e0] at this
  exact this
/-- heaps that differ in the search's own cells at most -/
def eqr (h h' : dm_H) : Prop := (∀ a i, a ≠ 185 → a ≠ 186 → a ≠ 187 → ¬ (a = 165 ∧ (i = 31 ∨ i = 33)) → gi h' a i = gi h a i) ∧ (∀ a i, gr h' a i = gr h a i) ∧ h'.2.2 = h.2.2
theorem eqr_refl (h : dm_H) : eqr h h := ⟨fun _ _ _ _ _ _ => rfl, fun _ _ => rfl, rfl⟩
theorem eqr_trans {h h1 h2 : dm_H} (a : eqr h h1) (b : eqr h1 h2) : eqr h h2 := ⟨fun c i q1 q2 q3 q4 => by rw [b.1 c i q1 q2 q3 q4, a.1 c i q1 q2 q3 q4], fun c i => by rw [b.2.1, a.2.1], by rw [b.2.2, a.2.2]⟩
theorem eqr_fg {h : dm_H} {k : Int} : eqr h (fg h k) := ⟨fun a i h1 h2 _ _ => by rw [gi_fg, if_neg (fun q => q.1.elim h1 h2)], fun _ _ => rfl, rfl⟩
theorem eqr_tk {h : dm_H} {k : Int} {u : mA} : eqr h (tk h k u) := ⟨fun a i h1 h2 _ _ => gi_tkn h1 h2, fun _ _ => rfl, rfl⟩
theorem eqr_c {h : dm_H} {k c : Int} : eqr h (si h 187 k c) := ⟨fun a i _ _ h3 _ => gi_sin h3, fun _ _ => rfl, rfl⟩
theorem eqr_l {h : dm_H} {k c : Int} (hk : k = 31 ∨ k = 33) : eqr h (si h 165 k c) := by
  refine ⟨fun a i _ _ _ h4 => ?_, fun _ _ => rfl, rfl⟩
  rw [gi_si, if_neg]
  rintro ⟨q1, q2⟩
  exact h4 ⟨q1, by omega⟩
/-- rules, columns and rows are those of h0 -/
def eqf (h0 h : dm_H) : Prop := (∀ i, gi h 172 i = gi h0 172 i) ∧ (∀ i, gi h 166 i = gi h0 166 i) ∧ (∀ i, gi h 177 i = gi h0 177 i) ∧ ∀ i, gi h 178 i = gi h0 178 i
theorem eqf_refl (h : dm_H) : eqf h h := ⟨fun _ => rfl, fun _ => rfl, fun _ => rfl, fun _ => rfl⟩
theorem eqf_r {h0 h h' : dm_H} (a : eqf h0 h) (b : eqr h h') : eqf h0 h' := ⟨fun i => by rw [b.1 172 i (by omega) (by omega) (by omega) (by omega), a.1], fun i => by rw [b.1 166 i (by omega) (by omega) (by omega) (by omega), a.2.1], fun i => by rw [b.1 177 i (by omega) (by omega) (by omega) (by omega), a.2.2.1], fun i => by rw [b.1 178 i (by omega) (by omega) (by omega) (by omega), a.2.2.2]⟩
theorem eqf_lq {h0 h : dm_H} (e : eqf h0 h) (p k w : Int) : lq h p k w = lq h0 p k w := e.1 _
theorem eqf_R {h0 h : dm_H} (e : eqf h0 h) (p : Int) : rRl h p = rRl h0 p := by
  unfold rRl
  have e1 : rsrt h p = rsrt h0 p := by funext k; unfold rsrt; simp only [eqf_lq e]
  have e2 : rsbj h p = rsbj h0 p := by funext k; unfold rsbj; simp only [eqf_lq e]
  have e3 : rwid h p = rwid h0 p := by funext k; unfold rwid; simp only [eqf_lq e, e.2.1]
  have e4 : rtrm h p = rtrm h0 p := by funext k i; unfold rtrm; simp only [eqf_lq e]
  rw [e1, e2, e3, e4]
theorem eqf_W {h0 h : dm_H} (e : eqf h0 h) : rW h = rW h0 := by
  unfold rW
  have e1 : (fun r => gi h 178 r) = (fun r => gi h0 178 r) := by funext r; exact e.2.2.2 r
  have e2 : (fun r => rrw h r) = (fun r => rrw h0 r) := by funext r x; exact e.2.2.1 _
  rw [e1, e2]
/-- what had numbers ahead of literal i -/
def lv (h : dm_H) (i : Int) : mA := fun s => if 0 ≤ s ∧ s < 8 ∧ ¬ i ≤ gi h 186 s then gi h 185 s else -1
section FND
variable {ρ : mR} {ω : mW} {N p : Int} {h0 : dm_H}
/-- who has given what -/
def CM (h : dm_H) (L : Int) : Prop := ∀ s, 0 ≤ s → s < 8 → (-1 ≤ gi h 186 s ∧ gi h 186 s ≤ L) ∧ (gi h 185 s = -1 → gi h 186 s = -1)
def LV (ρ : mR) (ω : mW) (h : dm_H) (L : Int) : Prop := ∀ i, 0 ≤ i → i ≤ L → cuk ρ ω i (gi h 187 i) ∧ Jg ρ i (lv h i)
def IT (ρ : mR) (ω : mW) (N : Int) (h : dm_H) (L : Int) : Prop := gi h 165 31 = L ∧ gi h 165 32 = N ∧ gi h 165 33 = 0 ∧ CM h L ∧ LV ρ ω h L
def FS (ρ : mR) (ω : mW) (N : Int) (h : dm_H) : Prop := gi h 165 32 = N ∧ gi h 165 33 = 0 ∧ CM h (N - 1) ∧ LV ρ ω h (N - 1)
/-- what is left at the levels below j -/
noncomputable def remn (ρ : mR) (ω : mW) (N : Int) (h : dm_H) : Nat → List mA
  | 0 => []
  | j + 1 => (ops ρ ω j (lv h j) (gi h 187 j)).flatMap (fun w => bnd ρ ω (N - j - 1).toNat (j + 1) w) ++ remn ρ ω N h j
theorem remn_congr {h h' : dm_H} : ∀ (j : Nat), (∀ i : Int, 0 ≤ i → i < j → lv h' i = lv h i ∧ gi h' 187 i = gi h 187 i) → remn ρ ω N h' j = remn ρ ω N h j
  | 0, _ => rfl
  | j + 1, hh => by
    obtain ⟨a1, a2⟩ := hh j (by omega) (by omega)
    unfold remn
    rw [a1, a2, remn_congr j (fun i i0 i1 => hh i i0 (by omega))]
theorem gi_fg6 {h : dm_H} {k s : Int} (hs : 0 ≤ s ∧ s < 8) : gi (fg h k) 186 s = if gi h 186 s = k then -1 else gi h 186 s := by
  rw [gi_fg]
  by_cases e : gi h 186 s = k
  · rw [if_pos e, if_pos ⟨Or.inr rfl, hs.1, hs.2, e⟩]
  · rw [if_neg e, if_neg (fun q => e q.2.2.2)]
theorem gi_fg5 {h : dm_H} {k s : Int} (hs : 0 ≤ s ∧ s < 8) : gi (fg h k) 185 s = if gi h 186 s = k then -1 else gi h 185 s := by
  rw [gi_fg]
  by_cases e : gi h 186 s = k
  · rw [if_pos e, if_pos ⟨Or.inl rfl, hs.1, hs.2, e⟩]
  · rw [if_neg e, if_neg (fun q => e q.2.2.2)]
theorem gi_tk5 {h : dm_H} {k s : Int} {u : mA} (hs : 0 ≤ s ∧ s < 8) : gi (tk h k u) 185 s = u s := by
  rw [gi_tk, if_pos ⟨rfl, hs⟩]
theorem gi_tk6 {h : dm_H} {k s : Int} {u : mA} (hs : 0 ≤ s ∧ s < 8) : gi (tk h k u) 186 s = if gi h 185 s = -1 ∧ u s ≠ -1 then k else gi h 186 s := by
  rw [gi_tk, if_neg (fun q => absurd q.1 (by decide))]
  by_cases e : gi h 185 s = -1 ∧ u s ≠ -1
  · rw [if_pos e, if_pos ⟨rfl, hs.1, hs.2, e⟩]
  · rw [if_neg e, if_neg (fun q => e q.2.2.2)]
theorem lv_in {h : dm_H} {i s : Int} (hs : 0 ≤ s ∧ s < 8) : lv h i s = if i ≤ gi h 186 s then -1 else gi h 185 s := by
  unfold lv
  by_cases e : i ≤ gi h 186 s
  · rw [if_pos e, if_neg (fun q => q.2.2 e)]
  · rw [if_neg e, if_pos ⟨hs.1, hs.2, e⟩]
theorem lv_out {h : dm_H} {i s : Int} (hs : ¬ (0 ≤ s ∧ s < 8)) : lv h i s = -1 := if_neg (fun q => hs ⟨q.1, q.2.1⟩)
theorem lv_fg {h : dm_H} {L i : Int} (hc : CM h L) (hi : i ≤ L) (hL : 0 ≤ L) (hi0 : 0 ≤ i) : lv (fg h L) i = lv h i := by
  funext s
  by_cases hs : 0 ≤ s ∧ s < 8
  · have hc := hc s hs.1 hs.2
    rw [lv_in hs, lv_in hs, gi_fg5 hs, gi_fg6 hs]
    by_cases e : gi h 186 s = L
    · simp only [if_pos e]
      rw [if_pos (show i ≤ gi h 186 s by omega)]
      split <;> rfl
    · simp only [if_neg e]
  · rw [lv_out hs, lv_out hs]
theorem va_fg {h : dm_H} {L : Int} (hc : CM h L) (hL : 0 ≤ L) : va (fg h L) 185 = lv h L := by
  funext s
  by_cases hs : 0 ≤ s ∧ s < 8
  · have hc := hc s hs.1 hs.2
    rw [va_in hs, lv_in hs, gi_fg5 hs]
    by_cases e : gi h 186 s = L
    · rw [if_pos e, if_pos (by omega)]
    · rw [if_neg e, if_neg (by omega)]
  · rw [lv_out hs, nv_va _ _ s hs]
theorem CM_fg {h : dm_H} {L : Int} (hc : CM h L) (hL : 0 ≤ L) : CM (fg h L) (L - 1) ∧ ∀ s, 0 ≤ s → s < 8 → gi (fg h L) 186 s ≠ L := by
  have key : ∀ s, 0 ≤ s → s < 8 → ((-1 ≤ gi (fg h L) 186 s ∧ gi (fg h L) 186 s ≤ L - 1) ∧ (gi (fg h L) 185 s = -1 → gi (fg h L) 186 s = -1)) := by
    intro s s0 s1
    have hc := hc s s0 s1
    rw [gi_fg5 ⟨s0, s1⟩, gi_fg6 ⟨s0, s1⟩]
    by_cases e : gi h 186 s = L
    · simp only [if_pos e]
      exact ⟨by omega, fun _ => trivial⟩
    · simp only [if_neg e]
      exact ⟨by omega, hc.2⟩
  exact ⟨key, fun s s0 s1 => by have := (key s s0 s1).1; omega⟩
theorem lv_tk {h : dm_H} {L i : Int} {u : mA} (hl : lev (va h 185) u) (hi : i ≤ L) : lv (tk h L u) i = lv h i := by
  funext s
  by_cases hs : 0 ≤ s ∧ s < 8
  · have hl := hl s
    rw [va_in hs] at hl
    rw [lv_in hs, lv_in hs, gi_tk5 hs, gi_tk6 hs]
    by_cases q : gi h 185 s = -1 ∧ u s ≠ -1
    · rw [if_pos q, if_pos hi, q.1]
      split <;> rfl
    · rw [if_neg q]
      have hu : u s = gi h 185 s := by
        by_cases q1 : gi h 185 s = -1
        · by_cases q2 : u s = -1
          · rw [q1, q2]
          · exact absurd ⟨q1, q2⟩ q
        · exact hl q1
      rw [hu]
  · rw [lv_out hs, lv_out hs]
theorem CM_tk {h : dm_H} {L : Int} {u : mA} (hL : 0 ≤ L) (hl : lev (va h 185) u) (hc : CM h (L - 1)) : CM (tk h L u) L := by
  intro s s0 s1
  have hc := hc s s0 s1
  have hl := hl s
  rw [va_in ⟨s0, s1⟩] at hl
  rw [gi_tk5 ⟨s0, s1⟩, gi_tk6 ⟨s0, s1⟩]
  by_cases q : gi h 185 s = -1 ∧ u s ≠ -1
  · rw [if_pos q]
    exact ⟨by omega, fun z => absurd z q.2⟩
  · rw [if_neg q]
    refine ⟨by omega, fun z => ?_⟩
    by_cases q1 : gi h 185 s = -1
    · exact hc.2 q1
    · rw [hl q1] at z
      exact absurd z q1
theorem lv_all {h : dm_H} {L i : Int} (hc : CM h L) (hi : L < i) : lv h i = va h 185 := by
  funext s
  unfold lv va
  by_cases hs : 0 ≤ s ∧ s < 8
  · have := (hc s hs.1 hs.2).1
    rw [if_pos (by omega), if_pos hs]
  · rw [if_neg (fun q => hs ⟨q.1, q.2.1⟩), if_neg hs]
theorem lv_oth {h h' : dm_H} (h1 : ∀ s, gi h' 185 s = gi h 185 s) (h2 : ∀ s, gi h' 186 s = gi h 186 s) (i : Int) : lv h' i = lv h i := by
  funext s
  unfold lv
  rw [h1, h2]
theorem CM_oth {h h' : dm_H} {L : Int} (h1 : ∀ s, gi h' 185 s = gi h 185 s) (h2 : ∀ s, gi h' 186 s = gi h 186 s) (hc : CM h L) : CM h' L := by
  intro s s0 s1
  rw [h1, h2]
  exact hc s s0 s1
theorem CM_le {h : dm_H} {L M : Int} (hc : CM h L) (hM : L ≤ M) : CM h M := fun s s0 s1 => ⟨⟨(hc s s0 s1).1.1, Int.le_trans (hc s s0 s1).1.2 hM⟩, (hc s s0 s1).2⟩
theorem cuk_0 (G : GW ρ ω N) {k : Int} (hk : 0 ≤ k ∧ k < N) : cuk ρ ω k 0 := by
  refine ⟨by omega, ?_⟩
  by_cases h : ρ.1 k = 0
  · rw [if_pos h]
    rcases G.2 k hk.1 hk.2 with ⟨_, _, _, _, q, _⟩ | ⟨q, _⟩ | ⟨q, _⟩
    · exact q.1
    · omega
    · omega
  · rw [if_neg h]; omega
theorem turn {d : Nat} (hd : 7 ≤ d) (G : GW (rRl h0 p) (rW h0) N) (F : RF h0 p N) {L : Int} {h : dm_H} (hL : 0 ≤ L ∧ L < N) (e0 : eqf h0 h) (I : IT (rRl h0 p) (rW h0) N h L) (w2 : Option dm_V) :
    (ops (rRl h0 p) (rW h0) L (lv h L) (gi h 187 L) = [] → ∃ h', dL (d - 1) 190 45 [lR 1 11 165, lI p, w2] [] h = dL (d - 1) 190 45 [lR 1 11 165, lI p, w2] [] h' ∧ eqr h h' ∧ IT (rRl h0 p) (rW h0) N h' (L - 1) ∧ ∀ i, 0 ≤ i → i < L → lv h' i = lv h i ∧ gi h' 187 i = gi h 187 i) ∧
    (∀ u us, ops (rRl h0 p) (rW h0) L (lv h L) (gi h 187 L) = u :: us → ∃ h2, eqr h h2 ∧ gi h2 165 31 = L + 1 ∧ gi h2 165 32 = N ∧ gi h2 165 33 = 0 ∧ CM h2 L ∧ va h2 185 = u ∧ LV (rRl h0 p) (rW h0) h2 L ∧ lv h2 L = lv h L ∧ ops (rRl h0 p) (rW h0) L (lv h L) (gi h2 187 L) = us ∧ (∀ i, 0 ≤ i → i < L → lv h2 i = lv h i ∧ gi h2 187 i = gi h 187 i) ∧ Jg (rRl h0 p) (L + 1) u ∧
      (L + 1 = N → dL (d - 1) 190 45 [lR 1 11 165, lI p, w2] [] h = rI 1 h2) ∧ (L + 1 < N → dL (d - 1) 190 45 [lR 1 11 165, lI p, w2] [] h = dL (d - 1) 190 45 [lR 1 11 165, lI p, w2] [] (si h2 187 (L + 1) 0))) := by
  obtain ⟨i1, i2, i3, i4, i5⟩ := I
  have hN4 := G.1
  have eRd : ∀ hx, eqf h0 hx → rRl hx p = rRl h0 p ∧ rW hx = rW h0 := fun hx e => ⟨eqf_R e p, eqf_W e⟩
  have e1 := eqf_r e0 (eqr_fg (h := h) (k := L))
  obtain ⟨c1, c2⟩ := CM_fg i4 hL.1
  have hva := va_fg i4 hL.1
  obtain ⟨l1, l2⟩ := i5 L hL.1 (Int.le_refl _)
  have g31 : gi (fg h L) 165 31 = L := by rw [gi_fg, if_neg (by omega)]; exact i1
  have g32 : gi (fg h L) 165 32 = N := by rw [gi_fg, if_neg (by omega)]; exact i2
  have g33 : gi (fg h L) 165 33 = 0 := by rw [gi_fg, if_neg (by omega)]; exact i3
  have g187 : ∀ j, gi (fg h L) 187 j = gi h 187 j := fun j => by rw [gi_fg, if_neg (by omega)]
  have hF1 : RF (fg h L) p N := ⟨F.1, fun k k0 k1 => by rw [eqf_lq e1]; exact F.2 k k0 k1⟩
  have h192 := s192 (d := d - 1) (by omega) (fg h L) (p := p) (N := N) (k := L) (v := lv h L) (by rw [(eRd _ e1).1, (eRd _ e1).2]; exact G) hF1 hL hva (by rw [(eRd _ e1).1]; exact l2) c2 (fun s s0 s1 => (c1 s s0 s1).2) (by rw [(eRd _ e1).1, (eRd _ e1).2, g187]; exact l1)
  rw [(eRd _ e1).1, (eRd _ e1).2, g187] at h192
  have hstep : dL (d - 1) 190 45 [lR 1 11 165, lI p, w2] [] h = dm_back (dL (d - 1) 190) dm_t190 66 [lR 1 11 165, lI p, w2] [] (dF (d - 1) 192 [dR 1 11 165, dI p, dI L] (fg h L)) := by
    rw [b190_45, i1, if_neg (by omega), s191 (by omega) L h (by omega), bk_n, b190_60, g31]
  rw [hstep]
  constructor
  · intro ho
    obtain ⟨c, hc⟩ := h192.1 ho
    refine ⟨si (si (fg h L) 187 L c) 165 31 (L - 1), ?_, eqr_trans eqr_fg (eqr_trans eqr_c (eqr_l (Or.inl rfl))), ?_, fun i i0 iL => ?_⟩
    · rw [hc, bk_v, b190_69, if_pos rfl, gi_sin (by omega), g31, ck_p (by omega) (by omega)]
    · have h5 : ∀ s, gi (si (si (fg h L) 187 L c) 165 31 (L - 1)) 185 s = gi (fg h L) 185 s := fun s => by rw [gi_sin (by omega), gi_sin (by omega)]
      have h6 : ∀ s, gi (si (si (fg h L) 187 L c) 165 31 (L - 1)) 186 s = gi (fg h L) 186 s := fun s => by rw [gi_sin (by omega), gi_sin (by omega)]
      refine ⟨by rw [gi_sis], by rw [gi_sij (by omega), gi_sin (by omega)]; exact g32, by rw [gi_sij (by omega), gi_sin (by omega)]; exact g33, CM_oth h5 h6 c1, fun i i0 iL => ?_⟩
      obtain ⟨m1, m2⟩ := i5 i i0 (by omega)
      rw [gi_sin (by omega), gi_sij (by omega), g187, lv_oth h5 h6, lv_fg i4 (by omega) hL.1 i0]
      exact ⟨m1, m2⟩
    · have h5 : ∀ s, gi (si (si (fg h L) 187 L c) 165 31 (L - 1)) 185 s = gi (fg h L) 185 s := fun s => by rw [gi_sin (by omega), gi_sin (by omega)]
      have h6 : ∀ s, gi (si (si (fg h L) 187 L c) 165 31 (L - 1)) 186 s = gi (fg h L) 186 s := fun s => by rw [gi_sin (by omega), gi_sin (by omega)]
      rw [gi_sin (by omega), gi_sij (by omega), g187, lv_oth h5 h6, lv_fg i4 (by omega) hL.1 i0]
      exact ⟨rfl, rfl⟩
  · intro u us ho
    obtain ⟨c, d1, d2, d3⟩ := h192.2 u us ho
    have humem : u ∈ opt (rRl h0 p) (rW h0) L (lv h L) := ops_mem (c := gi h 187 L) (by rw [ho]; exact List.mem_cons_self)
    obtain ⟨j1, j2⟩ := opt_J G hL l2 humem
    have hlev : lev (va (si (fg h L) 187 L c) 185) u := by
      have e : va (si (fg h L) 187 L c) 185 = lv h L := by
        rw [← hva]; funext s; unfold va; rw [gi_sin (by omega)]
      rw [e]; exact j2
    have hCM1 : CM (si (fg h L) 187 L c) (L - 1) := CM_oth (fun s => gi_sin (by omega)) (fun s => gi_sin (by omega)) c1
    have h5 : ∀ s, gi (si (tk (si (fg h L) 187 L c) L u) 165 31 (L + 1)) 185 s = gi (tk (si (fg h L) 187 L c) L u) 185 s := fun s => gi_sin (by omega)
    have h6 : ∀ s, gi (si (tk (si (fg h L) 187 L c) L u) 165 31 (L + 1)) 186 s = gi (tk (si (fg h L) 187 L c) L u) 186 s := fun s => gi_sin (by omega)
    have k31 : gi (tk (si (fg h L) 187 L c) L u) 165 31 = L := by rw [gi_tkn (by omega) (by omega), gi_sin (by omega)]; exact g31
    have k32 : gi (tk (si (fg h L) 187 L c) L u) 165 32 = N := by rw [gi_tkn (by omega) (by omega), gi_sin (by omega)]; exact g32
    have k33 : gi (tk (si (fg h L) 187 L c) L u) 165 33 = 0 := by rw [gi_tkn (by omega) (by omega), gi_sin (by omega)]; exact g33
    have hlv : ∀ i, 0 ≤ i → i ≤ L → lv (si (tk (si (fg h L) 187 L c) L u) 165 31 (L + 1)) i = lv h i := by
      intro i i0 iL
      rw [lv_oth h5 h6, lv_tk hlev iL, lv_oth (h := fg h L) (fun s => gi_sin (by omega)) (fun s => gi_sin (by omega)), lv_fg i4 iL hL.1 i0]
    have hcur : ∀ i, gi (si (tk (si (fg h L) 187 L c) L u) 165 31 (L + 1)) 187 i = if i = L then c else gi h 187 i := by
      intro i
      rw [gi_sin (by omega), gi_tkn (by omega) (by omega)]
      by_cases e : i = L
      · rw [if_pos e, e, gi_sis]
      · rw [if_neg e, gi_sij e, g187]
    refine ⟨si (tk (si (fg h L) 187 L c) L u) 165 31 (L + 1), eqr_trans eqr_fg (eqr_trans eqr_c (eqr_trans eqr_tk (eqr_l (Or.inl rfl)))), gi_sis, by rw [gi_sij (by omega)]; exact k32, by rw [gi_sij (by omega)]; exact k33, CM_oth h5 h6 (CM_tk hL.1 hlev hCM1), ?_, ?_, hlv L hL.1 (Int.le_refl _), ?_, ?_, j1, ?_, ?_⟩
    · rw [show va (si (tk (si (fg h L) 187 L c) L u) 165 31 (L + 1)) 185 = va (tk (si (fg h L) 187 L c) L u) 185 from by funext s; unfold va; rw [h5]]
      exact va_tk j1.1
    · intro i i0 iL
      obtain ⟨m1, m2⟩ := i5 i i0 iL
      rw [hcur, hlv i i0 iL]
      by_cases e : i = L
      · rw [if_pos e, e]; exact ⟨d1, by rw [← e]; exact m2⟩
      · rw [if_neg e]; exact ⟨m1, m2⟩
    · rw [hcur, if_pos rfl]; exact d2
    · intro i i0 iL
      rw [hcur, if_neg (by omega), hlv i i0 (by omega)]
      exact ⟨rfl, rfl⟩
    · intro e
      rw [d3, bk_v, b190_69, if_neg (by omega), k31, ck_p (by omega) (by omega), gi_sis, gi_sij (by omega), k32, if_pos e]
    · intro e
      rw [d3, bk_v, b190_69, if_neg (by omega), k31, ck_p (by omega) (by omega), gi_sis, gi_sij (by omega), k32, if_neg (by omega), ix_p (by omega) (by omega)]
theorem lvl {d : Nat} (hd : 7 ≤ d) (G : GW (rRl h0 p) (rW h0) N) (F : RF h0 p N) (w2 : Option dm_V) : ∀ (n : Nat) (L : Int), 0 ≤ L → L + (n + 1 : Nat) = N → ∀ (m : Nat) (h : dm_H), eqf h0 h → IT (rRl h0 p) (rW h0) N h L → (ops (rRl h0 p) (rW h0) L (lv h L) (gi h 187 L)).length ≤ m →
    ((ops (rRl h0 p) (rW h0) L (lv h L) (gi h 187 L)).flatMap (fun w => bnd (rRl h0 p) (rW h0) n (L + 1) w) = [] → ∃ h', dL (d - 1) 190 45 [lR 1 11 165, lI p, w2] [] h = dL (d - 1) 190 45 [lR 1 11 165, lI p, w2] [] h' ∧ eqr h h' ∧ IT (rRl h0 p) (rW h0) N h' (L - 1) ∧ ∀ i, 0 ≤ i → i < L → lv h' i = lv h i ∧ gi h' 187 i = gi h 187 i) ∧
    (∀ a l, (ops (rRl h0 p) (rW h0) L (lv h L) (gi h 187 L)).flatMap (fun w => bnd (rRl h0 p) (rW h0) n (L + 1) w) = a :: l → ∃ h', dL (d - 1) 190 45 [lR 1 11 165, lI p, w2] [] h = rI 1 h' ∧ eqr h h' ∧ va h' 185 = a ∧ FS (rRl h0 p) (rW h0) N h' ∧ remn (rRl h0 p) (rW h0) N h' N.toNat = l ++ remn (rRl h0 p) (rW h0) N h L.toNat) := by
  intro n
  induction n with
  | zero =>
    intro L hL hLN m h e0 I hm
    obtain ⟨t1, t2⟩ := turn hd G F (L := L) (h := h) ⟨hL, by omega⟩ e0 I w2
    cases ho : ops (rRl h0 p) (rW h0) L (lv h L) (gi h 187 L) with
    | nil =>
      exact ⟨fun _ => t1 ho, fun a l hq => nomatch (show ([] : List mA) = a :: l from hq)⟩
    | cons u us =>
      obtain ⟨h2, q1, q2, q3, q4, q5, q6, q7, q8, q9, q10, q11, q12, -⟩ := t2 u us ho
      refine ⟨fun hq => ?_, fun a l hq => ?_⟩
      · exact nomatch (show (u :: us.flatMap (fun w => bnd (rRl h0 p) (rW h0) 0 (L + 1) w)) = ([] : List mA) from hq)
      · have hq : (u :: us.flatMap (fun w => bnd (rRl h0 p) (rW h0) 0 (L + 1) w)) = a :: l := hq
        cases hq
        refine ⟨h2, q12 (by omega), q1, q6, ⟨q3, q4, CM_le q5 (by omega), fun i i0 iN => q7 i i0 (by omega)⟩, ?_⟩
        rw [show N.toNat = L.toNat + 1 by omega]
        show (ops (rRl h0 p) (rW h0) ((L.toNat : Nat) : Int) (lv h2 ((L.toNat : Nat) : Int)) (gi h2 187 ((L.toNat : Nat) : Int))).flatMap (fun w => bnd (rRl h0 p) (rW h0) (N - ((L.toNat : Nat) : Int) - 1).toNat (((L.toNat : Nat) : Int) + 1) w) ++ remn (rRl h0 p) (rW h0) N h2 L.toNat = _
        rw [show ((L.toNat : Nat) : Int) = L by omega, q8, q9, show (N - L - 1).toNat = 0 by omega, remn_congr L.toNat (fun i i0 iL => q10 i i0 (by omega))]
  | succ n ihn =>
    intro L hL hLN m
    induction m with
    | zero =>
      intro h e0 I hm
      have ho : ops (rRl h0 p) (rW h0) L (lv h L) (gi h 187 L) = [] := List.eq_nil_of_length_eq_zero (by omega)
      obtain ⟨t1, t2⟩ := turn hd G F (L := L) (h := h) ⟨hL, by omega⟩ e0 I w2
      rw [ho]
      exact ⟨fun _ => t1 ho, fun a l hq => nomatch (show ([] : List mA) = a :: l from hq)⟩
    | succ m ihm =>
      intro h e0 I hm
      obtain ⟨t1, t2⟩ := turn hd G F (L := L) (h := h) ⟨hL, by omega⟩ e0 I w2
      cases ho : ops (rRl h0 p) (rW h0) L (lv h L) (gi h 187 L) with
      | nil =>
        exact ⟨fun _ => t1 ho, fun a l hq => nomatch (show ([] : List mA) = a :: l from hq)⟩
      | cons u us =>
        obtain ⟨h2, q1, q2, q3, q4, q5, q6, q7, q8, q9, q10, q11, -, q13⟩ := t2 u us ho
        have hgo := q13 (by omega)
        have g5 : ∀ s, gi (si h2 187 (L + 1) 0) 185 s = gi h2 185 s := fun s => gi_sin (by omega)
        have g6 : ∀ s, gi (si h2 187 (L + 1) 0) 186 s = gi h2 186 s := fun s => gi_sin (by omega)
        have e4 : eqf h0 (si h2 187 (L + 1) 0) := eqf_r e0 (eqr_trans q1 eqr_c)
        have lvu : lv (si h2 187 (L + 1) 0) (L + 1) = u := by rw [lv_oth g5 g6, lv_all q5 (by omega), q6]
        have I4 : IT (rRl h0 p) (rW h0) N (si h2 187 (L + 1) 0) (L + 1) := by
          refine ⟨by rw [gi_sin (by omega)]; exact q2, by rw [gi_sin (by omega)]; exact q3, by rw [gi_sin (by omega)]; exact q4, CM_oth g5 g6 (CM_le q5 (by omega)), fun i i0 iL => ?_⟩
          by_cases e : i = L + 1
          · rw [e, gi_sis, lvu]
            exact ⟨cuk_0 G ⟨by omega, by omega⟩, q11⟩
          · rw [gi_sij e, lv_oth g5 g6]
            exact q7 i i0 (by omega)
        have hops4 : ops (rRl h0 p) (rW h0) (L + 1) (lv (si h2 187 (L + 1) 0) (L + 1)) (gi (si h2 187 (L + 1) 0) 187 (L + 1)) = opt (rRl h0 p) (rW h0) (L + 1) u := by
          rw [lvu, gi_sis, ops_0]
        obtain ⟨r1, r2⟩ := ihn (L + 1) (by omega) (by omega) _ (si h2 187 (L + 1) 0) e4 I4 (Nat.le_refl _)
        rw [hops4] at r1 r2
        have hB : ((u :: us).flatMap (fun w => bnd (rRl h0 p) (rW h0) (n + 1) (L + 1) w)) = (opt (rRl h0 p) (rW h0) (L + 1) u).flatMap (fun w => bnd (rRl h0 p) (rW h0) n (L + 1 + 1) w) ++ us.flatMap (fun w => bnd (rRl h0 p) (rW h0) (n + 1) (L + 1) w) := rfl
        rw [hB]
        have hlow : ∀ i, 0 ≤ i → i ≤ L → lv (si h2 187 (L + 1) 0) i = lv h2 i ∧ gi (si h2 187 (L + 1) 0) 187 i = gi h2 187 i := fun i i0 iL => ⟨lv_oth g5 g6 i, gi_sij (by omega)⟩
        cases hb : (opt (rRl h0 p) (rW h0) (L + 1) u).flatMap (fun w => bnd (rRl h0 p) (rW h0) n (L + 1 + 1) w) with
        | nil =>
          obtain ⟨h5, s1, s2, s3, s4⟩ := r1 hb
          have s3' : IT (rRl h0 p) (rW h0) N h5 L := by
            have := s3
            rwa [show L + 1 - 1 = L by omega] at this
          have hlvL : lv h5 L = lv h L := by rw [(s4 L hL (by omega)).1, (hlow L hL (Int.le_refl _)).1, q8]
          have hcL : gi h5 187 L = gi h2 187 L := by rw [(s4 L hL (by omega)).2, (hlow L hL (Int.le_refl _)).2]
          have hops5 : ops (rRl h0 p) (rW h0) L (lv h5 L) (gi h5 187 L) = us := by rw [hlvL, hcL, q9]
          have hlen : us.length ≤ m := by
            rw [ho] at hm
            simp only [List.length_cons] at hm
            omega
          obtain ⟨x1, x2⟩ := ihm h5 (eqf_r e4 s2) s3' (by rw [hops5]; exact hlen)
          rw [hops5] at x1 x2
          have hall : ∀ i, 0 ≤ i → i < L → lv h5 i = lv h i ∧ gi h5 187 i = gi h 187 i := by
            intro i i0 iL
            rw [(s4 i i0 (by omega)).1, (s4 i i0 (by omega)).2, (hlow i i0 (by omega)).1, (hlow i i0 (by omega)).2]
            exact q10 i i0 iL
          have er : eqr h h5 := eqr_trans q1 (eqr_trans eqr_c s2)
          refine ⟨fun hq => ?_, fun a l hq => ?_⟩
          · obtain ⟨h', y1, y2, y3, y4⟩ := x1 hq
            exact ⟨h', by rw [hgo, s1, y1], eqr_trans er y2, y3, fun i i0 iL => by rw [(y4 i i0 iL).1, (y4 i i0 iL).2]; exact hall i i0 iL⟩
          · obtain ⟨h', y1, y2, y3, y4, y5⟩ := x2 a l hq
            exact ⟨h', by rw [hgo, s1, y1], eqr_trans er y2, y3, y4, by rw [y5, remn_congr L.toNat (fun i i0 iL => hall i i0 (by omega))]⟩
        | cons b bs =>
          obtain ⟨h5, s1, s2, s3, s4, s5⟩ := r2 b bs hb
          refine ⟨fun hq => (nomatch hq), fun a l hq => ?_⟩
          cases hq
          refine ⟨h5, by rw [hgo, s1], eqr_trans q1 (eqr_trans eqr_c s2), s3, s4, ?_⟩
          rw [s5, show (L + 1).toNat = L.toNat + 1 by omega]
          show bs ++ ((ops (rRl h0 p) (rW h0) ((L.toNat : Nat) : Int) (lv (si h2 187 (L + 1) 0) ((L.toNat : Nat) : Int)) (gi (si h2 187 (L + 1) 0) 187 ((L.toNat : Nat) : Int))).flatMap (fun w => bnd (rRl h0 p) (rW h0) (N - ((L.toNat : Nat) : Int) - 1).toNat (((L.toNat : Nat) : Int) + 1) w) ++ remn (rRl h0 p) (rW h0) N (si h2 187 (L + 1) 0) L.toNat) = _
          rw [show ((L.toNat : Nat) : Int) = L by omega, (hlow L hL (Int.le_refl _)).1, (hlow L hL (Int.le_refl _)).2, q8, q9, show (N - L - 1).toNat = n + 1 by omega, remn_congr L.toNat (fun i i0 iL => ⟨(hlow i i0 (by omega)).1.trans (q10 i i0 (by omega)).1, (hlow i i0 (by omega)).2.trans (q10 i i0 (by omega)).2⟩)]
          exact (List.append_assoc bs _ _).symm
theorem down {d : Nat} (hd : 7 ≤ d) (G : GW (rRl h0 p) (rW h0) N) (F : RF h0 p N) (w2 : Option dm_V) : ∀ (j : Nat) (h : dm_H), (j : Int) ≤ N → eqf h0 h → IT (rRl h0 p) (rW h0) N h ((j : Int) - 1) →
    (remn (rRl h0 p) (rW h0) N h j = [] → ∃ h', dL (d - 1) 190 45 [lR 1 11 165, lI p, w2] [] h = rI 0 h' ∧ eqr h h') ∧
    (∀ a l, remn (rRl h0 p) (rW h0) N h j = a :: l → ∃ h', dL (d - 1) 190 45 [lR 1 11 165, lI p, w2] [] h = rI 1 h' ∧ eqr h h' ∧ va h' 185 = a ∧ FS (rRl h0 p) (rW h0) N h' ∧ remn (rRl h0 p) (rW h0) N h' N.toNat = l) := by
  intro j
  induction j with
  | zero =>
    intro h hj e0 I
    refine ⟨fun _ => ⟨h, ?_, eqr_refl h⟩, fun a l hq => nomatch (show ([] : List mA) = a :: l from hq)⟩
    rw [b190_45, I.1, if_pos (by omega)]
  | succ j ih =>
    intro h hj e0 I
    have e : ((j + 1 : Nat) : Int) - 1 = (j : Int) := by omega
    rw [e] at I
    obtain ⟨r1, r2⟩ := lvl hd G F w2 (N - j - 1).toNat j (by omega) (by omega) _ h e0 I (Nat.le_refl _)
    have hrem : remn (rRl h0 p) (rW h0) N h (j + 1) = (ops (rRl h0 p) (rW h0) j (lv h j) (gi h 187 j)).flatMap (fun w => bnd (rRl h0 p) (rW h0) (N - j - 1).toNat (j + 1) w) ++ remn (rRl h0 p) (rW h0) N h j := rfl
    rw [hrem]
    cases hb : (ops (rRl h0 p) (rW h0) j (lv h j) (gi h 187 j)).flatMap (fun w => bnd (rRl h0 p) (rW h0) (N - j - 1).toNat (j + 1) w) with
    | nil =>
      obtain ⟨h5, s1, s2, s3, s4⟩ := r1 hb
      obtain ⟨x1, x2⟩ := ih h5 (by omega) (eqf_r e0 s2) s3
      have hc := remn_congr (ρ := rRl h0 p) (ω := rW h0) (N := N) (h := h) (h' := h5) j (fun i i0 ij => s4 i i0 ij)
      rw [hc] at x1 x2
      refine ⟨fun hq => ?_, fun a l hq => ?_⟩
      · obtain ⟨h', y1, y2⟩ := x1 hq
        exact ⟨h', by rw [s1, y1], eqr_trans s2 y2⟩
      · obtain ⟨h', y1, y2, y3⟩ := x2 a l hq
        exact ⟨h', by rw [s1, y1], eqr_trans s2 y2, y3⟩
    | cons b bs =>
      obtain ⟨h5, s1, s2, s3, s4, s5⟩ := r2 b bs hb
      refine ⟨fun hq => (nomatch hq), fun a l hq => ?_⟩
      cases hq
      exact ⟨h5, s1, s2, s3, s4, by rw [s5]; rfl⟩
/-- the search stands before l -/
def Itr (ρ : mR) (ω : mW) (N : Int) (h : dm_H) (l : List mA) : Prop := gi h 165 32 = N ∧ ((gi h 165 33 = 1 ∧ gi h 187 0 = 0 ∧ (∀ s, 0 ≤ s → s < 8 → gi h 186 s = -1) ∧ Jg ρ 0 (va h 185) ∧ l = bnd ρ ω N.toNat 0 (va h 185)) ∨ (1 ≤ N ∧ FS ρ ω N h ∧ l = remn ρ ω N h N.toNat) ∨ (N = 0 ∧ gi h 165 33 = 0 ∧ l = []))
theorem s190 {d : Nat} (hd : 7 ≤ d) {h : dm_H} {l : List mA} (G : GW (rRl h p) (rW h) N) (F : RF h p N) (I : Itr (rRl h p) (rW h) N h l) :
    (l = [] → ∃ h', dF d 190 [dR 1 11 165, dI p] h = rI 0 h' ∧ eqr h h') ∧ (∀ a l', l = a :: l' → ∃ h', dF d 190 [dR 1 11 165, dI p] h = rI 1 h' ∧ eqr h h' ∧ va h' 185 = a ∧ Itr (rRl h p) (rW h) N h' l') := by
  obtain ⟨i1, I⟩ := I
  rw [f190 (by omega), b190_0, i1]
  have hN4 := G.1
  by_cases hN : N = 0
  · subst hN
    rw [if_pos rfl]
    rcases I with ⟨a1, a2, a3, a4, a5⟩ | ⟨a1, _⟩ | ⟨_, a2, a3⟩
    · rw [a1, z1_p (Or.inr rfl)]
      have a5 : l = [va h 185] := a5
      refine ⟨fun q => (by rw [q] at a5; cases a5), fun a l' q => ⟨_, rfl, eqr_l (Or.inr rfl), ?_, ?_⟩⟩
      · rw [a5] at q; cases q
        funext s; unfold va; rw [gi_sin (by omega)]
      · rw [a5] at q; cases q
        exact ⟨by rw [gi_sij (by omega)]; exact i1, Or.inr (Or.inr ⟨rfl, gi_sis, rfl⟩)⟩
    · omega
    · rw [a2, z1_p (Or.inl rfl)]
      exact ⟨fun _ => ⟨_, rfl, eqr_l (Or.inr rfl)⟩, fun a l' q => (by rw [a3] at q; cases q)⟩
  rw [if_neg hN]
  have hq : ∀ (z : Int), eqf h (si (si h 165 31 z) 165 33 0) := fun z => eqf_r (eqf_refl h) (eqr_trans (eqr_l (Or.inl rfl)) (eqr_l (Or.inr rfl)))
  have g5 : ∀ z s, gi (si (si h 165 31 z) 165 33 0) 185 s = gi h 185 s := fun z s => by rw [gi_sin (by omega), gi_sin (by omega)]
  have g6 : ∀ z s, gi (si (si h 165 31 z) 165 33 0) 186 s = gi h 186 s := fun z s => by rw [gi_sin (by omega), gi_sin (by omega)]
  have g7 : ∀ z s, gi (si (si h 165 31 z) 165 33 0) 187 s = gi h 187 s := fun z s => by rw [gi_sin (by omega), gi_sin (by omega)]
  have hfin : ∀ (z : Int) (j : Nat) (w2 : Option dm_V), (j : Int) ≤ N → (j : Int) - 1 = z → IT (rRl h p) (rW h) N (si (si h 165 31 z) 165 33 0) z → remn (rRl h p) (rW h) N (si (si h 165 31 z) 165 33 0) j = l →
      (l = [] → ∃ h', dL (d - 1) 190 37 [lR 1 11 165, lI p, w2] [dI z, dR 1 11 165] h = rI 0 h' ∧ eqr h h') ∧ (∀ a l', l = a :: l' → ∃ h', dL (d - 1) 190 37 [lR 1 11 165, lI p, w2] [dI z, dR 1 11 165] h = rI 1 h' ∧ eqr h h' ∧ va h' 185 = a ∧ Itr (rRl h p) (rW h) N h' l') := by
    intro z j w2 hj hz hI hrem
    rw [b190_37]
    obtain ⟨x1, x2⟩ := down hd G F w2 j (si (si h 165 31 z) 165 33 0) hj (hq z) (by rw [hz]; exact hI)
    rw [hrem] at x1 x2
    have er : eqr h (si (si h 165 31 z) 165 33 0) := eqr_trans (eqr_l (Or.inl rfl)) (eqr_l (Or.inr rfl))
    refine ⟨fun q => ?_, fun a l' q => ?_⟩
    · obtain ⟨h', y1, y2⟩ := x1 q
      exact ⟨h', y1, eqr_trans er y2⟩
    · obtain ⟨h', y1, y2, y3, y4, y5⟩ := x2 a l' q
      exact ⟨h', y1, eqr_trans er y2, y3, y4.1, Or.inr (Or.inl ⟨by omega, y4, y5.symm⟩)⟩
  rcases I with ⟨a1, a2, a3, a4, a5⟩ | ⟨a1, a2, a3⟩ | ⟨a1, _⟩
  · rw [a1, if_neg (by omega)]
    have hCM : CM (si (si h 165 31 0) 165 33 0) 0 := by
      intro s s0 s1
      rw [g5, g6, a3 s s0 s1]
      exact ⟨by omega, fun _ => rfl⟩
    have hlv0 : lv (si (si h 165 31 0) 165 33 0) 0 = va h 185 := by
      funext s
      by_cases hs : 0 ≤ s ∧ s < 8
      · rw [lv_in hs, va_in hs, g5, g6, a3 s hs.1 hs.2, if_neg (by omega)]
      · rw [lv_out hs, nv_va _ _ s hs]
    refine hfin 0 1 none (by omega) (by omega) ⟨by rw [gi_sij (by omega), gi_sis], by rw [gi_sij (by omega), gi_sij (by omega)]; exact i1, gi_sis, hCM, fun i i0 iL => ?_⟩ ?_
    · have : i = 0 := by omega
      subst this
      rw [g7, a2, hlv0]
      exact ⟨cuk_0 G ⟨by omega, by omega⟩, a4⟩
    · rw [a5]
      show (ops (rRl h p) (rW h) ((0 : Nat) : Int) (lv (si (si h 165 31 0) 165 33 0) ((0 : Nat) : Int)) (gi (si (si h 165 31 0) 165 33 0) 187 ((0 : Nat) : Int))).flatMap (fun w => bnd (rRl h p) (rW h) (N - ((0 : Nat) : Int) - 1).toNat (((0 : Nat) : Int) + 1) w) ++ [] = _
      rw [show ((0 : Nat) : Int) = 0 from rfl, g7, a2, hlv0, ops_0, List.append_nil, show N.toNat = (N - 0 - 1).toNat + 1 by omega]
      rfl
  · rw [a2.2.1, if_pos rfl, ck_p (by omega) (by omega)]
    refine hfin (N - 1) N.toNat none (by omega) (by omega) ⟨by rw [gi_sij (by omega), gi_sis], by rw [gi_sij (by omega), gi_sij (by omega)]; exact i1, gi_sis, CM_oth (g5 _) (g6 _) a2.2.2.1, fun i i0 iL => ?_⟩ ?_
    · rw [g7, lv_oth (g5 _) (g6 _)]
      exact a2.2.2.2 i i0 iL
    · rw [a3]
      exact remn_congr N.toNat (fun i i0 iN => ⟨lv_oth (g5 _) (g6 _) i, g7 _ i⟩)
  · exact absurd a1 hN
end FND
