/-! calls: text by wip/whole/gen/simc.py -/
theorem dq_tve {L : Nat} {h : dm_H} {ad ad' : Nat → Nat} (hE : dq_ext h ad ad') {v : dm_V} (hv : dm_vk L h v) : dm_tv ad' v = dm_tv ad v := by
  have key : ∀ a : Nat, (a = 0 ∨ a < gz h ∨ 1000 ≤ a) → dm_rv ad' a = dm_rv ad a := by
    intro a ha
    unfold dm_rv
    split
    · rfl
    · rw [hE a (by omega)]
  unfold dm_vk at hv
  split at hv
  · rfl
  · exact key _ (Or.inl hv)
  · exact key _ (by rcases hv with q | q <;> omega)
  · exact key _ (by omega)
  · exact key _ (by omega)
  · exact key _ (Or.inr (Or.inl hv.2.2))
  · rfl
theorem dq_tvm {L : Nat} {h : dm_H} {ad ad' : Nat → Nat} (hE : dq_ext h ad ad') {S : List dm_V} (hv : ∀ v ∈ S, dm_vk L h v) : S.map (dm_tv ad') = S.map (dm_tv ad) := List.map_congr_left fun v h9 => dq_tve hE (hv v h9)
theorem dq_Lm {nL L : Nat} {h : dm_H} {ad ad' : Nat → Nat} (hE : dq_ext h ad ad') {Lc : dm_L} {ls : Array Slot} (hv : ∀ (i : Nat) (v : dm_V), Lc[i]? = some (some v) → dm_vk L h v ∧ dq_nl v) (k : dq_L nL ad Lc ls) : dq_L nL ad' Lc ls :=
  ⟨k.1, k.2.1, k.2.2.1, fun i v hi => by rw [dq_tve hE (hv i v hi).1]; exact k.2.2.2 i v hi⟩
theorem dq_ext.trans {h0 h : dm_H} {ad0 ad ad' : Nat → Nat} (h1 : dq_ext h0 ad0 ad) (h2 : dq_ext h ad ad') (hz : gz h0 ≤ gz h) : dq_ext h0 ad0 ad' := fun a ha => by rw [h2 a (by omega), h1 a ha]
theorem dq_os.call {sv : Bool} {L : Nat} {xs : Nat → Int} {h0 h : dm_H} {Lc : dm_L} {S S' : List dm_V} {x1 : dm_X} (k : dq_os sv L xs h0 h Lc S) (hx : dq_okx sv L xs h x1) (hv : ∀ v ∈ S', dm_vk L x1.2 v) : dq_os sv L xs h0 x1.2 Lc S' :=
  ⟨hx.1, ⟨Nat.le_trans k.2.1.1 hx.2.1, Nat.le_trans k.2.1.2.1 hx.2.2.1, Nat.le_trans k.2.1.2.2 hx.2.2.2.1⟩, hx.2.2.2.2.1, hv, fun i v hi => ⟨df_vkm hx.2.2.2.1 (k.2.2.2.2 i v hi).1, (k.2.2.2.2 i v hi).2⟩⟩
theorem dq_okx.trans {sv : Bool} {L : Nat} {xs : Nat → Int} {h : dm_H} {x1 x : dm_X} (k1 : dq_okx sv L xs h x1) (k2 : dq_okx sv L xs x1.2 x) : dq_okx sv L xs h x :=
  ⟨k2.1, Nat.le_trans k1.2.1 k2.2.1, Nat.le_trans k1.2.2.1 k2.2.2.1, Nat.le_trans k1.2.2.2.1 k2.2.2.2.1, k2.2.2.2.2⟩
/-- the handlers of the small machine are the machine's -/
def dq_Th (s : State) (args : Array Value) (c : Code) (own : String) (cc : ByteArray) (T : dm_T) (pc : Nat) : Prop := ∀ E : Nat, E < 3 → match dm_find T pc E with
  | none => ∀ z ∈ c.exceptionTable.toList, covers z pc = false ∨ (z.catchType ≠ 0 ∧ ∃ nm : String, (Cond.classLink own z.catchType nm).before args s = true ∧ va_Nc (dm_xn E) nm s)
  | some (g, j, n) => (∃ (pre : List ExceptionTableEntry) (z : ExceptionTableEntry) (suf : List ExceptionTableEntry), c.exceptionTable.toList = pre ++ z :: suf ∧ (∀ y ∈ pre, covers y pc = false ∨ (y.catchType ≠ 0 ∧ ∃ nm : String, (Cond.classLink own y.catchType nm).before args s = true ∧ va_Nc (dm_xn E) nm s)) ∧
      covers z pc = true ∧ z.catchType ≠ 0 ∧ (Cond.classLink own z.catchType (dm_xn E)).before args s = true ∧ z.handlerPc = g) ∧ (Cond.castable (dm_xn E) (dm_xn E)).before args s = true ∧
      ((n = 2 ∧ decode cc g = .ok (.astore j, 2)) ∨ (n = 1 ∧ ∃ j4 : Fin 4, (j4 : Nat) = j ∧ decode cc g = .ok (.astore_n j4, 1)))

section DQC
variable {p : Program} {l : Launch} {e : Env} {R : Room} {s : State} {m : MethodId} {args : Array Value} {below : List Frame} {meth : Method} {c : Code} {Q : State → Prop}
variable {own : String} {cc : ByteArray} {nL : Nat} {G : dm_G} {base b L u : Nat} {xs : Nat → Int} {sv : Bool} {h0 h : dm_H} {ad0 : Nat → Nat} {x : dm_X} {wrp pc : Nat} {call : Nat → List dm_V → dm_H → dm_O} {k : dm_K} {T : dm_T} {d cs : List Nat} {Lc : dm_L} {S : List dm_V}
variable {S' : List dm_V} {x1 xq : dm_X} {av : Array Value}
set_option maxHeartbeats 2000000 in
theorem dx_back (C : dq_C p l s m args meth c own cc nL G base b L u xs) (hs : dq_os sv L xs h0 h Lc S) (hS' : ∀ v ∈ S', dm_vk L h v) (hx1 : dq_okx sv L xs h x1) (hT : dq_Th s args c own cc T pc) (he : dm_back k T pc Lc S' (some x1) = some x) (Hk : ∀ (pc' : Nat) (Lc' : dm_L) (S' : List dm_V) (h' : dm_H), k pc' Lc' S' h' = some x → dq_os sv L xs h0 h' Lc' S' → dq_okx sv L xs h' x ∧ dq_Go p l e R s m args below meth c (dq_Q below G base h0 ad0 xq args s) nL G base b u h0 ad0 pc' Lc' S' h') (hxq : sv = true → xq = x)
    (Hrun : ∀ (ad : Nat → Nat) (ls : Array Slot) (H : Heap) (locs : List Loc), dq_L nL ad Lc ls → dm_Wd G base ad h H → va_S (dm_A base) s.heap H locs → dq_ext h0 ad0 ad → ad 1000 = b → ad 1001 = u → gc x1.2 ≤ gc x.2 → gs x1.2 ≤ gs x.2 →
      vx_Run p l e R s m args below meth c H locs (gc h - gc h0) (gs h - gs h0) (gc x1.2 - gc h) (gs x1.2 - gs h) (F0 m pc ls (S.map (dm_tv ad))) (S'.map (dm_tv ad)) (dq_Qc G base h ad x1 av) (dq_XC G base h ad x1) (dm_A base)) :
    dq_okx sv L xs h x ∧ dq_Go p l e R s m args below meth c (dq_Q below G base h0 ad0 xq args s) nL G base b u h0 ad0 pc Lc S h := by
  obtain ⟨hx, hb, hml, hown, hts, hEv, hSt, hbs, hlocks, hntr⟩ := id C
  have hz0 := hs.2.1
  have hz1 := hx1
  obtain ⟨-, z1, z2, z3, -⟩ := hz1
  have ec : gc h - gc h0 + (gc x1.2 - gc h) = gc x1.2 - gc h0 := by omega
  have es : gs h - gs h0 + (gs x1.2 - gs h) = gs x1.2 - gs h0 := by omega
  obtain ⟨r, h1⟩ := x1
  have keep : ∀ (v : Option dm_V) (S1 : List dm_V), r = .inl v → S1 = v.toList ++ S' → dq_okx sv L xs h1 x → dq_Go p l e R s m args below meth c (dq_Q below G base h0 ad0 xq args s) nL G base b u h0 ad0 (pc + 3) Lc S1 h1 → dq_Go p l e R s m args below meth c (dq_Q below G base h0 ad0 xq args s) nL G base b u h0 ad0 pc Lc S h := by
    intro v S1 hr hS1 hox h2 ad ls H locs hL hW hS hE hab hau
    have hrun := Hrun ad ls H locs hL hW hS hE hab hau hox.2.1 hox.2.2.1
    intro T9 hT9 X
    rcases hrun T9 hT9 X with ⟨v9, st₀, t, T', L', h00, X', hL', e1, e2, ⟨⟨ad', ov, hext, hov, ho, hWd⟩, hF⟩, st⟩ | ⟨q, st₀, t, T', L', E, ce, h00, X', hL', e1, e2, ⟨⟨ad', n, hext, hn, -, -⟩, -⟩, -⟩
    · subst hr
      cases hov
      cases ho
      obtain ⟨k1, k2, k3⟩ := vx_keep h00 e1 hS (fun _ _ q => q) (fun _ q => q) hL' hF
      have h3 := h2 ad' ls T'.heap (locs ++ L') (dq_Lm hext hs.2.2.2.2 hL) (by rw [e1]; exact hWd) k3 (hE.trans hext hz0.2.2) (by rw [hext 1000 (Or.inr (Nat.le_refl _)), hab]) (by rw [hext 1001 (Or.inr (by omega)), hau])
      subst hS1
      have em : (v.toList ++ S').map (dm_tv ad') = (v.map (dm_tv ad')).toList ++ S'.map (dm_tv ad) := by
        rw [List.map_append, dq_tvm hext hS']
        cases v <;> rfl
      rw [em] at h3
      rw [ec, es] at X'
      obtain ⟨t2, a1, b1⟩ := h3 T' rfl X'
      exact ⟨t2, st t2 a1, b1⟩
    · subst hr
      cases hn
  cases r with
  | inl ov =>
    cases ov with
    | some v =>
      have hv : dm_vk L h1 v ∧ dq_nl v := hx1.2.2.2.2.2.1 v rfl
      obtain ⟨h4, h5⟩ := Hk _ _ _ _ he (hs.call hx1 (dq_c (P := dm_vk L h1) hv.1 (fun w hw => df_vkm z3 (hS' w hw))))
      exact ⟨hx1.trans h4, keep (some v) (v :: S') rfl rfl h4 h5⟩
    | none =>
      obtain ⟨h4, h5⟩ := Hk _ _ _ _ he (hs.call hx1 (fun w hw => df_vkm z3 (hS' w hw)))
      exact ⟨hx1.trans h4, keep none S' rfl rfl h4 h5⟩
  | inr E =>
    obtain ⟨hE3, hsv⟩ := hx1.2.2.2.2.2.2 E rfl
    have hq9 := (hxq hsv).symm
    subst hq9
    have hTE := hT E hE3
    have he : (match dm_find T pc E with
      | some (g, j, n) => dm_put Lc j none (fun L' => k (g + n) L' [] h1)
      | none => some (.inr E, h1)) = some x := he
    cases hfd : dm_find T pc E with
    | none =>
      rw [hfd] at he hTE
      cases he
      refine ⟨hx1, fun ad ls H locs hL hW hS hE hab hau => ?_⟩
      have hrun := Hrun ad ls H locs hL hW hS hE hab hau (Nat.le_refl _) (Nat.le_refl _)
      intro T9 hT9 X
      rcases hrun T9 hT9 X with ⟨v9, st₀, t, T', L', h00, X', hL', e1, e2, ⟨⟨ad', ov, hext, hov, -, -⟩, -⟩, -⟩ | ⟨q, st₀, t, T', L', E', ce, h00, X', hL', e1, e2, ⟨⟨ad', n, hext, hn, hE', hWd⟩, hF⟩, hce, hcv, hcl, st⟩
      · cases hov
      · cases hn
        subst hE'
        obtain ⟨k1, k2, k3⟩ := vx_keep h00 e1 hS (fun _ _ q => q) (fun _ q => q) hL' hF
        rw [ec, es] at X'
        have h3 : vx_W p l e R s m args below meth c T'.heap (locs ++ L') (gc h1 - gc h0) (gs h1 - gs h0) (dq_Q below G base h0 ad0 (.inr E, h1) args s) (F0 m pc ls (S'.map (dm_tv ad))) q :=
          vx_outP hown hlocks hTE (by rw [e1]; exact hce) hcv hcl (fun t9 h9 _ => ⟨⟨ad', E, hE.trans hext hz0.2.2, rfl, rfl, by rw [h9, e1]; exact hWd⟩, k3.F h9⟩) (fun q hq => k3.2.2 q hq) (Nat.le_refl _) (Nat.le_refl _)
        obtain ⟨t2, a1, b1⟩ := h3 T' rfl X'
        exact ⟨t2, st.trans a1, b1⟩
    | some w =>
      obtain ⟨g, j, n⟩ := w
      rw [hfd] at he hTE
      obtain ⟨⟨pre, z, suf, t1, t2, t3, t4, t5, t6⟩, t7, t8⟩ := hTE
      obtain ⟨hj, he⟩ := di_put he
      obtain ⟨h4, h5⟩ := Hk _ _ _ _ he ((hs.call hx1 (S' := []) (fun w hw => nomatch hw)).set (fun w hw => nomatch hw) (fun w hw => nomatch hw))
      refine ⟨hx1.trans h4, fun ad ls H locs hL hW hS hE hab hau => ?_⟩
      have hrun := Hrun ad ls H locs hL hW hS hE hab hau h4.2.1 h4.2.2.1
      intro T9 hT9 X
      rcases hrun T9 hT9 X with ⟨v9, st₀, t, T', L', h00, X', hL', e1, e2, ⟨⟨ad', ov, hext, hov, -, -⟩, -⟩, -⟩ | ⟨q, st₀, t, T', L', E', ce, h00, X', hL', e1, e2, ⟨⟨ad', n', hext, hn, hE', hWd⟩, hF⟩, hce, hcv, hcl, st⟩
      · cases hov
      · cases hn
        subst hE'
        obtain ⟨k1, k2, k3⟩ := vx_keep h00 e1 hS (fun _ _ q => q) (fun _ q => q) hL' hF
        rw [ec, es] at X'
        subst t6
        have hL2 := dq_Lm hext hs.2.2.2.2 hL
        have hst := fun (ls' : Array Slot) hl' => h5 ad' ls' T'.heap (locs ++ L') (dq_forgot (i := j) (w := .ref q) (ls' := ls') (fun j v hv => (hs.2.2.2.2 j v hv).2) hL.2.1 hl') (by rw [e1]; exact hWd) k3 (hE.trans hext hz0.2.2) (by rw [hext 1000 (Or.inr (Nat.le_refl _)), hab]) (by rw [hext 1001 (Or.inr (by omega)), hau])
        have h3 : vx_W p l e R s m args below meth c T'.heap (locs ++ L') (gc h1 - gc h0) (gs h1 - gs h0) (dq_Q below G base h0 ad0 x args s) (F0 m pc ls (S'.map (dm_tv ad))) q := by
          refine vx_catch hown pre z suf t1 t2 t3 t4 t5 t7 (by rw [e1]; exact hce) hcv hcl ?_
          rcases t8 with ⟨rfl, t8⟩ | ⟨rfl, j4, rfl, t8⟩
          · exact lv_astore hx hb t8 (dq_has hL2) (by rw [← hL.2.1]; exact hj) rfl hst
          · exact lv_astore_n hx hb t8 rfl (dq_has hL2) (by rw [← hL.2.1]; exact hj) rfl hst
        obtain ⟨t2, a1, b1⟩ := h3 T' rfl X'
        exact ⟨t2, st.trans a1, b1⟩
end DQC
