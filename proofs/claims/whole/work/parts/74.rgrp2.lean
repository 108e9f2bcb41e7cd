/-! THE REFERENCE FINDS GROUPS -/
section RG2
variable {cl kd ly : Int → Int} {oc : Int → Int → Prop} {u : mU} {p : Int}
theorem Itr_cg {ρ : mR} {ω : mW} {N : Int} {h h' : dm_H} {l : List mA} (e1 : ∀ i, i = 32 ∨ i = 33 → gi h' 165 i = gi h 165 i) (e2 : ∀ a i, a = 185 ∨ a = 186 ∨ a = 187 → gi h' a i = gi h a i) (k : Itr ρ ω N h l) : Itr ρ ω N h' l := by
  have a1 := e1 32 (Or.inl rfl)
  have a2 := e1 33 (Or.inr rfl)
  have b1 : ∀ i, gi h' 185 i = gi h 185 i := fun i => e2 _ i (by omega)
  have b2 : ∀ i, gi h' 186 i = gi h 186 i := fun i => e2 _ i (by omega)
  have b3 : ∀ i, gi h' 187 i = gi h 187 i := fun i => e2 _ i (by omega)
  have bl : ∀ i, lv h' i = lv h i := fun i => lv_oth b1 b2 i
  have bv : va h' 185 = va h 185 := by
    funext s
    unfold va
    rw [b1]
  obtain ⟨k1, k2⟩ := k
  refine ⟨by rw [a1]; exact k1, ?_⟩
  rcases k2 with ⟨q1, q2, q3, q4, q5⟩ | ⟨q1, q2, q3⟩ | ⟨q1, q2, q3⟩
  · exact Or.inl ⟨by rw [a2]; exact q1, by rw [b3]; exact q2, fun s s0 s1 => by rw [b2]; exact q3 s s0 s1, by rw [bv]; exact q4, by rw [bv]; exact q5⟩
  · refine Or.inr (Or.inl ⟨q1, ⟨by rw [a1]; exact q2.1, by rw [a2]; exact q2.2.1, CM_oth b1 b2 q2.2.2.1, fun i i0 i1 => ?_⟩, ?_⟩)
    · rw [b3, bl]; exact q2.2.2.2 i i0 i1
    · rw [q3]
      exact (remn_congr _ (fun i _ _ => ⟨bl i, b3 i⟩)).symm
  · exact Or.inr (Or.inr ⟨q1, by rw [a2]; exact q2, q3⟩)
/-- one turn of the search -/
theorem s190u {d : Nat} (hd : 7 ≤ d) {h : dm_H} {l : List mA} (D : DC cl kd) (U : UR cl kd u p h) (R : RU cl kd ly oc u) (V : VW cl kd (rW h)) (I : Itr (rRl h p) (rW h) u.2.2.2.2 h l) :
    (l = [] → ∃ h', dF d 190 [dR 1 11 165, dI p] h = rI 0 h' ∧ eqr h h') ∧ (∀ a l', l = a :: l' → ∃ h', dF d 190 [dR 1 11 165, dI p] h = rI 1 h' ∧ eqr h h' ∧ va h' 185 = a ∧ Itr (rRl h' p) (rW h') u.2.2.2.2 h' l') := by
  obtain ⟨a1, a2⟩ := s190 hd (UR_GW D U R V).1 U.2.2.2.2.2.2.1 I
  refine ⟨a1, fun a l' q => ?_⟩
  obtain ⟨h', b1, b2, b3, b4⟩ := a2 a l' q
  have e := eqf_r (eqf_refl h) b2
  exact ⟨h', b1, b2, b3, by rw [eqf_R e, eqf_W e]; exact b4⟩
theorem VW_fr {h h' : dm_H} (f : frM h h') (V : VW cl kd (rW h)) : VW cl kd (rW h') := by
  rw [eqf_W (frM_f f)]; exact V
theorem s208 {d : Nat} (hd : 8 ≤ d) {h : dm_H} (D : DC cl kd) (U : UR cl kd u p h) (R : RU cl kd ly oc u) (hu : u.1 = 1 ∨ u.1 = 2) (V : VW cl kd (rW h)) :
    ∃ h' l, dF d 208 [dR 1 11 165, dI p] h = rV h' ∧ frM h h' ∧ (∀ a i, a = 179 ∨ a = 180 ∨ (a = 165 ∧ i = 27) → gi h' a i = gi h a i) ∧ GRr cl u l h' ∧ (∀ w, w ∈ l → w ∈ bnds u (rW h)) ∧ (gi h' 165 34 ≤ 32 → l = bnds u (rW h)) := by
  have hJ : ∀ w, w ∈ bnds u (rW h) → Jg u.2.2.2.1 u.2.2.2.2 w := fun w hw => bnds_J (RU_GW D R V) hw
  have D1 := (D u.2.1 R.2.1.1 R.2.1.2).1
  have f0 : frM h (si h 165 34 0) := ⟨fun a i n1 n2 n3 n4 => by rw [gi_si, if_neg (by omega)], fun _ _ => rfl, rfl⟩
  have U0 := UR_fr f0 U
  rw [f208 (by omega), b208_0, s179 (by omega) p 5 _ U.1 (by omega), bk_v, b208_12, show gi (si h 165 34 0) 172 (38 * p + 5) = u.2.2.2.2 from U0.2.2.2.2.1]
  obtain ⟨h1, t1, t2, t3, t6, t4⟩ := s189u (d := d - 1) (by omega) D U0 R (VW_fr f0 V)
  rw [t1, bk_n]
  have f1 := frM_trans f0 t2
  have eW0 : rW (si h 165 34 0) = rW h := eqf_W (frM_f f0)
  rw [eW0] at t4
  have n0 : gi h1 165 34 = 0 := by rw [t3, gi_sis]
  have loop : ∀ (l l1 : List mA) (H : dm_H) (w2 w3 : Option dm_V), l1 ++ l = bnds u (rW h) → frM h H → (∀ a i, a = 179 ∨ a = 180 ∨ (a = 165 ∧ i = 27) → gi H a i = gi h a i) → GRr cl u l1 H → Itr (rRl H p) (rW H) u.2.2.2.2 H l →
      ∃ h' l', dL (d - 1) 208 15 [lR 1 11 165, lI p, w2, w3] [] H = rV h' ∧ frM h h' ∧ (∀ a i, a = 179 ∨ a = 180 ∨ (a = 165 ∧ i = 27) → gi h' a i = gi h a i) ∧ GRr cl u l' h' ∧ (∀ w, w ∈ l' → w ∈ bnds u (rW h)) ∧ (gi h' 165 34 ≤ 32 → l' = bnds u (rW h)) := by
    intro l
    induction l with
    | nil =>
      intro l1 H w2 w3 el fH h3 G I
      obtain ⟨h', a1, a2⟩ := (s190u (d := d - 1) (by omega) D (UR_fr fH U) R (VW_fr fH V) I).1 rfl
      rw [b208_15, a1, bk_v, b208_20, if_pos rfl, b208_88]
      rw [List.append_nil] at el
      refine ⟨h', l1, rfl, frM_trans fH (frM_r a2), fun a i q => by rw [a2.1 a i (by omega) (by omega) (by omega) (by omega)]; exact h3 a i q, GRr_cg (fun a i q => a2.1 a i (by omega) (by omega) (by omega) (by omega)) G, fun w hw => by rw [← el]; exact hw, fun _ => el⟩
    | cons v l ih =>
      intro l1 H w2 w3 el fH h3 G I
      obtain ⟨h2, a1, a2, a3, a4⟩ := (s190u (d := d - 1) (by omega) D (UR_fr fH U) R (VW_fr fH V) I).2 v l rfl
      have f2 := frM_trans fH (frM_r a2)
      have h32 : ∀ a i, a = 179 ∨ a = 180 ∨ (a = 165 ∧ i = 27) → gi h2 a i = gi h a i := fun a i q => by rw [a2.1 a i (by omega) (by omega) (by omega) (by omega)]; exact h3 a i q
      have G2 : GRr cl u l1 h2 := GRr_cg (fun a i q => a2.1 a i (by omega) (by omega) (by omega) (by omega)) G
      have hv : v ∈ bnds u (rW h) := by rw [← el]; exact List.mem_append_right _ List.mem_cons_self
      have hJv := hJ v hv
      rw [b208_15, a1, bk_v, b208_20, if_neg (by decide)]
      by_cases q : 32 < gi h2 165 34
      · rw [if_pos q, b208_88]
        exact ⟨h2, l1, rfl, f2, h32, G2, fun w hw => by rw [← el]; exact List.mem_append_left _ hw, fun z => by omega⟩
      rw [if_neg q]
      have hn := G2.1
      have U2 := UR_fr f2 U
      have ht : ∀ i, 0 ≤ i → i < cl u.2.1 → 0 ≤ tv v (u.2.2.1 i) ∧ tv v (u.2.2.1 i) ≤ 99 := fun i i0 i1 => hd_r R hJv i0 i1
      have hg := gam_r (cl := cl) (u := u) (v := v) D1.1 ht
      -- behind the group: its sum
      have rest : ∀ (g : Int) (H : dm_H), frM h H → (∀ a i, a = 179 ∨ a = 180 ∨ (a = 165 ∧ i = 27) → gi H a i = gi h a i) → va H 185 = v → (0 ≤ g ∧ g < 40) → (0 ≤ gi H 189 g ∧ gi H 189 g ≤ 9999) → Itr (rRl H p) (rW H) u.2.2.2.2 H l → GRr cl u (l1 ++ [v]) (si H 189 g (m9 (gi H 189 g + gam cl u v))) →
          ∃ h' l', dL (d - 1) 208 37 [lR 1 11 165, lI p, w2, w3] [dI g] H = rV h' ∧ frM h h' ∧ (∀ a i, a = 179 ∨ a = 180 ∨ (a = 165 ∧ i = 27) → gi h' a i = gi h a i) ∧ GRr cl u l' h' ∧ (∀ w, w ∈ l' → w ∈ bnds u (rW h)) ∧ (gi h' 165 34 ≤ 32 → l' = bnds u (rW h)) := by
        intro g H fH h3 hva g40 hs IH GH
        have UH := UR_fr fH U
        have e0 : gi H 172 (38 * p + 0) = u.1 := by rw [Int.add_zero]; exact UH.2.1
        rw [b208_37, ix_p g40.1 (by omega), s179 (by omega) p 0 H U.1 (by omega), bk_v, b208_50, e0]
        have fin : ∀ (w3' : Option dm_V), ∃ h' l', dL (d - 1) 208 63 [lR 1 11 165, lI p, lI g, w3'] [dI (gam cl u v), dI (gi H 189 g)] H = rV h' ∧ frM h h' ∧ (∀ a i, a = 179 ∨ a = 180 ∨ (a = 165 ∧ i = 27) → gi h' a i = gi h a i) ∧ GRr cl u l' h' ∧ (∀ w, w ∈ l' → w ∈ bnds u (rW h)) ∧ (gi h' 165 34 ≤ 32 → l' = bnds u (rW h)) := by
          intro w3'
          have fS : frM H (si H 189 g (m9 (gi H 189 g + gam cl u v))) := ⟨fun a i n1 n2 n3 n4 => gi_sin (by omega), fun _ _ => rfl, rfl⟩
          have eS := frM_f fS
          have go := fun w2 w3 => ih (l1 ++ [v]) (si H 189 g (m9 (gi H 189 g + gam cl u v))) w2 w3 (by rw [List.append_assoc]; exact el) (frM_trans fH fS) (fun a i q => by rw [gi_sin (by omega)]; exact h3 a i q) GH (by
            rw [eqf_R eS, eqf_W eS]
            exact Itr_cg (fun i _ => gi_sin (by decide)) (fun a i q => gi_sin (by omega)) IH)
          rw [b208_63, ck_p (by omega) (by omega)]
          by_cases z : 9999 < gi H 189 g + gam cl u v
          · have e9 : m9 (gi H 189 g + gam cl u v) = 9999 := if_pos z
            rw [if_pos z, b208_84, ix_p g40.1 (by omega), ← e9]
            exact go _ _
          · have e9 : m9 (gi H 189 g + gam cl u v) = gi H 189 g + gam cl u v := if_neg z
            rw [e9] at go
            rw [if_neg z, b208_84, ix_p g40.1 (by omega)]
            exact go _ _
        rcases hu with hu | hu
        · have eg : gam cl u v = 1 := if_pos hu
          rw [if_pos hu]
          rw [eg] at fin
          exact fin _
        · have eg : gam cl u v = tv v (u.2.2.1 (cl u.2.1 - 1)) := if_neg (by omega)
          rw [if_neg (by omega), s205k (by omega) D UH R hva hJv, bk_v, ← eg]
          exact fin _
      rcases s209 (d := d - 1) (by omega) D U2 R a3 hJv hn with ⟨g, b1, b2, b3, b4⟩ | ⟨b1, _, b3⟩
      · rw [b1, bk_v]
        refine rest g h2 f2 h32 a3 (by omega) ?_ a4 (GRr_old G2 b2 b3 (gi_sin (by decide)) (fun x => gi_sin (by decide)) (fun x => ?_) hg.1)
        · rw [(G2.2.2.1 g b2.1 b2.2).2]
          exact m9_r (gsm_nn (fun w hw => (gam_r D1.1 (fun i i0 i1 => hd_r R (hJ w (by rw [← el]; exact List.mem_append_left _ hw)) i0 i1)).1))
        · rw [gi_si]
          by_cases z : x = g
          · rw [if_pos ⟨rfl, z⟩, if_pos z]
          · rw [if_neg (fun y => z y.2), if_neg z]
      · rw [b3 (by omega), bk_v]
        have fN : frM h2 (si (si (si (si h2 188 (gi h2 165 34) (gkv cl u v)) 189 (gi h2 165 34) 0) 190 (gi h2 165 34) 0) 165 34 (gi h2 165 34 + 1)) := ⟨fun a i n1 n2 n3 n4 => by rw [gi_si, if_neg (by omega), gi_sin (by omega), gi_sin (by omega), gi_sin (by omega)], fun _ _ => rfl, rfl⟩
        have eN := frM_f fN
        have z189 : gi (si (si (si (si h2 188 (gi h2 165 34) (gkv cl u v)) 189 (gi h2 165 34) 0) 190 (gi h2 165 34) 0) 165 34 (gi h2 165 34 + 1)) 189 (gi h2 165 34) = 0 := by rw [gi_sin (by decide), gi_sin (by decide), gi_sis]
        refine rest (gi h2 165 34) _ (frM_trans f2 fN) (fun a i q => by rw [gi_si, if_neg (by omega), gi_sin (by omega), gi_sin (by omega), gi_sin (by omega)]; exact h32 a i q) ?_ (by omega) (by rw [z189]; omega) ?_ (GRr_new G2 rfl (by omega) b1 ?_ (fun x => ?_) (fun x => ?_))
        · rw [← a3]
          funext s
          unfold va
          rw [gi_sin (by decide), gi_sin (by decide), gi_sin (by decide), gi_sin (by decide)]
        · rw [eqf_R eN, eqf_W eN]
          exact Itr_cg (fun i q => by rw [gi_sij (by omega), gi_sin (by decide), gi_sin (by decide), gi_sin (by decide)]) (fun a i q => by rw [gi_sin (by omega), gi_sin (by omega), gi_sin (by omega), gi_sin (by omega)]) a4
        · rw [gi_sin (by decide), gi_sis]
        · rw [gi_sin (by decide), gi_sin (by decide), gi_sin (by decide), gi_sin (by decide), gi_si]
          by_cases z : x = gi h2 165 34
          · rw [if_pos ⟨rfl, z⟩, if_pos z]
          · rw [if_neg (fun y => z y.2), if_neg z]
        · rw [z189, gi_si]
          by_cases z : x = gi h2 165 34
          · rw [if_pos ⟨rfl, z⟩, if_pos z]
          · rw [if_neg (fun y => z y.2), if_neg z, gi_sin (by decide), gi_sin (by decide), gi_sij z, gi_sin (by decide)]
  refine loop (bnds u (rW h)) [] h1 none none rfl f1 (fun a i q => ?_) ⟨by omega, fun x y x0 xy y1 => by omega, fun x x0 x1 => by omega, fun w hw => absurd hw List.not_mem_nil⟩ t4
  rw [t6 a i q, gi_si, if_neg (by omega)]
end RG2
