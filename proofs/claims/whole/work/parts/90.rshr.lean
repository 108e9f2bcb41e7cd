/-! SHRINKING: the reference, its parts -/
/-- whether a term is a variable of a set -/
def isn (K x : Int) : Int := if x < 100 then 0 else if dm_and (dm_shr K (x - 100)) 1 = 1 then 1 else 0
theorem isn_01 (K x : Int) : isn K x = 0 ∨ isn K x = 1 := by unfold isn; repeat' split; all_goals omega
theorem s237 {d : Nat} (hd : 2 ≤ d) (K x : Int) (h : dm_H) (hx : -1 ≤ x ∧ x ≤ 107) : dF d 237 [dI K, dI x] h = rI (isn K x) h := by
  rw [f237 (by omega), b237_0, s200 (by omega), bk_v, b237_4]
  unfold isn
  by_cases z : 100 ≤ x
  · rw [bi_1 z, if_neg (by decide), ck_p (by omega) (by omega), if_neg (show ¬ x < 100 by omega)]
    by_cases y : dm_and (dm_shr K (x - 100)) 1 = 1
    · rw [if_pos y, if_pos y, b237_24, z1_p (Or.inr rfl)]
    · rw [if_neg y, if_neg y, b237_23, b237_24, z1_p (Or.inl rfl)]
  · rw [bi_0 z, if_pos rfl, b237_23, b237_24, z1_p (Or.inl rfl), if_pos (show x < 100 by omega)]
theorem isn_b {K x : Int} {q : Int → Prop} (hK : bst K q) (hx : x ≤ 107) : isn K x = 1 ↔ slot x ≠ -1 ∧ q (slot x) := by
  unfold isn
  by_cases z : x < 100
  · rw [if_pos z]
    exact ⟨fun w => by omega, fun w => absurd (slot_lt z) w.1⟩
  · have es := slot_v ⟨by omega, hx⟩
    have g := bt_1 (k := 8) (s := K) (j := x - 100) (by omega) hK.1 (by omega)
    have g2 := hK.2 (x - 100) (by omega) (by omega)
    rw [if_neg z, es]
    by_cases y : dm_and (dm_shr K (x - 100)) 1 = 1
    · rw [if_pos y]
      exact ⟨fun _ => ⟨by omega, g2.mp (g.mp y)⟩, fun _ => rfl⟩
    · rw [if_neg y]
      exact ⟨fun w => by omega, fun w => absurd (g.mpr (g2.mpr w.2)) y⟩
/-- the set with a term's variable, if it is one -/
theorem var_or {d : Nat} (hd : 1 ≤ d) (x : Int) (h : dm_H) (hx : -1 ≤ x ∧ x ≤ 107) : dF d 200 [dI x] h = rI (if 100 ≤ x then 1 else 0) h ∧ (100 ≤ x → dm_shl 1 (x - 100) = bitO x) ∧ (¬ 100 ≤ x → bitO x = 0) := by
  refine ⟨s200 hd x h, fun z => ?_, fun z => ?_⟩
  · unfold bitO
    rw [slot_v ⟨z, hx.2⟩, if_neg (by omega)]
  · unfold bitO
    rw [slot_lt (by omega), if_pos rfl]
section RS
variable {h : dm_H} {d : Nat} {p F R hd_ is k a b : Int}
/-- a comparison is looked at -/
def cfst (F R a b le : Int) : Int := if isn F a = 0 then 0 else if le = 0 then 0 else if isn (dm_or F R) b = 0 then 1 else 0
def csnd (F R a b le : Int) : Int := if isn R b = 0 then 0 else if le = 0 then 0 else if isn (dm_or F R) a = 0 then 1 else 0
def cis (F R a b le is : Int) : Int := if is = 0 then (if isn (dm_or F R) a = 0 then (if isn (dm_or F R) b = 0 then 0 else if csnd F R a b le = 0 then 1 else 0) else if cfst F R a b le = 0 then 1 else if isn (dm_or F R) b = 0 then 0 else if csnd F R a b le = 0 then 1 else 0) else 1
theorem c_fst (hd : 2 ≤ d) (ha : -1 ≤ a ∧ a ≤ 107) (hb : -1 ≤ b ∧ b ≤ 107) (le : Int) (w10 w11 w12 w13 w14 : Option dm_V) : dL d 235 377 [lR 1 11 165, lI p, lI F, lI R, lI hd_, lI is, lI k, lI a, lI b, lI le, w10, w11, w12, w13, w14] [dI (isn F a)] h = dL d 235 401 [lR 1 11 165, lI p, lI F, lI R, lI hd_, lI is, lI k, lI a, lI b, lI le, w10, w11, w12, w13, w14] [dI (cfst F R a b le)] h := by
  unfold cfst
  rw [b235_377]
  by_cases z1 : isn F a = 0
  · rw [if_pos z1, if_pos z1, b235_400]
  rw [if_neg z1, if_neg z1]
  by_cases z2 : le = 0
  · rw [if_pos z2, if_pos z2, b235_400]
  rw [if_neg z2, if_neg z2, s237 hd _ _ h hb, bk_v, b235_393]
  by_cases z3 : isn (dm_or F R) b = 0
  · rw [if_pos z3, if_pos z3]
  · rw [if_neg z3, if_neg z3, b235_400]
theorem c_snd (hd : 2 ≤ d) (ha : -1 ≤ a ∧ a ≤ 107) (hb : -1 ≤ b ∧ b ≤ 107) (le x10 : Int) (w11 w12 w13 w14 : Option dm_V) : dL d 235 409 [lR 1 11 165, lI p, lI F, lI R, lI hd_, lI is, lI k, lI a, lI b, lI le, lI x10, w11, w12, w13, w14] [dI (isn R b)] h = dL d 235 433 [lR 1 11 165, lI p, lI F, lI R, lI hd_, lI is, lI k, lI a, lI b, lI le, lI x10, w11, w12, w13, w14] [dI (csnd F R a b le)] h := by
  unfold csnd
  rw [b235_409]
  by_cases z1 : isn R b = 0
  · rw [if_pos z1, if_pos z1, b235_432]
  rw [if_neg z1, if_neg z1]
  by_cases z2 : le = 0
  · rw [if_pos z2, if_pos z2, b235_432]
  rw [if_neg z2, if_neg z2, s237 hd _ _ h ha, bk_v, b235_425]
  by_cases z3 : isn (dm_or F R) a = 0
  · rw [if_pos z3, if_pos z3]
  · rw [if_neg z3, if_neg z3, b235_432]
theorem c_all (hd : 2 ≤ d) (ha : -1 ≤ a ∧ a ≤ 107) (hb : -1 ≤ b ∧ b ≤ 107) (le : Int) (w10 w11 w12 w13 w14 : Option dm_V) : dL d 235 377 [lR 1 11 165, lI p, lI F, lI R, lI hd_, lI is, lI k, lI a, lI b, lI le, w10, w11, w12, w13, w14] [dI (isn F a)] h = dL d 235 821 [lR 1 11 165, lI p, lI F, lI R, lI hd_, lI (cis F R a b le is), lI k, lI a, lI b, lI le, lI (cfst F R a b le), lI (csnd F R a b le), w12, w13, w14] [] h := by
  rw [c_fst hd ha hb, b235_401, s237 hd _ _ h hb, bk_v, c_snd hd ha hb, b235_433]
  unfold cis
  by_cases z0 : is = 0
  case neg => rw [if_neg z0, if_neg z0, b235_472, b235_477]
  rw [if_pos z0, if_pos z0, s237 hd _ _ h ha, bk_v, b235_448]
  have second : dL d 235 456 [lR 1 11 165, lI p, lI F, lI R, lI hd_, lI is, lI k, lI a, lI b, lI le, lI (cfst F R a b le), lI (csnd F R a b le), w12, w13, w14] [] h = dL d 235 821 [lR 1 11 165, lI p, lI F, lI R, lI hd_, lI (if isn (dm_or F R) b = 0 then 0 else if csnd F R a b le = 0 then 1 else 0), lI k, lI a, lI b, lI le, lI (cfst F R a b le), lI (csnd F R a b le), w12, w13, w14] [] h := by
    rw [b235_456, s237 hd _ _ h hb, bk_v, b235_464]
    by_cases y1 : isn (dm_or F R) b = 0
    · rw [if_pos y1, if_pos y1, b235_476, b235_477]
    rw [if_neg y1, if_neg y1]
    by_cases y2 : csnd F R a b le = 0
    · rw [if_pos y2, if_pos y2, b235_472, b235_477]
    · rw [if_neg y2, if_neg y2, b235_476, b235_477]
  by_cases z1 : isn (dm_or F R) a = 0
  · rw [if_pos z1, if_pos z1, second]
  rw [if_neg z1, if_neg z1]
  by_cases z2 : cfst F R a b le = 0
  · rw [if_pos z2, if_pos z2, b235_472, b235_477]
  · rw [if_neg z2, if_neg z2, second]
/-- a reckoning is looked at -/
def rfall (F R a b mi ot : Int) : Int := if ot = 0 ∧ (isn F a ≠ 0 ∨ isn F b ≠ 0) ∧ isn R a = 0 ∧ isn R b = 0 then 1 else if mi = 0 then 0 else if isn F a ≠ 0 ∧ isn (dm_or F R) b = 0 then 1 else if isn (dm_or F R) a = 0 ∧ isn R b ≠ 0 then 1 else 0
def rrise (F R a b mi ot : Int) : Int := if ot = 0 ∧ (isn R a ≠ 0 ∨ isn R b ≠ 0) ∧ isn F a = 0 ∧ isn F b = 0 then 1 else if mi = 0 then 0 else if isn R a ≠ 0 ∧ isn (dm_or F R) b = 0 then 1 else if isn (dm_or F R) a = 0 ∧ isn F b ≠ 0 then 1 else 0
theorem r_fall2 (hd : 2 ≤ d) (ha : -1 ≤ a ∧ a ≤ 107) (hb : -1 ≤ b ∧ b ≤ 107) (mi ot : Int) (w9 w10 w13 w14 : Option dm_V) : dL d 235 564 [lR 1 11 165, lI p, lI F, lI R, lI hd_, lI is, lI k, lI a, lI b, w9, w10, lI mi, lI ot, w13, w14] [] h = dL d 235 614 [lR 1 11 165, lI p, lI F, lI R, lI hd_, lI is, lI k, lI a, lI b, w9, w10, lI mi, lI ot, w13, w14] [dI (if mi = 0 then 0 else if isn F a ≠ 0 ∧ isn (dm_or F R) b = 0 then 1 else if isn (dm_or F R) a = 0 ∧ isn R b ≠ 0 then 1 else 0)] h := by
  rw [b235_564]
  by_cases z0 : mi = 0
  · rw [if_pos z0, if_pos z0, b235_613]
  rw [if_neg z0, if_neg z0, s237 hd _ _ h ha, bk_v, b235_575]
  have second : dL d 235 589 [lR 1 11 165, lI p, lI F, lI R, lI hd_, lI is, lI k, lI a, lI b, w9, w10, lI mi, lI ot, w13, w14] [] h = dL d 235 614 [lR 1 11 165, lI p, lI F, lI R, lI hd_, lI is, lI k, lI a, lI b, w9, w10, lI mi, lI ot, w13, w14] [dI (if isn (dm_or F R) a = 0 ∧ isn R b ≠ 0 then 1 else 0)] h := by
    rw [b235_589, s237 hd _ _ h ha, bk_v, b235_597]
    by_cases y1 : isn (dm_or F R) a = 0
    · rw [if_pos y1, s237 hd _ _ h hb, bk_v, b235_606]
      by_cases y2 : isn R b = 0
      · rw [if_pos y2, if_neg (fun w => w.2 y2), b235_613]
      · rw [if_neg y2, if_pos ⟨y1, y2⟩, b235_609]
    · rw [if_neg y1, if_neg (fun w => y1 w.1), b235_613]
  by_cases z1 : isn F a = 0
  · rw [if_pos z1, if_neg (fun w => w.1 z1), second]
  rw [if_neg z1, s237 hd _ _ h hb, bk_v, b235_586]
  by_cases z2 : isn (dm_or F R) b = 0
  · rw [if_pos z2, if_pos ⟨z1, z2⟩, b235_609]
  · rw [if_neg z2, if_neg (fun w => z2 w.2), second]
theorem r_fall (hd : 2 ≤ d) (ha : -1 ≤ a ∧ a ≤ 107) (hb : -1 ≤ b ∧ b ≤ 107) (mi ot : Int) (w9 w10 w12 w13 w14 : Option dm_V) : dL d 235 521 [lR 1 11 165, lI p, lI F, lI R, lI hd_, lI is, lI k, lI a, lI b, w9, w10, lI mi, w12, w13, w14] [dI ot] h = dL d 235 614 [lR 1 11 165, lI p, lI F, lI R, lI hd_, lI is, lI k, lI a, lI b, w9, w10, lI mi, lI ot, w13, w14] [dI (rfall F R a b mi ot)] h := by
  unfold rfall
  rw [b235_521]
  have no : ¬ (ot = 0 ∧ (isn F a ≠ 0 ∨ isn F b ≠ 0) ∧ isn R a = 0 ∧ isn R b = 0) → dL d 235 564 [lR 1 11 165, lI p, lI F, lI R, lI hd_, lI is, lI k, lI a, lI b, w9, w10, lI mi, lI ot, w13, w14] [] h = dL d 235 614 [lR 1 11 165, lI p, lI F, lI R, lI hd_, lI is, lI k, lI a, lI b, w9, w10, lI mi, lI ot, w13, w14] [dI (if ot = 0 ∧ (isn F a ≠ 0 ∨ isn F b ≠ 0) ∧ isn R a = 0 ∧ isn R b = 0 then 1 else if mi = 0 then 0 else if isn F a ≠ 0 ∧ isn (dm_or F R) b = 0 then 1 else if isn (dm_or F R) a = 0 ∧ isn R b ≠ 0 then 1 else 0)] h := fun hn => by rw [if_neg hn, r_fall2 hd ha hb]
  by_cases z0 : ot = 0
  case neg => rw [if_neg z0]; exact no (fun w => z0 w.1)
  rw [if_pos z0, s237 hd _ _ h ha, bk_v, b235_534]
  have mid : (isn F a ≠ 0 ∨ isn F b ≠ 0) → dL d 235 546 [lR 1 11 165, lI p, lI F, lI R, lI hd_, lI is, lI k, lI a, lI b, w9, w10, lI mi, lI ot, w13, w14] [] h = dL d 235 614 [lR 1 11 165, lI p, lI F, lI R, lI hd_, lI is, lI k, lI a, lI b, w9, w10, lI mi, lI ot, w13, w14] [dI (if ot = 0 ∧ (isn F a ≠ 0 ∨ isn F b ≠ 0) ∧ isn R a = 0 ∧ isn R b = 0 then 1 else if mi = 0 then 0 else if isn F a ≠ 0 ∧ isn (dm_or F R) b = 0 then 1 else if isn (dm_or F R) a = 0 ∧ isn R b ≠ 0 then 1 else 0)] h := by
    intro hf
    rw [b235_546, s237 hd _ _ h ha, bk_v, b235_552]
    by_cases y1 : isn R a = 0
    · rw [if_pos y1, s237 hd _ _ h hb, bk_v, b235_561]
      by_cases y2 : isn R b = 0
      · rw [if_pos y2, if_pos ⟨z0, hf, y1, y2⟩, b235_609]
      · rw [if_neg y2]; exact no (fun w => y2 w.2.2.2)
    · rw [if_neg y1]; exact no (fun w => y1 w.2.2.1)
  by_cases z1 : isn F a = 0
  · rw [if_pos z1, s237 hd _ _ h hb, bk_v, b235_543]
    by_cases z2 : isn F b = 0
    · rw [if_pos z2]; exact no (fun w => w.2.1.elim (fun y => y z1) (fun y => y z2))
    · rw [if_neg z2]; exact mid (Or.inr z2)
  · rw [if_neg z1]; exact mid (Or.inl z1)
theorem r_rise2 (hd : 2 ≤ d) (ha : -1 ≤ a ∧ a ≤ 107) (hb : -1 ≤ b ∧ b ≤ 107) (mi fa : Int) (w9 w10 w12 w14 : Option dm_V) : dL d 235 657 [lR 1 11 165, lI p, lI F, lI R, lI hd_, lI is, lI k, lI a, lI b, w9, w10, lI mi, w12, lI fa, w14] [] h = dL d 235 707 [lR 1 11 165, lI p, lI F, lI R, lI hd_, lI is, lI k, lI a, lI b, w9, w10, lI mi, w12, lI fa, w14] [dI (if mi = 0 then 0 else if isn R a ≠ 0 ∧ isn (dm_or F R) b = 0 then 1 else if isn (dm_or F R) a = 0 ∧ isn F b ≠ 0 then 1 else 0)] h := by
  rw [b235_657]
  by_cases z0 : mi = 0
  · rw [if_pos z0, if_pos z0, b235_706]
  rw [if_neg z0, if_neg z0, s237 hd _ _ h ha, bk_v, b235_668]
  have second : dL d 235 682 [lR 1 11 165, lI p, lI F, lI R, lI hd_, lI is, lI k, lI a, lI b, w9, w10, lI mi, w12, lI fa, w14] [] h = dL d 235 707 [lR 1 11 165, lI p, lI F, lI R, lI hd_, lI is, lI k, lI a, lI b, w9, w10, lI mi, w12, lI fa, w14] [dI (if isn (dm_or F R) a = 0 ∧ isn F b ≠ 0 then 1 else 0)] h := by
    rw [b235_682, s237 hd _ _ h ha, bk_v, b235_690]
    by_cases y1 : isn (dm_or F R) a = 0
    · rw [if_pos y1, s237 hd _ _ h hb, bk_v, b235_699]
      by_cases y2 : isn F b = 0
      · rw [if_pos y2, if_neg (fun w => w.2 y2), b235_706]
      · rw [if_neg y2, if_pos ⟨y1, y2⟩, b235_702]
    · rw [if_neg y1, if_neg (fun w => y1 w.1), b235_706]
  by_cases z1 : isn R a = 0
  · rw [if_pos z1, if_neg (fun w => w.1 z1), second]
  rw [if_neg z1, s237 hd _ _ h hb, bk_v, b235_679]
  by_cases z2 : isn (dm_or F R) b = 0
  · rw [if_pos z2, if_pos ⟨z1, z2⟩, b235_702]
  · rw [if_neg z2, if_neg (fun w => z2 w.2), second]
theorem r_rise (hd : 2 ≤ d) (ha : -1 ≤ a ∧ a ≤ 107) (hb : -1 ≤ b ∧ b ≤ 107) (mi ot fa : Int) (w9 w10 w13 w14 : Option dm_V) : dL d 235 614 [lR 1 11 165, lI p, lI F, lI R, lI hd_, lI is, lI k, lI a, lI b, w9, w10, lI mi, lI ot, w13, w14] [dI fa] h = dL d 235 707 [lR 1 11 165, lI p, lI F, lI R, lI hd_, lI is, lI k, lI a, lI b, w9, w10, lI mi, lI ot, lI fa, w14] [dI (rrise F R a b mi ot)] h := by
  unfold rrise
  rw [b235_614]
  have no : ¬ (ot = 0 ∧ (isn R a ≠ 0 ∨ isn R b ≠ 0) ∧ isn F a = 0 ∧ isn F b = 0) → dL d 235 657 [lR 1 11 165, lI p, lI F, lI R, lI hd_, lI is, lI k, lI a, lI b, w9, w10, lI mi, lI ot, lI fa, w14] [] h = dL d 235 707 [lR 1 11 165, lI p, lI F, lI R, lI hd_, lI is, lI k, lI a, lI b, w9, w10, lI mi, lI ot, lI fa, w14] [dI (if ot = 0 ∧ (isn R a ≠ 0 ∨ isn R b ≠ 0) ∧ isn F a = 0 ∧ isn F b = 0 then 1 else if mi = 0 then 0 else if isn R a ≠ 0 ∧ isn (dm_or F R) b = 0 then 1 else if isn (dm_or F R) a = 0 ∧ isn F b ≠ 0 then 1 else 0)] h := fun hn => by rw [if_neg hn, r_rise2 hd ha hb]
  by_cases z0 : ot = 0
  case neg => rw [if_neg z0]; exact no (fun w => z0 w.1)
  rw [if_pos z0, s237 hd _ _ h ha, bk_v, b235_627]
  have mid : (isn R a ≠ 0 ∨ isn R b ≠ 0) → dL d 235 639 [lR 1 11 165, lI p, lI F, lI R, lI hd_, lI is, lI k, lI a, lI b, w9, w10, lI mi, lI ot, lI fa, w14] [] h = dL d 235 707 [lR 1 11 165, lI p, lI F, lI R, lI hd_, lI is, lI k, lI a, lI b, w9, w10, lI mi, lI ot, lI fa, w14] [dI (if ot = 0 ∧ (isn R a ≠ 0 ∨ isn R b ≠ 0) ∧ isn F a = 0 ∧ isn F b = 0 then 1 else if mi = 0 then 0 else if isn R a ≠ 0 ∧ isn (dm_or F R) b = 0 then 1 else if isn (dm_or F R) a = 0 ∧ isn F b ≠ 0 then 1 else 0)] h := by
    intro hf
    rw [b235_639, s237 hd _ _ h ha, bk_v, b235_645]
    by_cases y1 : isn F a = 0
    · rw [if_pos y1, s237 hd _ _ h hb, bk_v, b235_654]
      by_cases y2 : isn F b = 0
      · rw [if_pos y2, if_pos ⟨z0, hf, y1, y2⟩, b235_702]
      · rw [if_neg y2]; exact no (fun w => y2 w.2.2.2)
    · rw [if_neg y1]; exact no (fun w => y1 w.2.2.1)
  by_cases z1 : isn R a = 0
  · rw [if_pos z1, s237 hd _ _ h hb, bk_v, b235_636]
    by_cases z2 : isn R b = 0
    · rw [if_pos z2]; exact no (fun w => w.2.1.elim (fun y => y z1) (fun y => y z2))
    · rw [if_neg z2]; exact mid (Or.inr z2)
  · rw [if_neg z1]; exact mid (Or.inl z1)
def ris (F R a b fa ri is : Int) : Int := if is = 0 then (if (isn (dm_or F R) a ≠ 0 ∨ isn (dm_or F R) b ≠ 0) ∧ fa = 0 ∧ ri = 0 then 1 else 0) else 1
theorem r_is (hd : 2 ≤ d) (ha : -1 ≤ a ∧ a ≤ 107) (hb : -1 ≤ b ∧ b ≤ 107) (fa ri : Int) (w9 w10 w11 w12 w14 : Option dm_V) : dL d 235 707 [lR 1 11 165, lI p, lI F, lI R, lI hd_, lI is, lI k, lI a, lI b, w9, w10, w11, w12, lI fa, w14] [dI ri] h = dL d 235 751 [lR 1 11 165, lI p, lI F, lI R, lI hd_, lI is, lI k, lI a, lI b, w9, w10, w11, w12, lI fa, lI ri] [dI (ris F R a b fa ri is)] h := by
  unfold ris
  rw [b235_707]
  by_cases z0 : is = 0
  case neg => rw [if_neg z0, if_neg z0, b235_746]
  rw [if_pos z0, if_pos z0, s237 hd _ _ h ha, bk_v, b235_722]
  have mid : (isn (dm_or F R) a ≠ 0 ∨ isn (dm_or F R) b ≠ 0) → dL d 235 736 [lR 1 11 165, lI p, lI F, lI R, lI hd_, lI is, lI k, lI a, lI b, w9, w10, w11, w12, lI fa, lI ri] [] h = dL d 235 751 [lR 1 11 165, lI p, lI F, lI R, lI hd_, lI is, lI k, lI a, lI b, w9, w10, w11, w12, lI fa, lI ri] [dI (if (isn (dm_or F R) a ≠ 0 ∨ isn (dm_or F R) b ≠ 0) ∧ fa = 0 ∧ ri = 0 then 1 else 0)] h := by
    intro hm
    rw [b235_736]
    by_cases y1 : fa = 0
    · rw [if_pos y1]
      by_cases y2 : ri = 0
      · rw [if_pos y2, if_pos ⟨hm, y1, y2⟩, b235_746]
      · rw [if_neg y2, if_neg (fun w => y2 w.2.2), b235_750]
    · rw [if_neg y1, if_neg (fun w => y1 w.2.1), b235_750]
  by_cases z1 : isn (dm_or F R) a = 0
  · rw [if_pos z1, s237 hd _ _ h hb, bk_v, b235_733]
    by_cases z2 : isn (dm_or F R) b = 0
    · rw [if_pos z2, if_neg (fun w => w.1.elim (fun y => y z1) (fun y => y z2)), b235_750]
    · rw [if_neg z2]; exact mid (Or.inr z2)
  · rw [if_neg z1]; exact mid (Or.inl z1)
/-- the sets behind a reckoning -/
theorem r_sets (hd : 2 ≤ d) (hp : 0 ≤ p ∧ p ≤ 10) (hk : 0 ≤ k ∧ k < 4) (v : Int) (ev : lq h p k 1 = v) (hv : 100 ≤ v ∧ v ≤ 107) (fa ri is' : Int) (w9 w10 w11 w12 : Option dm_V) : dL d 235 751 [lR 1 11 165, lI p, lI F, lI R, lI hd_, lI is, lI k, lI a, lI b, w9, w10, w11, w12, lI fa, lI ri] [dI is'] h = dL d 235 821 [lR 1 11 165, lI p, lI (dm_or F (if fa = 0 then 0 else bitO v)), lI (dm_or R (if ri = 0 then 0 else bitO v)), lI (dm_or hd_ (bitO v)), lI is', lI k, lI a, lI b, w9, w10, w11, w12, lI fa, lI ri] [] h := by
  have eb := (var_or (d := 1) (by omega) v h (by omega)).2.1 hv.1
  have s1 : dL d 235 751 [lR 1 11 165, lI p, lI F, lI R, lI hd_, lI is, lI k, lI a, lI b, w9, w10, w11, w12, lI fa, lI ri] [dI is'] h = dL d 235 776 [lR 1 11 165, lI p, lI F, lI R, lI hd_, lI is', lI k, lI a, lI b, w9, w10, w11, w12, lI fa, lI ri] [dI (if fa = 0 then 0 else bitO v), dI F] h := by
    rw [b235_751]
    by_cases z : fa = 0
    · rw [if_pos z, if_pos z]
    · rw [if_neg z, if_neg z, s181 (by omega) p k 1 h hp (by omega) (by omega), bk_v, b235_768, ev, ck_p (by omega) (by omega), eb]
  have s2 : ∀ F', dL d 235 776 [lR 1 11 165, lI p, lI F, lI R, lI hd_, lI is', lI k, lI a, lI b, w9, w10, w11, w12, lI fa, lI ri] [dI F', dI F] h = dL d 235 801 [lR 1 11 165, lI p, lI (dm_or F F'), lI R, lI hd_, lI is', lI k, lI a, lI b, w9, w10, w11, w12, lI fa, lI ri] [dI (if ri = 0 then 0 else bitO v), dI R] h := by
    intro F'
    rw [b235_776]
    by_cases z : ri = 0
    · rw [if_pos z, if_pos z]
    · rw [if_neg z, if_neg z, s181 (by omega) p k 1 h hp (by omega) (by omega), bk_v, b235_793, ev, ck_p (by omega) (by omega), eb]
  rw [s1, s2, b235_801, s181 (by omega) p k 1 h hp (by omega) (by omega), bk_v, b235_814, ev, ck_p (by omega) (by omega), eb]
/-- behind comparisons and reckonings: their terms are had -/
theorem t_had (hd : 2 ≤ d) (ha : -1 ≤ a ∧ a ≤ 107) (hb : -1 ≤ b ∧ b ≤ 107) (w9 w10 w11 w12 w13 w14 : Option dm_V) : dL d 235 821 [lR 1 11 165, lI p, lI F, lI R, lI hd_, lI is, lI k, lI a, lI b, w9, w10, w11, w12, w13, w14] [] h = dL d 235 869 [lR 1 11 165, lI p, lI F, lI R, lI (dm_or (dm_or hd_ (bitO a)) (bitO b)), lI is, lI k, lI a, lI b, w9, w10, w11, w12, w13, w14] [] h := by
  obtain ⟨a1, a2, a3⟩ := var_or (d := d) (by omega) a h ha
  obtain ⟨b1, b2, b3⟩ := var_or (d := d) (by omega) b h hb
  have s2 : ∀ H, dL d 235 842 [lR 1 11 165, lI p, lI F, lI R, lI hd_, lI is, lI k, lI a, lI b, w9, w10, w11, w12, w13, w14] [dI H, dI hd_] h = dL d 235 869 [lR 1 11 165, lI p, lI F, lI R, lI (dm_or (dm_or hd_ H) (bitO b)), lI is, lI k, lI a, lI b, w9, w10, w11, w12, w13, w14] [] h := by
    intro H
    rw [b235_842, b1, bk_v, b235_852]
    by_cases z : 100 ≤ b
    · rw [if_pos z, if_neg (by decide), ck_p (by omega) (by omega), b235_866, b2 z]
    · rw [if_neg z, if_pos rfl, b235_866, b3 z]
  rw [b235_821, a1, bk_v, b235_828]
  by_cases z : 100 ≤ a
  · rw [if_pos z, if_neg (by decide), ck_p (by omega) (by omega), a2 z, s2]
  · rw [if_neg z, if_pos rfl, s2, a3 z]
end RS
