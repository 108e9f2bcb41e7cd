/-! WHAT IS CHECKED of the code of each method: text by wip/whole/gen/simk.py -/
noncomputable def dm_fkl : List (List (Nat × Nat × Nat × Nat)) := [[(12, 10, 0, 584), (19, 10, 1, 585), (28, 10, 2, 586), (35, 10, 8, 592), (39, 10, 9, 593), (45, 10, 10, 594), (54, 10, 3, 587), (63, 10, 4, 588), (72, 10, 5, 589), (79, 10, 6, 590), (88, 10, 7, 591), (92, 10, 18, 602), (103, 6, 0, 149), (120, 10, 12, 596), (128, 2, 0, 194), (150, 2, 3, 204), (168, 6, 1, 152), (181, 10, 11, 595), (193, 8, 5, 259), (200, 8, 4, 257), (206, 9, 1, 330), (230, 6, 5, 166), (233, 7, 1, 358), (238, 7, 2, 362), (256, 10, 13, 597), (259, 10, 14, 598), (262, 9, 2, 335), (266, 8, 1, 237), (269, 8, 2, 243), (279, 0, 7, 519), (282, 0, 8, 521), (287, 2, 1, 198), (289, 8, 3, 249), (296, 5, 4, 404), (309, 5, 3, 401), (312, 5, 2, 399), (318, 10, 17, 601), (338, 10, 15, 599), (341, 10, 16, 600), (351, 4, 2, 452)],
  [(11, 0, 7, 518), (16, 0, 8, 520), (19, 0, 9, 522), (23, 0, 10, 523), (32, 0, 0, 511), (33, 0, 1, 512), (37, 0, 2, 513), (41, 0, 3, 514), (45, 0, 4, 515), (49, 0, 5, 516), (59, 0, 6, 517), (60, 6, 0, 148), (72, 2, 0, 193), (75, 2, 1, 197), (77, 2, 2, 201), (80, 2, 3, 203), (86, 0, 13, 526), (91, 9, 1, 327), (92, 9, 2, 332), (96, 8, 1, 232), (117, 4, 2, 450), (118, 8, 2, 240), (136, 8, 4, 253), (140, 0, 11, 524), (143, 5, 0, 392), (146, 8, 3, 247), (153, 0, 12, 525), (163, 8, 9, 271), (166, 8, 10, 277), (169, 5, 1, 396), (172, 8, 13, 287), (176, 7, 1, 356), (179, 7, 2, 360)],
  [(15, 1, 0, 476), (18, 1, 1, 477), (22, 1, 2, 478), (26, 1, 3, 479), (30, 1, 4, 480), (34, 1, 5, 481), (44, 1, 6, 482), (50, 2, 0, 192), (60, 2, 1, 196), (63, 2, 2, 200), (70, 6, 6, 167), (75, 7, 5, 368), (79, 1, 8, 484), (83, 1, 7, 483), (86, 9, 1, 328), (87, 9, 2, 333), (91, 8, 1, 233), (96, 6, 5, 163), (99, 8, 2, 239), (113, 5, 4, 403), (119, 5, 2, 398), (130, 8, 4, 252), (131, 8, 9, 270), (134, 7, 4, 366), (137, 8, 10, 275), (144, 4, 2, 451), (149, 4, 3, 454), (150, 8, 7, 264), (153, 5, 0, 393), (156, 8, 3, 248)],
  [(9, 2, 1, 195), (15, 2, 2, 199), (18, 2, 3, 202), (21, 2, 4, 205), (24, 2, 0, 191)],
  [(9, 3, 5, 567), (15, 3, 6, 568), (24, 3, 0, 562), (25, 3, 1, 563), (29, 3, 2, 564), (39, 3, 3, 565), (40, 3, 4, 566), (54, 9, 1, 329), (55, 9, 2, 334), (59, 8, 1, 234), (64, 8, 2, 241), (78, 6, 2, 154), (83, 8, 3, 246), (86, 8, 8, 266), (92, 8, 4, 254), (96, 8, 10, 276), (110, 8, 6, 261), (113, 8, 11, 281), (116, 8, 12, 284), (119, 5, 0, 394)],
  [(9, 4, 4, 455), (15, 4, 5, 456), (18, 4, 0, 447), (28, 4, 1, 448), (29, 4, 2, 449), (33, 4, 3, 453), (37, 8, 7, 263), (42, 5, 0, 391), (45, 8, 3, 245), (56, 8, 4, 251), (64, 8, 1, 235), (67, 8, 8, 267)],
  [(9, 5, 0, 390), (15, 5, 1, 395), (18, 5, 6, 406), (22, 5, 7, 411), (26, 5, 8, 412), (36, 5, 2, 397), (40, 5, 3, 400), (44, 5, 4, 402), (47, 5, 5, 405), (51, 5, 9, 413), (54, 5, 10, 414), (61, 8, 8, 268), (85, 8, 4, 255), (88, 8, 9, 272), (101, 8, 10, 278), (104, 7, 1, 357), (119, 7, 3, 364), (123, 7, 2, 361), (129, 8, 13, 288), (137, 8, 11, 282), (140, 8, 12, 285)],
  [(9, 6, 1, 151), (15, 6, 2, 153), (18, 6, 3, 158), (21, 6, 4, 160), (24, 6, 5, 162), (27, 6, 0, 147)],
  [(9, 7, 1, 355), (17, 7, 2, 359), (20, 7, 3, 363), (23, 7, 4, 365), (26, 7, 0, 354), (36, 7, 5, 367), (48, 6, 0, 150), (54, 6, 5, 164), (60, 6, 3, 159), (63, 6, 2, 155)],
  [(9, 8, 8, 265), (15, 8, 9, 269), (18, 8, 10, 274), (21, 8, 11, 280), (24, 8, 12, 283), (27, 8, 13, 286), (31, 8, 14, 289), (34, 8, 1, 231), (38, 8, 2, 238), (41, 8, 3, 244), (44, 8, 4, 250), (47, 8, 5, 258), (50, 8, 6, 260), (53, 8, 7, 262), (99, 6, 2, 156)],
  [(11, 9, 2, 331), (17, 9, 0, 323), (22, 9, 1, 326), (26, 8, 0, 230), (29, 9, 3, 336), (46, 8, 4, 256), (47, 8, 1, 236), (54, 8, 10, 279), (64, 6, 4, 161), (73, 8, 2, 242), (79, 8, 9, 273), (86, 6, 5, 165), (89, 6, 6, 168), (96, 6, 2, 157)],
  [],
  [(7, 11, 2, 1402), (13, 11, 3, 1403), (16, 11, 6, 1406), (19, 11, 7, 1407), (22, 11, 8, 1408), (25, 11, 9, 1409), (28, 11, 10, 1410), (32, 11, 11, 1411), (35, 11, 12, 1412), (38, 11, 13, 1413), (41, 11, 14, 1414), (45, 11, 17, 1417), (48, 11, 18, 1418), (51, 11, 19, 1419), (54, 11, 20, 1420), (57, 11, 21, 1421), (60, 11, 22, 1422), (63, 11, 23, 1423), (66, 11, 24, 1424), (69, 11, 25, 1425), (72, 11, 26, 1426), (75, 11, 28, 1428), (78, 11, 29, 1429), (81, 11, 30, 1430), (84, 11, 35, 1435), (87, 11, 36, 1436), (90, 11, 37, 1437), (93, 11, 38, 1438), (96, 11, 39, 1439), (99, 11, 40, 1440), (102, 11, 41, 1441), (105, 11, 42, 1442), (108, 11, 0, 1400), (111, 11, 1, 1401), (162, 11, 32, 1432), (165, 11, 33, 1433), (169, 11, 31, 1431), (213, 11, 27, 1427), (219, 11, 34, 1434), (243, 11, 5, 1405), (262, 11, 44, 1444), (271, 11, 4, 1404), (307, 11, 16, 1416), (337, 11, 15, 1415), (356, 11, 43, 1443), (405, 11, 45, 1445), (408, 11, 46, 1446), (411, 11, 47, 1447)],
  [],
  []]
def dq_col : List Nat := [1, 2, 3, 4, 5, 6, 7, 8, 9, 10, 0, 12]
noncomputable def dq_fw (o : Nat) (q : Nat × Nat × Nat × Nat) : Bool := match lw_tbl[q.2.2.2]? with
  | some (.fieldLink c i C f t) => Nat.beq i q.1 && decide (c = dm_on o) && decide (C = dm_cn q.2.1) && decide (f = (dm_ff q.2.1 q.2.2.1).2.1) && decide (t = (dm_ff q.2.1 q.2.2.1).2.2.1)
  | _ => false
theorem dq_fws : (List.range 15).all (fun o => (dm_fkl.getD o []).all (dq_fw o)) = true := by decide +kernel
theorem dq_fwin {o : Nat} {q : Nat × Nat × Nat × Nat} (h : q ∈ dm_fkl.getD o []) : Cond.fieldLink (dm_on o) q.1 (dm_cn q.2.1) (dm_ff q.2.1 q.2.2.1).2.1 (dm_ff q.2.1 q.2.2.1).2.2.1 ∈ dm_ws := by
  have ho : o < 15 := by
    rcases Nat.lt_or_ge o 15 with z | z
    · exact z
    · rw [List.getD_eq_getElem?_getD, List.getElem?_eq_none (by rw [show dm_fkl.length = 15 from by decide +kernel]; exact z)] at h
      cases h
  have h1 := List.all_eq_true.mp (List.all_eq_true.mp dq_fws o (List.mem_range.mpr ho)) q h
  unfold dq_fw at h1
  split at h1
  · rename_i c i C f t hw
    simp only [Bool.and_eq_true, decide_eq_true_eq] at h1
    obtain ⟨⟨⟨⟨e1, e2⟩, e3⟩, e4⟩, e5⟩ := h1
    have e1 := Nat.eq_of_beq_eq_true e1
    subst e1 e2 e3 e4 e5
    exact List.mem_filter.mpr ⟨List.mem_of_getElem? hw, rfl⟩
  · cases h1
theorem dq_cols : (List.range 12).all (fun ci => decide (dm_cn ci = dm_on (dq_col.getD ci 99))) = true := by decide +kernel
theorem dq_lks : dm_lk.all (fun q => dm_ws.any (fun w => dq_weq w (.constant (dm_on q.1) q.2.1 (Int32.ofInt (q.2.2 : Int)))) && decide (q.2.2 ≤ 2147483647)) = true := by decide +kernel
theorem dq_wRB : Cond.classLink (dm_on 10) 9 "DatalogMill$Rule" ∈ dm_ws := List.mem_filter.mpr ⟨List.mem_of_getElem? (i := 223) (by decide +kernel), rfl⟩
theorem dq_wRW : Cond.classLink (dm_on 8) 15 ("[" ++ (FieldType.array .int).toString) ∈ dm_ws := List.mem_filter.mpr ⟨List.mem_of_getElem? (i := 352) (by decide +kernel), rfl⟩
theorem dq_wCO : Cond.classLink (dm_on 1) 9 ("[" ++ (FieldType.array .int).toString) ∈ dm_ws := List.mem_filter.mpr ⟨List.mem_of_getElem? (i := 510) (by decide +kernel), rfl⟩
/-- the four instructions behind 'new' of an exception -/
def dq_nx (pc : Nat) (q : Nat × Nat × Nat × Nat × Nat × Nat × String × Nat) (nx : List dm_E1) : Bool := match nx with
  | (p1, .dup, 1, _) :: (p2, .ldc a, 2, _) :: (p3, .invokespecial b, 3, _) :: (p4, .athrow, 1, _) :: _ => Nat.beq p1 (pc + 3) && Nat.beq p2 (pc + 4) && Nat.beq p3 (pc + 6) && Nat.beq p4 (pc + 9) && Nat.beq a q.2.2.2.1 && Nat.beq b q.2.2.2.2.1
  | (p1, .dup, 1, _) :: (p2, .ldc_w a, 3, _) :: (p3, .invokespecial b, 3, _) :: (p4, .athrow, 1, _) :: _ => Nat.beq p1 (pc + 3) && Nat.beq p2 (pc + 4) && Nat.beq p3 (pc + 7) && Nat.beq p4 (pc + 10) && Nat.beq a q.2.2.2.1 && Nat.beq b q.2.2.2.2.1
  | _ => false
noncomputable def dq_mka (L : List (Nat × Nat × Nat × Nat × List Nat)) (o idx y n : Nat) : Bool := Nat.blt y dm_law && Nat.ble n (dm_nl y) && L.any (fun q => Nat.beq q.1 o && Nat.beq q.2.1 idx && Nat.beq q.2.2.1 y && Nat.beq q.2.2.2.1 n)
def dq_mk3a (L : List (Nat × Nat × List Nat)) (o idx : Nat) : Bool := L.any (fun q => Nat.beq q.1 o && Nat.beq q.2.1 idx)
def dq_off (pc : Nat) (off : Int) : Bool := decide (0 ≤ (pc : Int) + off)
def dq_lka (L : List (Nat × Nat × Nat)) (o z : Nat) (d : List Nat) : Bool := match d with
  | [] => true
  | [q] => L.any (fun w => Nat.beq w.1 o && Nat.beq w.2.1 z && Nat.beq w.2.2 q)
  | _ => false
noncomputable def dq_fka (o idx ci j : Nat) : Bool := (dm_fkl.getD o []).any (fun q => Nat.beq q.1 idx && Nat.beq q.2.1 ci && Nat.beq q.2.2.1 j)
noncomputable def dq_fkna (o idx ci j : Nat) : Bool := dm_fkn.any (fun q => Nat.beq q.1 o && Nat.beq q.2.1 idx && Nat.beq q.2.2.1 ci && Nat.beq q.2.2.2 j)
noncomputable def dq_tria (o idx : Nat) (t : Nat × Nat × Nat) : Bool := Nat.blt t.2.1 dm_law && Nat.ble 2 (dm_nl t.2.1) && decide (dm_sh t.1 = (1, t.2.2)) && Nat.blt t.2.2 12 && Nat.beq (dq_col.getD t.2.2 99) (dm_o t.2.1) && dm_mk10.any (fun q => Nat.beq q.1 o && Nat.beq q.2.1 idx && Nat.beq q.2.2.1 t.2.1)
noncomputable def dq_ei (y o wrp : Nat) (rt : Option FieldType) (ctor nh : Bool) (pc : Nat) (i : Instr) (n : Nat) (d : List Nat) (nx : List dm_E1) : Bool := match i with
  | .iconst x => Nat.beq n 1 && decide (-1 ≤ x) && decide (x ≤ 5)
  | .bipush x => Nat.beq n 2 && decide (-128 ≤ x) && decide (x < 128)
  | .sipush x => Nat.beq n 3 && decide (-32768 ≤ x) && decide (x < 32768)
  | .ldc z => Nat.beq n 2 && dq_lka dm_lk o z d
  | .ldc_w z => Nat.beq n 3 && dq_lka dm_lk o z d
  | .aconst_null => Nat.beq n 1
  | .lconst _ => Nat.beq n 1
  | .iload _ => Nat.beq n 2
  | .aload _ => Nat.beq n 2
  | .iload_n _ => Nat.beq n 1
  | .aload_n _ => Nat.beq n 1
  | .istore _ => Nat.beq n 2
  | .istore_n _ => Nat.beq n 1
  | .astore _ => Nat.beq n 2
  | .astore_n _ => Nat.beq n 1
  | .iinc _ _ => Nat.beq n 3
  | .pop => Nat.beq n 1
  | .dup => Nat.beq n 1
  | .dup2 => Nat.beq n 1
  | .iadd => Nat.beq n 1
  | .isub => Nat.beq n 1
  | .imul => Nat.beq n 1
  | .idiv => Nat.beq n 1
  | .irem => Nat.beq n 1
  | .iand => Nat.beq n 1
  | .ior => Nat.beq n 1
  | .ixor => Nat.beq n 1
  | .ishl => Nat.beq n 1
  | .ishr => Nat.beq n 1
  | .i2l => Nat.beq n 1
  | .lcmp => Nat.beq n 1
  | .ifCond _ off => Nat.beq n 3 && dq_off pc off
  | .if_icmp _ off => Nat.beq n 3 && dq_off pc off
  | .ifnull off => Nat.beq n 3 && dq_off pc off
  | .ifnonnull off => Nat.beq n 3 && dq_off pc off
  | .goto off => Nat.beq n 3 && dq_off pc off
  | .tableswitch dft low high offs => decide ((high - low + 1).toNat = offs.size) && offs.toList.all (dq_off pc) && dq_off pc dft
  | .ireturn => Nat.beq n 1 && (match rt with
    | some .int => !(Nat.beq wrp 2)
    | some .boolean => Nat.beq wrp 2
    | _ => false)
  | .areturn => Nat.beq n 1 && (match rt with
    | some (.object _) => true
    | _ => false)
  | .return_ => Nat.beq n 1 && (match rt with
    | none => true
    | _ => false)
  | .getstatic idx => Nat.beq n 3 && dm_ukn.any (fun q => Nat.beq q.1 o && Nat.beq q.2 idx)
  | .getfield idx => Nat.beq n 3 && (match d with
    | ci :: j :: d' => decide (d' = dm_fd ci j) && Nat.blt j (dm_fN ci) && (dq_fka o idx ci j || dq_fkna o idx ci j)
    | _ => false)
  | .putfield idx => Nat.beq n 3 && (match d with
    | ci :: j :: d' => decide (d' = dm_fd ci j) && Nat.blt j (dm_fN ci) && Nat.blt ci 12 && (dq_fka o idx ci j || dq_fkna o idx ci j) && (!(dm_ff ci j).2.2.2 || (ctor && Nat.beq (dq_col.getD ci 99) o && !(dq_fkna o idx ci j)))
    | _ => false)
  | .iaload => Nat.beq n 1
  | .baload => Nat.beq n 1
  | .laload => Nat.beq n 1
  | .aaload => Nat.beq n 1
  | .iastore => Nat.beq n 1
  | .bastore => Nat.beq n 1
  | .lastore => Nat.beq n 1
  | .aastore => Nat.beq n 1
  | .arraylength => Nat.beq n 1
  | .new idx => Nat.beq n 3 && (match d with
    | [1, E] => nh && Nat.blt E 3 && dm_tk.any (fun q => Nat.beq q.1 y && Nat.beq q.2.2.1 idx && Nat.beq q.2.2.2.2.2.1 E && dq_nx pc q nx)
    | [0, ci, m] => Nat.beq m (dm_fN ci) && dm_nk.any (fun q => Nat.beq q.1 o && Nat.beq q.2.1 idx && Nat.beq q.2.2 ci)
    | _ => false)
  | .newarray t => Nat.beq n 2 && (match t, d with
    | .int, [2] => true
    | .boolean, [3] => true
    | .long, [4] => Nat.beq y dm_law
    | _, _ => false)
  | .anewarray idx => Nat.beq n 3 && Nat.beq o 10 && Nat.beq idx 9
  | .multianewarray idx dims => Nat.beq n 4 && Nat.beq dims 2 && ((Nat.beq o 8 && Nat.beq idx 15) || (Nat.beq o 1 && Nat.beq idx 9))
  | .invokestatic idx => Nat.beq n 3 && (match d with
    | [3] => dq_mk3a dm_mk3 o idx
    | [4] => dq_mk3a dm_mk4 o idx
    | [0, z, m] => dq_mka dm_mk0 o idx z m
    | [1, z, m] => dq_mka dm_mk1 o idx z m
    | [2, z, m] => dq_mka dm_mk2 o idx z m
    | [11, z, m] => dq_mka dm_mk11 o idx z m
    | _ => false)
  | .invokespecial idx => Nat.beq n 3 && (match d with
    | [] => true
    | [7] => dq_mk3a dm_mk7 o idx
    | [5, z, m] => dq_mka dm_mk5 o idx z m
    | [6, z, m] => dq_mka dm_mk6 o idx z m
    | _ => false)
  | .invokevirtual idx => Nat.beq n 3 && (match d with
    | 10 :: ds => (dm_tri ds).all (dq_tria o idx)
    | [8, z, m, ci] => dq_mka dm_mk8 o idx z m && Nat.blt ci 12 && Nat.beq (dq_col.getD ci 99) (dm_o z)
    | [9, z, m, ci] => dq_mka dm_mk9 o idx z m && Nat.blt ci 12 && Nat.beq (dq_col.getD ci 99) (dm_o z)
    | _ => false)
  | .athrow => true
  | _ => false
noncomputable def dq_es (f : Nat → Instr → Nat → List Nat → List dm_E1 → Bool) : List dm_E1 → Bool
  | [] => true
  | (pc, i, n, d, _) :: t => f pc i n d t && dq_es f t
def dq_ctg : Nat → List dm_E1 → Bool
  | _, [] => true
  | pc, (q, _, n, _, _) :: t => Nat.beq q pc && dq_ctg (pc + n) t
/-- the handlers -/
def dq_hc1 (o : Nat) (h : Nat × Nat × Nat × Nat) (t : Nat × Nat × Nat × Nat × Nat × Nat) : Bool := Nat.beq h.1 t.1 && Nat.beq h.2.1 t.2.1 && Nat.beq h.2.2.1 t.2.2.1 && Nat.blt t.2.2.2.1 3 && !(Nat.beq h.2.2.2 0)
noncomputable def dq_hcl (o : Nat) (C : List dm_E1) (h : Nat × Nat × Nat × Nat) (t : Nat × Nat × Nat × Nat × Nat × Nat) : Bool := dm_ws.any (fun w => dq_weq w (.classLink (dm_on o) h.2.2.2 (dm_xn t.2.2.2.1))) && (match dm_at C t.2.2.1 with
  | some (.astore j, 2, _) => Nat.beq t.2.2.2.2.2 2 && Nat.beq t.2.2.2.2.1 j
  | some (.astore_n j, 1, _) => Nat.beq t.2.2.2.2.2 1 && Nat.beq t.2.2.2.2.1 j
  | _ => false)
noncomputable def dq_hc (o : Nat) (C : List dm_E1) : List (Nat × Nat × Nat × Nat) → dm_T → Bool
  | [], [] => true
  | h :: hh, t :: T => dq_hc1 o h t && dq_hcl o C h t && dq_hc o C hh T
  | _, _ => false
noncomputable def dq_m1 (y : Nat) (l : List UInt8) : Bool := Jvm.Free.DS.chk l 0 ((dm_P y).1.map (fun e => (e.2.1, e.2.2.1))) && Nat.ble (((dm_P y).1.map (fun e => (e.2.1, e.2.2.1))).map (·.2)).sum l.length && dq_ctg 0 (dm_P y).1
noncomputable def dq_m2 (y : Nat) : Bool := dq_es (dq_ei y (dm_o y) (dm_P y).2.2.2 (dm_rt y) (decide ((dm_y y).name = "<init>")) (dm_hh y).isEmpty) (dm_P y).1 && dq_hc (dm_o y) (dm_P y).1 (dm_hh y) (dm_P y).2.1 && decide ((dm_y y).cls = dm_on (dm_o y)) && plainName (dm_y y).cls
noncomputable def dq_m3 (y : Nat) : Bool := match lw_tbl[dm_ci y]? with
  | some (.code _ b _ _) => dq_m1 y b.data.toList
  | some (.codeWith _ b _ _ _) => dq_m1 y b.data.toList
  | _ => false
