-- the constructor of the class (written by gen9f.py)
section Z9f
theorem bn_X_9 : BNF "BesideAnother" 9 7 8 [.null, .null, .int 0, .int 0, .null, .null, .int 0, .int 0] := ⟨z_R7, z_F7, z_y7, z_C7, z_ty7, (gwc1 30 rfl rfl), (gwc1 31 rfl rfl), (gwc1 2 rfl rfl), (lt_s (lt_s (lt_s (lt_s (lt_s (lt_s (lt_s (lt_s lt_0 rfl) rfl) rfl) rfl) rfl) rfl) rfl) rfl)⟩
theorem bl_X_11 : Cond.methodLinkNest "BesideAnother" 11 y_P_init.1 "BesideAnother" ∈ tables_1 := List.mem_of_getElem? (i := 32) (by decide +kernel)
theorem bc_P : BCF y_P_init := ⟨(gwc1 33 rfl rfl), (gwc1 2 rfl rfl), (gwc1 34 rfl rfl), rfl, rfl, ⟨⟨by decide +kernel, by decide +kernel⟩, by decide +kernel⟩, by decide⟩
theorem bf_X_12 : BFF "BesideAnother" 12 8 0 (.object "BesideAnother$Text") := ⟨z_R8, z_F8, 19, z_C8, by decide, (gwc2 40 rfl rfl), rfl, rfl, by decide +kernel⟩
theorem bn_X_16 : BNF "BesideAnother" 16 6 6 [.null, .null, .int 0, .null, .null, .int 0] := ⟨z_R6, z_F6, z_y6, z_C6, z_ty6, (gwc1 83 rfl rfl), (gwc1 84 rfl rfl), (gwc1 4 rfl rfl), (lt_s (lt_s (lt_s (lt_s (lt_s (lt_s lt_0 rfl) rfl) rfl) rfl) rfl) rfl)⟩
theorem bl_X_18 : Cond.methodLink "BesideAnother" 18 y_T_init.1 ∈ GW := (gwc1 85 rfl rfl)
theorem bc_T : BCF y_T_init := ⟨(gwc1 86 rfl rfl), (gwc1 4 rfl rfl), (gwc1 87 rfl rfl), rfl, rfl, ⟨⟨by decide +kernel, by decide +kernel⟩, by decide +kernel⟩, by decide⟩
theorem bf_X_19 : BFF "BesideAnother" 19 8 1 (.object "BesideAnother$Tables") := ⟨z_R8, z_F8, 19, z_C8, by decide, (gwc2 41 rfl rfl), rfl, rfl, by decide +kernel⟩
theorem bn_X_23 : BNF "BesideAnother" 23 4 10 [.null, .null, .null, .null, .null, .int 0, .null, .null, .null, .null] := ⟨z_R4, z_F4, z_y4, z_C4, z_ty4, (gwc1 144 rfl rfl), (gwc1 145 rfl rfl), (gwc1 6 rfl rfl), (lt_s (lt_s (lt_s (lt_s (lt_s (lt_s (lt_s (lt_s (lt_s (lt_s lt_0 rfl) rfl) rfl) rfl) rfl) rfl) rfl) rfl) rfl) rfl)⟩
theorem bl_X_25 : Cond.methodLinkNest "BesideAnother" 25 y_S_init.1 "BesideAnother" ∈ tables_1 := List.mem_of_getElem? (i := 146) (by decide +kernel)
theorem bc_S : BCF y_S_init := ⟨(gwc1 147 rfl rfl), (gwc1 6 rfl rfl), (gwc1 148 rfl rfl), rfl, rfl, ⟨⟨by decide +kernel, by decide +kernel⟩, by decide +kernel⟩, by decide⟩
theorem bf_X_26 : BFF "BesideAnother" 26 8 2 (.object "BesideAnother$Search") := ⟨z_R8, z_F8, 19, z_C8, by decide, (gwc2 42 rfl rfl), rfl, rfl, by decide +kernel⟩
theorem bn_X_30 : BNF "BesideAnother" 30 5 5 [.int 0, .int 0, .int 0, .int 0, .int 0] := ⟨z_R5, z_F5, z_y5, z_C5, z_ty5, (gwc1 188 rfl rfl), (gwc1 189 rfl rfl), (gwc1 7 rfl rfl), (lt_s (lt_s (lt_s (lt_s (lt_s lt_0 rfl) rfl) rfl) rfl) rfl)⟩
theorem bl_X_32 : Cond.methodLinkNest "BesideAnother" 32 y_V_init.1 "BesideAnother" ∈ tables_1 := List.mem_of_getElem? (i := 190) (by decide +kernel)
theorem bc_V : BCF y_V_init := ⟨(gwc1 191 rfl rfl), (gwc1 7 rfl rfl), (gwc1 192 rfl rfl), rfl, rfl, ⟨⟨by decide +kernel, by decide +kernel⟩, by decide +kernel⟩, by decide⟩
theorem bf_X_33 : BFF "BesideAnother" 33 8 3 (.object "BesideAnother$Survey") := ⟨z_R8, z_F8, 19, z_C8, by decide, (gwc2 43 rfl rfl), rfl, rfl, by decide +kernel⟩
theorem bn_X_37 : BNF "BesideAnother" 37 1 3 [.null, .null, .int 0] := ⟨z_R1, z_F1, z_y1, z_C1, z_ty1, (gwc1 215 rfl rfl), (gwc1 37 rfl rfl), (gwc1 3 rfl rfl), (lt_s (lt_s (lt_s lt_0 rfl) rfl) rfl)⟩
theorem bl_X_39 : Cond.methodLinkNest "BesideAnother" 39 y_E_init.1 "BesideAnother" ∈ tables_1 := List.mem_of_getElem? (i := 216) (by decide +kernel)
theorem bf_X_40 : BFF "BesideAnother" 40 8 4 (.object "BesideAnother$Expression") := ⟨z_R8, z_F8, 19, z_C8, by decide, (gwc2 44 rfl rfl), rfl, rfl, by decide +kernel⟩
theorem bf_X_46 : BFF "BesideAnother" 46 8 5 (.array (.object "BesideAnother$Reader")) := ⟨z_R8, z_F8, 19, z_C8, by decide, (gwc2 45 rfl rfl), rfl, rfl, by decide +kernel⟩
theorem bf_X_52 : BFF "BesideAnother" 52 8 6 (.array (.object "BesideAnother$Kept")) := ⟨z_R8, z_F8, 19, z_C8, by decide, (gwc2 46 rfl rfl), rfl, rfl, by decide +kernel⟩
theorem bf_X_56 : BFF "BesideAnother" 56 8 10 (.array .int) := ⟨z_R8, z_F8, 19, z_C8, by decide, (gwc2 50 rfl rfl), rfl, rfl, by decide +kernel⟩
theorem bf_X_60 : BFF "BesideAnother" 60 8 12 (.array .int) := ⟨z_R8, z_F8, 19, z_C8, by decide, (gwc2 52 rfl rfl), rfl, rfl, by decide +kernel⟩
theorem bf_X_63 : BFF "BesideAnother" 63 8 14 (.array .int) := ⟨z_R8, z_F8, 19, z_C8, by decide, (gwc2 54 rfl rfl), rfl, rfl, by decide +kernel⟩
theorem bf_X_66 : BFF "BesideAnother" 66 8 15 (.array .int) := ⟨z_R8, z_F8, 19, z_C8, by decide, (gwc2 55 rfl rfl), rfl, rfl, by decide +kernel⟩
theorem bf_X_69 : BFF "BesideAnother" 69 8 16 (.array .int) := ⟨z_R8, z_F8, 19, z_C8, by decide, (gwc2 56 rfl rfl), rfl, rfl, by decide +kernel⟩
theorem bf_X_72 : BFF "BesideAnother" 72 8 17 (.array .int) := ⟨z_R8, z_F8, 19, z_C8, by decide, (gwc2 57 rfl rfl), rfl, rfl, by decide +kernel⟩
theorem bf_X_75 : BFF "BesideAnother" 75 8 18 (.array .int) := ⟨z_R8, z_F8, 19, z_C8, by decide, (gwc2 58 rfl rfl), rfl, rfl, by decide +kernel⟩
theorem bn_X_44 : BNF "BesideAnother" 44 3 4 [.int 0, .int 0, .int 0, .int 0] := ⟨z_R3, z_F3, z_y3, z_C3, z_ty3, (gwc1 217 rfl rfl), (gwc1 221 rfl rfl), (gwc1 8 rfl rfl), (lt_s (lt_s (lt_s (lt_s lt_0 rfl) rfl) rfl) rfl)⟩
theorem bl_X_78 : Cond.methodLinkNest "BesideAnother" 78 y_R_init.1 "BesideAnother" ∈ tables_1 := List.mem_of_getElem? (i := 222) (by decide +kernel)
theorem bc_R : BCF y_R_init := ⟨(gwc1 223 rfl rfl), (gwc1 8 rfl rfl), (gwc1 224 rfl rfl), rfl, rfl, ⟨⟨by decide +kernel, by decide +kernel⟩, by decide +kernel⟩, by decide⟩
theorem bn_X_50 : BNF "BesideAnother" 50 2 9 [.int 0, .long 0, .int 0, .int 0, .int 0, .null, .null, .null, .null] := ⟨z_R2, z_F2, z_y2, z_C2, z_ty2, (gwc1 219 rfl rfl), (gwc2 3 rfl rfl), (gwc1 9 rfl rfl), (lt_s (lt_s (lt_s (lt_s (lt_s (lt_s (lt_s (lt_s (lt_s lt_0 rfl) rfl) rfl) rfl) rfl) rfl) rfl) rfl) rfl)⟩
theorem bl_X_79 : Cond.methodLinkNest "BesideAnother" 79 y_K_init.1 "BesideAnother" ∈ tables_1 := List.mem_of_getElem? (i := 244) (by decide +kernel)
theorem bc_K : BCF y_K_init := ⟨(gwc2 5 rfl rfl), (gwc1 9 rfl rfl), (gwc2 6 rfl rfl), rfl, rfl, ⟨⟨by decide +kernel, by decide +kernel⟩, by decide +kernel⟩, by decide⟩
theorem x_p1 (g : ZG) {b0 h : Nat} {P : ZBs} (hh : b0 + P.length = h) : BO g b0 4 y_X_init 0 [(0, .ref h)] [] 0 0 (P ++ bO 8 [.null, .null, .null, .null, .null, .null, .null, .int 0, .long 0, .int 0, .null, .int 0, .null, .int 0, .null, .null, .null, .null, .null] :: []) (59, [(0, .ref h)], [], 111, 259478, P ++ bO 8 [.ref (h + (0 + 1)), .ref (h + (8 + 1)), .ref (h + (97 + 1)), .ref (h + (107 + 1)), .ref (h + (108 + 1)), .null, .null, .int 0, .long 0, .int 0, .null, .int 0, .null, .int 0, .null, .null, .null, .null, .null] :: xPre g h) := by
  refine BO.aload_n (pc := 0) (k := 0) (n := 0) 0 d_X_init_0 rfl rfl ?_
  refine BO.objI (pc := 1) (k := 0) (n := 0) d_X_init_1 (gwc1 27 rfl rfl) b_oi2 b_oi3 (by decide) ?_
  refine BO.aload_n (pc := 4) (k := 0) (n := 0) 0 d_X_init_4 rfl rfl ?_
  refine BO.sNew (pc := 5) (k := 0) (n := 0) (h := h) (u := 0) d_X_init_5 bn_X_9 hh rfl (Nat.le_of_ble_eq_true rfl) (Nat.le_of_ble_eq_true rfl) ?_
  refine BO.dup (pc := 8) (k := 1) (n := 8) d_X_init_8 rfl ?_
  refine BO.sCN (pc := 9) (k := 1) (n := 8) (h := h) (u := 0) (mc := 7) (ms := 326) d_X_init_9 (ok_P_init g b0) bl_X_11 bc_P (by decide) hh rfl (Nat.le_of_ble_eq_true rfl) (Nat.le_of_ble_eq_true rfl) (Nat.le_of_ble_eq_true rfl) ?_
  refine BO.sPF (pc := 12) (k := 8) (n := 334) (h := h) (fs' := [.ref (h + (0 + 1)), .null, .null, .null, .null, .null, .null, .int 0, .long 0, .int 0, .null, .int 0, .null, .int 0, .null, .null, .null, .null, .null]) d_X_init_12 bf_X_12 rfl rfl rfl (Nat.le_of_ble_eq_true rfl) hh rfl ?_
  refine BO.aload_n (pc := 15) (k := 8) (n := 334) 0 d_X_init_15 rfl rfl ?_
  refine BO.sNew (pc := 16) (k := 8) (n := 334) (h := h) (u := 8) d_X_init_16 bn_X_16 hh rfl (Nat.le_of_ble_eq_true rfl) (Nat.le_of_ble_eq_true rfl) ?_
  refine BO.dup (pc := 19) (k := 9) (n := 340) d_X_init_19 rfl ?_
  refine BO.sCD (pc := 20) (k := 9) (n := 340) (h := h) (u := 8) (mc := 88) (ms := 27615) d_X_init_20 (ok_T_init g b0) bl_X_18 bc_T (by decide) hh rfl (Nat.le_of_ble_eq_true rfl) (Nat.le_of_ble_eq_true rfl) (Nat.le_of_ble_eq_true rfl) ?_
  refine BO.sPF (pc := 23) (k := 97) (n := 27955) (h := h) (fs' := [.ref (h + (0 + 1)), .ref (h + (8 + 1)), .null, .null, .null, .null, .null, .int 0, .long 0, .int 0, .null, .int 0, .null, .int 0, .null, .null, .null, .null, .null]) d_X_init_23 bf_X_19 rfl rfl rfl (Nat.le_of_ble_eq_true rfl) hh rfl ?_
  refine BO.aload_n (pc := 26) (k := 97) (n := 27955) 0 d_X_init_26 rfl rfl ?_
  refine BO.sNew (pc := 27) (k := 97) (n := 27955) (h := h) (u := 97) d_X_init_27 bn_X_23 hh (by rw [List.length_append, kT_len]; rfl) (Nat.le_of_ble_eq_true rfl) (Nat.le_of_ble_eq_true rfl) ?_
  refine BO.dup (pc := 30) (k := 98) (n := 27965) d_X_init_30 rfl ?_
  refine BO.sCN (pc := 31) (k := 98) (n := 27965) (h := h) (u := 97) (mc := 9) (ms := 231385) d_X_init_31 (ok_S_init g b0) bl_X_25 bc_S (by decide) hh (by rw [List.length_append, kT_len]; rfl) (Nat.le_of_ble_eq_true rfl) (Nat.le_of_ble_eq_true rfl) (Nat.le_of_ble_eq_true rfl) ?_
  refine BO.sPF (pc := 34) (k := 107) (n := 259350) (h := h) (fs' := [.ref (h + (0 + 1)), .ref (h + (8 + 1)), .ref (h + (97 + 1)), .null, .null, .null, .null, .int 0, .long 0, .int 0, .null, .int 0, .null, .int 0, .null, .null, .null, .null, .null]) d_X_init_34 bf_X_26 rfl rfl rfl (Nat.le_of_ble_eq_true rfl) hh rfl ?_
  refine BO.aload_n (pc := 37) (k := 107) (n := 259350) 0 d_X_init_37 rfl rfl ?_
  refine BO.sNew (pc := 38) (k := 107) (n := 259350) (h := h) (u := 107) d_X_init_38 bn_X_30 hh (by rw [List.length_append, List.length_append, kT_len]; rfl) (Nat.le_of_ble_eq_true rfl) (Nat.le_of_ble_eq_true rfl) ?_
  refine BO.dup (pc := 41) (k := 108) (n := 259355) d_X_init_41 rfl ?_
  refine BO.sCN (pc := 42) (k := 108) (n := 259355) (h := h) (u := 107) (mc := 0) (ms := 0) d_X_init_42 (ok_V_init g b0) bl_X_32 bc_V (by decide) hh (by rw [List.length_append, List.length_append, kT_len]; rfl) (Nat.le_of_ble_eq_true rfl) (Nat.le_of_ble_eq_true rfl) (Nat.le_of_ble_eq_true rfl) ?_
  refine BO.sPF (pc := 45) (k := 108) (n := 259355) (h := h) (fs' := [.ref (h + (0 + 1)), .ref (h + (8 + 1)), .ref (h + (97 + 1)), .ref (h + (107 + 1)), .null, .null, .null, .int 0, .long 0, .int 0, .null, .int 0, .null, .int 0, .null, .null, .null, .null, .null]) d_X_init_45 bf_X_33 rfl rfl rfl (Nat.le_of_ble_eq_true rfl) hh rfl ?_
  refine BO.aload_n (pc := 48) (k := 108) (n := 259355) 0 d_X_init_48 rfl rfl ?_
  refine BO.sNew (pc := 49) (k := 108) (n := 259355) (h := h) (u := 108) d_X_init_49 bn_X_37 hh (by rw [List.length_append, List.length_append, List.length_append, kT_len]; rfl) (Nat.le_of_ble_eq_true rfl) (Nat.le_of_ble_eq_true rfl) ?_
  refine BO.dup (pc := 52) (k := 109) (n := 259358) d_X_init_52 rfl ?_
  refine BO.sCN (pc := 53) (k := 109) (n := 259358) (h := h) (u := 108) (mc := 2) (ms := 120) d_X_init_53 (ok_E_init g b0) bl_X_39 bc_E (by decide) hh (by rw [List.length_append, List.length_append, List.length_append, kT_len]; rfl) (Nat.le_of_ble_eq_true rfl) (Nat.le_of_ble_eq_true rfl) (Nat.le_of_ble_eq_true rfl) ?_
  refine BO.sPF (pc := 56) (k := 111) (n := 259478) (h := h) (fs' := [.ref (h + (0 + 1)), .ref (h + (8 + 1)), .ref (h + (97 + 1)), .ref (h + (107 + 1)), .ref (h + (108 + 1)), .null, .null, .int 0, .long 0, .int 0, .null, .int 0, .null, .int 0, .null, .null, .null, .null, .null]) d_X_init_56 bf_X_40 rfl rfl rfl (Nat.le_of_ble_eq_true rfl) hh rfl ?_
  exact BO.weq (ws' := P ++ bO 8 [.ref (h + (0 + 1)), .ref (h + (8 + 1)), .ref (h + (97 + 1)), .ref (h + (107 + 1)), .ref (h + (108 + 1)), .null, .null, .int 0, .long 0, .int 0, .null, .int 0, .null, .int 0, .null, .null, .null, .null, .null] :: xPre g h) rfl BO.done
def xU (g : ZG) (h i : Nat) : ZBs := xPre g h ++ (bA g 4 6 (xRf h i) :: bA g 5 3 (fun _ => none) :: (xArr g ++ xRb g h i))
theorem xU_len (g : ZG) (h i : Nat) : (xU g h i).length = 120 + i := by
  show (xPre g h ++ (bA g 4 6 (xRf h i) :: bA g 5 3 (fun _ => none) :: (xArr g ++ xRb g h i))).length = _
  rw [List.length_append, xPre_len, List.length_cons, List.length_cons, List.length_append, xRb_len]
  show 111 + (7 + i + 1 + 1) = _
  omega
def xW (g : ZG) (h i : Nat) : ZBs := (xPre g h ++ [bA g 4 6 (xRf h 6)]) ++ (bA g 5 3 (xKf h i) :: (xArr g ++ xRb g h 6 ++ xKb g h i))
theorem xW_len (g : ZG) (h i : Nat) : (xW g h i).length = 126 + 5 * i := by
  show ((xPre g h ++ [bA g 4 6 (xRf h 6)]) ++ (bA g 5 3 (xKf h i) :: (xArr g ++ xRb g h 6 ++ xKb g h i))).length = _
  rw [List.length_append, ap_len (xPre_len g h), List.length_cons, List.length_append, List.length_append, xRb_len, xKb_len]
  show 111 + 1 + (7 + 6 + 5 * i + 1) = _
  omega
theorem x_p2 (g : ZG) {b0 h : Nat} {P : ZBs} (hh : b0 + P.length = h) : BO g b0 4 y_X_init 59 [(0, .ref h)] [] 111 259478 (P ++ bO 8 [.ref (h + (0 + 1)), .ref (h + (8 + 1)), .ref (h + (97 + 1)), .ref (h + (107 + 1)), .ref (h + (108 + 1)), .null, .null, .int 0, .long 0, .int 0, .null, .int 0, .null, .int 0, .null, .null, .null, .null, .null] :: xPre g h) (134, [(1, .int (nI 0)), (0, .ref h)], [], 120, 259608, P ++ bO 8 [.ref (h + (0 + 1)), .ref (h + (8 + 1)), .ref (h + (97 + 1)), .ref (h + (107 + 1)), .ref (h + (108 + 1)), .ref (h + (111 + 1)), .ref (h + (112 + 1)), .int 0, .long 0, .int 0, .ref (h + (113 + 1)), .int 0, .ref (h + (114 + 1)), .int 0, .ref (h + (115 + 1)), .ref (h + (116 + 1)), .ref (h + (117 + 1)), .ref (h + (118 + 1)), .ref (h + (119 + 1))] :: xU g h 0) := by
  refine BO.aload_n (pc := 59) (k := 111) (n := 259478) 0 d_X_init_59 rfl rfl ?_
  refine BO.bipush (pc := 60) (k := 111) (n := 259478) 6 d_X_init_60 rfl ?_
  refine BO.sA (pc := 62) (k := 111) (n := 259478) (h := h) (u := 111) (N := 6) (t0 := 4) (C := "BesideAnother$Reader") d_X_init_62 (gwc1 217 rfl rfl) (List.mem_of_getElem? (i := 218) (by decide +kernel)) (fun _ => rfl) (by decide +kernel) (by decide +kernel) (Nat.le_of_ble_eq_true rfl) hh (xPre_len g h) (Nat.le_of_ble_eq_true rfl) (Nat.le_of_ble_eq_true rfl) ?_
  refine BO.sPF (pc := 65) (k := 112) (n := 259484) (h := h) (fs' := [.ref (h + (0 + 1)), .ref (h + (8 + 1)), .ref (h + (97 + 1)), .ref (h + (107 + 1)), .ref (h + (108 + 1)), .ref (h + (111 + 1)), .null, .int 0, .long 0, .int 0, .null, .int 0, .null, .int 0, .null, .null, .null, .null, .null]) d_X_init_65 bf_X_46 rfl rfl rfl (Nat.le_of_ble_eq_true rfl) hh rfl ?_
  refine BO.aload_n (pc := 68) (k := 112) (n := 259484) 0 d_X_init_68 rfl rfl ?_
  refine BO.iconst (pc := 69) (k := 112) (n := 259484) 3 d_X_init_69 rfl ?_
  refine BO.sA (pc := 70) (k := 112) (n := 259484) (h := h) (u := 112) (N := 3) (t0 := 5) (C := "BesideAnother$Kept") d_X_init_70 (gwc1 219 rfl rfl) (List.mem_of_getElem? (i := 220) (by decide +kernel)) (fun _ => rfl) (by decide +kernel) (by decide +kernel) (Nat.le_of_ble_eq_true rfl) hh (ap_len (xPre_len g h)) (Nat.le_of_ble_eq_true rfl) (Nat.le_of_ble_eq_true rfl) ?_
  refine BO.sPF (pc := 73) (k := 113) (n := 259487) (h := h) (fs' := [.ref (h + (0 + 1)), .ref (h + (8 + 1)), .ref (h + (97 + 1)), .ref (h + (107 + 1)), .ref (h + (108 + 1)), .ref (h + (111 + 1)), .ref (h + (112 + 1)), .int 0, .long 0, .int 0, .null, .int 0, .null, .int 0, .null, .null, .null, .null, .null]) d_X_init_73 bf_X_52 rfl rfl rfl (Nat.le_of_ble_eq_true rfl) hh rfl ?_
  refine BO.aload_n (pc := 76) (k := 113) (n := 259487) 0 d_X_init_76 rfl rfl ?_
  refine BO.bipush (pc := 77) (k := 113) (n := 259487) 60 d_X_init_77 rfl ?_
  refine BO.sI (pc := 79) (k := 113) (n := 259487) (h := h) (u := 113) (N := 60) d_X_init_79 (by decide +kernel) (by decide +kernel) (Nat.le_of_ble_eq_true rfl) hh (ap_len (ap_len (xPre_len g h))) (Nat.le_of_ble_eq_true rfl) (Nat.le_of_ble_eq_true rfl) ?_
  refine BO.sPF (pc := 81) (k := 114) (n := 259547) (h := h) (fs' := [.ref (h + (0 + 1)), .ref (h + (8 + 1)), .ref (h + (97 + 1)), .ref (h + (107 + 1)), .ref (h + (108 + 1)), .ref (h + (111 + 1)), .ref (h + (112 + 1)), .int 0, .long 0, .int 0, .ref (h + (113 + 1)), .int 0, .null, .int 0, .null, .null, .null, .null, .null]) d_X_init_81 bf_X_56 rfl rfl rfl (Nat.le_of_ble_eq_true rfl) hh rfl ?_
  refine BO.aload_n (pc := 84) (k := 114) (n := 259547) 0 d_X_init_84 rfl rfl ?_
  refine BO.bipush (pc := 85) (k := 114) (n := 259547) 12 d_X_init_85 rfl ?_
  refine BO.sI (pc := 87) (k := 114) (n := 259547) (h := h) (u := 114) (N := 12) d_X_init_87 (by decide +kernel) (by decide +kernel) (Nat.le_of_ble_eq_true rfl) hh (ap_len (ap_len (ap_len (xPre_len g h)))) (Nat.le_of_ble_eq_true rfl) (Nat.le_of_ble_eq_true rfl) ?_
  refine BO.sPF (pc := 89) (k := 115) (n := 259559) (h := h) (fs' := [.ref (h + (0 + 1)), .ref (h + (8 + 1)), .ref (h + (97 + 1)), .ref (h + (107 + 1)), .ref (h + (108 + 1)), .ref (h + (111 + 1)), .ref (h + (112 + 1)), .int 0, .long 0, .int 0, .ref (h + (113 + 1)), .int 0, .ref (h + (114 + 1)), .int 0, .null, .null, .null, .null, .null]) d_X_init_89 bf_X_60 rfl rfl rfl (Nat.le_of_ble_eq_true rfl) hh rfl ?_
  refine BO.aload_n (pc := 92) (k := 115) (n := 259559) 0 d_X_init_92 rfl rfl ?_
  refine BO.bipush (pc := 93) (k := 115) (n := 259559) 6 d_X_init_93 rfl ?_
  refine BO.sI (pc := 95) (k := 115) (n := 259559) (h := h) (u := 115) (N := 6) d_X_init_95 (by decide +kernel) (by decide +kernel) (Nat.le_of_ble_eq_true rfl) hh (ap_len (ap_len (ap_len (ap_len (xPre_len g h))))) (Nat.le_of_ble_eq_true rfl) (Nat.le_of_ble_eq_true rfl) ?_
  refine BO.sPF (pc := 97) (k := 116) (n := 259565) (h := h) (fs' := [.ref (h + (0 + 1)), .ref (h + (8 + 1)), .ref (h + (97 + 1)), .ref (h + (107 + 1)), .ref (h + (108 + 1)), .ref (h + (111 + 1)), .ref (h + (112 + 1)), .int 0, .long 0, .int 0, .ref (h + (113 + 1)), .int 0, .ref (h + (114 + 1)), .int 0, .ref (h + (115 + 1)), .null, .null, .null, .null]) d_X_init_97 bf_X_63 rfl rfl rfl (Nat.le_of_ble_eq_true rfl) hh rfl ?_
  refine BO.aload_n (pc := 100) (k := 116) (n := 259565) 0 d_X_init_100 rfl rfl ?_
  refine BO.bipush (pc := 101) (k := 116) (n := 259565) 6 d_X_init_101 rfl ?_
  refine BO.sI (pc := 103) (k := 116) (n := 259565) (h := h) (u := 116) (N := 6) d_X_init_103 (by decide +kernel) (by decide +kernel) (Nat.le_of_ble_eq_true rfl) hh (ap_len (ap_len (ap_len (ap_len (ap_len (xPre_len g h)))))) (Nat.le_of_ble_eq_true rfl) (Nat.le_of_ble_eq_true rfl) ?_
  refine BO.sPF (pc := 105) (k := 117) (n := 259571) (h := h) (fs' := [.ref (h + (0 + 1)), .ref (h + (8 + 1)), .ref (h + (97 + 1)), .ref (h + (107 + 1)), .ref (h + (108 + 1)), .ref (h + (111 + 1)), .ref (h + (112 + 1)), .int 0, .long 0, .int 0, .ref (h + (113 + 1)), .int 0, .ref (h + (114 + 1)), .int 0, .ref (h + (115 + 1)), .ref (h + (116 + 1)), .null, .null, .null]) d_X_init_105 bf_X_66 rfl rfl rfl (Nat.le_of_ble_eq_true rfl) hh rfl ?_
  refine BO.aload_n (pc := 108) (k := 117) (n := 259571) 0 d_X_init_108 rfl rfl ?_
  refine BO.bipush (pc := 109) (k := 117) (n := 259571) 12 d_X_init_109 rfl ?_
  refine BO.sI (pc := 111) (k := 117) (n := 259571) (h := h) (u := 117) (N := 12) d_X_init_111 (by decide +kernel) (by decide +kernel) (Nat.le_of_ble_eq_true rfl) hh (ap_len (ap_len (ap_len (ap_len (ap_len (ap_len (xPre_len g h))))))) (Nat.le_of_ble_eq_true rfl) (Nat.le_of_ble_eq_true rfl) ?_
  refine BO.sPF (pc := 113) (k := 118) (n := 259583) (h := h) (fs' := [.ref (h + (0 + 1)), .ref (h + (8 + 1)), .ref (h + (97 + 1)), .ref (h + (107 + 1)), .ref (h + (108 + 1)), .ref (h + (111 + 1)), .ref (h + (112 + 1)), .int 0, .long 0, .int 0, .ref (h + (113 + 1)), .int 0, .ref (h + (114 + 1)), .int 0, .ref (h + (115 + 1)), .ref (h + (116 + 1)), .ref (h + (117 + 1)), .null, .null]) d_X_init_113 bf_X_69 rfl rfl rfl (Nat.le_of_ble_eq_true rfl) hh rfl ?_
  refine BO.aload_n (pc := 116) (k := 118) (n := 259583) 0 d_X_init_116 rfl rfl ?_
  refine BO.bipush (pc := 117) (k := 118) (n := 259583) 12 d_X_init_117 rfl ?_
  refine BO.sI (pc := 119) (k := 118) (n := 259583) (h := h) (u := 118) (N := 12) d_X_init_119 (by decide +kernel) (by decide +kernel) (Nat.le_of_ble_eq_true rfl) hh (ap_len (ap_len (ap_len (ap_len (ap_len (ap_len (ap_len (xPre_len g h)))))))) (Nat.le_of_ble_eq_true rfl) (Nat.le_of_ble_eq_true rfl) ?_
  refine BO.sPF (pc := 121) (k := 119) (n := 259595) (h := h) (fs' := [.ref (h + (0 + 1)), .ref (h + (8 + 1)), .ref (h + (97 + 1)), .ref (h + (107 + 1)), .ref (h + (108 + 1)), .ref (h + (111 + 1)), .ref (h + (112 + 1)), .int 0, .long 0, .int 0, .ref (h + (113 + 1)), .int 0, .ref (h + (114 + 1)), .int 0, .ref (h + (115 + 1)), .ref (h + (116 + 1)), .ref (h + (117 + 1)), .ref (h + (118 + 1)), .null]) d_X_init_121 bf_X_72 rfl rfl rfl (Nat.le_of_ble_eq_true rfl) hh rfl ?_
  refine BO.aload_n (pc := 124) (k := 119) (n := 259595) 0 d_X_init_124 rfl rfl ?_
  refine BO.bipush (pc := 125) (k := 119) (n := 259595) 13 d_X_init_125 rfl ?_
  refine BO.sI (pc := 127) (k := 119) (n := 259595) (h := h) (u := 119) (N := 13) d_X_init_127 (by decide +kernel) (by decide +kernel) (Nat.le_of_ble_eq_true rfl) hh (ap_len (ap_len (ap_len (ap_len (ap_len (ap_len (ap_len (ap_len (xPre_len g h))))))))) (Nat.le_of_ble_eq_true rfl) (Nat.le_of_ble_eq_true rfl) ?_
  refine BO.sPF (pc := 129) (k := 120) (n := 259608) (h := h) (fs' := [.ref (h + (0 + 1)), .ref (h + (8 + 1)), .ref (h + (97 + 1)), .ref (h + (107 + 1)), .ref (h + (108 + 1)), .ref (h + (111 + 1)), .ref (h + (112 + 1)), .int 0, .long 0, .int 0, .ref (h + (113 + 1)), .int 0, .ref (h + (114 + 1)), .int 0, .ref (h + (115 + 1)), .ref (h + (116 + 1)), .ref (h + (117 + 1)), .ref (h + (118 + 1)), .ref (h + (119 + 1))]) d_X_init_129 bf_X_75 rfl rfl rfl (Nat.le_of_ble_eq_true rfl) hh rfl ?_
  refine BO.iconst (pc := 132) (k := 120) (n := 259608) (nI 0) d_X_init_132 rfl ?_
  refine BO.istore_n (pc := 133) (k := 120) (n := 259608) d_X_init_133 rfl (by decide) rfl ?_
  refine BO.weq (ws' := P ++ bO 8 [.ref (h + (0 + 1)), .ref (h + (8 + 1)), .ref (h + (97 + 1)), .ref (h + (107 + 1)), .ref (h + (108 + 1)), .ref (h + (111 + 1)), .ref (h + (112 + 1)), .int 0, .long 0, .int 0, .ref (h + (113 + 1)), .int 0, .ref (h + (114 + 1)), .int 0, .ref (h + (115 + 1)), .ref (h + (116 + 1)), .ref (h + (117 + 1)), .ref (h + (118 + 1)), .ref (h + (119 + 1))] :: xU g h 0) ?_ BO.done
  simp only [List.append_assoc]
  rfl
theorem x_lr (g : ZG) {b0 h : Nat} {P : ZBs} (hh : b0 + P.length = h) : ∀ j i, i + j = 6 → BO g b0 4 y_X_init 134 [(1, .int (nI i)), (0, .ref h)] [] (120 + i) (259608 + 4 * i) (P ++ bO 8 [.ref (h + (0 + 1)), .ref (h + (8 + 1)), .ref (h + (97 + 1)), .ref (h + (107 + 1)), .ref (h + (108 + 1)), .ref (h + (111 + 1)), .ref (h + (112 + 1)), .int 0, .long 0, .int 0, .ref (h + (113 + 1)), .int 0, .ref (h + (114 + 1)), .int 0, .ref (h + (115 + 1)), .ref (h + (116 + 1)), .ref (h + (117 + 1)), .ref (h + (118 + 1)), .ref (h + (119 + 1))] :: xU g h i) (159, [(1, .int (nI 6)), (0, .ref h)], [], 126, 259632, P ++ bO 8 [.ref (h + (0 + 1)), .ref (h + (8 + 1)), .ref (h + (97 + 1)), .ref (h + (107 + 1)), .ref (h + (108 + 1)), .ref (h + (111 + 1)), .ref (h + (112 + 1)), .int 0, .long 0, .int 0, .ref (h + (113 + 1)), .int 0, .ref (h + (114 + 1)), .int 0, .ref (h + (115 + 1)), .ref (h + (116 + 1)), .ref (h + (117 + 1)), .ref (h + (118 + 1)), .ref (h + (119 + 1))] :: xU g h 6)
  | 0, i, hi => by
    have hi : i = 6 := hi
    subst hi
    refine BO.iload_n (pc := 134) 0 d_X_init_134 rfl rfl ?_
    refine BO.bipush (pc := 135) 6 d_X_init_135 rfl ?_
    refine BO.geT (pc := 137) 159 d_X_init_137 (by decide) (by decide) ?_
    exact BO.done
  | j + 1, i, hi => by
    have hi12 : i < 6 := by omega
    refine BO.iload_n (pc := 134) 0 d_X_init_134 rfl rfl ?_
    refine BO.bipush (pc := 135) 6 d_X_init_135 rfl ?_
    refine BO.geF (pc := 137) 159 d_X_init_137 (by decide) (b_le (n := 6) hi12 (by decide)) ?_
    refine BO.aload_n (pc := 140) 1 d_X_init_140 rfl rfl ?_
    refine BO.sG (pc := 141) (h := h) d_X_init_141 zf_X_46 hh rfl ?_
    refine BO.iload_n (pc := 144) 0 d_X_init_144 rfl rfl ?_
    refine BO.sNew (pc := 145) (h := h) (u := 120 + i) d_X_init_145 bn_X_44 hh (xU_len g h i) (by show 120 + i + 1 ≤ 126; omega) (by show 259608 + 4 * i + 4 ≤ 259632; omega) ?_
    refine BO.dup (pc := 148) d_X_init_148 rfl ?_
    refine BO.sCN (pc := 149) (h := h) (u := 120 + i) (mc := 0) (ms := 0) d_X_init_149 (ok_R_init g b0) bl_X_78 bc_R (by decide) hh (xU_len g h i) (Nat.le_of_ble_eq_true rfl) (by show 120 + i + 1 + 0 ≤ 126; omega) (by show 259608 + 4 * i + 4 + 0 ≤ 259632; omega) ?_
    refine BO.sAs (pc := 152) (h := h) (i := 111) (w := 120 + i) (cj := 3) (t0 := 4) (N := 6) (f := xRf h i) (U' := xU g h (i + 1)) d_X_init_152 ?_ (mid_g (xU_len g h i)) (fun _ => rfl) rfl hh (vp_in_nI hi12 (by decide)) ?_ ?_
    · show ((xPre g h ++ (bA g 4 6 (xRf h i) :: bA g 5 3 (fun _ => none) :: (xArr g ++ xRb g h i))) ++ kR g _)[111]? = _
      rw [List.append_assoc]
      exact mid_g (xPre_len g h)
    · show ((xPre g h ++ (bA g 4 6 (xRf h i) :: bA g 5 3 (fun _ => none) :: (xArr g ++ xRb g h i))) ++ kR g _).set 111 _ = _
      rw [List.append_assoc]
      refine (mid_s (xPre_len g h)).trans ?_
      show xPre g h ++ (bA g 4 6 _ :: bA g 5 3 (fun _ => none) :: ((xArr g ++ xRb g h i) ++ kR g _)) = _
      rw [List.append_assoc]
      rfl
    refine BO.iinc (pc := 153) (i := 0) (nI (i + 1)) d_X_init_153 rfl (b_inc i) (by decide) rfl ?_
    refine BO.goto (pc := 156) 134 d_X_init_156 (by decide) ?_
    exact BO.kn (by omega) (by omega) rfl (x_lr g hh j (i + 1) (by omega))
theorem x_lk (g : ZG) {b0 h : Nat} {P : ZBs} (hh : b0 + P.length = h) : ∀ j i, i + j = 3 → BO g b0 4 y_X_init 161 [(1, .int (nI i)), (0, .ref h)] [] (126 + 5 * i) (259632 + 93 * i) (P ++ bO 8 [.ref (h + (0 + 1)), .ref (h + (8 + 1)), .ref (h + (97 + 1)), .ref (h + (107 + 1)), .ref (h + (108 + 1)), .ref (h + (111 + 1)), .ref (h + (112 + 1)), .int 0, .long 0, .int 0, .ref (h + (113 + 1)), .int 0, .ref (h + (114 + 1)), .int 0, .ref (h + (115 + 1)), .ref (h + (116 + 1)), .ref (h + (117 + 1)), .ref (h + (118 + 1)), .ref (h + (119 + 1))] :: xW g h i) (185, [(1, .int (nI 3)), (0, .ref h)], [], 141, 259911, P ++ bO 8 [.ref (h + (0 + 1)), .ref (h + (8 + 1)), .ref (h + (97 + 1)), .ref (h + (107 + 1)), .ref (h + (108 + 1)), .ref (h + (111 + 1)), .ref (h + (112 + 1)), .int 0, .long 0, .int 0, .ref (h + (113 + 1)), .int 0, .ref (h + (114 + 1)), .int 0, .ref (h + (115 + 1)), .ref (h + (116 + 1)), .ref (h + (117 + 1)), .ref (h + (118 + 1)), .ref (h + (119 + 1))] :: xW g h 3)
  | 0, i, hi => by
    have hi : i = 3 := hi
    subst hi
    refine BO.iload_n (pc := 161) 0 d_X_init_161 rfl rfl ?_
    refine BO.iconst (pc := 162) 3 d_X_init_162 rfl ?_
    refine BO.geT (pc := 163) 185 d_X_init_163 (by decide) (by decide) ?_
    exact BO.done
  | j + 1, i, hi => by
    have hi12 : i < 3 := by omega
    refine BO.iload_n (pc := 161) 0 d_X_init_161 rfl rfl ?_
    refine BO.iconst (pc := 162) 3 d_X_init_162 rfl ?_
    refine BO.geF (pc := 163) 185 d_X_init_163 (by decide) (b_le (n := 3) hi12 (by decide)) ?_
    refine BO.aload_n (pc := 166) 1 d_X_init_166 rfl rfl ?_
    refine BO.sG (pc := 167) (h := h) d_X_init_167 zf_X_52 hh rfl ?_
    refine BO.iload_n (pc := 170) 0 d_X_init_170 rfl rfl ?_
    refine BO.sNew (pc := 171) (h := h) (u := 126 + 5 * i) d_X_init_171 bn_X_50 hh (xW_len g h i) (by show 126 + 5 * i + 1 ≤ 141; omega) (by show 259632 + 93 * i + 9 ≤ 259911; omega) ?_
    refine BO.dup (pc := 174) d_X_init_174 rfl ?_
    refine BO.sCN (pc := 175) (h := h) (u := 126 + 5 * i) (mc := 4) (ms := 84) d_X_init_175 (ok_K_init g b0) bl_X_79 bc_K (by decide) hh (xW_len g h i) (Nat.le_of_ble_eq_true rfl) (by show 126 + 5 * i + 1 + 4 ≤ 141; omega) (by show 259632 + 93 * i + 9 + 84 ≤ 259911; omega) ?_
    refine BO.sAs (pc := 178) (h := h) (i := 112) (w := 126 + 5 * i) (cj := 2) (t0 := 5) (N := 3) (f := xKf h i) (U' := xW g h (i + 1)) d_X_init_178 ?_ (mid_g (xW_len g h i)) (fun _ => rfl) rfl hh (vp_in_nI hi12 (by decide)) ?_ ?_
    · show (((xPre g h ++ [bA g 4 6 (xRf h 6)]) ++ (bA g 5 3 (xKf h i) :: (xArr g ++ xRb g h 6 ++ xKb g h i))) ++ kK g _)[112]? = _
      rw [List.append_assoc]
      exact mid_g (ap_len (xPre_len g h))
    · show (((xPre g h ++ [bA g 4 6 (xRf h 6)]) ++ (bA g 5 3 (xKf h i) :: (xArr g ++ xRb g h 6 ++ xKb g h i))) ++ kK g _).set 112 _ = _
      rw [List.append_assoc (xPre g h ++ [bA g 4 6 (xRf h 6)])]
      refine (mid_s (ap_len (xPre_len g h))).trans ?_
      show (xPre g h ++ [bA g 4 6 (xRf h 6)]) ++ (bA g 5 3 _ :: ((xArr g ++ xRb g h 6 ++ xKb g h i) ++ kK g _)) = _
      rw [List.append_assoc (xArr g ++ xRb g h 6)]
      rfl
    refine BO.iinc (pc := 179) (i := 0) (nI (i + 1)) d_X_init_179 rfl (b_inc i) (by decide) rfl ?_
    refine BO.goto (pc := 182) 161 d_X_init_182 (by decide) ?_
    exact BO.kn (by omega) (by omega) rfl (x_lk g hh j (i + 1) (by omega))
theorem ok_X_init (g : ZG) (b0 : Nat) : BM g b0 4 y_X_init 8 [.null, .null, .null, .null, .null, .null, .null, .int 0, .long 0, .int 0, .null, .int 0, .null, .int 0, .null, .null, .null, .null, .null] (kX g) 141 259911 := by
  refine BM.of (pcR := 185) (LE := fun a => [(1, .int (nI 3)), (0, .ref a)]) (by decide +kernel) rfl (by decide) d_X_init_185 (fun P h hh => ?_)
  have le : ∀ {a b : Nat}, Nat.ble a b = true → a ≤ b := Nat.le_of_ble_eq_true
  refine BO.tr (x_p1 g hh) ⟨le rfl, le rfl⟩ ?_
  refine BO.tr (x_p2 g hh) ⟨le rfl, le rfl⟩ ?_
  refine BO.tr (BO.kn (k' := 120 + 0) (n' := 259608 + 4 * 0) rfl rfl rfl (x_lr g hh 6 0 rfl)) ⟨le rfl, le rfl⟩ ?_
  refine BO.iconst (pc := 159) (nI 0) d_X_init_159 rfl ?_
  refine BO.istore_n (pc := 160) (L' := [(1, .int (nI 0)), (0, .ref h)]) d_X_init_160 rfl (by decide) rfl ?_
  refine BO.kn (k' := 126 + 5 * 0) (n' := 259632 + 93 * 0) (ws' := P ++ bO 8 [.ref (h + (0 + 1)), .ref (h + (8 + 1)), .ref (h + (97 + 1)), .ref (h + (107 + 1)), .ref (h + (108 + 1)), .ref (h + (111 + 1)), .ref (h + (112 + 1)), .int 0, .long 0, .int 0, .ref (h + (113 + 1)), .int 0, .ref (h + (114 + 1)), .int 0, .ref (h + (115 + 1)), .ref (h + (116 + 1)), .ref (h + (117 + 1)), .ref (h + (118 + 1)), .ref (h + (119 + 1))] :: xW g h 0) rfl rfl ?_ ?_
  · show P ++ bO 8 _ :: (xPre g h ++ (bA g 4 6 (xRf h 6) :: bA g 5 3 (fun _ => none) :: (xArr g ++ xRb g h 6))) = P ++ bO 8 _ :: ((xPre g h ++ [bA g 4 6 (xRf h 6)]) ++ (bA g 5 3 (xKf h 0) :: (xArr g ++ xRb g h 6 ++ xKb g h 0)))
    rw [List.append_assoc (xPre g h), show xKb g h 0 = [] from rfl, List.append_nil]
    rfl
  refine BO.tr (x_lk g hh 3 0 rfl) ⟨le rfl, le rfl⟩ ?_
  refine BO.weq (ws' := P ++ kX g h) ?_ BO.done
  show P ++ bO 8 _ :: ((xPre g h ++ [bA g 4 6 (xRf h 6)]) ++ (bA g 5 3 (xKf h 3) :: (xArr g ++ xRb g h 6 ++ xKb g h 3))) = P ++ bO 8 _ :: (xPre g h ++ (bA g 4 6 (xRf h 6) :: bA g 5 3 (xKf h 3) :: (xArr g ++ xRb g h 6 ++ xKb g h 3)))
  rw [List.append_assoc (xPre g h)]
  rfl
end Z9f
