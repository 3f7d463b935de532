-- the small constructors (written by gen9d.py)
section Z9d
theorem bf_E_9 : BFF "BesideAnother$Expression" 9 1 0 (.array .int) := ⟨z_R1, z_F1, 3, z_C1, by decide, (gwc1 42 rfl rfl), rfl, rfl, by decide +kernel⟩
theorem bf_E_15 : BFF "BesideAnother$Expression" 15 1 1 (.array .int) := ⟨z_R1, z_F1, 3, z_C1, by decide, (gwc1 43 rfl rfl), rfl, rfl, by decide +kernel⟩
theorem bn_B_9 : BNF "BesideAnother$Book" 9 1 3 [.null, .null, .int 0] := ⟨z_R1, z_F1, z_y1, z_C1, z_ty1, (gwc1 96 rfl rfl), (gwc1 37 rfl rfl), (gwc1 3 rfl rfl), (lt_s (lt_s (lt_s lt_0 rfl) rfl) rfl)⟩
theorem bl_B_11 : Cond.methodLinkNest "BesideAnother$Book" 11 y_E_init.1 "BesideAnother" ∈ tables_1 := List.mem_of_getElem? (i := 97) (by decide +kernel)
theorem bc_E : BCF y_E_init := ⟨(gwc1 39 rfl rfl), (gwc1 3 rfl rfl), (gwc1 40 rfl rfl), rfl, rfl, ⟨⟨by decide +kernel, by decide +kernel⟩, by decide +kernel⟩, by decide⟩
theorem bf_B_12 : BFF "BesideAnother$Book" 12 0 0 (.object "BesideAnother$Expression") := ⟨z_R0, z_F0, 6, z_C0, by decide, (gwc1 98 rfl rfl), rfl, rfl, by decide +kernel⟩
theorem bf_B_18 : BFF "BesideAnother$Book" 18 0 1 (.object "BesideAnother$Expression") := ⟨z_R0, z_F0, 6, z_C0, by decide, (gwc1 99 rfl rfl), rfl, rfl, by decide +kernel⟩
theorem bf_B_21 : ZFP "BesideAnother$Book" 21 0 3 .int := ⟨z_R0, z_F0, 6, z_C0, by decide, (gwc1 101 rfl rfl), rfl, by decide +kernel⟩
theorem bn_P_9 : BNF "BesideAnother$Text" 9 1 3 [.null, .null, .int 0] := ⟨z_R1, z_F1, z_y1, z_C1, z_ty1, (gwc1 36 rfl rfl), (gwc1 37 rfl rfl), (gwc1 3 rfl rfl), (lt_s (lt_s (lt_s lt_0 rfl) rfl) rfl)⟩
theorem bl_P_11 : Cond.methodLinkNest "BesideAnother$Text" 11 y_E_init.1 "BesideAnother" ∈ tables_1 := List.mem_of_getElem? (i := 38) (by decide +kernel)
theorem bf_P_12 : BFF "BesideAnother$Text" 12 7 0 (.object "BesideAnother$Expression") := ⟨z_R7, z_F7, 8, z_C7, by decide, (gwc1 53 rfl rfl), rfl, rfl, by decide +kernel⟩
theorem bf_P_18 : BFF "BesideAnother$Text" 18 7 1 (.object "BesideAnother$Expression") := ⟨z_R7, z_F7, 8, z_C7, by decide, (gwc1 56 rfl rfl), rfl, rfl, by decide +kernel⟩
theorem bf_P_21 : BFF "BesideAnother$Text" 21 7 4 (.array .int) := ⟨z_R7, z_F7, 8, z_C7, by decide, (gwc1 62 rfl rfl), rfl, rfl, by decide +kernel⟩
theorem bf_P_25 : ZFP "BesideAnother$Text" 25 7 5 (.object "BesideAnother$Expression") := ⟨z_R7, z_F7, 8, z_C7, by decide, (gwc1 63 rfl rfl), rfl, by decide +kernel⟩
theorem bf_K_9 : BFF "BesideAnother$Kept" 9 2 5 (.array .int) := ⟨z_R2, z_F2, 9, z_C2, by decide, (gwc2 13 rfl rfl), rfl, rfl, by decide +kernel⟩
theorem bf_K_15 : BFF "BesideAnother$Kept" 15 2 6 (.array .int) := ⟨z_R2, z_F2, 9, z_C2, by decide, (gwc2 15 rfl rfl), rfl, rfl, by decide +kernel⟩
theorem bf_K_18 : BFF "BesideAnother$Kept" 18 2 7 (.array .int) := ⟨z_R2, z_F2, 9, z_C2, by decide, (gwc2 17 rfl rfl), rfl, rfl, by decide +kernel⟩
theorem bf_K_21 : BFF "BesideAnother$Kept" 21 2 8 (.array .int) := ⟨z_R2, z_F2, 9, z_C2, by decide, (gwc2 19 rfl rfl), rfl, rfl, by decide +kernel⟩
theorem bf_S_9 : BFF "BesideAnother$Search" 9 4 0 (.array .long) := ⟨z_R4, z_F4, 10, z_C4, by decide, (gwc1 151 rfl rfl), rfl, rfl, by decide +kernel⟩
theorem bf_S_15 : BFF "BesideAnother$Search" 15 4 1 (.array .int) := ⟨z_R4, z_F4, 10, z_C4, by decide, (gwc1 152 rfl rfl), rfl, rfl, by decide +kernel⟩
theorem bf_S_19 : BFF "BesideAnother$Search" 19 4 2 (.array .int) := ⟨z_R4, z_F4, 10, z_C4, by decide, (gwc1 154 rfl rfl), rfl, rfl, by decide +kernel⟩
theorem bf_S_22 : BFF "BesideAnother$Search" 22 4 3 (.array .int) := ⟨z_R4, z_F4, 10, z_C4, by decide, (gwc1 156 rfl rfl), rfl, rfl, by decide +kernel⟩
theorem bf_S_25 : BFF "BesideAnother$Search" 25 4 4 (.array .int) := ⟨z_R4, z_F4, 10, z_C4, by decide, (gwc1 158 rfl rfl), rfl, rfl, by decide +kernel⟩
theorem bf_S_28 : BFF "BesideAnother$Search" 28 4 6 (.array .int) := ⟨z_R4, z_F4, 10, z_C4, by decide, (gwc1 162 rfl rfl), rfl, rfl, by decide +kernel⟩
theorem bf_S_31 : BFF "BesideAnother$Search" 31 4 7 (.array .int) := ⟨z_R4, z_F4, 10, z_C4, by decide, (gwc1 163 rfl rfl), rfl, rfl, by decide +kernel⟩
theorem bf_S_34 : BFF "BesideAnother$Search" 34 4 8 (.array .int) := ⟨z_R4, z_F4, 10, z_C4, by decide, (gwc1 164 rfl rfl), rfl, rfl, by decide +kernel⟩
theorem bf_S_38 : BFF "BesideAnother$Search" 38 4 9 (.array .int) := ⟨z_R4, z_F4, 10, z_C4, by decide, (gwc1 165 rfl rfl), rfl, rfl, by decide +kernel⟩
theorem ok_E_init (g : ZG) (b0 : Nat) : BM g b0 1 y_E_init 1 [.null, .null, .int 0] (kE g) 2 120 := by
  refine BM.of (pcR := 20) (LE := fun a => [(0, .ref a)]) (by decide +kernel) rfl (by decide) d_E_init_20 (fun P h hh => ?_)
  refine BO.aload_n (pc := 0) (k := 0) (n := 0) 0 d_E_init_0 rfl rfl ?_
  refine BO.objI (pc := 1) (k := 0) (n := 0) d_E_init_1 (gwc1 41 rfl rfl) b_oi2 b_oi3 (by decide) ?_
  refine BO.aload_n (pc := 4) (k := 0) (n := 0) 0 d_E_init_4 rfl rfl ?_
  refine BO.bipush (pc := 5) (k := 0) (n := 0) 60 d_E_init_5 rfl ?_
  refine BO.sI (pc := 7) (k := 0) (n := 0) (h := h) (u := 0) (N := 60) d_E_init_7 (by decide +kernel) (by decide +kernel) (Nat.le_of_ble_eq_true rfl) hh rfl (Nat.le_of_ble_eq_true rfl) (Nat.le_of_ble_eq_true rfl) ?_
  refine BO.sPF (pc := 9) (k := 1) (n := 60) (h := h) (fs' := [.ref (h + (0 + 1)), .null, .int 0]) d_E_init_9 bf_E_9 rfl rfl rfl (Nat.le_of_ble_eq_true rfl) hh rfl ?_
  refine BO.aload_n (pc := 12) (k := 1) (n := 60) 0 d_E_init_12 rfl rfl ?_
  refine BO.bipush (pc := 13) (k := 1) (n := 60) 60 d_E_init_13 rfl ?_
  refine BO.sI (pc := 15) (k := 1) (n := 60) (h := h) (u := 1) (N := 60) d_E_init_15 (by decide +kernel) (by decide +kernel) (Nat.le_of_ble_eq_true rfl) hh rfl (Nat.le_of_ble_eq_true rfl) (Nat.le_of_ble_eq_true rfl) ?_
  refine BO.sPF (pc := 17) (k := 2) (n := 120) (h := h) (fs' := [.ref (h + (0 + 1)), .ref (h + (1 + 1)), .int 0]) d_E_init_17 bf_E_15 rfl rfl rfl (Nat.le_of_ble_eq_true rfl) hh rfl ?_
  exact BO.weq (ws' := P ++ kE g h) rfl BO.done
theorem ok_R_init (g : ZG) (b0 : Nat) : BM g b0 1 y_R_init 3 [.int 0, .int 0, .int 0, .int 0] (kR g) 0 0 := by
  refine BM.of (pcR := 4) (LE := fun a => [(0, .ref a)]) (by decide +kernel) rfl (by decide) d_R_init_4 (fun P h hh => ?_)
  refine BO.aload_n (pc := 0) (k := 0) (n := 0) 0 d_R_init_0 rfl rfl ?_
  refine BO.objI (pc := 1) (k := 0) (n := 0) d_R_init_1 (gwc1 225 rfl rfl) b_oi2 b_oi3 (by decide) ?_
  exact BO.weq (ws' := P ++ kR g h) rfl BO.done
theorem ok_V_init (g : ZG) (b0 : Nat) : BM g b0 1 y_V_init 5 [.int 0, .int 0, .int 0, .int 0, .int 0] (kV g) 0 0 := by
  refine BM.of (pcR := 4) (LE := fun a => [(0, .ref a)]) (by decide +kernel) rfl (by decide) d_V_init_4 (fun P h hh => ?_)
  refine BO.aload_n (pc := 0) (k := 0) (n := 0) 0 d_V_init_0 rfl rfl ?_
  refine BO.objI (pc := 1) (k := 0) (n := 0) d_V_init_1 (gwc1 193 rfl rfl) b_oi2 b_oi3 (by decide) ?_
  exact BO.weq (ws' := P ++ kV g h) rfl BO.done
theorem ok_B_init (g : ZG) (b0 : Nat) : BM g b0 2 y_B_init 0 [.null, .null, .int 0, .int 0, .int 0, .int 0] (kB g) 6 246 := by
  refine BM.of (pcR := 32) (LE := fun a => [(0, .ref a)]) (by decide +kernel) rfl (by decide) d_B_init_32 (fun P h hh => ?_)
  refine BO.aload_n (pc := 0) (k := 0) (n := 0) 0 d_B_init_0 rfl rfl ?_
  refine BO.objI (pc := 1) (k := 0) (n := 0) d_B_init_1 (gwc1 95 rfl rfl) b_oi2 b_oi3 (by decide) ?_
  refine BO.aload_n (pc := 4) (k := 0) (n := 0) 0 d_B_init_4 rfl rfl ?_
  refine BO.sNew (pc := 5) (k := 0) (n := 0) (h := h) (u := 0) d_B_init_5 bn_B_9 hh rfl (Nat.le_of_ble_eq_true rfl) (Nat.le_of_ble_eq_true rfl) ?_
  refine BO.dup (pc := 8) (k := 1) (n := 3) d_B_init_8 rfl ?_
  refine BO.sCN (pc := 9) (k := 1) (n := 3) (h := h) (u := 0) (mc := 2) (ms := 120) d_B_init_9 (ok_E_init g b0) bl_B_11 bc_E (by decide) hh rfl (Nat.le_of_ble_eq_true rfl) (Nat.le_of_ble_eq_true rfl) (Nat.le_of_ble_eq_true rfl) ?_
  refine BO.sPF (pc := 12) (k := 3) (n := 123) (h := h) (fs' := [.ref (h + (0 + 1)), .null, .int 0, .int 0, .int 0, .int 0]) d_B_init_12 bf_B_12 rfl rfl rfl (Nat.le_of_ble_eq_true rfl) hh rfl ?_
  refine BO.aload_n (pc := 15) (k := 3) (n := 123) 0 d_B_init_15 rfl rfl ?_
  refine BO.sNew (pc := 16) (k := 3) (n := 123) (h := h) (u := 3) d_B_init_16 bn_B_9 hh rfl (Nat.le_of_ble_eq_true rfl) (Nat.le_of_ble_eq_true rfl) ?_
  refine BO.dup (pc := 19) (k := 4) (n := 126) d_B_init_19 rfl ?_
  refine BO.sCN (pc := 20) (k := 4) (n := 126) (h := h) (u := 3) (mc := 2) (ms := 120) d_B_init_20 (ok_E_init g b0) bl_B_11 bc_E (by decide) hh rfl (Nat.le_of_ble_eq_true rfl) (Nat.le_of_ble_eq_true rfl) (Nat.le_of_ble_eq_true rfl) ?_
  refine BO.sPF (pc := 23) (k := 6) (n := 246) (h := h) (fs' := [.ref (h + (0 + 1)), .ref (h + (3 + 1)), .int 0, .int 0, .int 0, .int 0]) d_B_init_23 bf_B_18 rfl rfl rfl (Nat.le_of_ble_eq_true rfl) hh rfl ?_
  refine BO.aload_n (pc := 26) (k := 6) (n := 246) 0 d_B_init_26 rfl rfl ?_
  refine BO.bipush (pc := 27) (k := 6) (n := 246) 99 d_B_init_27 rfl ?_
  refine BO.sP (pc := 29) (k := 6) (n := 246) (h := h) (fs' := [.ref (h + (0 + 1)), .ref (h + (3 + 1)), .int 0, .int 99, .int 0, .int 0]) d_B_init_29 bf_B_21 rfl rfl (Nat.le_of_ble_eq_true rfl) hh rfl ?_
  exact BO.weq (ws' := P ++ kB g h) rfl BO.done
theorem ok_P_init (g : ZG) (b0 : Nat) : BM g b0 2 y_P_init 7 [.null, .null, .int 0, .int 0, .null, .null, .int 0, .int 0] (kP g) 7 326 := by
  refine BM.of (pcR := 42) (LE := fun a => [(0, .ref a)]) (by decide +kernel) rfl (by decide) d_P_init_42 (fun P h hh => ?_)
  refine BO.aload_n (pc := 0) (k := 0) (n := 0) 0 d_P_init_0 rfl rfl ?_
  refine BO.objI (pc := 1) (k := 0) (n := 0) d_P_init_1 (gwc1 35 rfl rfl) b_oi2 b_oi3 (by decide) ?_
  refine BO.aload_n (pc := 4) (k := 0) (n := 0) 0 d_P_init_4 rfl rfl ?_
  refine BO.sNew (pc := 5) (k := 0) (n := 0) (h := h) (u := 0) d_P_init_5 bn_P_9 hh rfl (Nat.le_of_ble_eq_true rfl) (Nat.le_of_ble_eq_true rfl) ?_
  refine BO.dup (pc := 8) (k := 1) (n := 3) d_P_init_8 rfl ?_
  refine BO.sCN (pc := 9) (k := 1) (n := 3) (h := h) (u := 0) (mc := 2) (ms := 120) d_P_init_9 (ok_E_init g b0) bl_P_11 bc_E (by decide) hh rfl (Nat.le_of_ble_eq_true rfl) (Nat.le_of_ble_eq_true rfl) (Nat.le_of_ble_eq_true rfl) ?_
  refine BO.sPF (pc := 12) (k := 3) (n := 123) (h := h) (fs' := [.ref (h + (0 + 1)), .null, .int 0, .int 0, .null, .null, .int 0, .int 0]) d_P_init_12 bf_P_12 rfl rfl rfl (Nat.le_of_ble_eq_true rfl) hh rfl ?_
  refine BO.aload_n (pc := 15) (k := 3) (n := 123) 0 d_P_init_15 rfl rfl ?_
  refine BO.sNew (pc := 16) (k := 3) (n := 123) (h := h) (u := 3) d_P_init_16 bn_P_9 hh rfl (Nat.le_of_ble_eq_true rfl) (Nat.le_of_ble_eq_true rfl) ?_
  refine BO.dup (pc := 19) (k := 4) (n := 126) d_P_init_19 rfl ?_
  refine BO.sCN (pc := 20) (k := 4) (n := 126) (h := h) (u := 3) (mc := 2) (ms := 120) d_P_init_20 (ok_E_init g b0) bl_P_11 bc_E (by decide) hh rfl (Nat.le_of_ble_eq_true rfl) (Nat.le_of_ble_eq_true rfl) (Nat.le_of_ble_eq_true rfl) ?_
  refine BO.sPF (pc := 23) (k := 6) (n := 246) (h := h) (fs' := [.ref (h + (0 + 1)), .ref (h + (3 + 1)), .int 0, .int 0, .null, .null, .int 0, .int 0]) d_P_init_23 bf_P_18 rfl rfl rfl (Nat.le_of_ble_eq_true rfl) hh rfl ?_
  refine BO.aload_n (pc := 26) (k := 6) (n := 246) 0 d_P_init_26 rfl rfl ?_
  refine BO.bipush (pc := 27) (k := 6) (n := 246) 80 d_P_init_27 rfl ?_
  refine BO.sI (pc := 29) (k := 6) (n := 246) (h := h) (u := 6) (N := 80) d_P_init_29 (by decide +kernel) (by decide +kernel) (Nat.le_of_ble_eq_true rfl) hh rfl (Nat.le_of_ble_eq_true rfl) (Nat.le_of_ble_eq_true rfl) ?_
  refine BO.sPF (pc := 31) (k := 7) (n := 326) (h := h) (fs' := [.ref (h + (0 + 1)), .ref (h + (3 + 1)), .int 0, .int 0, .ref (h + (6 + 1)), .null, .int 0, .int 0]) d_P_init_31 bf_P_21 rfl rfl rfl (Nat.le_of_ble_eq_true rfl) hh rfl ?_
  refine BO.aload_n (pc := 34) (k := 7) (n := 326) 0 d_P_init_34 rfl rfl ?_
  refine BO.aload_n (pc := 35) (k := 7) (n := 326) 0 d_P_init_35 rfl rfl ?_
  refine BO.sG (pc := 36) (k := 7) (n := 326) (h := h) d_P_init_36 zf_P_12 hh rfl ?_
  refine BO.sP (pc := 39) (k := 7) (n := 326) (h := h) (fs' := [.ref (h + (0 + 1)), .ref (h + (3 + 1)), .int 0, .int 0, .ref (h + (6 + 1)), .ref (h + (0 + 1)), .int 0, .int 0]) d_P_init_39 bf_P_25 rfl rfl (Nat.le_of_ble_eq_true rfl) hh rfl ?_
  exact BO.weq (ws' := P ++ kP g h) rfl BO.done
theorem ok_K_init (g : ZG) (b0 : Nat) : BM g b0 1 y_K_init 2 [.int 0, .long 0, .int 0, .int 0, .int 0, .null, .null, .null, .null] (kK g) 4 84 := by
  refine BM.of (pcR := 36) (LE := fun a => [(0, .ref a)]) (by decide +kernel) rfl (by decide) d_K_init_36 (fun P h hh => ?_)
  refine BO.aload_n (pc := 0) (k := 0) (n := 0) 0 d_K_init_0 rfl rfl ?_
  refine BO.objI (pc := 1) (k := 0) (n := 0) d_K_init_1 (gwc2 7 rfl rfl) b_oi2 b_oi3 (by decide) ?_
  refine BO.aload_n (pc := 4) (k := 0) (n := 0) 0 d_K_init_4 rfl rfl ?_
  refine BO.bipush (pc := 5) (k := 0) (n := 0) 60 d_K_init_5 rfl ?_
  refine BO.sI (pc := 7) (k := 0) (n := 0) (h := h) (u := 0) (N := 60) d_K_init_7 (by decide +kernel) (by decide +kernel) (Nat.le_of_ble_eq_true rfl) hh rfl (Nat.le_of_ble_eq_true rfl) (Nat.le_of_ble_eq_true rfl) ?_
  refine BO.sPF (pc := 9) (k := 1) (n := 60) (h := h) (fs' := [.int 0, .long 0, .int 0, .int 0, .int 0, .ref (h + (0 + 1)), .null, .null, .null]) d_K_init_9 bf_K_9 rfl rfl rfl (Nat.le_of_ble_eq_true rfl) hh rfl ?_
  refine BO.aload_n (pc := 12) (k := 1) (n := 60) 0 d_K_init_12 rfl rfl ?_
  refine BO.bipush (pc := 13) (k := 1) (n := 60) 12 d_K_init_13 rfl ?_
  refine BO.sI (pc := 15) (k := 1) (n := 60) (h := h) (u := 1) (N := 12) d_K_init_15 (by decide +kernel) (by decide +kernel) (Nat.le_of_ble_eq_true rfl) hh rfl (Nat.le_of_ble_eq_true rfl) (Nat.le_of_ble_eq_true rfl) ?_
  refine BO.sPF (pc := 17) (k := 2) (n := 72) (h := h) (fs' := [.int 0, .long 0, .int 0, .int 0, .int 0, .ref (h + (0 + 1)), .ref (h + (1 + 1)), .null, .null]) d_K_init_17 bf_K_15 rfl rfl rfl (Nat.le_of_ble_eq_true rfl) hh rfl ?_
  refine BO.aload_n (pc := 20) (k := 2) (n := 72) 0 d_K_init_20 rfl rfl ?_
  refine BO.bipush (pc := 21) (k := 2) (n := 72) 6 d_K_init_21 rfl ?_
  refine BO.sI (pc := 23) (k := 2) (n := 72) (h := h) (u := 2) (N := 6) d_K_init_23 (by decide +kernel) (by decide +kernel) (Nat.le_of_ble_eq_true rfl) hh rfl (Nat.le_of_ble_eq_true rfl) (Nat.le_of_ble_eq_true rfl) ?_
  refine BO.sPF (pc := 25) (k := 3) (n := 78) (h := h) (fs' := [.int 0, .long 0, .int 0, .int 0, .int 0, .ref (h + (0 + 1)), .ref (h + (1 + 1)), .ref (h + (2 + 1)), .null]) d_K_init_25 bf_K_18 rfl rfl rfl (Nat.le_of_ble_eq_true rfl) hh rfl ?_
  refine BO.aload_n (pc := 28) (k := 3) (n := 78) 0 d_K_init_28 rfl rfl ?_
  refine BO.bipush (pc := 29) (k := 3) (n := 78) 6 d_K_init_29 rfl ?_
  refine BO.sI (pc := 31) (k := 3) (n := 78) (h := h) (u := 3) (N := 6) d_K_init_31 (by decide +kernel) (by decide +kernel) (Nat.le_of_ble_eq_true rfl) hh rfl (Nat.le_of_ble_eq_true rfl) (Nat.le_of_ble_eq_true rfl) ?_
  refine BO.sPF (pc := 33) (k := 4) (n := 84) (h := h) (fs' := [.int 0, .long 0, .int 0, .int 0, .int 0, .ref (h + (0 + 1)), .ref (h + (1 + 1)), .ref (h + (2 + 1)), .ref (h + (3 + 1))]) d_K_init_33 bf_K_21 rfl rfl rfl (Nat.le_of_ble_eq_true rfl) hh rfl ?_
  exact BO.weq (ws' := P ++ kK g h) rfl BO.done
theorem ok_S_init (g : ZG) (b0 : Nat) : BM g b0 1 y_S_init 4 [.null, .null, .null, .null, .null, .int 0, .null, .null, .null, .null] (kS g) 9 231385 := by
  refine BM.of (pcR := 84) (LE := fun a => [(0, .ref a)]) (by decide +kernel) rfl (by decide) d_S_init_84 (fun P h hh => ?_)
  refine BO.aload_n (pc := 0) (k := 0) (n := 0) 0 d_S_init_0 rfl rfl ?_
  refine BO.objI (pc := 1) (k := 0) (n := 0) d_S_init_1 (gwc1 149 rfl rfl) b_oi2 b_oi3 (by decide) ?_
  refine BO.aload_n (pc := 4) (k := 0) (n := 0) 0 d_S_init_4 rfl rfl ?_
  refine BO.sipush (pc := 5) (k := 0) (n := 0) 5000 d_S_init_5 rfl ?_
  refine BO.sJ (pc := 8) (k := 0) (n := 0) (h := h) (u := 0) (N := 5000) d_S_init_8 (by decide +kernel) (by decide +kernel) (Nat.le_of_ble_eq_true rfl) hh rfl (Nat.le_of_ble_eq_true rfl) (Nat.le_of_ble_eq_true rfl) ?_
  refine BO.sPF (pc := 10) (k := 1) (n := 5000) (h := h) (fs' := [.ref (h + (0 + 1)), .null, .null, .null, .null, .int 0, .null, .null, .null, .null]) d_S_init_10 bf_S_9 rfl rfl rfl (Nat.le_of_ble_eq_true rfl) hh rfl ?_
  refine BO.aload_n (pc := 13) (k := 1) (n := 5000) 0 d_S_init_13 rfl rfl ?_
  refine BO.sipush (pc := 14) (k := 1) (n := 5000) 5000 d_S_init_14 rfl ?_
  refine BO.sI (pc := 17) (k := 1) (n := 5000) (h := h) (u := 1) (N := 5000) d_S_init_17 (by decide +kernel) (by decide +kernel) (Nat.le_of_ble_eq_true rfl) hh rfl (Nat.le_of_ble_eq_true rfl) (Nat.le_of_ble_eq_true rfl) ?_
  refine BO.sPF (pc := 19) (k := 2) (n := 10000) (h := h) (fs' := [.ref (h + (0 + 1)), .ref (h + (1 + 1)), .null, .null, .null, .int 0, .null, .null, .null, .null]) d_S_init_19 bf_S_15 rfl rfl rfl (Nat.le_of_ble_eq_true rfl) hh rfl ?_
  refine BO.aload_n (pc := 22) (k := 2) (n := 10000) 0 d_S_init_22 rfl rfl ?_
  refine BO.sipush (pc := 23) (k := 2) (n := 10000) 5000 d_S_init_23 rfl ?_
  refine BO.sI (pc := 26) (k := 2) (n := 10000) (h := h) (u := 2) (N := 5000) d_S_init_26 (by decide +kernel) (by decide +kernel) (Nat.le_of_ble_eq_true rfl) hh rfl (Nat.le_of_ble_eq_true rfl) (Nat.le_of_ble_eq_true rfl) ?_
  refine BO.sPF (pc := 28) (k := 3) (n := 15000) (h := h) (fs' := [.ref (h + (0 + 1)), .ref (h + (1 + 1)), .ref (h + (2 + 1)), .null, .null, .int 0, .null, .null, .null, .null]) d_S_init_28 bf_S_19 rfl rfl rfl (Nat.le_of_ble_eq_true rfl) hh rfl ?_
  refine BO.aload_n (pc := 31) (k := 3) (n := 15000) 0 d_S_init_31 rfl rfl ?_
  refine BO.sipush (pc := 32) (k := 3) (n := 15000) 5000 d_S_init_32 rfl ?_
  refine BO.sI (pc := 35) (k := 3) (n := 15000) (h := h) (u := 3) (N := 5000) d_S_init_35 (by decide +kernel) (by decide +kernel) (Nat.le_of_ble_eq_true rfl) hh rfl (Nat.le_of_ble_eq_true rfl) (Nat.le_of_ble_eq_true rfl) ?_
  refine BO.sPF (pc := 37) (k := 4) (n := 20000) (h := h) (fs' := [.ref (h + (0 + 1)), .ref (h + (1 + 1)), .ref (h + (2 + 1)), .ref (h + (3 + 1)), .null, .int 0, .null, .null, .null, .null]) d_S_init_37 bf_S_22 rfl rfl rfl (Nat.le_of_ble_eq_true rfl) hh rfl ?_
  refine BO.aload_n (pc := 40) (k := 4) (n := 20000) 0 d_S_init_40 rfl rfl ?_
  refine BO.sipush (pc := 41) (k := 4) (n := 20000) 5000 d_S_init_41 rfl ?_
  refine BO.sI (pc := 44) (k := 4) (n := 20000) (h := h) (u := 4) (N := 5000) d_S_init_44 (by decide +kernel) (by decide +kernel) (Nat.le_of_ble_eq_true rfl) hh rfl (Nat.le_of_ble_eq_true rfl) (Nat.le_of_ble_eq_true rfl) ?_
  refine BO.sPF (pc := 46) (k := 5) (n := 25000) (h := h) (fs' := [.ref (h + (0 + 1)), .ref (h + (1 + 1)), .ref (h + (2 + 1)), .ref (h + (3 + 1)), .ref (h + (4 + 1)), .int 0, .null, .null, .null, .null]) d_S_init_46 bf_S_25 rfl rfl rfl (Nat.le_of_ble_eq_true rfl) hh rfl ?_
  refine BO.aload_n (pc := 49) (k := 5) (n := 25000) 0 d_S_init_49 rfl rfl ?_
  refine BO.sipush (pc := 50) (k := 5) (n := 25000) 16384 d_S_init_50 rfl ?_
  refine BO.sI (pc := 53) (k := 5) (n := 25000) (h := h) (u := 5) (N := 16384) d_S_init_53 (by decide +kernel) (by decide +kernel) (Nat.le_of_ble_eq_true rfl) hh rfl (Nat.le_of_ble_eq_true rfl) (Nat.le_of_ble_eq_true rfl) ?_
  refine BO.sPF (pc := 55) (k := 6) (n := 41384) (h := h) (fs' := [.ref (h + (0 + 1)), .ref (h + (1 + 1)), .ref (h + (2 + 1)), .ref (h + (3 + 1)), .ref (h + (4 + 1)), .int 0, .ref (h + (5 + 1)), .null, .null, .null]) d_S_init_55 bf_S_28 rfl rfl rfl (Nat.le_of_ble_eq_true rfl) hh rfl ?_
  refine BO.aload_n (pc := 58) (k := 6) (n := 41384) 0 d_S_init_58 rfl rfl ?_
  refine BO.sipush (pc := 59) (k := 6) (n := 41384) 5000 d_S_init_59 rfl ?_
  refine BO.sI (pc := 62) (k := 6) (n := 41384) (h := h) (u := 6) (N := 5000) d_S_init_62 (by decide +kernel) (by decide +kernel) (Nat.le_of_ble_eq_true rfl) hh rfl (Nat.le_of_ble_eq_true rfl) (Nat.le_of_ble_eq_true rfl) ?_
  refine BO.sPF (pc := 64) (k := 7) (n := 46384) (h := h) (fs' := [.ref (h + (0 + 1)), .ref (h + (1 + 1)), .ref (h + (2 + 1)), .ref (h + (3 + 1)), .ref (h + (4 + 1)), .int 0, .ref (h + (5 + 1)), .ref (h + (6 + 1)), .null, .null]) d_S_init_64 bf_S_31 rfl rfl rfl (Nat.le_of_ble_eq_true rfl) hh rfl ?_
  refine BO.aload_n (pc := 67) (k := 7) (n := 46384) 0 d_S_init_67 rfl rfl ?_
  refine BO.sipush (pc := 68) (k := 7) (n := 46384) 5001 d_S_init_68 rfl ?_
  refine BO.sI (pc := 71) (k := 7) (n := 46384) (h := h) (u := 7) (N := 5001) d_S_init_71 (by decide +kernel) (by decide +kernel) (Nat.le_of_ble_eq_true rfl) hh rfl (Nat.le_of_ble_eq_true rfl) (Nat.le_of_ble_eq_true rfl) ?_
  refine BO.sPF (pc := 73) (k := 8) (n := 51385) (h := h) (fs' := [.ref (h + (0 + 1)), .ref (h + (1 + 1)), .ref (h + (2 + 1)), .ref (h + (3 + 1)), .ref (h + (4 + 1)), .int 0, .ref (h + (5 + 1)), .ref (h + (6 + 1)), .ref (h + (7 + 1)), .null]) d_S_init_73 bf_S_34 rfl rfl rfl (Nat.le_of_ble_eq_true rfl) hh rfl ?_
  refine BO.aload_n (pc := 76) (k := 8) (n := 51385) 0 d_S_init_76 rfl rfl ?_
  refine BO.ldc (pc := 77) (k := 8) (n := 51385) 180000 d_S_init_77 zk_S_37 ?_
  refine BO.sI (pc := 79) (k := 8) (n := 51385) (h := h) (u := 8) (N := 180000) d_S_init_79 (by decide +kernel) (by decide +kernel) (Nat.le_of_ble_eq_true rfl) hh rfl (Nat.le_of_ble_eq_true rfl) (Nat.le_of_ble_eq_true rfl) ?_
  refine BO.sPF (pc := 81) (k := 9) (n := 231385) (h := h) (fs' := [.ref (h + (0 + 1)), .ref (h + (1 + 1)), .ref (h + (2 + 1)), .ref (h + (3 + 1)), .ref (h + (4 + 1)), .int 0, .ref (h + (5 + 1)), .ref (h + (6 + 1)), .ref (h + (7 + 1)), .ref (h + (8 + 1))]) d_S_init_81 bf_S_38 rfl rfl rfl (Nat.le_of_ble_eq_true rfl) hh rfl ?_
  exact BO.weq (ws' := P ++ kS g h) rfl BO.done
end Z9d
