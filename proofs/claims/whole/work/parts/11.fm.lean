def f_M_in (a0 : Int64) (a1 : Int64) (a2 : Int64) : Bool :=
  (if (lg_cmp a0 a1) < 0 then
  false
else (if 0 < (lg_cmp a0 a2) then
    false
  else true))
set_option maxHeartbeats 4000000 in
set_option maxRecDepth 20000 in
theorem ok_M_in (g : ZG) (a0 : Int64) (a1 : Int64) (a2 : Int64) (s : ZSt) : ZF g 0 y_M_in [.long a0, .long a1, .long a2] s (some (f_M_in a0 a1 a2)) (fun b => some (.int (b2i b))) (fun _ => s) := by
  refine ZF.of (by decide +kernel) (Nat.le_of_ble_eq_true rfl) ?_
  unfold f_M_in
  show ZO g 0 y_M_in (none, 0, 0) 0 [(0, .long a0), (2, .long a1), (4, .long a2)] [] s _ _
  refine ZO.lload_n (pc := 0) 0 d_M_in_0 rfl rfl ?_
  refine ZO.lload_n (pc := 1) 1 d_M_in_1 rfl rfl ?_
  refine ZO.lcmp (pc := 2) d_M_in_2 ?_
  refine ZO.if_lt (pc := 3) 17 d_M_in_3 (by decide) z_some (fun h1 => ?_) (fun h1 => ?_)
  · refine ZO.iconst (pc := 17) (0 : Int32) d_M_in_17 (by decide) ?_
    exact ZO.zret (pc := 18) (v := false) d_M_in_18 rfl rfl rfl
  · refine ZO.lload_n (pc := 6) 0 d_M_in_6 rfl rfl ?_
    refine ZO.lload (pc := 7) 2 d_M_in_7 rfl ?_
    refine ZO.lcmp (pc := 9) d_M_in_9 ?_
    refine ZO.if_gt (pc := 10) 17 d_M_in_10 (by decide) z_some (fun h2 => ?_) (fun h2 => ?_)
    · refine ZO.iconst (pc := 17) (0 : Int32) d_M_in_17 (by decide) ?_
      exact ZO.zret (pc := 18) (v := false) d_M_in_18 rfl rfl rfl
    · refine ZO.iconst (pc := 13) (1 : Int32) d_M_in_13 (by decide) ?_
      refine ZO.goto (pc := 14) 18 d_M_in_14 (by decide) ?_
      exact ZO.zret (pc := 18) (v := true) d_M_in_18 rfl rfl rfl
def f_M_has (a0 : Int32) (a1 : Int32) : Bool :=
  (if ((srI a0 a1) &&& (1 : Int32)) = (1 : Int32) then
  true
else false)
set_option maxHeartbeats 4000000 in
set_option maxRecDepth 20000 in
theorem ok_M_has (g : ZG) (a0 : Int32) (a1 : Int32) (s : ZSt) : ZF g 0 y_M_has [.int a0, .int a1] s (some (f_M_has a0 a1)) (fun b => some (.int (b2i b))) (fun _ => s) := by
  refine ZF.of (by decide +kernel) (Nat.le_of_ble_eq_true rfl) ?_
  unfold f_M_has
  show ZO g 0 y_M_has (none, 0, 0) 0 [(0, .int a0), (1, .int a1)] [] s _ _
  refine ZO.iload_n (pc := 0) 0 d_M_has_0 rfl rfl ?_
  refine ZO.iload_n (pc := 1) 1 d_M_has_1 rfl rfl ?_
  refine ZO.ishr (pc := 2) d_M_has_2 ?_
  refine ZO.iconst (pc := 3) (1 : Int32) d_M_has_3 (by decide) ?_
  refine ZO.iand (pc := 4) d_M_has_4 ?_
  refine ZO.iconst (pc := 5) (1 : Int32) d_M_has_5 (by decide) ?_
  refine ZO.icmp_ne (pc := 6) 13 d_M_has_6 (by decide) z_some (fun h1 => ?_) (fun h1 => ?_)
  · refine ZO.iconst (pc := 9) (1 : Int32) d_M_has_9 (by decide) ?_
    refine ZO.goto (pc := 10) 14 d_M_has_10 (by decide) ?_
    exact ZO.zret (pc := 14) (v := true) d_M_has_14 rfl rfl rfl
  · refine ZO.iconst (pc := 13) (0 : Int32) d_M_has_13 (by decide) ?_
    exact ZO.zret (pc := 14) (v := false) d_M_has_14 rfl rfl rfl
def f_M_flag (a0 : Bool) : Int32 :=
  (if a0 = true then
  (1 : Int32)
else (0 : Int32))
set_option maxHeartbeats 4000000 in
set_option maxRecDepth 20000 in
theorem ok_M_flag (g : ZG) (a0 : Bool) (s : ZSt) : ZF g 0 y_M_flag [.int (b2i a0)] s (some (f_M_flag a0)) (fun b => some (.int b)) (fun _ => s) := by
  refine ZF.of (by decide +kernel) (Nat.le_of_ble_eq_true rfl) ?_
  unfold f_M_flag
  show ZO g 0 y_M_flag (none, 0, 0) 0 [(0, .int (b2i a0))] [] s _ _
  refine ZO.iload_n (pc := 0) 0 d_M_flag_0 rfl rfl ?_
  refine ZO.ifb_eq (pc := 1) 8 d_M_flag_1 (by decide) z_some (fun h1 => ?_) (fun h1 => ?_)
  · refine ZO.iconst (pc := 4) (1 : Int32) d_M_flag_4 (by decide) ?_
    refine ZO.goto (pc := 5) 9 d_M_flag_5 (by decide) ?_
    exact ZO.iret (pc := 9)  d_M_flag_9 rfl rfl rfl
  · refine ZO.iconst (pc := 8) (0 : Int32) d_M_flag_8 (by decide) ?_
    exact ZO.iret (pc := 9)  d_M_flag_9 rfl rfl rfl
def f_M_isBook (a0 : Int32) (s : ZSt) : Bool :=
  (f_M_in a0.toInt64 (0 : Int64) (((gi s 0 3) - (1 : Int32)).toInt64))
set_option maxHeartbeats 4000000 in
set_option maxRecDepth 20000 in
theorem ok_M_isBook (g : ZG) (a0 : Int32) (s : ZSt) : ZF g 1 y_M_isBook [.ref 0, .int a0] s (some (f_M_isBook a0 s)) (fun b => some (.int (b2i b))) (fun _ => s) := by
  refine ZF.of (by decide +kernel) (Nat.le_of_ble_eq_true rfl) ?_
  unfold f_M_isBook
  show ZO g 1 y_M_isBook (none, 0, 0) 0 [(0, .ref 0), (1, .int a0)] [] s _ _
  refine ZO.iload_n (pc := 0) 1 d_M_isBook_0 rfl rfl ?_
  refine ZO.i2l (pc := 1) d_M_isBook_1 ?_
  refine ZO.lconst (pc := 2) (0 : Int64) d_M_isBook_2 (by decide) ?_
  refine ZO.aload_n (pc := 3) 0 d_M_isBook_3 rfl rfl ?_
  refine ZO.getI (pc := 4) d_M_isBook_4 zo_0 zf_M_14 rfl ?_
  refine ZO.iconst (pc := 7) (1 : Int32) d_M_isBook_7 (by decide) ?_
  refine ZO.isub (pc := 8) d_M_isBook_8 ?_
  refine ZO.i2l (pc := 9) d_M_isBook_9 ?_
  refine ZO.tSB (pc := 10) (As := [.long a0.toInt64, .long (0 : Int64), .long ((gi s 0 3) - (1 : Int32)).toInt64]) (rest := []) d_M_isBook_10 zc_M_17 (by decide) rfl rfl (Nat.le_of_ble_eq_true rfl) (ok_M_in g a0.toInt64 (0 : Int64) (((gi s 0 3) - (1 : Int32)).toInt64) s) ?_
  exact ZO.zret (pc := 13) (v := (f_M_in a0.toInt64 (0 : Int64) (((gi s 0 3) - (1 : Int32)).toInt64))) d_M_isBook_13 rfl rfl rfl
def f_M_isTable (a0 : Int32) : Bool :=
  (f_M_in a0.toInt64 (0 : Int64) (2 : Int64))
set_option maxHeartbeats 4000000 in
set_option maxRecDepth 20000 in
theorem ok_M_isTable (g : ZG) (a0 : Int32) (s : ZSt) : ZF g 1 y_M_isTable [.int a0] s (some (f_M_isTable a0)) (fun b => some (.int (b2i b))) (fun _ => s) := by
  refine ZF.of (by decide +kernel) (Nat.le_of_ble_eq_true rfl) ?_
  unfold f_M_isTable
  show ZO g 1 y_M_isTable (none, 0, 0) 0 [(0, .int a0)] [] s _ _
  refine ZO.iload_n (pc := 0) 0 d_M_isTable_0 rfl rfl ?_
  refine ZO.i2l (pc := 1) d_M_isTable_1 ?_
  refine ZO.lconst (pc := 2) (0 : Int64) d_M_isTable_2 (by decide) ?_
  refine ZO.ldc2 (pc := 3) (2 : Int64) d_M_isTable_3 zk_M_21 ?_
  refine ZO.tSB (pc := 6) (As := [.long a0.toInt64, .long (0 : Int64), .long (2 : Int64)]) (rest := []) d_M_isTable_6 zc_M_17 (by decide) rfl rfl (Nat.le_of_ble_eq_true rfl) (ok_M_in g a0.toInt64 (0 : Int64) (2 : Int64) s) ?_
  exact ZO.zret (pc := 9) (v := (f_M_in a0.toInt64 (0 : Int64) (2 : Int64))) d_M_isTable_9 rfl rfl rfl
def f_M_enters (a0 : Int32) (s : ZSt) : Option ZSt :=
  gd (inb (gi s 0 1) 20) (
  lt (sai s 102 (gi s 0 1) a0) (fun s2 =>
  lt (si s2 0 1 ((gi s2 0 1) + (1 : Int32))) (fun s3 =>
  some s3)))
set_option maxHeartbeats 4000000 in
set_option maxRecDepth 20000 in
theorem ok_M_enters (g : ZG) (a0 : Int32) (s : ZSt) : ZF g 0 y_M_enters [.ref 0, .int a0] s (f_M_enters a0 s) (fun _ => none) (fun b => b) := by
  refine ZF.of (by decide +kernel) (Nat.le_of_ble_eq_true rfl) ?_
  unfold f_M_enters
  show ZO g 0 y_M_enters (none, 0, 0) 0 [(0, .ref 0), (1, .int a0)] [] s _ _
  refine ZO.aload_n (pc := 0) 0 d_M_enters_0 rfl rfl ?_
  refine ZO.getA (pc := 1) 102 d_M_enters_1 zo_0 zf_M_7 rfl rfl ?_
  refine ZO.aload_n (pc := 4) 0 d_M_enters_4 rfl rfl ?_
  refine ZO.getI (pc := 5) d_M_enters_5 zo_0 zf_M_11 rfl ?_
  refine ZO.iload_n (pc := 8) 1 d_M_enters_8 rfl rfl ?_
  refine ZO.rgd (fun h1 => ?_)
  refine ZO.iast (pc := 9) d_M_enters_9 za_102 h1 ?_
  refine ZO.ltS (fun s2 => ?_)
  refine ZO.aload_n (pc := 10) 0 d_M_enters_10 rfl rfl ?_
  refine ZO.dup (pc := 11) d_M_enters_11 rfl ?_
  refine ZO.getI (pc := 12) d_M_enters_12 zo_0 zf_M_11 rfl ?_
  refine ZO.iconst (pc := 15) (1 : Int32) d_M_enters_15 (by decide) ?_
  refine ZO.iadd (pc := 16) d_M_enters_16 ?_
  refine ZO.putI (pc := 17) d_M_enters_17 zo_0 zp_M_11 rfl ?_
  refine ZO.ltS (fun s3 => ?_)
  exact ZO.vret (pc := 20) d_M_enters_20 rfl rfl rfl
def f_M_readBy (n : Nat) (a0 : Int32) (s : ZSt) : Option Int32 :=
  lpN (fun j2 (x1 : Int32 × Int32) =>
  (if (gi s 0 9) ≤ x1.2 then
    some x1.1
  else gd (inb x1.2 6) (
      lt (x1.1 + (f_M_flag (f_M_has (ai s 113 x1.2) a0))) (fun v5 =>
      j2 (v5, (x1.2 + (1 : Int32))))))) n ((0 : Int32), (0 : Int32))
set_option maxHeartbeats 4000000 in
set_option maxRecDepth 20000 in
theorem ok_M_readBy (g : ZG) (n : Nat) (a0 : Int32) (s : ZSt) : ZF g 1 y_M_readBy [.ref 0, .int a0] s (f_M_readBy n a0 s) (fun b => some (.int b)) (fun _ => s) := by
  refine ZF.of (by decide +kernel) (Nat.le_of_ble_eq_true rfl) ?_
  unfold f_M_readBy
  show ZO g 1 y_M_readBy (none, 0, 0) 0 [(0, .ref 0), (1, .int a0)] [] s _ _
  refine ZO.iconst (pc := 0) (0 : Int32) d_M_readBy_0 (by decide) ?_
  refine ZO.istore_n (pc := 1) (v := (0 : Int32)) (L' := [(0, .ref 0), (1, .int a0), (2, .int (0 : Int32))]) [1, 2, 0] d_M_readBy_1 rfl (by decide) rfl ?_
  refine ZO.iconst (pc := 2) (0 : Int32) d_M_readBy_2 (by decide) ?_
  refine ZO.istore_n (pc := 3) (v := (0 : Int32)) (L' := [(0, .ref 0), (1, .int a0), (2, .int (0 : Int32)), (3, .int (0 : Int32))]) [1, 2, 3, 0] d_M_readBy_3 rfl (by decide) rfl ?_
  refine ZO.loop (fun (x1 : Int32 × Int32) => ([(0, .ref 0), (1, .int a0), (2, .int x1.1), (3, .int x1.2)] : List (Nat × Value))) (fun (x1 : Int32 × Int32) => s) [] (fun j2 x1 hj2 => ?_) rfl rfl rfl
  refine ZO.iload_n (pc := 4) 3 d_M_readBy_4 rfl rfl ?_
  refine ZO.aload_n (pc := 5) 0 d_M_readBy_5 rfl rfl ?_
  refine ZO.getI (pc := 6) d_M_readBy_6 zo_0 zf_M_23 rfl ?_
  refine ZO.icmp_ge (pc := 9) 34 d_M_readBy_9 (by decide) rfl (fun h3 => ?_) (fun h3 => ?_)
  · refine ZO.iload_n (pc := 34) 2 d_M_readBy_34 rfl rfl ?_
    exact ZO.iret (pc := 35)  d_M_readBy_35 rfl rfl rfl
  · refine ZO.iload_n (pc := 12) 2 d_M_readBy_12 rfl rfl ?_
    refine ZO.aload_n (pc := 13) 0 d_M_readBy_13 rfl rfl ?_
    refine ZO.getA (pc := 14) 113 d_M_readBy_14 zo_0 zf_M_26 rfl rfl ?_
    refine ZO.iload_n (pc := 17) 3 d_M_readBy_17 rfl rfl ?_
    refine ZO.rgd (fun h4 => ?_)
    refine ZO.iald (pc := 18) d_M_readBy_18 za_113 h4 ?_
    refine ZO.iload_n (pc := 19) 1 d_M_readBy_19 rfl rfl ?_
    refine ZO.tSB (pc := 20) (As := [.int (ai s 113 x1.2), .int a0]) (rest := [.int x1.1]) d_M_readBy_20 zc_M_29 (by decide) rfl rfl (Nat.le_of_ble_eq_true rfl) (ok_M_has g (ai s 113 x1.2) a0 s) ?_
    refine ZO.tSI (pc := 23) (As := [.int (b2i (f_M_has (ai s 113 x1.2) a0))]) (rest := [.int x1.1]) d_M_readBy_23 zc_M_33 (by decide) rfl rfl (Nat.le_of_ble_eq_true rfl) (ok_M_flag g (f_M_has (ai s 113 x1.2) a0) s) ?_
    refine ZO.iadd (pc := 26) d_M_readBy_26 ?_
    refine ZO.ltI (fun v5 => ?_)
    refine ZO.istore_n (pc := 27) (v := v5) (L' := [(0, .ref 0), (1, .int a0), (2, .int v5), (3, .int x1.2)]) [1, 2, 0, 3] d_M_readBy_27 rfl (by decide) rfl ?_
    refine ZO.iinc (pc := 28) (i := 3) (x1.2 + (1 : Int32)) (L' := [(0, .ref 0), (1, .int a0), (2, .int v5), (3, .int (x1.2 + (1 : Int32)))]) [1, 2, 3, 0] d_M_readBy_28 rfl (by rfl) (by decide) rfl ?_
    refine ZO.goto (pc := 31) 4 d_M_readBy_31 (by decide) ?_
    exact hj2 (v5, (x1.2 + (1 : Int32)))
def f_M_sign (n : Nat) (a0 : Int32) (s : ZSt) : Option (Int32 × ZSt) :=
  lt (si s 0 0 (0 : Int32)) (fun s1 =>
  (if (gi s1 0 18) ≤ (76 : Int32) then
  lpN (fun j4 (x3 : Int32 × ZSt) =>
    (if (4 : Int32) ≤ x3.1 then
      lt (si x3.2 0 18 ((gi x3.2 0 18) + (4 : Int32))) (fun s6 =>
        some ((gi s6 0 18), s6))
    else gd (inb ((gi x3.2 0 18) + x3.1) 80) (
        lt (sai x3.2 117 ((gi x3.2 0 18) + x3.1) ((srI a0 ((24 : Int32) - ((8 : Int32) * x3.1))) &&& (255 : Int32))) (fun s8 =>
        j4 ((x3.1 + (1 : Int32)), s8))))) n ((0 : Int32), s1)
else some ((-1 : Int32), s1)))
set_option maxHeartbeats 4000000 in
set_option maxRecDepth 20000 in
theorem ok_M_sign (g : ZG) (n : Nat) (a0 : Int32) (s : ZSt) : ZF g 0 y_M_sign [.ref 0, .int a0] s (f_M_sign n a0 s) (fun b => some (.int b.1)) (fun b => b.2) := by
  refine ZF.of (by decide +kernel) (Nat.le_of_ble_eq_true rfl) ?_
  unfold f_M_sign
  show ZO g 0 y_M_sign (none, 0, 0) 0 [(0, .ref 0), (1, .int a0)] [] s _ _
  refine ZO.aload_n (pc := 0) 0 d_M_sign_0 rfl rfl ?_
  refine ZO.iconst (pc := 1) (0 : Int32) d_M_sign_1 (by decide) ?_
  refine ZO.putI (pc := 2) d_M_sign_2 zo_0 zp_M_3 rfl ?_
  refine ZO.ltS (fun s1 => ?_)
  refine ZO.aload_n (pc := 5) 0 d_M_sign_5 rfl rfl ?_
  refine ZO.getI (pc := 6) d_M_sign_6 zo_0 zf_M_37 rfl ?_
  refine ZO.bipush (pc := 9) (76 : Int32) d_M_sign_9 (by decide) ?_
  refine ZO.icmp_le (pc := 11) 16 d_M_sign_11 (by decide) rfl (fun h2 => ?_) (fun h2 => ?_)
  · refine ZO.iconst (pc := 16) (0 : Int32) d_M_sign_16 (by decide) ?_
    refine ZO.istore_n (pc := 17) (v := (0 : Int32)) (L' := [(0, .ref 0), (1, .int a0), (2, .int (0 : Int32))]) [1, 2, 0] d_M_sign_17 rfl (by decide) rfl ?_
    refine ZO.loop (fun (x3 : Int32 × ZSt) => ([(0, .ref 0), (1, .int a0), (2, .int x3.1)] : List (Nat × Value))) (fun (x3 : Int32 × ZSt) => x3.2) [] (fun j4 x3 hj4 => ?_) rfl rfl rfl
    refine ZO.iload_n (pc := 18) 2 d_M_sign_18 rfl rfl ?_
    refine ZO.iconst (pc := 19) (4 : Int32) d_M_sign_19 (by decide) ?_
    refine ZO.icmp_ge (pc := 20) 53 d_M_sign_20 (by decide) rfl (fun h5 => ?_) (fun h5 => ?_)
    · refine ZO.aload_n (pc := 53) 0 d_M_sign_53 rfl rfl ?_
      refine ZO.dup (pc := 54) d_M_sign_54 rfl ?_
      refine ZO.getI (pc := 55) d_M_sign_55 zo_0 zf_M_37 rfl ?_
      refine ZO.iconst (pc := 58) (4 : Int32) d_M_sign_58 (by decide) ?_
      refine ZO.iadd (pc := 59) d_M_sign_59 ?_
      refine ZO.putI (pc := 60) d_M_sign_60 zo_0 zp_M_37 rfl ?_
      refine ZO.ltS (fun s6 => ?_)
      refine ZO.aload_n (pc := 63) 0 d_M_sign_63 rfl rfl ?_
      refine ZO.getI (pc := 64) d_M_sign_64 zo_0 zf_M_37 rfl ?_
      exact ZO.iret (pc := 67)  d_M_sign_67 rfl rfl rfl
    · refine ZO.aload_n (pc := 23) 0 d_M_sign_23 rfl rfl ?_
      refine ZO.getA (pc := 24) 117 d_M_sign_24 zo_0 zf_M_40 rfl rfl ?_
      refine ZO.aload_n (pc := 27) 0 d_M_sign_27 rfl rfl ?_
      refine ZO.getI (pc := 28) d_M_sign_28 zo_0 zf_M_37 rfl ?_
      refine ZO.iload_n (pc := 31) 2 d_M_sign_31 rfl rfl ?_
      refine ZO.iadd (pc := 32) d_M_sign_32 ?_
      refine ZO.iload_n (pc := 33) 1 d_M_sign_33 rfl rfl ?_
      refine ZO.bipush (pc := 34) (24 : Int32) d_M_sign_34 (by decide) ?_
      refine ZO.bipush (pc := 36) (8 : Int32) d_M_sign_36 (by decide) ?_
      refine ZO.iload_n (pc := 38) 2 d_M_sign_38 rfl rfl ?_
      refine ZO.imul (pc := 39) d_M_sign_39 ?_
      refine ZO.isub (pc := 40) d_M_sign_40 ?_
      refine ZO.ishr (pc := 41) d_M_sign_41 ?_
      refine ZO.sipush (pc := 42) (255 : Int32) d_M_sign_42 (by decide) ?_
      refine ZO.iand (pc := 45) d_M_sign_45 ?_
      refine ZO.rgd (fun h7 => ?_)
      refine ZO.iast (pc := 46) d_M_sign_46 za_117 h7 ?_
      refine ZO.ltS (fun s8 => ?_)
      refine ZO.iinc (pc := 47) (i := 2) (x3.1 + (1 : Int32)) (L' := [(0, .ref 0), (1, .int a0), (2, .int (x3.1 + (1 : Int32)))]) [1, 2, 0] d_M_sign_47 rfl (by rfl) (by decide) rfl ?_
      refine ZO.goto (pc := 50) 18 d_M_sign_50 (by decide) ?_
      exact hj4 ((x3.1 + (1 : Int32)), s8)
  · refine ZO.iconst (pc := 14) (-1 : Int32) d_M_sign_14 (by decide) ?_
    exact ZO.iret (pc := 15)  d_M_sign_15 rfl rfl rfl
def f_M_end (a0 : Int32) (s : ZSt) : Option (Bool × ZSt) :=
  lt (si s 0 0 (0 : Int32)) (fun s1 =>
  (if (f_M_in a0.toInt64 (0 : Int64) ((gi s1 0 18).toInt64)) = true then
  lt (si s1 0 18 a0) (fun s3 =>
    some (true, s3))
else some (false, s1)))
set_option maxHeartbeats 4000000 in
set_option maxRecDepth 20000 in
theorem ok_M_end (g : ZG) (a0 : Int32) (s : ZSt) : ZF g 1 y_M_end [.ref 0, .int a0] s (f_M_end a0 s) (fun b => some (.int (b2i b.1))) (fun b => b.2) := by
  refine ZF.of (by decide +kernel) (Nat.le_of_ble_eq_true rfl) ?_
  unfold f_M_end
  show ZO g 1 y_M_end (none, 0, 0) 0 [(0, .ref 0), (1, .int a0)] [] s _ _
  refine ZO.aload_n (pc := 0) 0 d_M_end_0 rfl rfl ?_
  refine ZO.iconst (pc := 1) (0 : Int32) d_M_end_1 (by decide) ?_
  refine ZO.putI (pc := 2) d_M_end_2 zo_0 zp_M_3 rfl ?_
  refine ZO.ltS (fun s1 => ?_)
  refine ZO.iload_n (pc := 5) 1 d_M_end_5 rfl rfl ?_
  refine ZO.i2l (pc := 6) d_M_end_6 ?_
  refine ZO.lconst (pc := 7) (0 : Int64) d_M_end_7 (by decide) ?_
  refine ZO.aload_n (pc := 8) 0 d_M_end_8 rfl rfl ?_
  refine ZO.getI (pc := 9) d_M_end_9 zo_0 zf_M_37 rfl ?_
  refine ZO.i2l (pc := 12) d_M_end_12 ?_
  refine ZO.tSB (pc := 13) (As := [.long a0.toInt64, .long (0 : Int64), .long (gi s1 0 18).toInt64]) (rest := []) d_M_end_13 zc_M_17 (by decide) rfl rfl (Nat.le_of_ble_eq_true rfl) (ok_M_in g a0.toInt64 (0 : Int64) ((gi s1 0 18).toInt64) s1) ?_
  refine ZO.ifb_ne (pc := 16) 21 d_M_end_16 (by decide) rfl (fun h2 => ?_) (fun h2 => ?_)
  · refine ZO.aload_n (pc := 21) 0 d_M_end_21 rfl rfl ?_
    refine ZO.iload_n (pc := 22) 1 d_M_end_22 rfl rfl ?_
    refine ZO.putI (pc := 23) d_M_end_23 zo_0 zp_M_37 rfl ?_
    refine ZO.ltS (fun s3 => ?_)
    refine ZO.iconst (pc := 26) (1 : Int32) d_M_end_26 (by decide) ?_
    exact ZO.zret (pc := 27) (v := true) d_M_end_27 rfl rfl rfl
  · refine ZO.iconst (pc := 19) (0 : Int32) d_M_end_19 (by decide) ?_
    exact ZO.zret (pc := 20) (v := false) d_M_end_20 rfl rfl rfl
