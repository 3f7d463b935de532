def f_M_thrown (s : ZSt) : Int32 :=
  (gi s 0 0)
set_option maxHeartbeats 4000000 in
set_option maxRecDepth 20000 in
theorem ok_M_thrown (g : ZG) (s : ZSt) : ZF g 0 y_M_thrown [.ref 0] s (some (f_M_thrown s)) (fun b => some (.int b)) (fun _ => s) := by
  refine ZF.of (by decide +kernel) (Nat.le_of_ble_eq_true rfl) ?_
  unfold f_M_thrown
  show ZO g 0 y_M_thrown zu0 0 [(0, .ref 0)] [] s _ _
  refine ZO.aload_n (pc := 0) 0 d_M_thrown_0 rfl rfl ?_
  refine ZO.getI (pc := 1) d_M_thrown_1 zo_0 zf_M_3 rfl ?_
  exact ZO.iret (pc := 4)  d_M_thrown_4 rfl rfl rfl
def f_M_refuse (s : ZSt) : Option (Int32 × ZSt) :=
  lt (si s 0 0 (1 : Int32)) (fun s1 =>
  some ((0 : Int32), s1))
set_option maxHeartbeats 4000000 in
set_option maxRecDepth 20000 in
theorem ok_M_refuse (g : ZG) (s : ZSt) : ZF g 0 y_M_refuse [.ref 0] s (f_M_refuse s) (fun b => some (.int b.1)) (fun b => b.2) := by
  refine ZF.of (by decide +kernel) (Nat.le_of_ble_eq_true rfl) ?_
  unfold f_M_refuse
  show ZO g 0 y_M_refuse zu0 0 [(0, .ref 0)] [] s _ _
  refine ZO.aload_n (pc := 0) 0 d_M_refuse_0 rfl rfl ?_
  refine ZO.iconst (pc := 1) (1 : Int32) d_M_refuse_1 (by decide) ?_
  refine ZO.putI (pc := 2) d_M_refuse_2 zo_0 zp_M_3 rfl ?_
  refine ZO.ltS (fun s1 => ?_)
  refine ZO.iconst (pc := 5) (0 : Int32) d_M_refuse_5 (by decide) ?_
  exact ZO.iret (pc := 6)  d_M_refuse_6 rfl rfl rfl
def f_M_in (a0 : Int64) (a1 : Int64) (a2 : Int64) : Bool :=
  (if (lg_cmp a0 a1) < 0 then
  false
else (if 0 < (lg_cmp a0 a2) then
    false
  else true))
set_option maxHeartbeats 4000000 in
set_option maxRecDepth 20000 in
theorem ok_M_in (g : ZG) (a0 : Int64) (a1 : Int64) (a2 : Int64) (s : ZSt) : ZF g 0 y_M_in [.long a0, .long a1, .long a2] s (some (f_M_in a0 a1 a2)) (fun b => some (.int (b2i b))) (fun _ => s) := by
  refine ZF.of (by decide +kernel) (Nat.le_of_ble_eq_true rfl) ?_
  unfold f_M_in
  show ZO g 0 y_M_in zu0 0 [(0, .long a0), (2, .long a1), (4, .long a2)] [] s _ _
  refine ZO.lload_n (pc := 0) 0 d_M_in_0 rfl rfl ?_
  refine ZO.lload_n (pc := 1) 1 d_M_in_1 rfl rfl ?_
  refine ZO.lcmp (pc := 2) d_M_in_2 ?_
  refine ZO.if_lt (pc := 3) 17 d_M_in_3 (by decide) z_some (fun h1 => ?_) (fun h1 => ?_)
  · refine ZO.iconst (pc := 17) (0 : Int32) d_M_in_17 (by decide) ?_
    exact ZO.zret (pc := 18) (v := false) d_M_in_18 rfl rfl rfl
  · refine ZO.lload_n (pc := 6) 0 d_M_in_6 rfl rfl ?_
    refine ZO.lload (pc := 7) 2 d_M_in_7 rfl ?_
    refine ZO.lcmp (pc := 9) d_M_in_9 ?_
    refine ZO.if_gt (pc := 10) 17 d_M_in_10 (by decide) z_some (fun h2 => ?_) (fun h2 => ?_)
    · refine ZO.iconst (pc := 17) (0 : Int32) d_M_in_17 (by decide) ?_
      exact ZO.zret (pc := 18) (v := false) d_M_in_18 rfl rfl rfl
    · refine ZO.iconst (pc := 13) (1 : Int32) d_M_in_13 (by decide) ?_
      refine ZO.goto (pc := 14) 18 d_M_in_14 (by decide) ?_
      exact ZO.zret (pc := 18) (v := true) d_M_in_18 rfl rfl rfl
def f_M_has (a0 : Int32) (a1 : Int32) : Bool :=
  (if ((srI a0 a1) &&& (1 : Int32)) = (1 : Int32) then
  true
else false)
set_option maxHeartbeats 4000000 in
set_option maxRecDepth 20000 in
theorem ok_M_has (g : ZG) (a0 : Int32) (a1 : Int32) (s : ZSt) : ZF g 0 y_M_has [.int a0, .int a1] s (some (f_M_has a0 a1)) (fun b => some (.int (b2i b))) (fun _ => s) := by
  refine ZF.of (by decide +kernel) (Nat.le_of_ble_eq_true rfl) ?_
  unfold f_M_has
  show ZO g 0 y_M_has zu0 0 [(0, .int a0), (1, .int a1)] [] s _ _
  refine ZO.iload_n (pc := 0) 0 d_M_has_0 rfl rfl ?_
  refine ZO.iload_n (pc := 1) 1 d_M_has_1 rfl rfl ?_
  refine ZO.ishr (pc := 2) d_M_has_2 ?_
  refine ZO.iconst (pc := 3) (1 : Int32) d_M_has_3 (by decide) ?_
  refine ZO.iand (pc := 4) d_M_has_4 ?_
  refine ZO.iconst (pc := 5) (1 : Int32) d_M_has_5 (by decide) ?_
  refine ZO.icmp_ne (pc := 6) 13 d_M_has_6 (by decide) z_some (fun h1 => ?_) (fun h1 => ?_)
  · refine ZO.iconst (pc := 9) (1 : Int32) d_M_has_9 (by decide) ?_
    refine ZO.goto (pc := 10) 14 d_M_has_10 (by decide) ?_
    exact ZO.zret (pc := 14) (v := true) d_M_has_14 rfl rfl rfl
  · refine ZO.iconst (pc := 13) (0 : Int32) d_M_has_13 (by decide) ?_
    exact ZO.zret (pc := 14) (v := false) d_M_has_14 rfl rfl rfl
def f_M_flag (a0 : Bool) : Int32 :=
  (if a0 = true then
  (1 : Int32)
else (0 : Int32))
set_option maxHeartbeats 4000000 in
set_option maxRecDepth 20000 in
theorem ok_M_flag (g : ZG) (a0 : Bool) (s : ZSt) : ZF g 0 y_M_flag [.int (b2i a0)] s (some (f_M_flag a0)) (fun b => some (.int b)) (fun _ => s) := by
  refine ZF.of (by decide +kernel) (Nat.le_of_ble_eq_true rfl) ?_
  unfold f_M_flag
  show ZO g 0 y_M_flag zu0 0 [(0, .int (b2i a0))] [] s _ _
  refine ZO.iload_n (pc := 0) 0 d_M_flag_0 rfl rfl ?_
  refine ZO.ifb_eq (pc := 1) 8 d_M_flag_1 (by decide) z_some (fun h1 => ?_) (fun h1 => ?_)
  · refine ZO.iconst (pc := 4) (1 : Int32) d_M_flag_4 (by decide) ?_
    refine ZO.goto (pc := 5) 9 d_M_flag_5 (by decide) ?_
    exact ZO.iret (pc := 9)  d_M_flag_9 rfl rfl rfl
  · refine ZO.iconst (pc := 8) (0 : Int32) d_M_flag_8 (by decide) ?_
    exact ZO.iret (pc := 9)  d_M_flag_9 rfl rfl rfl
def f_M_enters (a0 : Int32) (s : ZSt) : Option ZSt :=
  gd (inb (gi s 0 1) 20) (
  lt (sai s 102 (gi s 0 1) a0) (fun s2 =>
  lt (si s2 0 1 ((gi s2 0 1) + (1 : Int32))) (fun s3 =>
  some s3)))
set_option maxHeartbeats 4000000 in
set_option maxRecDepth 20000 in
theorem ok_M_enters (g : ZG) (a0 : Int32) (s : ZSt) : ZF g 0 y_M_enters [.ref 0, .int a0] s (f_M_enters a0 s) (fun _ => none) (fun b => b) := by
  refine ZF.of (by decide +kernel) (Nat.le_of_ble_eq_true rfl) ?_
  unfold f_M_enters
  show ZO g 0 y_M_enters zu0 0 [(0, .ref 0), (1, .int a0)] [] s _ _
  refine ZO.aload_n (pc := 0) 0 d_M_enters_0 rfl rfl ?_
  refine ZO.getA (pc := 1) 102 d_M_enters_1 zo_0 zf_M_7 rfl rfl ?_
  refine ZO.aload_n (pc := 4) 0 d_M_enters_4 rfl rfl ?_
  refine ZO.getI (pc := 5) d_M_enters_5 zo_0 zf_M_11 rfl ?_
  refine ZO.iload_n (pc := 8) 1 d_M_enters_8 rfl rfl ?_
  refine ZO.rgd (fun h1 => ?_)
  refine ZO.iast (pc := 9) d_M_enters_9 za_102 h1 ?_
  refine ZO.ltS (fun s2 => ?_)
  refine ZO.aload_n (pc := 10) 0 d_M_enters_10 rfl rfl ?_
  refine ZO.dup (pc := 11) d_M_enters_11 rfl ?_
  refine ZO.getI (pc := 12) d_M_enters_12 zo_0 zf_M_11 rfl ?_
  refine ZO.iconst (pc := 15) (1 : Int32) d_M_enters_15 (by decide) ?_
  refine ZO.iadd (pc := 16) d_M_enters_16 ?_
  refine ZO.putI (pc := 17) d_M_enters_17 zo_0 zp_M_11 rfl ?_
  refine ZO.ltS (fun s3 => ?_)
  exact ZO.vret (pc := 20) d_M_enters_20 rfl rfl rfl
def f_M_isBook (a0 : Int32) (s : ZSt) : Bool :=
  (f_M_in a0.toInt64 (0 : Int64) (((gi s 0 3) - (1 : Int32)).toInt64))
set_option maxHeartbeats 4000000 in
set_option maxRecDepth 20000 in
theorem ok_M_isBook (g : ZG) (a0 : Int32) (s : ZSt) : ZF g 1 y_M_isBook [.ref 0, .int a0] s (some (f_M_isBook a0 s)) (fun b => some (.int (b2i b))) (fun _ => s) := by
  refine ZF.of (by decide +kernel) (Nat.le_of_ble_eq_true rfl) ?_
  unfold f_M_isBook
  show ZO g 1 y_M_isBook zu0 0 [(0, .ref 0), (1, .int a0)] [] s _ _
  refine ZO.iload_n (pc := 0) 1 d_M_isBook_0 rfl rfl ?_
  refine ZO.i2l (pc := 1) d_M_isBook_1 ?_
  refine ZO.lconst (pc := 2) (0 : Int64) d_M_isBook_2 (by decide) ?_
  refine ZO.aload_n (pc := 3) 0 d_M_isBook_3 rfl rfl ?_
  refine ZO.getI (pc := 4) d_M_isBook_4 zo_0 zf_M_14 rfl ?_
  refine ZO.iconst (pc := 7) (1 : Int32) d_M_isBook_7 (by decide) ?_
  refine ZO.isub (pc := 8) d_M_isBook_8 ?_
  refine ZO.i2l (pc := 9) d_M_isBook_9 ?_
  refine ZO.tSB (pc := 10) (As := [.long a0.toInt64, .long (0 : Int64), .long ((gi s 0 3) - (1 : Int32)).toInt64]) (rest := []) d_M_isBook_10 zc_M_17 (by decide) rfl rfl (Nat.le_of_ble_eq_true rfl) (ok_M_in g a0.toInt64 (0 : Int64) (((gi s 0 3) - (1 : Int32)).toInt64) s) ?_
  exact ZO.zret (pc := 13) (v := (f_M_in a0.toInt64 (0 : Int64) (((gi s 0 3) - (1 : Int32)).toInt64))) d_M_isBook_13 rfl rfl rfl
def f_M_isTable (a0 : Int32) : Bool :=
  (f_M_in a0.toInt64 (0 : Int64) (2 : Int64))
set_option maxHeartbeats 4000000 in
set_option maxRecDepth 20000 in
theorem ok_M_isTable (g : ZG) (a0 : Int32) (s : ZSt) : ZF g 1 y_M_isTable [.int a0] s (some (f_M_isTable a0)) (fun b => some (.int (b2i b))) (fun _ => s) := by
  refine ZF.of (by decide +kernel) (Nat.le_of_ble_eq_true rfl) ?_
  unfold f_M_isTable
  show ZO g 1 y_M_isTable zu0 0 [(0, .int a0)] [] s _ _
  refine ZO.iload_n (pc := 0) 0 d_M_isTable_0 rfl rfl ?_
  refine ZO.i2l (pc := 1) d_M_isTable_1 ?_
  refine ZO.lconst (pc := 2) (0 : Int64) d_M_isTable_2 (by decide) ?_
  refine ZO.ldc2 (pc := 3) (2 : Int64) d_M_isTable_3 zk_M_21 ?_
  refine ZO.tSB (pc := 6) (As := [.long a0.toInt64, .long (0 : Int64), .long (2 : Int64)]) (rest := []) d_M_isTable_6 zc_M_17 (by decide) rfl rfl (Nat.le_of_ble_eq_true rfl) (ok_M_in g a0.toInt64 (0 : Int64) (2 : Int64) s) ?_
  exact ZO.zret (pc := 9) (v := (f_M_in a0.toInt64 (0 : Int64) (2 : Int64))) d_M_isTable_9 rfl rfl rfl
def f_M_isReader (a0 : Int32) (s : ZSt) : Bool :=
  (f_M_in a0.toInt64 (0 : Int64) (((gi s 0 9) - (1 : Int32)).toInt64))
set_option maxHeartbeats 4000000 in
set_option maxRecDepth 20000 in
theorem ok_M_isReader (g : ZG) (a0 : Int32) (s : ZSt) : ZF g 1 y_M_isReader [.ref 0, .int a0] s (some (f_M_isReader a0 s)) (fun b => some (.int (b2i b))) (fun _ => s) := by
  refine ZF.of (by decide +kernel) (Nat.le_of_ble_eq_true rfl) ?_
  unfold f_M_isReader
  show ZO g 1 y_M_isReader zu0 0 [(0, .ref 0), (1, .int a0)] [] s _ _
  refine ZO.iload_n (pc := 0) 1 d_M_isReader_0 rfl rfl ?_
  refine ZO.i2l (pc := 1) d_M_isReader_1 ?_
  refine ZO.lconst (pc := 2) (0 : Int64) d_M_isReader_2 (by decide) ?_
  refine ZO.aload_n (pc := 3) 0 d_M_isReader_3 rfl rfl ?_
  refine ZO.getI (pc := 4) d_M_isReader_4 zo_0 zf_M_23 rfl ?_
  refine ZO.iconst (pc := 7) (1 : Int32) d_M_isReader_7 (by decide) ?_
  refine ZO.isub (pc := 8) d_M_isReader_8 ?_
  refine ZO.i2l (pc := 9) d_M_isReader_9 ?_
  refine ZO.tSB (pc := 10) (As := [.long a0.toInt64, .long (0 : Int64), .long ((gi s 0 9) - (1 : Int32)).toInt64]) (rest := []) d_M_isReader_10 zc_M_17 (by decide) rfl rfl (Nat.le_of_ble_eq_true rfl) (ok_M_in g a0.toInt64 (0 : Int64) (((gi s 0 9) - (1 : Int32)).toInt64) s) ?_
  exact ZO.zret (pc := 13) (v := (f_M_in a0.toInt64 (0 : Int64) (((gi s 0 9) - (1 : Int32)).toInt64))) d_M_isReader_13 rfl rfl rfl
def f_M_areBooks (a0 : Int32) (s : ZSt) : Bool :=
  (f_M_in a0.toInt64 (0 : Int64) (((shI (1 : Int32) (gi s 0 3)) - (1 : Int32)).toInt64))
set_option maxHeartbeats 4000000 in
set_option maxRecDepth 20000 in
theorem ok_M_areBooks (g : ZG) (a0 : Int32) (s : ZSt) : ZF g 1 y_M_areBooks [.ref 0, .int a0] s (some (f_M_areBooks a0 s)) (fun b => some (.int (b2i b))) (fun _ => s) := by
  refine ZF.of (by decide +kernel) (Nat.le_of_ble_eq_true rfl) ?_
  unfold f_M_areBooks
  show ZO g 1 y_M_areBooks zu0 0 [(0, .ref 0), (1, .int a0)] [] s _ _
  refine ZO.iload_n (pc := 0) 1 d_M_areBooks_0 rfl rfl ?_
  refine ZO.i2l (pc := 1) d_M_areBooks_1 ?_
  refine ZO.lconst (pc := 2) (0 : Int64) d_M_areBooks_2 (by decide) ?_
  refine ZO.iconst (pc := 3) (1 : Int32) d_M_areBooks_3 (by decide) ?_
  refine ZO.aload_n (pc := 4) 0 d_M_areBooks_4 rfl rfl ?_
  refine ZO.getI (pc := 5) d_M_areBooks_5 zo_0 zf_M_14 rfl ?_
  refine ZO.ishl (pc := 8) d_M_areBooks_8 ?_
  refine ZO.iconst (pc := 9) (1 : Int32) d_M_areBooks_9 (by decide) ?_
  refine ZO.isub (pc := 10) d_M_areBooks_10 ?_
  refine ZO.i2l (pc := 11) d_M_areBooks_11 ?_
  refine ZO.tSB (pc := 12) (As := [.long a0.toInt64, .long (0 : Int64), .long ((shI (1 : Int32) (gi s 0 3)) - (1 : Int32)).toInt64]) (rest := []) d_M_areBooks_12 zc_M_17 (by decide) rfl rfl (Nat.le_of_ble_eq_true rfl) (ok_M_in g a0.toInt64 (0 : Int64) (((shI (1 : Int32) (gi s 0 3)) - (1 : Int32)).toInt64) s) ?_
  exact ZO.zret (pc := 15) (v := (f_M_in a0.toInt64 (0 : Int64) (((shI (1 : Int32) (gi s 0 3)) - (1 : Int32)).toInt64))) d_M_areBooks_15 rfl rfl rfl
def f_M_readBy (n : Nat) (a0 : Int32) (s : ZSt) : Option Int32 :=
  lpN (fun j2 (x1 : Int32 × Int32) =>
  (if (gi s 0 9) ≤ x1.2 then
    some x1.1
  else gd (inb x1.2 6) (
      lt (x1.1 + (f_M_flag (f_M_has (ai s 113 x1.2) a0))) (fun v5 =>
      lt (x1.2 + (1 : Int32)) (fun v6 =>
      j2 (v5, v6)))))) n ((0 : Int32), (0 : Int32))
set_option maxHeartbeats 4000000 in
set_option maxRecDepth 20000 in
theorem ok_M_readBy (g : ZG) (n : Nat) (a0 : Int32) (s : ZSt) : ZF g 1 y_M_readBy [.ref 0, .int a0] s (f_M_readBy n a0 s) (fun b => some (.int b)) (fun _ => s) := by
  refine ZF.of (by decide +kernel) (Nat.le_of_ble_eq_true rfl) ?_
  unfold f_M_readBy
  show ZO g 1 y_M_readBy zu0 0 [(0, .ref 0), (1, .int a0)] [] s _ _
  refine ZO.iconst (pc := 0) (0 : Int32) d_M_readBy_0 (by decide) ?_
  refine ZO.istore_n (pc := 1) (v := (0 : Int32)) (L' := [(0, .ref 0), (1, .int a0), (2, .int (0 : Int32))]) [1, 2, 0] d_M_readBy_1 rfl (by decide) rfl ?_
  refine ZO.iconst (pc := 2) (0 : Int32) d_M_readBy_2 (by decide) ?_
  refine ZO.istore_n (pc := 3) (v := (0 : Int32)) (L' := [(0, .ref 0), (1, .int a0), (2, .int (0 : Int32)), (3, .int (0 : Int32))]) [1, 2, 3, 0] d_M_readBy_3 rfl (by decide) rfl ?_
  refine ZO.loop (fun (x1 : Int32 × Int32) => ([(0, .ref 0), (1, .int a0), (2, .int x1.1), (3, .int x1.2)] : List (Nat × Value))) (fun (x1 : Int32 × Int32) => s) [] (fun j2 x1 hj2 => ?_) rfl rfl rfl
  refine ZO.iload_n (pc := 4) 3 d_M_readBy_4 rfl rfl ?_
  refine ZO.aload_n (pc := 5) 0 d_M_readBy_5 rfl rfl ?_
  refine ZO.getI (pc := 6) d_M_readBy_6 zo_0 zf_M_23 rfl ?_
  refine ZO.icmp_ge (pc := 9) 34 d_M_readBy_9 (by decide) rfl (fun h3 => ?_) (fun h3 => ?_)
  · refine ZO.iload_n (pc := 34) 2 d_M_readBy_34 rfl rfl ?_
    exact ZO.iret (pc := 35)  d_M_readBy_35 rfl rfl rfl
  · refine ZO.iload_n (pc := 12) 2 d_M_readBy_12 rfl rfl ?_
    refine ZO.aload_n (pc := 13) 0 d_M_readBy_13 rfl rfl ?_
    refine ZO.getA (pc := 14) 113 d_M_readBy_14 zo_0 zf_M_26 rfl rfl ?_
    refine ZO.iload_n (pc := 17) 3 d_M_readBy_17 rfl rfl ?_
    refine ZO.rgd (fun h4 => ?_)
    refine ZO.iald (pc := 18) d_M_readBy_18 za_113 h4 ?_
    refine ZO.iload_n (pc := 19) 1 d_M_readBy_19 rfl rfl ?_
    refine ZO.tSB (pc := 20) (As := [.int (ai s 113 x1.2), .int a0]) (rest := [.int x1.1]) d_M_readBy_20 zc_M_29 (by decide) rfl rfl (Nat.le_of_ble_eq_true rfl) (ok_M_has g (ai s 113 x1.2) a0 s) ?_
    refine ZO.tSI (pc := 23) (As := [.int (b2i (f_M_has (ai s 113 x1.2) a0))]) (rest := [.int x1.1]) d_M_readBy_23 zc_M_33 (by decide) rfl rfl (Nat.le_of_ble_eq_true rfl) (ok_M_flag g (f_M_has (ai s 113 x1.2) a0) s) ?_
    refine ZO.iadd (pc := 26) d_M_readBy_26 ?_
    refine ZO.ltI (fun v5 => ?_)
    refine ZO.istore_n (pc := 27) (v := v5) (L' := [(0, .ref 0), (1, .int a0), (2, .int v5), (3, .int x1.2)]) [1, 2, 0, 3] d_M_readBy_27 rfl (by decide) rfl ?_
    refine ZO.iincL (pc := 28) (i := 3) (x1.2 + (1 : Int32)) (L' := fun v6 => [(0, .ref 0), (1, .int a0), (2, .int v5), (3, .int v6)]) [1, 2, 3, 0] d_M_readBy_28 rfl (by rfl) (by decide) (fun _ => rfl) (fun v6 => ?_)
    refine ZO.goto (pc := 31) 4 d_M_readBy_31 (by decide) ?_
    exact hj2 (v5, v6)
def f_M_sign (n : Nat) (a0 : Int32) (s : ZSt) : Option (Int32 × ZSt) :=
  lt (si s 0 0 (0 : Int32)) (fun s1 =>
  (if (gi s1 0 18) ≤ (76 : Int32) then
  lpN (fun j4 (x3 : Int32 × ZSt) =>
    (if (4 : Int32) ≤ x3.1 then
      lt (si x3.2 0 18 ((gi x3.2 0 18) + (4 : Int32))) (fun s6 =>
        some ((gi s6 0 18), s6))
    else gd (inb ((gi x3.2 0 18) + x3.1) 80) (
        lt (sai x3.2 117 ((gi x3.2 0 18) + x3.1) ((srI a0 ((24 : Int32) - ((8 : Int32) * x3.1))) &&& (255 : Int32))) (fun s8 =>
        lt (x3.1 + (1 : Int32)) (fun v9 =>
        j4 (v9, s8)))))) n ((0 : Int32), s1)
else some ((-1 : Int32), s1)))
set_option maxHeartbeats 4000000 in
set_option maxRecDepth 20000 in
theorem ok_M_sign (g : ZG) (n : Nat) (a0 : Int32) (s : ZSt) : ZF g 0 y_M_sign [.ref 0, .int a0] s (f_M_sign n a0 s) (fun b => some (.int b.1)) (fun b => b.2) := by
  refine ZF.of (by decide +kernel) (Nat.le_of_ble_eq_true rfl) ?_
  unfold f_M_sign
  show ZO g 0 y_M_sign zu0 0 [(0, .ref 0), (1, .int a0)] [] s _ _
  refine ZO.aload_n (pc := 0) 0 d_M_sign_0 rfl rfl ?_
  refine ZO.iconst (pc := 1) (0 : Int32) d_M_sign_1 (by decide) ?_
  refine ZO.putI (pc := 2) d_M_sign_2 zo_0 zp_M_3 rfl ?_
  refine ZO.ltS (fun s1 => ?_)
  refine ZO.aload_n (pc := 5) 0 d_M_sign_5 rfl rfl ?_
  refine ZO.getI (pc := 6) d_M_sign_6 zo_0 zf_M_37 rfl ?_
  refine ZO.bipush (pc := 9) (76 : Int32) d_M_sign_9 (by decide) ?_
  refine ZO.icmp_le (pc := 11) 16 d_M_sign_11 (by decide) rfl (fun h2 => ?_) (fun h2 => ?_)
  · refine ZO.iconst (pc := 16) (0 : Int32) d_M_sign_16 (by decide) ?_
    refine ZO.istore_n (pc := 17) (v := (0 : Int32)) (L' := [(0, .ref 0), (1, .int a0), (2, .int (0 : Int32))]) [1, 2, 0] d_M_sign_17 rfl (by decide) rfl ?_
    refine ZO.loop (fun (x3 : Int32 × ZSt) => ([(0, .ref 0), (1, .int a0), (2, .int x3.1)] : List (Nat × Value))) (fun (x3 : Int32 × ZSt) => x3.2) [] (fun j4 x3 hj4 => ?_) rfl rfl rfl
    refine ZO.iload_n (pc := 18) 2 d_M_sign_18 rfl rfl ?_
    refine ZO.iconst (pc := 19) (4 : Int32) d_M_sign_19 (by decide) ?_
    refine ZO.icmp_ge (pc := 20) 53 d_M_sign_20 (by decide) rfl (fun h5 => ?_) (fun h5 => ?_)
    · refine ZO.aload_n (pc := 53) 0 d_M_sign_53 rfl rfl ?_
      refine ZO.dup (pc := 54) d_M_sign_54 rfl ?_
      refine ZO.getI (pc := 55) d_M_sign_55 zo_0 zf_M_37 rfl ?_
      refine ZO.iconst (pc := 58) (4 : Int32) d_M_sign_58 (by decide) ?_
      refine ZO.iadd (pc := 59) d_M_sign_59 ?_
      refine ZO.putI (pc := 60) d_M_sign_60 zo_0 zp_M_37 rfl ?_
      refine ZO.ltS (fun s6 => ?_)
      refine ZO.aload_n (pc := 63) 0 d_M_sign_63 rfl rfl ?_
      refine ZO.getI (pc := 64) d_M_sign_64 zo_0 zf_M_37 rfl ?_
      exact ZO.iret (pc := 67)  d_M_sign_67 rfl rfl rfl
    · refine ZO.aload_n (pc := 23) 0 d_M_sign_23 rfl rfl ?_
      refine ZO.getA (pc := 24) 117 d_M_sign_24 zo_0 zf_M_40 rfl rfl ?_
      refine ZO.aload_n (pc := 27) 0 d_M_sign_27 rfl rfl ?_
      refine ZO.getI (pc := 28) d_M_sign_28 zo_0 zf_M_37 rfl ?_
      refine ZO.iload_n (pc := 31) 2 d_M_sign_31 rfl rfl ?_
      refine ZO.iadd (pc := 32) d_M_sign_32 ?_
      refine ZO.iload_n (pc := 33) 1 d_M_sign_33 rfl rfl ?_
      refine ZO.bipush (pc := 34) (24 : Int32) d_M_sign_34 (by decide) ?_
      refine ZO.bipush (pc := 36) (8 : Int32) d_M_sign_36 (by decide) ?_
      refine ZO.iload_n (pc := 38) 2 d_M_sign_38 rfl rfl ?_
      refine ZO.imul (pc := 39) d_M_sign_39 ?_
      refine ZO.isub (pc := 40) d_M_sign_40 ?_
      refine ZO.ishr (pc := 41) d_M_sign_41 ?_
      refine ZO.sipush (pc := 42) (255 : Int32) d_M_sign_42 (by decide) ?_
      refine ZO.iand (pc := 45) d_M_sign_45 ?_
      refine ZO.rgd (fun h7 => ?_)
      refine ZO.iast (pc := 46) d_M_sign_46 za_117 h7 ?_
      refine ZO.ltS (fun s8 => ?_)
      refine ZO.iincL (pc := 47) (i := 2) (x3.1 + (1 : Int32)) (L' := fun v9 => [(0, .ref 0), (1, .int a0), (2, .int v9)]) [1, 2, 0] d_M_sign_47 rfl (by rfl) (by decide) (fun _ => rfl) (fun v9 => ?_)
      refine ZO.goto (pc := 50) 18 d_M_sign_50 (by decide) ?_
      exact hj4 (v9, s8)
  · refine ZO.iconst (pc := 14) (-1 : Int32) d_M_sign_14 (by decide) ?_
    exact ZO.iret (pc := 15)  d_M_sign_15 rfl rfl rfl
def f_M_end (a0 : Int32) (s : ZSt) : Option (Bool × ZSt) :=
  lt (si s 0 0 (0 : Int32)) (fun s1 =>
  (if (f_M_in a0.toInt64 (0 : Int64) ((gi s1 0 18).toInt64)) = true then
  lt (si s1 0 18 a0) (fun s3 =>
    some (true, s3))
else some (false, s1)))
set_option maxHeartbeats 4000000 in
set_option maxRecDepth 20000 in
theorem ok_M_end (g : ZG) (a0 : Int32) (s : ZSt) : ZF g 1 y_M_end [.ref 0, .int a0] s (f_M_end a0 s) (fun b => some (.int (b2i b.1))) (fun b => b.2) := by
  refine ZF.of (by decide +kernel) (Nat.le_of_ble_eq_true rfl) ?_
  unfold f_M_end
  show ZO g 1 y_M_end zu0 0 [(0, .ref 0), (1, .int a0)] [] s _ _
  refine ZO.aload_n (pc := 0) 0 d_M_end_0 rfl rfl ?_
  refine ZO.iconst (pc := 1) (0 : Int32) d_M_end_1 (by decide) ?_
  refine ZO.putI (pc := 2) d_M_end_2 zo_0 zp_M_3 rfl ?_
  refine ZO.ltS (fun s1 => ?_)
  refine ZO.iload_n (pc := 5) 1 d_M_end_5 rfl rfl ?_
  refine ZO.i2l (pc := 6) d_M_end_6 ?_
  refine ZO.lconst (pc := 7) (0 : Int64) d_M_end_7 (by decide) ?_
  refine ZO.aload_n (pc := 8) 0 d_M_end_8 rfl rfl ?_
  refine ZO.getI (pc := 9) d_M_end_9 zo_0 zf_M_37 rfl ?_
  refine ZO.i2l (pc := 12) d_M_end_12 ?_
  refine ZO.tSB (pc := 13) (As := [.long a0.toInt64, .long (0 : Int64), .long (gi s1 0 18).toInt64]) (rest := []) d_M_end_13 zc_M_17 (by decide) rfl rfl (Nat.le_of_ble_eq_true rfl) (ok_M_in g a0.toInt64 (0 : Int64) ((gi s1 0 18).toInt64) s1) ?_
  refine ZO.ifb_ne (pc := 16) 21 d_M_end_16 (by decide) rfl (fun h2 => ?_) (fun h2 => ?_)
  · refine ZO.aload_n (pc := 21) 0 d_M_end_21 rfl rfl ?_
    refine ZO.iload_n (pc := 22) 1 d_M_end_22 rfl rfl ?_
    refine ZO.putI (pc := 23) d_M_end_23 zo_0 zp_M_37 rfl ?_
    refine ZO.ltS (fun s3 => ?_)
    refine ZO.iconst (pc := 26) (1 : Int32) d_M_end_26 (by decide) ?_
    exact ZO.zret (pc := 27) (v := true) d_M_end_27 rfl rfl rfl
  · refine ZO.iconst (pc := 19) (0 : Int32) d_M_end_19 (by decide) ?_
    exact ZO.zret (pc := 20) (v := false) d_M_end_20 rfl rfl rfl
def f_M_isDigit (s : ZSt) : Option Bool :=
  (jn (fun (x1 : Unit) =>
    some false) (fun j2 =>
    if (gi s 0 20) ≤ (gi s 0 19) then
  j2 ()
else gd (inb (gi s 0 19) 80) (
    (if (f_M_in ((ai s 117 (gi s 0 19)).toInt64) (48 : Int64) (57 : Int64)) = true then
    some true
  else j2 ()))))
set_option maxHeartbeats 4000000 in
set_option maxRecDepth 20000 in
theorem ok_M_isDigit (g : ZG) (s : ZSt) : ZF g 1 y_M_isDigit [.ref 0] s (f_M_isDigit s) (fun b => some (.int (b2i b))) (fun _ => s) := by
  refine ZF.of (by decide +kernel) (Nat.le_of_ble_eq_true rfl) ?_
  unfold f_M_isDigit
  show ZO g 1 y_M_isDigit zu0 0 [(0, .ref 0)] [] s _ _
  refine ZO.aload_n (pc := 0) 0 d_M_isDigit_0 rfl rfl ?_
  refine ZO.getI (pc := 1) d_M_isDigit_1 zo_0 zf_M_43 rfl ?_
  refine ZO.aload_n (pc := 4) 0 d_M_isDigit_4 rfl rfl ?_
  refine ZO.getI (pc := 5) d_M_isDigit_5 zo_0 zf_M_46 rfl ?_
  refine ZO.rjn (pcJ := 37) (LJ := fun (x1 : Unit) => ([] : List (Nat × Value))) (SJ := fun (x1 : Unit) => ([] : List Value)) (σJ := fun (x1 : Unit) => s) (fun x1 => ?_) (fun j2 hj2 => ?_)
  · refine ZO.iconst (pc := 37) (0 : Int32) d_M_isDigit_37 (by decide) ?_
    exact ZO.zret (pc := 38) (v := false) d_M_isDigit_38 rfl rfl rfl
  · refine ZO.icmp_ge (pc := 8) 37 d_M_isDigit_8 (by decide) rfl (fun h3 => ?_) (fun h3 => ?_)
    · exact ZO.sub [] rfl (hj2 ())
    · refine ZO.aload_n (pc := 11) 0 d_M_isDigit_11 rfl rfl ?_
      refine ZO.getA (pc := 12) 117 d_M_isDigit_12 zo_0 zf_M_40 rfl rfl ?_
      refine ZO.aload_n (pc := 15) 0 d_M_isDigit_15 rfl rfl ?_
      refine ZO.getI (pc := 16) d_M_isDigit_16 zo_0 zf_M_43 rfl ?_
      refine ZO.rgd (fun h4 => ?_)
      refine ZO.iald (pc := 19) d_M_isDigit_19 za_117 h4 ?_
      refine ZO.i2l (pc := 20) d_M_isDigit_20 ?_
      refine ZO.ldc2 (pc := 21) (48 : Int64) d_M_isDigit_21 zk_M_49 ?_
      refine ZO.ldc2 (pc := 24) (57 : Int64) d_M_isDigit_24 zk_M_51 ?_
      refine ZO.tSB (pc := 27) (As := [.long (ai s 117 (gi s 0 19)).toInt64, .long (48 : Int64), .long (57 : Int64)]) (rest := []) d_M_isDigit_27 zc_M_17 (by decide) rfl rfl (Nat.le_of_ble_eq_true rfl) (ok_M_in g ((ai s 117 (gi s 0 19)).toInt64) (48 : Int64) (57 : Int64) s) ?_
      refine ZO.ifb_eq (pc := 30) 37 d_M_isDigit_30 (by decide) rfl (fun h5 => ?_) (fun h5 => ?_)
      · refine ZO.iconst (pc := 33) (1 : Int32) d_M_isDigit_33 (by decide) ?_
        refine ZO.goto (pc := 34) 38 d_M_isDigit_34 (by decide) ?_
        exact ZO.zret (pc := 38) (v := true) d_M_isDigit_38 rfl rfl rfl
      · exact ZO.sub [] rfl (hj2 ())
def f_M_takes (a0 : Int32) (s : ZSt) : Option (Bool × ZSt) :=
  (jn (fun (x1 : Bool) =>
    lt (si s 0 19 ((gi s 0 19) + (f_M_flag x1))) (fun s2 =>
      some (x1, s2))) (fun j3 =>
    jn (fun (x4 : Unit) =>
    j3 false) (fun j5 =>
    if (gi s 0 20) ≤ (gi s 0 19) then
  j5 ()
else gd (inb (gi s 0 19) 80) (
    (if (ai s 117 (gi s 0 19)) = a0 then
    j3 true
  else j5 ())))))
set_option maxHeartbeats 4000000 in
set_option maxRecDepth 20000 in
theorem ok_M_takes (g : ZG) (a0 : Int32) (s : ZSt) : ZF g 1 y_M_takes [.ref 0, .int a0] s (f_M_takes a0 s) (fun b => some (.int (b2i b.1))) (fun b => b.2) := by
  refine ZF.of (by decide +kernel) (Nat.le_of_ble_eq_true rfl) ?_
  unfold f_M_takes
  show ZO g 1 y_M_takes zu0 0 [(0, .ref 0), (1, .int a0)] [] s _ _
  refine ZO.aload_n (pc := 0) 0 d_M_takes_0 rfl rfl ?_
  refine ZO.getI (pc := 1) d_M_takes_1 zo_0 zf_M_43 rfl ?_
  refine ZO.aload_n (pc := 4) 0 d_M_takes_4 rfl rfl ?_
  refine ZO.getI (pc := 5) d_M_takes_5 zo_0 zf_M_46 rfl ?_
  refine ZO.rjn (pcJ := 29) (LJ := fun (x1 : Bool) => ([(0, .ref 0)] : List (Nat × Value))) (SJ := fun (x1 : Bool) => ([.int (b2i x1)] : List Value)) (σJ := fun (x1 : Bool) => s) (fun x1 => ?_) (fun j3 hj3 => ?_)
  · refine ZO.istore_n (pc := 29) (v := (b2i x1)) (L' := [(0, .ref 0), (2, .int (b2i x1))]) [1, 0] d_M_takes_29 rfl (by decide) rfl ?_
    refine ZO.aload_n (pc := 30) 0 d_M_takes_30 rfl rfl ?_
    refine ZO.dup (pc := 31) d_M_takes_31 rfl ?_
    refine ZO.getI (pc := 32) d_M_takes_32 zo_0 zf_M_43 rfl ?_
    refine ZO.iload_n (pc := 35) 1 d_M_takes_35 rfl rfl ?_
    refine ZO.tSI (pc := 36) (As := [.int (b2i x1)]) (rest := [.int (gi s 0 19), .ref 0]) d_M_takes_36 zc_M_33 (by decide) rfl rfl (Nat.le_of_ble_eq_true rfl) (ok_M_flag g x1 s) ?_
    refine ZO.iadd (pc := 39) d_M_takes_39 ?_
    refine ZO.putI (pc := 40) d_M_takes_40 zo_0 zp_M_43 rfl ?_
    refine ZO.ltS (fun s2 => ?_)
    refine ZO.iload_n (pc := 43) 1 d_M_takes_43 rfl rfl ?_
    exact ZO.zret (pc := 44) (v := x1) d_M_takes_44 rfl rfl rfl
  · refine ZO.rjn (pcJ := 28) (LJ := fun (x4 : Unit) => ([(0, .ref 0)] : List (Nat × Value))) (SJ := fun (x4 : Unit) => ([] : List Value)) (σJ := fun (x4 : Unit) => s) (fun x4 => ?_) (fun j5 hj5 => ?_)
    · refine ZO.iconst (pc := 28) (0 : Int32) d_M_takes_28 (by decide) ?_
      exact hj3 false
    · refine ZO.icmp_ge (pc := 8) 28 d_M_takes_8 (by decide) rfl (fun h6 => ?_) (fun h6 => ?_)
      · exact ZO.sub [0] rfl (hj5 ())
      · refine ZO.aload_n (pc := 11) 0 d_M_takes_11 rfl rfl ?_
        refine ZO.getA (pc := 12) 117 d_M_takes_12 zo_0 zf_M_40 rfl rfl ?_
        refine ZO.aload_n (pc := 15) 0 d_M_takes_15 rfl rfl ?_
        refine ZO.getI (pc := 16) d_M_takes_16 zo_0 zf_M_43 rfl ?_
        refine ZO.rgd (fun h7 => ?_)
        refine ZO.iald (pc := 19) d_M_takes_19 za_117 h7 ?_
        refine ZO.iload_n (pc := 20) 1 d_M_takes_20 rfl rfl ?_
        refine ZO.icmp_ne (pc := 21) 28 d_M_takes_21 (by decide) rfl (fun h8 => ?_) (fun h8 => ?_)
        · refine ZO.iconst (pc := 24) (1 : Int32) d_M_takes_24 (by decide) ?_
          refine ZO.goto (pc := 25) 29 d_M_takes_25 (by decide) ?_
          exact ZO.sub [0] rfl (hj3 true)
        · exact ZO.sub [0] rfl (hj5 ())
def f_M_marks (a0 : Int32) (s : ZSt) : Option ZSt :=
  gd (inb (gi s 0 22) 27) (
  gd (inb (((64 : Int32) * (gi s 0 22)) + (ai s 115 (gi s 0 22))) 1728) (
  lt (sai s 114 (((64 : Int32) * (gi s 0 22)) + (ai s 115 (gi s 0 22))) a0) (fun s3 =>
  gd (inb (gi s3 0 22) 27) (
  lt (sai s3 115 (gi s3 0 22) ((ai s3 115 (gi s3 0 22)) + (1 : Int32))) (fun s5 =>
  some s5)))))
set_option maxHeartbeats 4000000 in
set_option maxRecDepth 20000 in
theorem ok_M_marks (g : ZG) (a0 : Int32) (s : ZSt) : ZF g 0 y_M_marks [.ref 0, .int a0] s (f_M_marks a0 s) (fun _ => none) (fun b => b) := by
  refine ZF.of (by decide +kernel) (Nat.le_of_ble_eq_true rfl) ?_
  unfold f_M_marks
  show ZO g 0 y_M_marks zu0 0 [(0, .ref 0), (1, .int a0)] [] s _ _
  refine ZO.aload_n (pc := 0) 0 d_M_marks_0 rfl rfl ?_
  refine ZO.getA (pc := 1) 114 d_M_marks_1 zo_0 zf_M_63 rfl rfl ?_
  refine ZO.bipush (pc := 4) (64 : Int32) d_M_marks_4 (by decide) ?_
  refine ZO.aload_n (pc := 6) 0 d_M_marks_6 rfl rfl ?_
  refine ZO.getI (pc := 7) d_M_marks_7 zo_0 zf_M_66 rfl ?_
  refine ZO.imul (pc := 10) d_M_marks_10 ?_
  refine ZO.aload_n (pc := 11) 0 d_M_marks_11 rfl rfl ?_
  refine ZO.getA (pc := 12) 115 d_M_marks_12 zo_0 zf_M_69 rfl rfl ?_
  refine ZO.aload_n (pc := 15) 0 d_M_marks_15 rfl rfl ?_
  refine ZO.getI (pc := 16) d_M_marks_16 zo_0 zf_M_66 rfl ?_
  refine ZO.rgd (fun h1 => ?_)
  refine ZO.iald (pc := 19) d_M_marks_19 za_115 h1 ?_
  refine ZO.iadd (pc := 20) d_M_marks_20 ?_
  refine ZO.iload_n (pc := 21) 1 d_M_marks_21 rfl rfl ?_
  refine ZO.rgd (fun h2 => ?_)
  refine ZO.iast (pc := 22) d_M_marks_22 za_114 h2 ?_
  refine ZO.ltS (fun s3 => ?_)
  refine ZO.aload_n (pc := 23) 0 d_M_marks_23 rfl rfl ?_
  refine ZO.getA (pc := 24) 115 d_M_marks_24 zo_0 zf_M_69 rfl rfl ?_
  refine ZO.aload_n (pc := 27) 0 d_M_marks_27 rfl rfl ?_
  refine ZO.getI (pc := 28) d_M_marks_28 zo_0 zf_M_66 rfl ?_
  refine ZO.dup2 (pc := 31) d_M_marks_31 rfl rfl ?_
  refine ZO.rgd (fun h4 => ?_)
  refine ZO.iald (pc := 32) d_M_marks_32 za_115 h4 ?_
  refine ZO.iconst (pc := 33) (1 : Int32) d_M_marks_33 (by decide) ?_
  refine ZO.iadd (pc := 34) d_M_marks_34 ?_
  refine ZO.iast (pc := 35) d_M_marks_35 za_115 h4 ?_
  refine ZO.ltS (fun s5 => ?_)
  exact ZO.vret (pc := 36) d_M_marks_36 rfl rfl rfl
def f_M_begins (a0 : Int32) (s : ZSt) : Option (Int32 × ZSt) :=
  lt (gi s 0 18) (fun v1 =>
  lt (si s 0 18 (0 : Int32)) (fun s2 =>
  lt (si s2 0 19 (0 : Int32)) (fun s3 =>
  lt (si s3 0 20 (imin v1 a0)) (fun s4 =>
  lt (sai s4 115 (25 : Int32) (0 : Int32)) (fun s5 =>
  lt (sai s5 115 (26 : Int32) (0 : Int32)) (fun s6 =>
  some (v1, s6)))))))
set_option maxHeartbeats 4000000 in
set_option maxRecDepth 20000 in
theorem ok_M_begins (g : ZG) (a0 : Int32) (s : ZSt) : ZF g 1 y_M_begins [.ref 0, .int a0] s (f_M_begins a0 s) (fun b => some (.int b.1)) (fun b => b.2) := by
  refine ZF.of (by decide +kernel) (Nat.le_of_ble_eq_true rfl) ?_
  unfold f_M_begins
  show ZO g 1 y_M_begins zu0 0 [(0, .ref 0), (1, .int a0)] [] s _ _
  refine ZO.aload_n (pc := 0) 0 d_M_begins_0 rfl rfl ?_
  refine ZO.getI (pc := 1) d_M_begins_1 zo_0 zf_M_37 rfl ?_
  refine ZO.ltI (fun v1 => ?_)
  refine ZO.istore_n (pc := 4) (v := v1) (L' := [(0, .ref 0), (1, .int a0), (2, .int v1)]) [1, 2, 0] d_M_begins_4 rfl (by decide) rfl ?_
  refine ZO.aload_n (pc := 5) 0 d_M_begins_5 rfl rfl ?_
  refine ZO.iconst (pc := 6) (0 : Int32) d_M_begins_6 (by decide) ?_
  refine ZO.putI (pc := 7) d_M_begins_7 zo_0 zp_M_37 rfl ?_
  refine ZO.ltS (fun s2 => ?_)
  refine ZO.aload_n (pc := 10) 0 d_M_begins_10 rfl rfl ?_
  refine ZO.iconst (pc := 11) (0 : Int32) d_M_begins_11 (by decide) ?_
  refine ZO.putI (pc := 12) d_M_begins_12 zo_0 zp_M_43 rfl ?_
  refine ZO.ltS (fun s3 => ?_)
  refine ZO.aload_n (pc := 15) 0 d_M_begins_15 rfl rfl ?_
  refine ZO.iload_n (pc := 16) 2 d_M_begins_16 rfl rfl ?_
  refine ZO.iload_n (pc := 17) 1 d_M_begins_17 rfl rfl ?_
  refine ZO.imin (pc := 18) d_M_begins_18 zm_M_112 (by decide) (Nat.le_of_ble_eq_true rfl) ?_
  refine ZO.putI (pc := 21) d_M_begins_21 zo_0 zp_M_46 rfl ?_
  refine ZO.ltS (fun s4 => ?_)
  refine ZO.aload_n (pc := 24) 0 d_M_begins_24 rfl rfl ?_
  refine ZO.getA (pc := 25) 115 d_M_begins_25 zo_0 zf_M_69 rfl rfl ?_
  refine ZO.bipush (pc := 28) (25 : Int32) d_M_begins_28 (by decide) ?_
  refine ZO.iconst (pc := 30) (0 : Int32) d_M_begins_30 (by decide) ?_
  refine ZO.iast (pc := 31) d_M_begins_31 za_115 (by decide) ?_
  refine ZO.ltS (fun s5 => ?_)
  refine ZO.aload_n (pc := 32) 0 d_M_begins_32 rfl rfl ?_
  refine ZO.getA (pc := 33) 115 d_M_begins_33 zo_0 zf_M_69 rfl rfl ?_
  refine ZO.bipush (pc := 36) (26 : Int32) d_M_begins_36 (by decide) ?_
  refine ZO.iconst (pc := 38) (0 : Int32) d_M_begins_38 (by decide) ?_
  refine ZO.iast (pc := 39) d_M_begins_39 za_115 (by decide) ?_
  refine ZO.ltS (fun s6 => ?_)
  refine ZO.iload_n (pc := 40) 2 d_M_begins_40 rfl rfl ?_
  exact ZO.iret (pc := 41)  d_M_begins_41 rfl rfl rfl
def f_M_faultOf (a0 : Int32) (a1 : Int32) (a2 : Bool) (s : ZSt) : Int32 :=
  (if a2 = true then
  (if (gi s 0 19) = (gi s 0 20) then
    (if a0 ≤ a1 then
      (if (1 : Int32) = 0 then
        ((-1 : Int32) - (gi s 0 19))
      else (0 : Int32))
    else (if (1 : Int32) = 0 then
        (if (gi s 0 19) < a1 then
          (if (1 : Int32) = 0 then
            ((-1 : Int32) - (gi s 0 19))
          else (0 : Int32))
        else ((-1 : Int32) - a1))
      else ((-1 : Int32) - a1)))
  else (if a0 ≤ a1 then
      (if (0 : Int32) = 0 then
        ((-1 : Int32) - (gi s 0 19))
      else (0 : Int32))
    else (if (0 : Int32) = 0 then
        (if (gi s 0 19) < a1 then
          (if (0 : Int32) = 0 then
            ((-1 : Int32) - (gi s 0 19))
          else (0 : Int32))
        else ((-1 : Int32) - a1))
      else ((-1 : Int32) - a1))))
else (if a0 ≤ a1 then
    (if (0 : Int32) = 0 then
      ((-1 : Int32) - (gi s 0 19))
    else (0 : Int32))
  else (if (0 : Int32) = 0 then
      (if (gi s 0 19) < a1 then
        (if (0 : Int32) = 0 then
          ((-1 : Int32) - (gi s 0 19))
        else (0 : Int32))
      else ((-1 : Int32) - a1))
    else ((-1 : Int32) - a1))))
set_option maxHeartbeats 4000000 in
set_option maxRecDepth 20000 in
theorem ok_M_faultOf (g : ZG) (a0 : Int32) (a1 : Int32) (a2 : Bool) (s : ZSt) : ZF g 0 y_M_faultOf [.ref 0, .int a0, .int a1, .int (b2i a2)] s (some (f_M_faultOf a0 a1 a2 s)) (fun b => some (.int b)) (fun _ => s) := by
  refine ZF.of (by decide +kernel) (Nat.le_of_ble_eq_true rfl) ?_
  unfold f_M_faultOf
  show ZO g 0 y_M_faultOf zu0 0 [(0, .ref 0), (1, .int a0), (2, .int a1), (3, .int (b2i a2))] [] s _ _
  refine ZO.iload_n (pc := 0) 3 d_M_faultOf_0 rfl rfl ?_
  refine ZO.ifb_eq (pc := 1) 19 d_M_faultOf_1 (by decide) z_some (fun h1 => ?_) (fun h1 => ?_)
  · refine ZO.aload_n (pc := 4) 0 d_M_faultOf_4 rfl rfl ?_
    refine ZO.getI (pc := 5) d_M_faultOf_5 zo_0 zf_M_43 rfl ?_
    refine ZO.aload_n (pc := 8) 0 d_M_faultOf_8 rfl rfl ?_
    refine ZO.getI (pc := 9) d_M_faultOf_9 zo_0 zf_M_46 rfl ?_
    refine ZO.icmp_ne (pc := 12) 19 d_M_faultOf_12 (by decide) z_some (fun h2 => ?_) (fun h2 => ?_)
    · refine ZO.iconst (pc := 15) (1 : Int32) d_M_faultOf_15 (by decide) ?_
      refine ZO.goto (pc := 16) 20 d_M_faultOf_16 (by decide) ?_
      refine ZO.istore (pc := 20) (v := (1 : Int32)) (L' := [(0, .ref 0), (1, .int a0), (2, .int a1), (3, .int (b2i a2)), (4, .int (1 : Int32))]) [1, 2, 3, 4, 0] d_M_faultOf_20 (by decide) rfl ?_
      refine ZO.iload_n (pc := 22) 1 d_M_faultOf_22 rfl rfl ?_
      refine ZO.iload_n (pc := 23) 2 d_M_faultOf_23 rfl rfl ?_
      refine ZO.icmp_le (pc := 24) 44 d_M_faultOf_24 (by decide) z_some (fun h3 => ?_) (fun h3 => ?_)
      · refine ZO.iload (pc := 44) 4 d_M_faultOf_44 rfl ?_
        refine ZO.if_eq (pc := 46) 53 d_M_faultOf_46 (by decide) z_some (fun h4 => ?_) (fun h4 => ?_)
        · refine ZO.iconst (pc := 53) (-1 : Int32) d_M_faultOf_53 (by decide) ?_
          refine ZO.aload_n (pc := 54) 0 d_M_faultOf_54 rfl rfl ?_
          refine ZO.getI (pc := 55) d_M_faultOf_55 zo_0 zf_M_43 rfl ?_
          refine ZO.isub (pc := 58) d_M_faultOf_58 ?_
          exact ZO.iret (pc := 59)  d_M_faultOf_59 rfl rfl rfl
        · refine ZO.iconst (pc := 49) (0 : Int32) d_M_faultOf_49 (by decide) ?_
          refine ZO.goto (pc := 50) 59 d_M_faultOf_50 (by decide) ?_
          exact ZO.iret (pc := 59)  d_M_faultOf_59 rfl rfl rfl
      · refine ZO.iload (pc := 27) 4 d_M_faultOf_27 rfl ?_
        refine ZO.if_ne (pc := 29) 40 d_M_faultOf_29 (by decide) z_some (fun h5 => ?_) (fun h5 => ?_)
        · refine ZO.aload_n (pc := 32) 0 d_M_faultOf_32 rfl rfl ?_
          refine ZO.getI (pc := 33) d_M_faultOf_33 zo_0 zf_M_43 rfl ?_
          refine ZO.iload_n (pc := 36) 2 d_M_faultOf_36 rfl rfl ?_
          refine ZO.icmp_lt (pc := 37) 44 d_M_faultOf_37 (by decide) z_some (fun h6 => ?_) (fun h6 => ?_)
          · refine ZO.iload (pc := 44) 4 d_M_faultOf_44 rfl ?_
            refine ZO.if_eq (pc := 46) 53 d_M_faultOf_46 (by decide) z_some (fun h7 => ?_) (fun h7 => ?_)
            · refine ZO.iconst (pc := 53) (-1 : Int32) d_M_faultOf_53 (by decide) ?_
              refine ZO.aload_n (pc := 54) 0 d_M_faultOf_54 rfl rfl ?_
              refine ZO.getI (pc := 55) d_M_faultOf_55 zo_0 zf_M_43 rfl ?_
              refine ZO.isub (pc := 58) d_M_faultOf_58 ?_
              exact ZO.iret (pc := 59)  d_M_faultOf_59 rfl rfl rfl
            · refine ZO.iconst (pc := 49) (0 : Int32) d_M_faultOf_49 (by decide) ?_
              refine ZO.goto (pc := 50) 59 d_M_faultOf_50 (by decide) ?_
              exact ZO.iret (pc := 59)  d_M_faultOf_59 rfl rfl rfl
          · refine ZO.iconst (pc := 40) (-1 : Int32) d_M_faultOf_40 (by decide) ?_
            refine ZO.iload_n (pc := 41) 2 d_M_faultOf_41 rfl rfl ?_
            refine ZO.isub (pc := 42) d_M_faultOf_42 ?_
            exact ZO.iret (pc := 43)  d_M_faultOf_43 rfl rfl rfl
        · refine ZO.iconst (pc := 40) (-1 : Int32) d_M_faultOf_40 (by decide) ?_
          refine ZO.iload_n (pc := 41) 2 d_M_faultOf_41 rfl rfl ?_
          refine ZO.isub (pc := 42) d_M_faultOf_42 ?_
          exact ZO.iret (pc := 43)  d_M_faultOf_43 rfl rfl rfl
    · refine ZO.iconst (pc := 19) (0 : Int32) d_M_faultOf_19 (by decide) ?_
      refine ZO.istore (pc := 20) (v := (0 : Int32)) (L' := [(0, .ref 0), (1, .int a0), (2, .int a1), (3, .int (b2i a2)), (4, .int (0 : Int32))]) [1, 2, 3, 4, 0] d_M_faultOf_20 (by decide) rfl ?_
      refine ZO.iload_n (pc := 22) 1 d_M_faultOf_22 rfl rfl ?_
      refine ZO.iload_n (pc := 23) 2 d_M_faultOf_23 rfl rfl ?_
      refine ZO.icmp_le (pc := 24) 44 d_M_faultOf_24 (by decide) z_some (fun h8 => ?_) (fun h8 => ?_)
      · refine ZO.iload (pc := 44) 4 d_M_faultOf_44 rfl ?_
        refine ZO.if_eq (pc := 46) 53 d_M_faultOf_46 (by decide) z_some (fun h9 => ?_) (fun h9 => ?_)
        · refine ZO.iconst (pc := 53) (-1 : Int32) d_M_faultOf_53 (by decide) ?_
          refine ZO.aload_n (pc := 54) 0 d_M_faultOf_54 rfl rfl ?_
          refine ZO.getI (pc := 55) d_M_faultOf_55 zo_0 zf_M_43 rfl ?_
          refine ZO.isub (pc := 58) d_M_faultOf_58 ?_
          exact ZO.iret (pc := 59)  d_M_faultOf_59 rfl rfl rfl
        · refine ZO.iconst (pc := 49) (0 : Int32) d_M_faultOf_49 (by decide) ?_
          refine ZO.goto (pc := 50) 59 d_M_faultOf_50 (by decide) ?_
          exact ZO.iret (pc := 59)  d_M_faultOf_59 rfl rfl rfl
      · refine ZO.iload (pc := 27) 4 d_M_faultOf_27 rfl ?_
        refine ZO.if_ne (pc := 29) 40 d_M_faultOf_29 (by decide) z_some (fun h10 => ?_) (fun h10 => ?_)
        · refine ZO.aload_n (pc := 32) 0 d_M_faultOf_32 rfl rfl ?_
          refine ZO.getI (pc := 33) d_M_faultOf_33 zo_0 zf_M_43 rfl ?_
          refine ZO.iload_n (pc := 36) 2 d_M_faultOf_36 rfl rfl ?_
          refine ZO.icmp_lt (pc := 37) 44 d_M_faultOf_37 (by decide) z_some (fun h11 => ?_) (fun h11 => ?_)
          · refine ZO.iload (pc := 44) 4 d_M_faultOf_44 rfl ?_
            refine ZO.if_eq (pc := 46) 53 d_M_faultOf_46 (by decide) z_some (fun h12 => ?_) (fun h12 => ?_)
            · refine ZO.iconst (pc := 53) (-1 : Int32) d_M_faultOf_53 (by decide) ?_
              refine ZO.aload_n (pc := 54) 0 d_M_faultOf_54 rfl rfl ?_
              refine ZO.getI (pc := 55) d_M_faultOf_55 zo_0 zf_M_43 rfl ?_
              refine ZO.isub (pc := 58) d_M_faultOf_58 ?_
              exact ZO.iret (pc := 59)  d_M_faultOf_59 rfl rfl rfl
            · refine ZO.iconst (pc := 49) (0 : Int32) d_M_faultOf_49 (by decide) ?_
              refine ZO.goto (pc := 50) 59 d_M_faultOf_50 (by decide) ?_
              exact ZO.iret (pc := 59)  d_M_faultOf_59 rfl rfl rfl
          · refine ZO.iconst (pc := 40) (-1 : Int32) d_M_faultOf_40 (by decide) ?_
            refine ZO.iload_n (pc := 41) 2 d_M_faultOf_41 rfl rfl ?_
            refine ZO.isub (pc := 42) d_M_faultOf_42 ?_
            exact ZO.iret (pc := 43)  d_M_faultOf_43 rfl rfl rfl
        · refine ZO.iconst (pc := 40) (-1 : Int32) d_M_faultOf_40 (by decide) ?_
          refine ZO.iload_n (pc := 41) 2 d_M_faultOf_41 rfl rfl ?_
          refine ZO.isub (pc := 42) d_M_faultOf_42 ?_
          exact ZO.iret (pc := 43)  d_M_faultOf_43 rfl rfl rfl
  · refine ZO.iconst (pc := 19) (0 : Int32) d_M_faultOf_19 (by decide) ?_
    refine ZO.istore (pc := 20) (v := (0 : Int32)) (L' := [(0, .ref 0), (1, .int a0), (2, .int a1), (3, .int (b2i a2)), (4, .int (0 : Int32))]) [1, 2, 3, 4, 0] d_M_faultOf_20 (by decide) rfl ?_
    refine ZO.iload_n (pc := 22) 1 d_M_faultOf_22 rfl rfl ?_
    refine ZO.iload_n (pc := 23) 2 d_M_faultOf_23 rfl rfl ?_
    refine ZO.icmp_le (pc := 24) 44 d_M_faultOf_24 (by decide) z_some (fun h13 => ?_) (fun h13 => ?_)
    · refine ZO.iload (pc := 44) 4 d_M_faultOf_44 rfl ?_
      refine ZO.if_eq (pc := 46) 53 d_M_faultOf_46 (by decide) z_some (fun h14 => ?_) (fun h14 => ?_)
      · refine ZO.iconst (pc := 53) (-1 : Int32) d_M_faultOf_53 (by decide) ?_
        refine ZO.aload_n (pc := 54) 0 d_M_faultOf_54 rfl rfl ?_
        refine ZO.getI (pc := 55) d_M_faultOf_55 zo_0 zf_M_43 rfl ?_
        refine ZO.isub (pc := 58) d_M_faultOf_58 ?_
        exact ZO.iret (pc := 59)  d_M_faultOf_59 rfl rfl rfl
      · refine ZO.iconst (pc := 49) (0 : Int32) d_M_faultOf_49 (by decide) ?_
        refine ZO.goto (pc := 50) 59 d_M_faultOf_50 (by decide) ?_
        exact ZO.iret (pc := 59)  d_M_faultOf_59 rfl rfl rfl
    · refine ZO.iload (pc := 27) 4 d_M_faultOf_27 rfl ?_
      refine ZO.if_ne (pc := 29) 40 d_M_faultOf_29 (by decide) z_some (fun h15 => ?_) (fun h15 => ?_)
      · refine ZO.aload_n (pc := 32) 0 d_M_faultOf_32 rfl rfl ?_
        refine ZO.getI (pc := 33) d_M_faultOf_33 zo_0 zf_M_43 rfl ?_
        refine ZO.iload_n (pc := 36) 2 d_M_faultOf_36 rfl rfl ?_
        refine ZO.icmp_lt (pc := 37) 44 d_M_faultOf_37 (by decide) z_some (fun h16 => ?_) (fun h16 => ?_)
        · refine ZO.iload (pc := 44) 4 d_M_faultOf_44 rfl ?_
          refine ZO.if_eq (pc := 46) 53 d_M_faultOf_46 (by decide) z_some (fun h17 => ?_) (fun h17 => ?_)
          · refine ZO.iconst (pc := 53) (-1 : Int32) d_M_faultOf_53 (by decide) ?_
            refine ZO.aload_n (pc := 54) 0 d_M_faultOf_54 rfl rfl ?_
            refine ZO.getI (pc := 55) d_M_faultOf_55 zo_0 zf_M_43 rfl ?_
            refine ZO.isub (pc := 58) d_M_faultOf_58 ?_
            exact ZO.iret (pc := 59)  d_M_faultOf_59 rfl rfl rfl
          · refine ZO.iconst (pc := 49) (0 : Int32) d_M_faultOf_49 (by decide) ?_
            refine ZO.goto (pc := 50) 59 d_M_faultOf_50 (by decide) ?_
            exact ZO.iret (pc := 59)  d_M_faultOf_59 rfl rfl rfl
        · refine ZO.iconst (pc := 40) (-1 : Int32) d_M_faultOf_40 (by decide) ?_
          refine ZO.iload_n (pc := 41) 2 d_M_faultOf_41 rfl rfl ?_
          refine ZO.isub (pc := 42) d_M_faultOf_42 ?_
          exact ZO.iret (pc := 43)  d_M_faultOf_43 rfl rfl rfl
      · refine ZO.iconst (pc := 40) (-1 : Int32) d_M_faultOf_40 (by decide) ?_
        refine ZO.iload_n (pc := 41) 2 d_M_faultOf_41 rfl rfl ?_
        refine ZO.isub (pc := 42) d_M_faultOf_42 ?_
        exact ZO.iret (pc := 43)  d_M_faultOf_43 rfl rfl rfl
def f_M_lays (n : Nat) (a0 : Int32) (a1 : Int32) (s : ZSt) : Option ZSt :=
  gd (inb a0 27) (
  gd (inb a1 27) (
  lt (sai s 115 a1 (ai s 115 a0)) (fun s3 =>
  lpN (fun j5 (x4 : Int32 × ZSt) =>
  (if (64 : Int32) ≤ x4.1 then
    some x4.2
  else gd (inb (((64 : Int32) * a0) + x4.1) 1728) (
      gd (inb (((64 : Int32) * a1) + x4.1) 1728) (
      lt (sai x4.2 114 (((64 : Int32) * a1) + x4.1) (ai x4.2 114 (((64 : Int32) * a0) + x4.1))) (fun s9 =>
      lt (x4.1 + (1 : Int32)) (fun v10 =>
      j5 (v10, s9))))))) n ((0 : Int32), s3))))
set_option maxHeartbeats 4000000 in
set_option maxRecDepth 20000 in
theorem ok_M_lays (g : ZG) (n : Nat) (a0 : Int32) (a1 : Int32) (s : ZSt) : ZF g 0 y_M_lays [.ref 0, .int a0, .int a1] s (f_M_lays n a0 a1 s) (fun _ => none) (fun b => b) := by
  refine ZF.of (by decide +kernel) (Nat.le_of_ble_eq_true rfl) ?_
  unfold f_M_lays
  show ZO g 0 y_M_lays zu0 0 [(0, .ref 0), (1, .int a0), (2, .int a1)] [] s _ _
  refine ZO.aload_n (pc := 0) 0 d_M_lays_0 rfl rfl ?_
  refine ZO.getA (pc := 1) 115 d_M_lays_1 zo_0 zf_M_69 rfl rfl ?_
  refine ZO.iload_n (pc := 4) 2 d_M_lays_4 rfl rfl ?_
  refine ZO.aload_n (pc := 5) 0 d_M_lays_5 rfl rfl ?_
  refine ZO.getA (pc := 6) 115 d_M_lays_6 zo_0 zf_M_69 rfl rfl ?_
  refine ZO.iload_n (pc := 9) 1 d_M_lays_9 rfl rfl ?_
  refine ZO.rgd (fun h1 => ?_)
  refine ZO.iald (pc := 10) d_M_lays_10 za_115 h1 ?_
  refine ZO.rgd (fun h2 => ?_)
  refine ZO.iast (pc := 11) d_M_lays_11 za_115 h2 ?_
  refine ZO.ltS (fun s3 => ?_)
  refine ZO.iconst (pc := 12) (0 : Int32) d_M_lays_12 (by decide) ?_
  refine ZO.istore_n (pc := 13) (v := (0 : Int32)) (L' := [(0, .ref 0), (1, .int a0), (2, .int a1), (3, .int (0 : Int32))]) [1, 2, 3, 0] d_M_lays_13 rfl (by decide) rfl ?_
  refine ZO.loop (fun (x4 : Int32 × ZSt) => ([(0, .ref 0), (1, .int a0), (2, .int a1), (3, .int x4.1)] : List (Nat × Value))) (fun (x4 : Int32 × ZSt) => x4.2) [] (fun j5 x4 hj5 => ?_) rfl rfl rfl
  refine ZO.iload_n (pc := 14) 3 d_M_lays_14 rfl rfl ?_
  refine ZO.bipush (pc := 15) (64 : Int32) d_M_lays_15 (by decide) ?_
  refine ZO.icmp_ge (pc := 17) 48 d_M_lays_17 (by decide) rfl (fun h6 => ?_) (fun h6 => ?_)
  · exact ZO.vret (pc := 48) d_M_lays_48 rfl rfl rfl
  · refine ZO.aload_n (pc := 20) 0 d_M_lays_20 rfl rfl ?_
    refine ZO.getA (pc := 21) 114 d_M_lays_21 zo_0 zf_M_63 rfl rfl ?_
    refine ZO.bipush (pc := 24) (64 : Int32) d_M_lays_24 (by decide) ?_
    refine ZO.iload_n (pc := 26) 2 d_M_lays_26 rfl rfl ?_
    refine ZO.imul (pc := 27) d_M_lays_27 ?_
    refine ZO.iload_n (pc := 28) 3 d_M_lays_28 rfl rfl ?_
    refine ZO.iadd (pc := 29) d_M_lays_29 ?_
    refine ZO.aload_n (pc := 30) 0 d_M_lays_30 rfl rfl ?_
    refine ZO.getA (pc := 31) 114 d_M_lays_31 zo_0 zf_M_63 rfl rfl ?_
    refine ZO.bipush (pc := 34) (64 : Int32) d_M_lays_34 (by decide) ?_
    refine ZO.iload_n (pc := 36) 1 d_M_lays_36 rfl rfl ?_
    refine ZO.imul (pc := 37) d_M_lays_37 ?_
    refine ZO.iload_n (pc := 38) 3 d_M_lays_38 rfl rfl ?_
    refine ZO.iadd (pc := 39) d_M_lays_39 ?_
    refine ZO.rgd (fun h7 => ?_)
    refine ZO.iald (pc := 40) d_M_lays_40 za_114 h7 ?_
    refine ZO.rgd (fun h8 => ?_)
    refine ZO.iast (pc := 41) d_M_lays_41 za_114 h8 ?_
    refine ZO.ltS (fun s9 => ?_)
    refine ZO.iincL (pc := 42) (i := 3) (x4.1 + (1 : Int32)) (L' := fun v10 => [(0, .ref 0), (1, .int a0), (2, .int a1), (3, .int v10)]) [1, 2, 3, 0] d_M_lays_42 rfl (by rfl) (by decide) (fun _ => rfl) (fun v10 => ?_)
    refine ZO.goto (pc := 45) 14 d_M_lays_45 (by decide) ?_
    exact hj5 (v10, s9)
def f_M_acted (a0 : Int32) (a1 : Int32) (a2 : Int32) : Int32 :=
  (if a0 = (38 : Int32) then
  (if a1 = 0 then
    (f_M_flag false)
  else (if a2 = 0 then
      (f_M_flag false)
    else (f_M_flag true)))
else if a0 = (43 : Int32) then
  (a1 + a2)
else if a0 = (45 : Int32) then
  (a1 - a2)
else if a0 = (60 : Int32) then
  (if a2 ≤ a1 then
    (f_M_flag false)
  else (f_M_flag true))
else if a0 = (61 : Int32) then
  (if a1 = a2 then
    (f_M_flag true)
  else (f_M_flag false))
else if a0 = (62 : Int32) then
  (if a1 ≤ a2 then
    (f_M_flag false)
  else (f_M_flag true))
else (if a1 = 0 then
    (if a2 = 0 then
      (f_M_flag false)
    else (f_M_flag true))
  else (f_M_flag true)))
set_option maxHeartbeats 4000000 in
set_option maxRecDepth 20000 in
theorem ok_M_acted (g : ZG) (a0 : Int32) (a1 : Int32) (a2 : Int32) (s : ZSt) : ZF g 1 y_M_acted [.ref 0, .int a0, .int a1, .int a2] s (some (f_M_acted a0 a1 a2)) (fun b => some (.int b)) (fun _ => s) := by
  refine ZF.of (by decide +kernel) (Nat.le_of_ble_eq_true rfl) ?_
  unfold f_M_acted
  show ZO g 1 y_M_acted zu0 0 [(0, .ref 0), (1, .int a0), (2, .int a1), (3, .int a2)] [] s _ _
  refine ZO.iload_n (pc := 0) 1 d_M_acted_0 rfl rfl ?_
  refine ZO.split (c0 := a0 = (38 : Int32)) z_some (fun h1 => ?_) (fun h1 => ?_)
  · refine ZO.lswI (pc := 1) 110 (38 : Int32) h1 d_M_acted_1 (by decide) (by decide) ?_
    refine ZO.iload_n (pc := 110) 2 d_M_acted_110 rfl rfl ?_
    refine ZO.if_eq (pc := 111) 122 d_M_acted_111 (by decide) z_some (fun h2 => ?_) (fun h2 => ?_)
    · refine ZO.iconst (pc := 122) (0 : Int32) d_M_acted_122 (by decide) ?_
      refine ZO.tSI (pc := 123) (As := [.int (b2i false)]) (rest := []) d_M_acted_123 zc_M_33 (by decide) rfl rfl (Nat.le_of_ble_eq_true rfl) (ok_M_flag g false s) ?_
      exact ZO.iret (pc := 126)  d_M_acted_126 rfl rfl rfl
    · refine ZO.iload_n (pc := 114) 3 d_M_acted_114 rfl rfl ?_
      refine ZO.if_eq (pc := 115) 122 d_M_acted_115 (by decide) z_some (fun h3 => ?_) (fun h3 => ?_)
      · refine ZO.iconst (pc := 122) (0 : Int32) d_M_acted_122 (by decide) ?_
        refine ZO.tSI (pc := 123) (As := [.int (b2i false)]) (rest := []) d_M_acted_123 zc_M_33 (by decide) rfl rfl (Nat.le_of_ble_eq_true rfl) (ok_M_flag g false s) ?_
        exact ZO.iret (pc := 126)  d_M_acted_126 rfl rfl rfl
      · refine ZO.iconst (pc := 118) (1 : Int32) d_M_acted_118 (by decide) ?_
        refine ZO.goto (pc := 119) 123 d_M_acted_119 (by decide) ?_
        refine ZO.tSI (pc := 123) (As := [.int (b2i true)]) (rest := []) d_M_acted_123 zc_M_33 (by decide) rfl rfl (Nat.le_of_ble_eq_true rfl) (ok_M_flag g true s) ?_
        exact ZO.iret (pc := 126)  d_M_acted_126 rfl rfl rfl
  refine ZO.split (c0 := a0 = (43 : Int32)) z_some (fun h4 => ?_) (fun h4 => ?_)
  · refine ZO.lswI (pc := 1) 60 (43 : Int32) h4 d_M_acted_1 (by decide) (by decide) ?_
    refine ZO.iload_n (pc := 60) 2 d_M_acted_60 rfl rfl ?_
    refine ZO.iload_n (pc := 61) 3 d_M_acted_61 rfl rfl ?_
    refine ZO.iadd (pc := 62) d_M_acted_62 ?_
    exact ZO.iret (pc := 63)  d_M_acted_63 rfl rfl rfl
  refine ZO.split (c0 := a0 = (45 : Int32)) z_some (fun h5 => ?_) (fun h5 => ?_)
  · refine ZO.lswI (pc := 1) 64 (45 : Int32) h5 d_M_acted_1 (by decide) (by decide) ?_
    refine ZO.iload_n (pc := 64) 2 d_M_acted_64 rfl rfl ?_
    refine ZO.iload_n (pc := 65) 3 d_M_acted_65 rfl rfl ?_
    refine ZO.isub (pc := 66) d_M_acted_66 ?_
    exact ZO.iret (pc := 67)  d_M_acted_67 rfl rfl rfl
  refine ZO.split (c0 := a0 = (60 : Int32)) z_some (fun h6 => ?_) (fun h6 => ?_)
  · refine ZO.lswI (pc := 1) 68 (60 : Int32) h6 d_M_acted_1 (by decide) (by decide) ?_
    refine ZO.iload_n (pc := 68) 2 d_M_acted_68 rfl rfl ?_
    refine ZO.iload_n (pc := 69) 3 d_M_acted_69 rfl rfl ?_
    refine ZO.icmp_ge (pc := 70) 77 d_M_acted_70 (by decide) z_some (fun h7 => ?_) (fun h7 => ?_)
    · refine ZO.iconst (pc := 77) (0 : Int32) d_M_acted_77 (by decide) ?_
      refine ZO.tSI (pc := 78) (As := [.int (b2i false)]) (rest := []) d_M_acted_78 zc_M_33 (by decide) rfl rfl (Nat.le_of_ble_eq_true rfl) (ok_M_flag g false s) ?_
      exact ZO.iret (pc := 81)  d_M_acted_81 rfl rfl rfl
    · refine ZO.iconst (pc := 73) (1 : Int32) d_M_acted_73 (by decide) ?_
      refine ZO.goto (pc := 74) 78 d_M_acted_74 (by decide) ?_
      refine ZO.tSI (pc := 78) (As := [.int (b2i true)]) (rest := []) d_M_acted_78 zc_M_33 (by decide) rfl rfl (Nat.le_of_ble_eq_true rfl) (ok_M_flag g true s) ?_
      exact ZO.iret (pc := 81)  d_M_acted_81 rfl rfl rfl
  refine ZO.split (c0 := a0 = (61 : Int32)) z_some (fun h8 => ?_) (fun h8 => ?_)
  · refine ZO.lswI (pc := 1) 96 (61 : Int32) h8 d_M_acted_1 (by decide) (by decide) ?_
    refine ZO.iload_n (pc := 96) 2 d_M_acted_96 rfl rfl ?_
    refine ZO.iload_n (pc := 97) 3 d_M_acted_97 rfl rfl ?_
    refine ZO.icmp_ne (pc := 98) 105 d_M_acted_98 (by decide) z_some (fun h9 => ?_) (fun h9 => ?_)
    · refine ZO.iconst (pc := 101) (1 : Int32) d_M_acted_101 (by decide) ?_
      refine ZO.goto (pc := 102) 106 d_M_acted_102 (by decide) ?_
      refine ZO.tSI (pc := 106) (As := [.int (b2i true)]) (rest := []) d_M_acted_106 zc_M_33 (by decide) rfl rfl (Nat.le_of_ble_eq_true rfl) (ok_M_flag g true s) ?_
      exact ZO.iret (pc := 109)  d_M_acted_109 rfl rfl rfl
    · refine ZO.iconst (pc := 105) (0 : Int32) d_M_acted_105 (by decide) ?_
      refine ZO.tSI (pc := 106) (As := [.int (b2i false)]) (rest := []) d_M_acted_106 zc_M_33 (by decide) rfl rfl (Nat.le_of_ble_eq_true rfl) (ok_M_flag g false s) ?_
      exact ZO.iret (pc := 109)  d_M_acted_109 rfl rfl rfl
  refine ZO.split (c0 := a0 = (62 : Int32)) z_some (fun h10 => ?_) (fun h10 => ?_)
  · refine ZO.lswI (pc := 1) 82 (62 : Int32) h10 d_M_acted_1 (by decide) (by decide) ?_
    refine ZO.iload_n (pc := 82) 2 d_M_acted_82 rfl rfl ?_
    refine ZO.iload_n (pc := 83) 3 d_M_acted_83 rfl rfl ?_
    refine ZO.icmp_le (pc := 84) 91 d_M_acted_84 (by decide) z_some (fun h11 => ?_) (fun h11 => ?_)
    · refine ZO.iconst (pc := 91) (0 : Int32) d_M_acted_91 (by decide) ?_
      refine ZO.tSI (pc := 92) (As := [.int (b2i false)]) (rest := []) d_M_acted_92 zc_M_33 (by decide) rfl rfl (Nat.le_of_ble_eq_true rfl) (ok_M_flag g false s) ?_
      exact ZO.iret (pc := 95)  d_M_acted_95 rfl rfl rfl
    · refine ZO.iconst (pc := 87) (1 : Int32) d_M_acted_87 (by decide) ?_
      refine ZO.goto (pc := 88) 92 d_M_acted_88 (by decide) ?_
      refine ZO.tSI (pc := 92) (As := [.int (b2i true)]) (rest := []) d_M_acted_92 zc_M_33 (by decide) rfl rfl (Nat.le_of_ble_eq_true rfl) (ok_M_flag g true s) ?_
      exact ZO.iret (pc := 95)  d_M_acted_95 rfl rfl rfl
  refine ZO.lswO (pc := 1) 127 d_M_acted_1 (by decide) (by simp only [Op.lookupswitch.offset]; rw [if_neg (fun e => lv_neT h1 (by decide) e.symm), if_neg (fun e => lv_neT h4 (by decide) e.symm), if_neg (fun e => lv_neT h5 (by decide) e.symm), if_neg (fun e => lv_neT h6 (by decide) e.symm), if_neg (fun e => lv_neT h8 (by decide) e.symm), if_neg (fun e => lv_neT h10 (by decide) e.symm)]) (by decide) ?_
  refine ZO.iload_n (pc := 127) 2 d_M_acted_127 rfl rfl ?_
  refine ZO.if_ne (pc := 128) 135 d_M_acted_128 (by decide) z_some (fun h12 => ?_) (fun h12 => ?_)
  · refine ZO.iload_n (pc := 131) 3 d_M_acted_131 rfl rfl ?_
    refine ZO.if_eq (pc := 132) 139 d_M_acted_132 (by decide) z_some (fun h13 => ?_) (fun h13 => ?_)
    · refine ZO.iconst (pc := 139) (0 : Int32) d_M_acted_139 (by decide) ?_
      refine ZO.tSI (pc := 140) (As := [.int (b2i false)]) (rest := []) d_M_acted_140 zc_M_33 (by decide) rfl rfl (Nat.le_of_ble_eq_true rfl) (ok_M_flag g false s) ?_
      exact ZO.iret (pc := 143)  d_M_acted_143 rfl rfl rfl
    · refine ZO.iconst (pc := 135) (1 : Int32) d_M_acted_135 (by decide) ?_
      refine ZO.goto (pc := 136) 140 d_M_acted_136 (by decide) ?_
      refine ZO.tSI (pc := 140) (As := [.int (b2i true)]) (rest := []) d_M_acted_140 zc_M_33 (by decide) rfl rfl (Nat.le_of_ble_eq_true rfl) (ok_M_flag g true s) ?_
      exact ZO.iret (pc := 143)  d_M_acted_143 rfl rfl rfl
  · refine ZO.iconst (pc := 135) (1 : Int32) d_M_acted_135 (by decide) ?_
    refine ZO.goto (pc := 136) 140 d_M_acted_136 (by decide) ?_
    refine ZO.tSI (pc := 140) (As := [.int (b2i true)]) (rest := []) d_M_acted_140 zc_M_33 (by decide) rfl rfl (Nat.le_of_ble_eq_true rfl) (ok_M_flag g true s) ?_
    exact ZO.iret (pc := 143)  d_M_acted_143 rfl rfl rfl
def f_J_bitCount (a0 : Int32) : Int32 :=
  lt (a0 - ((usrI a0 (1 : Int32)) &&& (1431655765 : Int32))) (fun v1 =>
  lt ((v1 &&& (858993459 : Int32)) + ((usrI v1 (2 : Int32)) &&& (858993459 : Int32))) (fun v2 =>
  lt ((v2 + (usrI v2 (4 : Int32))) &&& (252645135 : Int32)) (fun v3 =>
  lt (v3 + (usrI v3 (8 : Int32))) (fun v4 =>
  lt (v4 + (usrI v4 (16 : Int32))) (fun v5 =>
  (v5 &&& (63 : Int32)))))))
set_option maxHeartbeats 4000000 in
set_option maxRecDepth 20000 in
theorem ok_J_bitCount (g : ZG) (a0 : Int32) (s : ZSt) : ZF g 0 y_J_bitCount [.int a0] s (some (f_J_bitCount a0)) (fun b => some (.int b)) (fun _ => s) := by
  refine ZF.of (by decide +kernel) (Nat.le_of_ble_eq_true rfl) ?_
  unfold f_J_bitCount
  show ZO g 0 y_J_bitCount zu0 0 [(0, .int a0)] [] s _ _
  refine ZO.iload_n (pc := 0) 0 d_J_bitCount_0 rfl rfl ?_
  refine ZO.iload_n (pc := 1) 0 d_J_bitCount_1 rfl rfl ?_
  refine ZO.iconst (pc := 2) (1 : Int32) d_J_bitCount_2 (by decide) ?_
  refine ZO.iushr (pc := 3) d_J_bitCount_3 ?_
  refine ZO.ldcw (pc := 4) (1431655765 : Int32) d_J_bitCount_4 zk_J_265 ?_
  refine ZO.iand (pc := 7) d_J_bitCount_7 ?_
  refine ZO.isub (pc := 8) d_J_bitCount_8 ?_
  refine ZO.eqT (lt_some _ _) ?_
  refine ZO.ltI (fun v1 => ?_)
  refine ZO.istore_n (pc := 9) (v := v1) (L' := [(0, .int v1)]) [0] d_J_bitCount_9 rfl (by decide) rfl ?_
  refine ZO.iload_n (pc := 10) 0 d_J_bitCount_10 rfl rfl ?_
  refine ZO.ldcw (pc := 11) (858993459 : Int32) d_J_bitCount_11 zk_J_266 ?_
  refine ZO.iand (pc := 14) d_J_bitCount_14 ?_
  refine ZO.iload_n (pc := 15) 0 d_J_bitCount_15 rfl rfl ?_
  refine ZO.iconst (pc := 16) (2 : Int32) d_J_bitCount_16 (by decide) ?_
  refine ZO.iushr (pc := 17) d_J_bitCount_17 ?_
  refine ZO.ldcw (pc := 18) (858993459 : Int32) d_J_bitCount_18 zk_J_266 ?_
  refine ZO.iand (pc := 21) d_J_bitCount_21 ?_
  refine ZO.iadd (pc := 22) d_J_bitCount_22 ?_
  refine ZO.eqT (lt_some _ _) ?_
  refine ZO.ltI (fun v2 => ?_)
  refine ZO.istore_n (pc := 23) (v := v2) (L' := [(0, .int v2)]) [0] d_J_bitCount_23 rfl (by decide) rfl ?_
  refine ZO.iload_n (pc := 24) 0 d_J_bitCount_24 rfl rfl ?_
  refine ZO.iload_n (pc := 25) 0 d_J_bitCount_25 rfl rfl ?_
  refine ZO.iconst (pc := 26) (4 : Int32) d_J_bitCount_26 (by decide) ?_
  refine ZO.iushr (pc := 27) d_J_bitCount_27 ?_
  refine ZO.iadd (pc := 28) d_J_bitCount_28 ?_
  refine ZO.ldcw (pc := 29) (252645135 : Int32) d_J_bitCount_29 zk_J_267 ?_
  refine ZO.iand (pc := 32) d_J_bitCount_32 ?_
  refine ZO.eqT (lt_some _ _) ?_
  refine ZO.ltI (fun v3 => ?_)
  refine ZO.istore_n (pc := 33) (v := v3) (L' := [(0, .int v3)]) [0] d_J_bitCount_33 rfl (by decide) rfl ?_
  refine ZO.iload_n (pc := 34) 0 d_J_bitCount_34 rfl rfl ?_
  refine ZO.iload_n (pc := 35) 0 d_J_bitCount_35 rfl rfl ?_
  refine ZO.bipush (pc := 36) (8 : Int32) d_J_bitCount_36 (by decide) ?_
  refine ZO.iushr (pc := 38) d_J_bitCount_38 ?_
  refine ZO.iadd (pc := 39) d_J_bitCount_39 ?_
  refine ZO.eqT (lt_some _ _) ?_
  refine ZO.ltI (fun v4 => ?_)
  refine ZO.istore_n (pc := 40) (v := v4) (L' := [(0, .int v4)]) [0] d_J_bitCount_40 rfl (by decide) rfl ?_
  refine ZO.iload_n (pc := 41) 0 d_J_bitCount_41 rfl rfl ?_
  refine ZO.iload_n (pc := 42) 0 d_J_bitCount_42 rfl rfl ?_
  refine ZO.bipush (pc := 43) (16 : Int32) d_J_bitCount_43 (by decide) ?_
  refine ZO.iushr (pc := 45) d_J_bitCount_45 ?_
  refine ZO.iadd (pc := 46) d_J_bitCount_46 ?_
  refine ZO.eqT (lt_some _ _) ?_
  refine ZO.ltI (fun v5 => ?_)
  refine ZO.istore_n (pc := 47) (v := v5) (L' := [(0, .int v5)]) [0] d_J_bitCount_47 rfl (by decide) rfl ?_
  refine ZO.iload_n (pc := 48) 0 d_J_bitCount_48 rfl rfl ?_
  refine ZO.bipush (pc := 49) (63 : Int32) d_J_bitCount_49 (by decide) ?_
  refine ZO.iand (pc := 51) d_J_bitCount_51 ?_
  exact ZO.iret (pc := 52)  d_J_bitCount_52 rfl rfl rfl
def f_M_signOf (a0 : Int32) (a1 : Int32) (a2 : Int32) (a3 : Int32) : Int32 :=
  (if (12 : Int32) ≤ a0 then
  (if a0 = (12 : Int32) then
    (f_J_bitCount a1)
  else (if a0 = (13 : Int32) then
      a2
    else a3))
else (f_M_flag (f_M_has a1 a0)))
set_option maxHeartbeats 4000000 in
set_option maxRecDepth 20000 in
theorem ok_M_signOf (g : ZG) (a0 : Int32) (a1 : Int32) (a2 : Int32) (a3 : Int32) (s : ZSt) : ZF g 1 y_M_signOf [.ref 0, .int a0, .int a1, .int a2, .int a3] s (some (f_M_signOf a0 a1 a2 a3)) (fun b => some (.int b)) (fun _ => s) := by
  refine ZF.of (by decide +kernel) (Nat.le_of_ble_eq_true rfl) ?_
  unfold f_M_signOf
  show ZO g 1 y_M_signOf zu0 0 [(0, .ref 0), (1, .int a0), (2, .int a1), (3, .int a2), (4, .int a3)] [] s _ _
  refine ZO.iload_n (pc := 0) 1 d_M_signOf_0 rfl rfl ?_
  refine ZO.bipush (pc := 1) (12 : Int32) d_M_signOf_1 (by decide) ?_
  refine ZO.icmp_ge (pc := 3) 17 d_M_signOf_3 (by decide) z_some (fun h1 => ?_) (fun h1 => ?_)
  · refine ZO.iload_n (pc := 17) 1 d_M_signOf_17 rfl rfl ?_
    refine ZO.bipush (pc := 18) (12 : Int32) d_M_signOf_18 (by decide) ?_
    refine ZO.icmp_ne (pc := 20) 30 d_M_signOf_20 (by decide) z_some (fun h2 => ?_) (fun h2 => ?_)
    · refine ZO.iload_n (pc := 23) 2 d_M_signOf_23 rfl rfl ?_
      refine ZO.tSI (pc := 24) (As := [.int a1]) (rest := []) d_M_signOf_24 zc_M_118 (by decide) rfl rfl (Nat.le_of_ble_eq_true rfl) (ok_J_bitCount g a1 s) ?_
      refine ZO.goto (pc := 27) 42 d_M_signOf_27 (by decide) ?_
      exact ZO.iret (pc := 42)  d_M_signOf_42 rfl rfl rfl
    · refine ZO.iload_n (pc := 30) 1 d_M_signOf_30 rfl rfl ?_
      refine ZO.bipush (pc := 31) (13 : Int32) d_M_signOf_31 (by decide) ?_
      refine ZO.icmp_ne (pc := 33) 40 d_M_signOf_33 (by decide) z_some (fun h3 => ?_) (fun h3 => ?_)
      · refine ZO.iload_n (pc := 36) 3 d_M_signOf_36 rfl rfl ?_
        refine ZO.goto (pc := 37) 42 d_M_signOf_37 (by decide) ?_
        exact ZO.iret (pc := 42)  d_M_signOf_42 rfl rfl rfl
      · refine ZO.iload (pc := 40) 4 d_M_signOf_40 rfl ?_
        exact ZO.iret (pc := 42)  d_M_signOf_42 rfl rfl rfl
  · refine ZO.iload_n (pc := 6) 2 d_M_signOf_6 rfl rfl ?_
    refine ZO.iload_n (pc := 7) 1 d_M_signOf_7 rfl rfl ?_
    refine ZO.tSB (pc := 8) (As := [.int a1, .int a0]) (rest := []) d_M_signOf_8 zc_M_29 (by decide) rfl rfl (Nat.le_of_ble_eq_true rfl) (ok_M_has g a1 a0 s) ?_
    refine ZO.tSI (pc := 11) (As := [.int (b2i (f_M_has a1 a0))]) (rest := []) d_M_signOf_11 zc_M_33 (by decide) rfl rfl (Nat.le_of_ble_eq_true rfl) (ok_M_flag g (f_M_has a1 a0) s) ?_
    refine ZO.goto (pc := 14) 42 d_M_signOf_14 (by decide) ?_
    exact ZO.iret (pc := 42)  d_M_signOf_42 rfl rfl rfl
def f_M_works (n : Nat) (a0 : Int32) (a1 : Int32) (a2 : Int32) (a3 : Int32) (s : ZSt) : Option (Int32 × ZSt) :=
  lpN (fun j2 (x1 : Int32 × Int32 × ZSt) =>
  gd (inb a0 27) (
    (if (ai x1.2.2 115 a0) ≤ x1.2.1 then
    (if x1.1 = 0 then
      some ((0 : Int32), x1.2.2)
    else some ((ai x1.2.2 116 (0 : Int32)), x1.2.2))
  else gd (inb (((64 : Int32) * a0) + x1.2.1) 1728) (
      lt (ai x1.2.2 114 (((64 : Int32) * a0) + x1.2.1)) (fun v7 =>
      (jn (fun (x8 : Int32 × ZSt) =>
        lt (x1.2.1 + (1 : Int32)) (fun v9 =>
          j2 (x8.1, v9, x8.2))) (fun j10 =>
        if (1000 : Int32) ≤ v7 then
      (if (2000 : Int32) ≤ v7 then
        (if v7 = (2033 : Int32) then
          gd (inb (x1.1 - (1 : Int32)) 64) (
            (lt ((if (ai x1.2.2 116 (x1.1 - (1 : Int32))) = 0 then
            true
          else false) : Bool) (fun x15 =>
              lt (sai x1.2.2 116 (x1.1 - (1 : Int32)) (f_M_flag x15)) (fun s16 =>
                j10 (x1.1, s16)))))
        else lt (x1.1 + (-1 : Int32)) (fun v19 =>
            gd (inb (v19 - (1 : Int32)) 64) (
            gd (inb v19 64) (
            lt (sai x1.2.2 116 (v19 - (1 : Int32)) (f_M_acted (v7 - (2000 : Int32)) (ai x1.2.2 116 (v19 - (1 : Int32))) (ai x1.2.2 116 v19))) (fun s22 =>
            j10 (v19, s22))))))
      else gd (inb x1.1 64) (
          lt (sai x1.2.2 116 x1.1 (f_M_signOf (v7 - (1000 : Int32)) a1 a2 a3)) (fun s24 =>
          lt (x1.1 + (1 : Int32)) (fun v25 =>
          j10 (v25, s24)))))
    else gd (inb x1.1 64) (
        lt (sai x1.2.2 116 x1.1 v7) (fun s27 =>
        lt (x1.1 + (1 : Int32)) (fun v28 =>
        j10 (v28, s27))))))))))) n ((0 : Int32), (0 : Int32), s)
set_option maxHeartbeats 4000000 in
set_option maxRecDepth 20000 in
theorem ok_M_works (g : ZG) (n : Nat) (a0 : Int32) (a1 : Int32) (a2 : Int32) (a3 : Int32) (s : ZSt) : ZF g 2 y_M_works [.ref 0, .int a0, .int a1, .int a2, .int a3] s (f_M_works n a0 a1 a2 a3 s) (fun b => some (.int b.1)) (fun b => b.2) := by
  refine ZF.of (by decide +kernel) (Nat.le_of_ble_eq_true rfl) ?_
  unfold f_M_works
  show ZO g 2 y_M_works zu0 0 [(0, .ref 0), (1, .int a0), (2, .int a1), (3, .int a2), (4, .int a3)] [] s _ _
  refine ZO.iconst (pc := 0) (0 : Int32) d_M_works_0 (by decide) ?_
  refine ZO.istore (pc := 1) (v := (0 : Int32)) (L' := [(0, .ref 0), (1, .int a0), (2, .int a1), (3, .int a2), (4, .int a3), (5, .int (0 : Int32))]) [1, 2, 3, 4, 5, 0] d_M_works_1 (by decide) rfl ?_
  refine ZO.iconst (pc := 3) (0 : Int32) d_M_works_3 (by decide) ?_
  refine ZO.istore (pc := 4) (v := (0 : Int32)) (L' := [(0, .ref 0), (1, .int a0), (2, .int a1), (3, .int a2), (4, .int a3), (5, .int (0 : Int32)), (6, .int (0 : Int32))]) [1, 2, 3, 4, 5, 6, 0] d_M_works_4 (by decide) rfl ?_
  refine ZO.loop (fun (x1 : Int32 × Int32 × ZSt) => ([(0, .ref 0), (1, .int a0), (2, .int a1), (3, .int a2), (4, .int a3), (5, .int x1.1), (6, .int x1.2.1)] : List (Nat × Value))) (fun (x1 : Int32 × Int32 × ZSt) => x1.2.2) [] (fun j2 x1 hj2 => ?_) rfl rfl rfl
  refine ZO.iload (pc := 6) 6 d_M_works_6 rfl ?_
  refine ZO.aload_n (pc := 8) 0 d_M_works_8 rfl rfl ?_
  refine ZO.getA (pc := 9) 115 d_M_works_9 zo_0 zf_M_69 rfl rfl ?_
  refine ZO.iload_n (pc := 12) 1 d_M_works_12 rfl rfl ?_
  refine ZO.rgd (fun h3 => ?_)
  refine ZO.iald (pc := 13) d_M_works_13 za_115 h3 ?_
  refine ZO.icmp_ge (pc := 14) 173 d_M_works_14 (by decide) rfl (fun h4 => ?_) (fun h4 => ?_)
  · refine ZO.iload (pc := 173) 5 d_M_works_173 rfl ?_
    refine ZO.if_ne (pc := 175) 182 d_M_works_175 (by decide) rfl (fun h5 => ?_) (fun h5 => ?_)
    · refine ZO.iconst (pc := 178) (0 : Int32) d_M_works_178 (by decide) ?_
      refine ZO.goto (pc := 179) 188 d_M_works_179 (by decide) ?_
      exact ZO.iret (pc := 188)  d_M_works_188 rfl rfl rfl
    · refine ZO.aload_n (pc := 182) 0 d_M_works_182 rfl rfl ?_
      refine ZO.getA (pc := 183) 116 d_M_works_183 zo_0 zf_M_124 rfl rfl ?_
      refine ZO.iconst (pc := 186) (0 : Int32) d_M_works_186 (by decide) ?_
      refine ZO.iald (pc := 187) d_M_works_187 za_116 (by decide) ?_
      exact ZO.iret (pc := 188)  d_M_works_188 rfl rfl rfl
  · refine ZO.aload_n (pc := 17) 0 d_M_works_17 rfl rfl ?_
    refine ZO.getA (pc := 18) 114 d_M_works_18 zo_0 zf_M_63 rfl rfl ?_
    refine ZO.bipush (pc := 21) (64 : Int32) d_M_works_21 (by decide) ?_
    refine ZO.iload_n (pc := 23) 1 d_M_works_23 rfl rfl ?_
    refine ZO.imul (pc := 24) d_M_works_24 ?_
    refine ZO.iload (pc := 25) 6 d_M_works_25 rfl ?_
    refine ZO.iadd (pc := 27) d_M_works_27 ?_
    refine ZO.rgd (fun h6 => ?_)
    refine ZO.iald (pc := 28) d_M_works_28 za_114 h6 ?_
    refine ZO.ltI (fun v7 => ?_)
    refine ZO.istore (pc := 29) (v := v7) (L' := [(0, .ref 0), (1, .int a0), (2, .int a1), (3, .int a2), (4, .int a3), (5, .int x1.1), (6, .int x1.2.1), (7, .int v7)]) [1, 2, 3, 4, 5, 6, 7, 0] d_M_works_29 (by decide) rfl ?_
    refine ZO.iload (pc := 31) 7 d_M_works_31 rfl ?_
    refine ZO.sipush (pc := 33) (1000 : Int32) d_M_works_33 (by decide) ?_
    refine ZO.rjn (pcJ := 167) (LJ := fun (x8 : Int32 × ZSt) => ([(0, .ref 0), (1, .int a0), (2, .int a1), (3, .int a2), (4, .int a3), (5, .int x8.1), (6, .int x1.2.1)] : List (Nat × Value))) (SJ := fun (x8 : Int32 × ZSt) => ([] : List Value)) (σJ := fun (x8 : Int32 × ZSt) => x8.2) (fun x8 => ?_) (fun j10 hj10 => ?_)
    · refine ZO.iincL (pc := 167) (i := 6) (x1.2.1 + (1 : Int32)) (L' := fun v9 => [(0, .ref 0), (1, .int a0), (2, .int a1), (3, .int a2), (4, .int a3), (5, .int x8.1), (6, .int v9)]) [1, 2, 3, 4, 5, 6, 0] d_M_works_167 rfl (by rfl) (by decide) (fun _ => rfl) (fun v9 => ?_)
      refine ZO.goto (pc := 170) 6 d_M_works_170 (by decide) ?_
      exact hj2 (x8.1, v9, x8.2)
    · refine ZO.icmp_ge (pc := 36) 54 d_M_works_36 (by decide) rfl (fun h11 => ?_) (fun h11 => ?_)
      · refine ZO.iload (pc := 54) 7 d_M_works_54 rfl ?_
        refine ZO.sipush (pc := 56) (2000 : Int32) d_M_works_56 (by decide) ?_
        refine ZO.icmp_ge (pc := 59) 89 d_M_works_59 (by decide) rfl (fun h12 => ?_) (fun h12 => ?_)
        · refine ZO.iload (pc := 89) 7 d_M_works_89 rfl ?_
          refine ZO.sipush (pc := 91) (2033 : Int32) d_M_works_91 (by decide) ?_
          refine ZO.icmp_ne (pc := 94) 129 d_M_works_94 (by decide) rfl (fun h13 => ?_) (fun h13 => ?_)
          · refine ZO.aload_n (pc := 97) 0 d_M_works_97 rfl rfl ?_
            refine ZO.getA (pc := 98) 116 d_M_works_98 zo_0 zf_M_124 rfl rfl ?_
            refine ZO.iload (pc := 101) 5 d_M_works_101 rfl ?_
            refine ZO.iconst (pc := 103) (1 : Int32) d_M_works_103 (by decide) ?_
            refine ZO.isub (pc := 104) d_M_works_104 ?_
            refine ZO.aload_n (pc := 105) 0 d_M_works_105 rfl rfl ?_
            refine ZO.getA (pc := 106) 116 d_M_works_106 zo_0 zf_M_124 rfl rfl ?_
            refine ZO.iload (pc := 109) 5 d_M_works_109 rfl ?_
            refine ZO.iconst (pc := 111) (1 : Int32) d_M_works_111 (by decide) ?_
            refine ZO.isub (pc := 112) d_M_works_112 ?_
            refine ZO.rgd (fun h14 => ?_)
            refine ZO.iald (pc := 113) d_M_works_113 za_116 h14 ?_
            refine ZO.phi (pcJ := 122) (LJ := fun (x15 : Bool) => ([(0, .ref 0), (1, .int a0), (2, .int a1), (3, .int a2), (4, .int a3), (5, .int x1.1), (6, .int x1.2.1)] : List (Nat × Value))) (SJ := fun (x15 : Bool) => ([.int (b2i x15), .int (x1.1 - (1 : Int32)), .ref 116] : List Value)) (fun x15 => ?_) (fun t hj17 => ?_)
            · refine ZO.tSI (pc := 122) (As := [.int (b2i x15)]) (rest := [.int (x1.1 - (1 : Int32)), .ref 116]) d_M_works_122 zc_M_33 (by decide) rfl rfl (Nat.le_of_ble_eq_true rfl) (ok_M_flag g x15 x1.2.2) ?_
              refine ZO.iast (pc := 125) d_M_works_125 za_116 h14 ?_
              refine ZO.ltS (fun s16 => ?_)
              refine ZO.goto (pc := 126) 167 d_M_works_126 (by decide) ?_
              exact hj10 (x1.1, s16)
            · refine ZO.if_ne (pc := 114) 121 d_M_works_114 (by decide) z_ite (fun h18 => ?_) (fun h18 => ?_)
              · refine ZO.iconst (pc := 117) (1 : Int32) d_M_works_117 (by decide) ?_
                refine ZO.goto (pc := 118) 122 d_M_works_118 (by decide) ?_
                exact ZO.sub [0, 1, 2, 3, 4, 5, 6] rfl (hj17 true (by rw [if_pos h18]))
              · refine ZO.iconst (pc := 121) (0 : Int32) d_M_works_121 (by decide) ?_
                exact ZO.sub [0, 1, 2, 3, 4, 5, 6] rfl (hj17 false (by rw [if_neg h18]))
          · refine ZO.iincL (pc := 129) (i := 5) (x1.1 + (-1 : Int32)) (L' := fun v19 => [(0, .ref 0), (1, .int a0), (2, .int a1), (3, .int a2), (4, .int a3), (5, .int v19), (6, .int x1.2.1), (7, .int v7)]) [1, 2, 3, 4, 5, 0, 6, 7] d_M_works_129 rfl (by rfl) (by decide) (fun _ => rfl) (fun v19 => ?_)
            refine ZO.aload_n (pc := 132) 0 d_M_works_132 rfl rfl ?_
            refine ZO.getA (pc := 133) 116 d_M_works_133 zo_0 zf_M_124 rfl rfl ?_
            refine ZO.iload (pc := 136) 5 d_M_works_136 rfl ?_
            refine ZO.iconst (pc := 138) (1 : Int32) d_M_works_138 (by decide) ?_
            refine ZO.isub (pc := 139) d_M_works_139 ?_
            refine ZO.aload_n (pc := 140) 0 d_M_works_140 rfl rfl ?_
            refine ZO.iload (pc := 141) 7 d_M_works_141 rfl ?_
            refine ZO.sipush (pc := 143) (2000 : Int32) d_M_works_143 (by decide) ?_
            refine ZO.isub (pc := 146) d_M_works_146 ?_
            refine ZO.aload_n (pc := 147) 0 d_M_works_147 rfl rfl ?_
            refine ZO.getA (pc := 148) 116 d_M_works_148 zo_0 zf_M_124 rfl rfl ?_
            refine ZO.iload (pc := 151) 5 d_M_works_151 rfl ?_
            refine ZO.iconst (pc := 153) (1 : Int32) d_M_works_153 (by decide) ?_
            refine ZO.isub (pc := 154) d_M_works_154 ?_
            refine ZO.rgd (fun h20 => ?_)
            refine ZO.iald (pc := 155) d_M_works_155 za_116 h20 ?_
            refine ZO.aload_n (pc := 156) 0 d_M_works_156 rfl rfl ?_
            refine ZO.getA (pc := 157) 116 d_M_works_157 zo_0 zf_M_124 rfl rfl ?_
            refine ZO.iload (pc := 160) 5 d_M_works_160 rfl ?_
            refine ZO.rgd (fun h21 => ?_)
            refine ZO.iald (pc := 162) d_M_works_162 za_116 h21 ?_
            refine ZO.tVI (pc := 163) (As := [.int (v7 - (2000 : Int32)), .int (ai x1.2.2 116 (v19 - (1 : Int32))), .int (ai x1.2.2 116 v19)]) (rest := [.int (v19 - (1 : Int32)), .ref 116]) d_M_works_163 zc_M_131 (by decide) zo_0 rfl rfl rfl (Nat.le_of_ble_eq_true rfl) (ok_M_acted g (v7 - (2000 : Int32)) (ai x1.2.2 116 (v19 - (1 : Int32))) (ai x1.2.2 116 v19) x1.2.2) ?_
            refine ZO.iast (pc := 166) d_M_works_166 za_116 h20 ?_
            refine ZO.ltS (fun s22 => ?_)
            exact ZO.sub [0, 1, 2, 3, 4, 5, 6] rfl (hj10 (v19, s22))
        · refine ZO.aload_n (pc := 62) 0 d_M_works_62 rfl rfl ?_
          refine ZO.getA (pc := 63) 116 d_M_works_63 zo_0 zf_M_124 rfl rfl ?_
          refine ZO.iload (pc := 66) 5 d_M_works_66 rfl ?_
          refine ZO.aload_n (pc := 68) 0 d_M_works_68 rfl rfl ?_
          refine ZO.iload (pc := 69) 7 d_M_works_69 rfl ?_
          refine ZO.sipush (pc := 71) (1000 : Int32) d_M_works_71 (by decide) ?_
          refine ZO.isub (pc := 74) d_M_works_74 ?_
          refine ZO.iload_n (pc := 75) 2 d_M_works_75 rfl rfl ?_
          refine ZO.iload_n (pc := 76) 3 d_M_works_76 rfl rfl ?_
          refine ZO.iload (pc := 77) 4 d_M_works_77 rfl ?_
          refine ZO.tVI (pc := 79) (As := [.int (v7 - (1000 : Int32)), .int a1, .int a2, .int a3]) (rest := [.int x1.1, .ref 116]) d_M_works_79 zc_M_127 (by decide) zo_0 rfl rfl rfl (Nat.le_of_ble_eq_true rfl) (ok_M_signOf g (v7 - (1000 : Int32)) a1 a2 a3 x1.2.2) ?_
          refine ZO.rgd (fun h23 => ?_)
          refine ZO.iast (pc := 82) d_M_works_82 za_116 h23 ?_
          refine ZO.ltS (fun s24 => ?_)
          refine ZO.iincL (pc := 83) (i := 5) (x1.1 + (1 : Int32)) (L' := fun v25 => [(0, .ref 0), (1, .int a0), (2, .int a1), (3, .int a2), (4, .int a3), (5, .int v25), (6, .int x1.2.1), (7, .int v7)]) [1, 2, 3, 4, 5, 0, 6, 7] d_M_works_83 rfl (by rfl) (by decide) (fun _ => rfl) (fun v25 => ?_)
          refine ZO.goto (pc := 86) 167 d_M_works_86 (by decide) ?_
          exact ZO.sub [0, 1, 2, 3, 4, 5, 6] rfl (hj10 (v25, s24))
      · refine ZO.aload_n (pc := 39) 0 d_M_works_39 rfl rfl ?_
        refine ZO.getA (pc := 40) 116 d_M_works_40 zo_0 zf_M_124 rfl rfl ?_
        refine ZO.iload (pc := 43) 5 d_M_works_43 rfl ?_
        refine ZO.iload (pc := 45) 7 d_M_works_45 rfl ?_
        refine ZO.rgd (fun h26 => ?_)
        refine ZO.iast (pc := 47) d_M_works_47 za_116 h26 ?_
        refine ZO.ltS (fun s27 => ?_)
        refine ZO.iincL (pc := 48) (i := 5) (x1.1 + (1 : Int32)) (L' := fun v28 => [(0, .ref 0), (1, .int a0), (2, .int a1), (3, .int a2), (4, .int a3), (5, .int v28), (6, .int x1.2.1), (7, .int v7)]) [1, 2, 3, 4, 5, 0, 6, 7] d_M_works_48 rfl (by rfl) (by decide) (fun _ => rfl) (fun v28 => ?_)
        refine ZO.goto (pc := 51) 167 d_M_works_51 (by decide) ?_
        exact ZO.sub [0, 1, 2, 3, 4, 5, 6] rfl (hj10 (v28, s27))
def f_M_isSecond (n : Nat) (a0 : Int32) (s : ZSt) : Option Bool :=
  gd (inb a0 12) (
  (jn (fun (x2 : Unit) =>
    some false) (fun j3 =>
    if (ai s 106 a0) ≤ 0 then
  j3 ()
else bn (f_M_readBy n a0 s) (fun p5 =>
    (if p5 < (ai s 106 a0) then
    j3 ()
  else some true)))))
set_option maxHeartbeats 4000000 in
set_option maxRecDepth 20000 in
theorem ok_M_isSecond (g : ZG) (n : Nat) (a0 : Int32) (s : ZSt) : ZF g 2 y_M_isSecond [.ref 0, .int a0] s (f_M_isSecond n a0 s) (fun b => some (.int (b2i b))) (fun _ => s) := by
  refine ZF.of (by decide +kernel) (Nat.le_of_ble_eq_true rfl) ?_
  unfold f_M_isSecond
  show ZO g 2 y_M_isSecond zu0 0 [(0, .ref 0), (1, .int a0)] [] s _ _
  refine ZO.aload_n (pc := 0) 0 d_M_isSecond_0 rfl rfl ?_
  refine ZO.getA (pc := 1) 106 d_M_isSecond_1 zo_0 zf_M_135 rfl rfl ?_
  refine ZO.iload_n (pc := 4) 1 d_M_isSecond_4 rfl rfl ?_
  refine ZO.rgd (fun h1 => ?_)
  refine ZO.iald (pc := 5) d_M_isSecond_5 za_106 h1 ?_
  refine ZO.rjn (pcJ := 27) (LJ := fun (x2 : Unit) => ([] : List (Nat × Value))) (SJ := fun (x2 : Unit) => ([] : List Value)) (σJ := fun (x2 : Unit) => s) (fun x2 => ?_) (fun j3 hj3 => ?_)
  · refine ZO.iconst (pc := 27) (0 : Int32) d_M_isSecond_27 (by decide) ?_
    exact ZO.zret (pc := 28) (v := false) d_M_isSecond_28 rfl rfl rfl
  · refine ZO.if_le (pc := 6) 27 d_M_isSecond_6 (by decide) rfl (fun h4 => ?_) (fun h4 => ?_)
    · exact ZO.sub [] rfl (hj3 ())
    · refine ZO.aload_n (pc := 9) 0 d_M_isSecond_9 rfl rfl ?_
      refine ZO.iload_n (pc := 10) 1 d_M_isSecond_10 rfl rfl ?_
      refine ZO.cVI (pc := 11) (As := [.int a0]) (rest := []) d_M_isSecond_11 zc_M_138 (by decide) zo_0 rfl rfl rfl (Nat.le_of_ble_eq_true rfl) (ok_M_readBy g n a0 s) (fun p5 ep5 => ?_)
      refine ZO.aload_n (pc := 14) 0 d_M_isSecond_14 rfl rfl ?_
      refine ZO.getA (pc := 15) 106 d_M_isSecond_15 zo_0 zf_M_135 rfl rfl ?_
      refine ZO.iload_n (pc := 18) 1 d_M_isSecond_18 rfl rfl ?_
      refine ZO.iald (pc := 19) d_M_isSecond_19 za_106 h1 ?_
      refine ZO.icmp_lt (pc := 20) 27 d_M_isSecond_20 (by decide) rfl (fun h6 => ?_) (fun h6 => ?_)
      · exact ZO.sub [] rfl (hj3 ())
      · refine ZO.iconst (pc := 23) (1 : Int32) d_M_isSecond_23 (by decide) ?_
        refine ZO.goto (pc := 24) 28 d_M_isSecond_24 (by decide) ?_
        exact ZO.zret (pc := 28) (v := true) d_M_isSecond_28 rfl rfl rfl
def f_M_conditionOf (n : Nat) (a0 : Int32) (a1 : Int32) (a2 : Int32) (s : ZSt) : Option (Int32 × ZSt) :=
  bn (f_M_isSecond n a0 s) (fun p1 =>
  bn (f_M_readBy n a0 s) (fun p2 =>
  bn (f_M_works n (((2 : Int32) * a0) + (f_M_flag p1)) a2 p2 a1 s) (fun p3 =>
  some (p3.1, p3.2))))
set_option maxHeartbeats 4000000 in
set_option maxRecDepth 20000 in
theorem ok_M_conditionOf (g : ZG) (n : Nat) (a0 : Int32) (a1 : Int32) (a2 : Int32) (s : ZSt) : ZF g 3 y_M_conditionOf [.ref 0, .int a0, .int a1, .int a2] s (f_M_conditionOf n a0 a1 a2 s) (fun b => some (.int b.1)) (fun b => b.2) := by
  refine ZF.of (by decide +kernel) (Nat.le_of_ble_eq_true rfl) ?_
  unfold f_M_conditionOf
  show ZO g 3 y_M_conditionOf zu0 0 [(0, .ref 0), (1, .int a0), (2, .int a1), (3, .int a2)] [] s _ _
  refine ZO.aload_n (pc := 0) 0 d_M_conditionOf_0 rfl rfl ?_
  refine ZO.iconst (pc := 1) (2 : Int32) d_M_conditionOf_1 (by decide) ?_
  refine ZO.iload_n (pc := 2) 1 d_M_conditionOf_2 rfl rfl ?_
  refine ZO.imul (pc := 3) d_M_conditionOf_3 ?_
  refine ZO.aload_n (pc := 4) 0 d_M_conditionOf_4 rfl rfl ?_
  refine ZO.iload_n (pc := 5) 1 d_M_conditionOf_5 rfl rfl ?_
  refine ZO.cVB (pc := 6) (As := [.int a0]) (rest := [.int ((2 : Int32) * a0), .ref 0]) d_M_conditionOf_6 zc_M_141 (by decide) zo_0 rfl rfl rfl (Nat.le_of_ble_eq_true rfl) (ok_M_isSecond g n a0 s) (fun p1 ep1 => ?_)
  refine ZO.tSI (pc := 9) (As := [.int (b2i p1)]) (rest := [.int ((2 : Int32) * a0), .ref 0]) d_M_conditionOf_9 zc_M_33 (by decide) rfl rfl (Nat.le_of_ble_eq_true rfl) (ok_M_flag g p1 s) ?_
  refine ZO.iadd (pc := 12) d_M_conditionOf_12 ?_
  refine ZO.iload_n (pc := 13) 3 d_M_conditionOf_13 rfl rfl ?_
  refine ZO.aload_n (pc := 14) 0 d_M_conditionOf_14 rfl rfl ?_
  refine ZO.iload_n (pc := 15) 1 d_M_conditionOf_15 rfl rfl ?_
  refine ZO.cVI (pc := 16) (As := [.int a0]) (rest := [.int a2, .int (((2 : Int32) * a0) + (f_M_flag p1)), .ref 0]) d_M_conditionOf_16 zc_M_138 (by decide) zo_0 rfl rfl rfl (Nat.le_of_ble_eq_true rfl) (ok_M_readBy g n a0 s) (fun p2 ep2 => ?_)
  refine ZO.iload_n (pc := 19) 2 d_M_conditionOf_19 rfl rfl ?_
  refine ZO.cVI (pc := 20) (As := [.int (((2 : Int32) * a0) + (f_M_flag p1)), .int a2, .int p2, .int a1]) (rest := []) d_M_conditionOf_20 zc_M_144 (by decide) zo_0 rfl rfl rfl (Nat.le_of_ble_eq_true rfl) (ok_M_works g n (((2 : Int32) * a0) + (f_M_flag p1)) a2 p2 a1 s) (fun p3 ep3 => ?_)
  exact ZO.iret (pc := 23)  d_M_conditionOf_23 rfl rfl rfl
def f_M_may (n : Nat) (a0 : Int32) (a1 : Int32) (a2 : Int32) (s : ZSt) : Option (Bool × ZSt) :=
  bn (f_M_conditionOf n a0 a1 a2 s) (fun p1 =>
  (if p1.1 = 0 then
  some (false, p1.2)
else some (true, p1.2)))
set_option maxHeartbeats 4000000 in
set_option maxRecDepth 20000 in
theorem ok_M_may (g : ZG) (n : Nat) (a0 : Int32) (a1 : Int32) (a2 : Int32) (s : ZSt) : ZF g 4 y_M_may [.ref 0, .int a0, .int a1, .int a2] s (f_M_may n a0 a1 a2 s) (fun b => some (.int (b2i b.1))) (fun b => b.2) := by
  refine ZF.of (by decide +kernel) (Nat.le_of_ble_eq_true rfl) ?_
  unfold f_M_may
  show ZO g 4 y_M_may zu0 0 [(0, .ref 0), (1, .int a0), (2, .int a1), (3, .int a2)] [] s _ _
  refine ZO.aload_n (pc := 0) 0 d_M_may_0 rfl rfl ?_
  refine ZO.iload_n (pc := 1) 1 d_M_may_1 rfl rfl ?_
  refine ZO.iload_n (pc := 2) 2 d_M_may_2 rfl rfl ?_
  refine ZO.iload_n (pc := 3) 3 d_M_may_3 rfl rfl ?_
  refine ZO.cVI (pc := 4) (As := [.int a0, .int a1, .int a2]) (rest := []) d_M_may_4 zc_M_147 (by decide) zo_0 rfl rfl rfl (Nat.le_of_ble_eq_true rfl) (ok_M_conditionOf g n a0 a1 a2 s) (fun p1 ep1 => ?_)
  refine ZO.if_eq (pc := 7) 14 d_M_may_7 (by decide) rfl (fun h2 => ?_) (fun h2 => ?_)
  · refine ZO.iconst (pc := 14) (0 : Int32) d_M_may_14 (by decide) ?_
    exact ZO.zret (pc := 15) (v := false) d_M_may_15 rfl rfl rfl
  · refine ZO.iconst (pc := 10) (1 : Int32) d_M_may_10 (by decide) ?_
    refine ZO.goto (pc := 11) 15 d_M_may_11 (by decide) ?_
    exact ZO.zret (pc := 15) (v := true) d_M_may_15 rfl rfl rfl
def f_M_settled (n : Nat) (a0 : Int32) (a1 : Int32) (s : ZSt) : Option (Int32 × ZSt) :=
  lpN (fun j2 (x1 : Int32 × Int32 × ZSt) =>
  (if x1.1 = x1.2.1 then
    some (x1.1, x1.2.2)
  else lpN (fun j5 (x4 : Int32 × Int32 × ZSt) =>
      (if (gi x4.2.2 0 3) ≤ x4.2.1 then
        j2 (x4.1, x1.1, x4.2.2)
      else (jn (fun (x7 : Int32 × ZSt) =>
            lt (x4.2.1 + (1 : Int32)) (fun v8 =>
              j5 (x7.1, v8, x7.2))) (fun j9 =>
            jn (fun (x10 : ZSt) =>
            j9 (x4.1, x10)) (fun j11 =>
            if (f_M_has x1.1 x4.2.1) = true then
          bn (f_M_may n x4.2.1 a0 x1.1 x4.2.2) (fun p13 =>
            (if p13.1 = true then
            j11 p13.2
          else j9 ((x4.1 &&& ((shI (1 : Int32) x4.2.1) ^^^ (-1 : Int32))), p13.2)))
        else j11 x4.2.2))))) n (x1.1, (0 : Int32), x1.2.2))) n (a1, (-1 : Int32), s)
set_option maxHeartbeats 4000000 in
set_option maxRecDepth 20000 in
theorem ok_M_settled (g : ZG) (n : Nat) (a0 : Int32) (a1 : Int32) (s : ZSt) : ZF g 5 y_M_settled [.ref 0, .int a0, .int a1] s (f_M_settled n a0 a1 s) (fun b => some (.int b.1)) (fun b => b.2) := by
  refine ZF.of (by decide +kernel) (Nat.le_of_ble_eq_true rfl) ?_
  unfold f_M_settled
  show ZO g 5 y_M_settled zu0 0 [(0, .ref 0), (1, .int a0), (2, .int a1)] [] s _ _
  refine ZO.iload_n (pc := 0) 2 d_M_settled_0 rfl rfl ?_
  refine ZO.istore_n (pc := 1) (v := a1) (L' := [(0, .ref 0), (1, .int a0), (2, .int a1), (3, .int a1)]) [1, 2, 3, 0] d_M_settled_1 rfl (by decide) rfl ?_
  refine ZO.iconst (pc := 2) (-1 : Int32) d_M_settled_2 (by decide) ?_
  refine ZO.istore (pc := 3) (v := (-1 : Int32)) (L' := [(0, .ref 0), (1, .int a0), (2, .int a1), (3, .int a1), (4, .int (-1 : Int32))]) [1, 2, 3, 4, 0] d_M_settled_3 (by decide) rfl ?_
  refine ZO.sub (L' := [(0, .ref 0), (1, .int a0), (3, .int a1), (4, .int (-1 : Int32))]) [0, 1, 3, 4] rfl ?_
  refine ZO.loop (fun (x1 : Int32 × Int32 × ZSt) => ([(0, .ref 0), (1, .int a0), (3, .int x1.1), (4, .int x1.2.1)] : List (Nat × Value))) (fun (x1 : Int32 × Int32 × ZSt) => x1.2.2) [] (fun j2 x1 hj2 => ?_) rfl rfl rfl
  refine ZO.iload_n (pc := 5) 2 d_M_settled_5 rfl rfl ?_
  refine ZO.iload (pc := 6) 3 d_M_settled_6 rfl ?_
  refine ZO.icmp_eq (pc := 8) 70 d_M_settled_8 (by decide) rfl (fun h3 => ?_) (fun h3 => ?_)
  · refine ZO.iload_n (pc := 70) 2 d_M_settled_70 rfl rfl ?_
    exact ZO.iret (pc := 71)  d_M_settled_71 rfl rfl rfl
  · refine ZO.iload_n (pc := 11) 2 d_M_settled_11 rfl rfl ?_
    refine ZO.istore (pc := 12) (v := x1.1) (L' := [(0, .ref 0), (1, .int a0), (3, .int x1.1), (4, .int x1.1)]) [1, 2, 3, 0] d_M_settled_12 (by decide) rfl ?_
    refine ZO.iconst (pc := 14) (0 : Int32) d_M_settled_14 (by decide) ?_
    refine ZO.istore (pc := 15) (v := (0 : Int32)) (L' := [(0, .ref 0), (1, .int a0), (3, .int x1.1), (4, .int x1.1), (5, .int (0 : Int32))]) [1, 2, 3, 4, 0] d_M_settled_15 (by decide) rfl ?_
    refine ZO.loop (fun (x4 : Int32 × Int32 × ZSt) => ([(0, .ref 0), (1, .int a0), (3, .int x4.1), (4, .int x1.1), (5, .int x4.2.1)] : List (Nat × Value))) (fun (x4 : Int32 × Int32 × ZSt) => x4.2.2) [] (fun j5 x4 hj5 => ?_) rfl rfl rfl
    refine ZO.iload (pc := 17) 4 d_M_settled_17 rfl ?_
    refine ZO.aload_n (pc := 19) 0 d_M_settled_19 rfl rfl ?_
    refine ZO.getI (pc := 20) d_M_settled_20 zo_0 zf_M_14 rfl ?_
    refine ZO.icmp_ge (pc := 23) 67 d_M_settled_23 (by decide) rfl (fun h6 => ?_) (fun h6 => ?_)
    · refine ZO.goto (pc := 67) 5 d_M_settled_67 (by decide) ?_
      exact ZO.sub [0, 1, 2, 3] rfl (hj2 (x4.1, x1.1, x4.2.2))
    · refine ZO.iload (pc := 26) 3 d_M_settled_26 rfl ?_
      refine ZO.iload (pc := 28) 4 d_M_settled_28 rfl ?_
      refine ZO.tSB (pc := 30) (As := [.int x1.1, .int x4.2.1]) (rest := []) d_M_settled_30 zc_M_29 (by decide) rfl rfl (Nat.le_of_ble_eq_true rfl) (ok_M_has g x1.1 x4.2.1 x4.2.2) ?_
      refine ZO.rjn (pcJ := 60) (LJ := fun (x7 : Int32 × ZSt) => ([(0, .ref 0), (1, .int a0), (4, .int x1.1), (5, .int x4.2.1)] : List (Nat × Value))) (SJ := fun (x7 : Int32 × ZSt) => ([.int x7.1] : List Value)) (σJ := fun (x7 : Int32 × ZSt) => x7.2) (fun x7 => ?_) (fun j9 hj9 => ?_)
      · refine ZO.istore_n (pc := 60) (v := x7.1) (L' := [(0, .ref 0), (1, .int a0), (3, .int x7.1), (4, .int x1.1), (5, .int x4.2.1)]) [1, 2, 0, 3, 4] d_M_settled_60 rfl (by decide) rfl ?_
        refine ZO.iincL (pc := 61) (i := 4) (x4.2.1 + (1 : Int32)) (L' := fun v8 => [(0, .ref 0), (1, .int a0), (3, .int x7.1), (4, .int x1.1), (5, .int v8)]) [1, 2, 3, 4, 0] d_M_settled_61 rfl (by rfl) (by decide) (fun _ => rfl) (fun v8 => ?_)
        refine ZO.goto (pc := 64) 17 d_M_settled_64 (by decide) ?_
        exact hj5 (x7.1, v8, x7.2)
      · refine ZO.rjn (pcJ := 59) (LJ := fun (x10 : ZSt) => ([(0, .ref 0), (1, .int a0), (3, .int x4.1), (4, .int x1.1), (5, .int x4.2.1)] : List (Nat × Value))) (SJ := fun (x10 : ZSt) => ([] : List Value)) (σJ := fun (x10 : ZSt) => x10) (fun x10 => ?_) (fun j11 hj11 => ?_)
        · refine ZO.iload_n (pc := 59) 2 d_M_settled_59 rfl rfl ?_
          exact ZO.sub [0, 1, 3, 4] rfl (hj9 (x4.1, x10))
        · refine ZO.ifb_eq (pc := 33) 59 d_M_settled_33 (by decide) rfl (fun h12 => ?_) (fun h12 => ?_)
          · refine ZO.aload_n (pc := 36) 0 d_M_settled_36 rfl rfl ?_
            refine ZO.iload (pc := 37) 4 d_M_settled_37 rfl ?_
            refine ZO.iload_n (pc := 39) 1 d_M_settled_39 rfl rfl ?_
            refine ZO.iload (pc := 40) 3 d_M_settled_40 rfl ?_
            refine ZO.cVB (pc := 42) (As := [.int x4.2.1, .int a0, .int x1.1]) (rest := []) d_M_settled_42 zc_M_150 (by decide) zo_0 rfl rfl rfl (Nat.le_of_ble_eq_true rfl) (ok_M_may g n x4.2.1 a0 x1.1 x4.2.2) (fun p13 ep13 => ?_)
            refine ZO.ifb_ne (pc := 45) 59 d_M_settled_45 (by decide) rfl (fun h14 => ?_) (fun h14 => ?_)
            · exact hj11 p13.2
            · refine ZO.iload_n (pc := 48) 2 d_M_settled_48 rfl rfl ?_
              refine ZO.iconst (pc := 49) (1 : Int32) d_M_settled_49 (by decide) ?_
              refine ZO.iload (pc := 50) 4 d_M_settled_50 rfl ?_
              refine ZO.ishl (pc := 52) d_M_settled_52 ?_
              refine ZO.iconst (pc := 53) (-1 : Int32) d_M_settled_53 (by decide) ?_
              refine ZO.ixor (pc := 54) d_M_settled_54 ?_
              refine ZO.iand (pc := 55) d_M_settled_55 ?_
              refine ZO.goto (pc := 56) 60 d_M_settled_56 (by decide) ?_
              exact ZO.sub [0, 1, 3, 4] rfl (hj9 ((x4.1 &&& ((shI (1 : Int32) x4.2.1) ^^^ (-1 : Int32))), p13.2))
          · exact hj11 x4.2.2
def f_M_tableOf (n : Nat) (a0 : Int32) (s : ZSt) : Option Int32 :=
  lpN (fun j2 (x1 : Int32) =>
  (if (3 : Int32) ≤ x1 then
    some (-1 : Int32)
  else gd (inb x1 3) (
      (if (f_M_has (ai s 108 x1) a0) = true then
      some x1
    else lt (x1 + (1 : Int32)) (fun v6 =>
        j2 v6))))) n (0 : Int32)
set_option maxHeartbeats 4000000 in
set_option maxRecDepth 20000 in
theorem ok_M_tableOf (g : ZG) (n : Nat) (a0 : Int32) (s : ZSt) : ZF g 1 y_M_tableOf [.ref 0, .int a0] s (f_M_tableOf n a0 s) (fun b => some (.int b)) (fun _ => s) := by
  refine ZF.of (by decide +kernel) (Nat.le_of_ble_eq_true rfl) ?_
  unfold f_M_tableOf
  show ZO g 1 y_M_tableOf zu0 0 [(0, .ref 0), (1, .int a0)] [] s _ _
  refine ZO.iconst (pc := 0) (0 : Int32) d_M_tableOf_0 (by decide) ?_
  refine ZO.istore_n (pc := 1) (v := (0 : Int32)) (L' := [(0, .ref 0), (1, .int a0), (2, .int (0 : Int32))]) [1, 2, 0] d_M_tableOf_1 rfl (by decide) rfl ?_
  refine ZO.loop (fun (x1 : Int32) => ([(0, .ref 0), (1, .int a0), (2, .int x1)] : List (Nat × Value))) (fun (x1 : Int32) => s) [] (fun j2 x1 hj2 => ?_) rfl rfl rfl
  refine ZO.iload_n (pc := 2) 2 d_M_tableOf_2 rfl rfl ?_
  refine ZO.iconst (pc := 3) (3 : Int32) d_M_tableOf_3 (by decide) ?_
  refine ZO.icmp_ge (pc := 4) 28 d_M_tableOf_4 (by decide) rfl (fun h3 => ?_) (fun h3 => ?_)
  · refine ZO.iconst (pc := 28) (-1 : Int32) d_M_tableOf_28 (by decide) ?_
    exact ZO.iret (pc := 29)  d_M_tableOf_29 rfl rfl rfl
  · refine ZO.aload_n (pc := 7) 0 d_M_tableOf_7 rfl rfl ?_
    refine ZO.getA (pc := 8) 108 d_M_tableOf_8 zo_0 zf_M_154 rfl rfl ?_
    refine ZO.iload_n (pc := 11) 2 d_M_tableOf_11 rfl rfl ?_
    refine ZO.rgd (fun h4 => ?_)
    refine ZO.iald (pc := 12) d_M_tableOf_12 za_108 h4 ?_
    refine ZO.iload_n (pc := 13) 1 d_M_tableOf_13 rfl rfl ?_
    refine ZO.tSB (pc := 14) (As := [.int (ai s 108 x1), .int a0]) (rest := []) d_M_tableOf_14 zc_M_29 (by decide) rfl rfl (Nat.le_of_ble_eq_true rfl) (ok_M_has g (ai s 108 x1) a0 s) ?_
    refine ZO.ifb_eq (pc := 17) 22 d_M_tableOf_17 (by decide) rfl (fun h5 => ?_) (fun h5 => ?_)
    · refine ZO.iload_n (pc := 20) 2 d_M_tableOf_20 rfl rfl ?_
      exact ZO.iret (pc := 21)  d_M_tableOf_21 rfl rfl rfl
    · refine ZO.iincL (pc := 22) (i := 2) (x1 + (1 : Int32)) (L' := fun v6 => [(0, .ref 0), (1, .int a0), (2, .int v6)]) [1, 2, 0] d_M_tableOf_22 rfl (by rfl) (by decide) (fun _ => rfl) (fun v6 => ?_)
      refine ZO.goto (pc := 25) 2 d_M_tableOf_25 (by decide) ?_
      exact hj2 v6
def f_M_set (a0 : Int32) (a1 : Int32) (a2 : Int32) (s : ZSt) : Option (Int32 × ZSt) :=
  lt (si s 0 0 (0 : Int32)) (fun s1 =>
  (lt ((if a0 = 0 then
  (if (f_M_isBook a1 s1) = true then
    (if (f_M_in a2.toInt64 (0 : Int64) (99 : Int64)) = true then
      (1 : Int32)
    else (0 : Int32))
  else (0 : Int32))
else (if a0 = (1 : Int32) then
    (if (f_M_isTable a1) = true then
      (if (f_M_in a2.toInt64 (1 : Int64) (6 : Int64)) = true then
        (1 : Int32)
      else (0 : Int32))
    else (0 : Int32))
  else (0 : Int32))) : Int32) (fun x2 =>
    (if x2 = 0 then
      some ((-1 : Int32), s1)
    else (if a0 = 0 then
        gd (inb a1 12) (
          lt (ai s1 104 a1) (fun v6 =>
          lt (sai s1 104 a1 a2) (fun s7 =>
          some (v6, s7))))
      else gd (inb a1 3) (
          lt (ai s1 107 a1) (fun v9 =>
          lt (sai s1 107 a1 a2) (fun s10 =>
          some (v9, s10)))))))))
set_option maxHeartbeats 4000000 in
set_option maxRecDepth 20000 in
theorem ok_M_set (g : ZG) (a0 : Int32) (a1 : Int32) (a2 : Int32) (s : ZSt) : ZF g 2 y_M_set [.ref 0, .int a0, .int a1, .int a2] s (f_M_set a0 a1 a2 s) (fun b => some (.int b.1)) (fun b => b.2) := by
  refine ZF.of (by decide +kernel) (Nat.le_of_ble_eq_true rfl) ?_
  unfold f_M_set
  show ZO g 2 y_M_set zu0 0 [(0, .ref 0), (1, .int a0), (2, .int a1), (3, .int a2)] [] s _ _
  refine ZO.aload_n (pc := 0) 0 d_M_set_0 rfl rfl ?_
  refine ZO.iconst (pc := 1) (0 : Int32) d_M_set_1 (by decide) ?_
  refine ZO.putI (pc := 2) d_M_set_2 zo_0 zp_M_3 rfl ?_
  refine ZO.ltS (fun s1 => ?_)
  refine ZO.iload_n (pc := 5) 1 d_M_set_5 rfl rfl ?_
  refine ZO.phi (pcJ := 66) (LJ := fun (x2 : Int32) => ([(0, .ref 0), (1, .int a0), (2, .int a1), (3, .int a2)] : List (Nat × Value))) (SJ := fun (x2 : Int32) => ([.int x2] : List Value)) (fun x2 => ?_) (fun t hj11 => ?_)
  · refine ZO.istore (pc := 66) (v := x2) (L' := [(0, .ref 0), (1, .int a0), (2, .int a1), (3, .int a2), (4, .int x2)]) [1, 2, 3, 4, 0] d_M_set_66 (by decide) rfl ?_
    refine ZO.iload (pc := 68) 4 d_M_set_68 rfl ?_
    refine ZO.if_ne (pc := 70) 75 d_M_set_70 (by decide) rfl (fun h3 => ?_) (fun h3 => ?_)
    · refine ZO.iconst (pc := 73) (-1 : Int32) d_M_set_73 (by decide) ?_
      exact ZO.iret (pc := 74)  d_M_set_74 rfl rfl rfl
    · refine ZO.iload_n (pc := 75) 1 d_M_set_75 rfl rfl ?_
      refine ZO.if_ne (pc := 76) 86 d_M_set_76 (by decide) rfl (fun h4 => ?_) (fun h4 => ?_)
      · refine ZO.aload_n (pc := 79) 0 d_M_set_79 rfl rfl ?_
        refine ZO.getA (pc := 80) 104 d_M_set_80 zo_0 zf_M_173 rfl rfl ?_
        refine ZO.goto (pc := 83) 90 d_M_set_83 (by decide) ?_
        refine ZO.astore (pc := 90) (v := 104) (L' := [(0, .ref 0), (1, .int a0), (2, .int a1), (3, .int a2), (4, .int x2), (5, .ref 104)]) [1, 2, 3, 4, 5, 0] d_M_set_90 (by decide) rfl ?_
        refine ZO.aload (pc := 92) 5 d_M_set_92 rfl ?_
        refine ZO.iload_n (pc := 94) 2 d_M_set_94 rfl rfl ?_
        refine ZO.rgd (fun h5 => ?_)
        refine ZO.iald (pc := 95) d_M_set_95 za_104 h5 ?_
        refine ZO.ltI (fun v6 => ?_)
        refine ZO.istore (pc := 96) (v := v6) (L' := [(0, .ref 0), (1, .int a0), (2, .int a1), (3, .int a2), (4, .int x2), (5, .ref 104), (6, .int v6)]) [1, 2, 3, 4, 5, 6, 0] d_M_set_96 (by decide) rfl ?_
        refine ZO.aload (pc := 98) 5 d_M_set_98 rfl ?_
        refine ZO.iload_n (pc := 100) 2 d_M_set_100 rfl rfl ?_
        refine ZO.iload_n (pc := 101) 3 d_M_set_101 rfl rfl ?_
        refine ZO.iast (pc := 102) d_M_set_102 za_104 h5 ?_
        refine ZO.ltS (fun s7 => ?_)
        refine ZO.iload (pc := 103) 6 d_M_set_103 rfl ?_
        exact ZO.iret (pc := 105)  d_M_set_105 rfl rfl rfl
      · refine ZO.aload_n (pc := 86) 0 d_M_set_86 rfl rfl ?_
        refine ZO.getA (pc := 87) 107 d_M_set_87 zo_0 zf_M_199 rfl rfl ?_
        refine ZO.astore (pc := 90) (v := 107) (L' := [(0, .ref 0), (1, .int a0), (2, .int a1), (3, .int a2), (4, .int x2), (5, .ref 107)]) [1, 2, 3, 4, 5, 0] d_M_set_90 (by decide) rfl ?_
        refine ZO.aload (pc := 92) 5 d_M_set_92 rfl ?_
        refine ZO.iload_n (pc := 94) 2 d_M_set_94 rfl rfl ?_
        refine ZO.rgd (fun h8 => ?_)
        refine ZO.iald (pc := 95) d_M_set_95 za_107 h8 ?_
        refine ZO.ltI (fun v9 => ?_)
        refine ZO.istore (pc := 96) (v := v9) (L' := [(0, .ref 0), (1, .int a0), (2, .int a1), (3, .int a2), (4, .int x2), (5, .ref 107), (6, .int v9)]) [1, 2, 3, 4, 5, 6, 0] d_M_set_96 (by decide) rfl ?_
        refine ZO.aload (pc := 98) 5 d_M_set_98 rfl ?_
        refine ZO.iload_n (pc := 100) 2 d_M_set_100 rfl rfl ?_
        refine ZO.iload_n (pc := 101) 3 d_M_set_101 rfl rfl ?_
        refine ZO.iast (pc := 102) d_M_set_102 za_107 h8 ?_
        refine ZO.ltS (fun s10 => ?_)
        refine ZO.iload (pc := 103) 6 d_M_set_103 rfl ?_
        exact ZO.iret (pc := 105)  d_M_set_105 rfl rfl rfl
  · refine ZO.if_ne (pc := 6) 37 d_M_set_6 (by decide) z_ite (fun h12 => ?_) (fun h12 => ?_)
    · refine ZO.aload_n (pc := 9) 0 d_M_set_9 rfl rfl ?_
      refine ZO.iload_n (pc := 10) 2 d_M_set_10 rfl rfl ?_
      refine ZO.tVB (pc := 11) (As := [.int a1]) (rest := []) d_M_set_11 zc_M_189 (by decide) zo_0 rfl rfl rfl (Nat.le_of_ble_eq_true rfl) (ok_M_isBook g a1 s1) ?_
      refine ZO.ifb_eq (pc := 14) 33 d_M_set_14 (by decide) z_ite (fun h13 => ?_) (fun h13 => ?_)
      · refine ZO.iload_n (pc := 17) 3 d_M_set_17 rfl rfl ?_
        refine ZO.i2l (pc := 18) d_M_set_18 ?_
        refine ZO.lconst (pc := 19) (0 : Int64) d_M_set_19 (by decide) ?_
        refine ZO.ldc2 (pc := 20) (99 : Int64) d_M_set_20 zk_M_192 ?_
        refine ZO.tSB (pc := 23) (As := [.long a2.toInt64, .long (0 : Int64), .long (99 : Int64)]) (rest := []) d_M_set_23 zc_M_17 (by decide) rfl rfl (Nat.le_of_ble_eq_true rfl) (ok_M_in g a2.toInt64 (0 : Int64) (99 : Int64) s1) ?_
        refine ZO.ifb_eq (pc := 26) 33 d_M_set_26 (by decide) z_ite (fun h14 => ?_) (fun h14 => ?_)
        · refine ZO.iconst (pc := 29) (1 : Int32) d_M_set_29 (by decide) ?_
          refine ZO.goto (pc := 30) 66 d_M_set_30 (by decide) ?_
          exact hj11 (1 : Int32) (by rw [if_pos h12, if_pos h13, if_pos h14])
        · refine ZO.iconst (pc := 33) (0 : Int32) d_M_set_33 (by decide) ?_
          refine ZO.goto (pc := 34) 66 d_M_set_34 (by decide) ?_
          exact hj11 (0 : Int32) (by rw [if_pos h12, if_pos h13, if_neg (z_bf h14)])
      · refine ZO.iconst (pc := 33) (0 : Int32) d_M_set_33 (by decide) ?_
        refine ZO.goto (pc := 34) 66 d_M_set_34 (by decide) ?_
        exact hj11 (0 : Int32) (by rw [if_pos h12, if_neg (z_bf h13)])
    · refine ZO.iload_n (pc := 37) 1 d_M_set_37 rfl rfl ?_
      refine ZO.iconst (pc := 38) (1 : Int32) d_M_set_38 (by decide) ?_
      refine ZO.icmp_ne (pc := 39) 65 d_M_set_39 (by decide) z_ite (fun h15 => ?_) (fun h15 => ?_)
      · refine ZO.iload_n (pc := 42) 2 d_M_set_42 rfl rfl ?_
        refine ZO.tSB (pc := 43) (As := [.int a1]) (rest := []) d_M_set_43 zc_M_194 (by decide) rfl rfl (Nat.le_of_ble_eq_true rfl) (ok_M_isTable g a1 s1) ?_
        refine ZO.ifb_eq (pc := 46) 65 d_M_set_46 (by decide) z_ite (fun h16 => ?_) (fun h16 => ?_)
        · refine ZO.iload_n (pc := 49) 3 d_M_set_49 rfl rfl ?_
          refine ZO.i2l (pc := 50) d_M_set_50 ?_
          refine ZO.lconst (pc := 51) (1 : Int64) d_M_set_51 (by decide) ?_
          refine ZO.ldc2 (pc := 52) (6 : Int64) d_M_set_52 zk_M_197 ?_
          refine ZO.tSB (pc := 55) (As := [.long a2.toInt64, .long (1 : Int64), .long (6 : Int64)]) (rest := []) d_M_set_55 zc_M_17 (by decide) rfl rfl (Nat.le_of_ble_eq_true rfl) (ok_M_in g a2.toInt64 (1 : Int64) (6 : Int64) s1) ?_
          refine ZO.ifb_eq (pc := 58) 65 d_M_set_58 (by decide) z_ite (fun h17 => ?_) (fun h17 => ?_)
          · refine ZO.iconst (pc := 61) (1 : Int32) d_M_set_61 (by decide) ?_
            refine ZO.goto (pc := 62) 66 d_M_set_62 (by decide) ?_
            exact hj11 (1 : Int32) (by rw [if_neg h12, if_pos h15, if_pos h16, if_pos h17])
          · refine ZO.iconst (pc := 65) (0 : Int32) d_M_set_65 (by decide) ?_
            exact hj11 (0 : Int32) (by rw [if_neg h12, if_pos h15, if_pos h16, if_neg (z_bf h17)])
        · refine ZO.iconst (pc := 65) (0 : Int32) d_M_set_65 (by decide) ?_
          exact hj11 (0 : Int32) (by rw [if_neg h12, if_pos h15, if_neg (z_bf h16)])
      · refine ZO.iconst (pc := 65) (0 : Int32) d_M_set_65 (by decide) ?_
        exact hj11 (0 : Int32) (by rw [if_neg h12, if_neg h15])
def f_M_sheet (n : Nat) (a0 : Int32) (a1 : Int32) (a2 : Int32) (a3 : Int32) (s : ZSt) : Option (Int32 × ZSt) :=
  lt (si s 0 0 (0 : Int32)) (fun s1 =>
  (if (f_M_in a0.toInt64 (0 : Int64) (3 : Int64)) = true then
  (if a1 ≤ (12 : Int32) then
    (jn (fun (x4 : Unit) =>
        lpN (fun j6 (x5 : Int32 × Int32 × Int32 × ZSt) =>
          (if (gi x5.2.2.2 0 3) ≤ x5.2.2.1 then
            (if a0 = (3 : Int32) then
              some ((-3 : Int32), x5.2.2.2)
            else some (x5.1, x5.2.2.2))
          else (lt ((if a0 = 0 then
              x5.2.1.toInt8.toInt32
            else (if a0 = (1 : Int32) then
                x5.2.1.toInt16.toInt32
              else x5.2.1)) : Int32) (fun x9 =>
                (lt ((if a0 = (3 : Int32) then
                  (99 : Int32)
                else (if x5.2.2.1 < a1 then
                    (imax (0 : Int32) (imin (99 : Int32) x9))
                  else (99 : Int32))) : Int32) (fun x10 =>
                    gd (inb x5.2.2.1 12) (
                      lt (sai x5.2.2.2 104 x5.2.2.1 x10) (fun s12 =>
                      lt (x5.1 + (ai s12 104 x5.2.2.1)) (fun v13 =>
                      lt (x5.2.1 + a3) (fun v14 =>
                      lt (x5.2.2.1 + (1 : Int32)) (fun v15 =>
                      j6 (v13, v14, v15, s12)))))))))))) n ((0 : Int32), a2, (0 : Int32), s1)) (fun j22 =>
        if a0 = (3 : Int32) then
      j22 ()
    else (if 0 ≤ a1 then
        j22 ()
      else some ((-2 : Int32), s1))))
  else some ((-1 : Int32), s1))
else some ((-1 : Int32), s1)))
set_option maxHeartbeats 4000000 in
set_option maxRecDepth 20000 in
theorem ok_M_sheet (g : ZG) (n : Nat) (a0 : Int32) (a1 : Int32) (a2 : Int32) (a3 : Int32) (s : ZSt) : ZF g 1 y_M_sheet [.ref 0, .int a0, .int a1, .int a2, .int a3] s (f_M_sheet n a0 a1 a2 a3 s) (fun b => some (.int b.1)) (fun b => b.2) := by
  refine ZF.of (by decide +kernel) (Nat.le_of_ble_eq_true rfl) ?_
  unfold f_M_sheet
  show ZO g 1 y_M_sheet zu0 0 [(0, .ref 0), (1, .int a0), (2, .int a1), (3, .int a2), (4, .int a3)] [] s _ _
  refine ZO.aload_n (pc := 0) 0 d_M_sheet_0 rfl rfl ?_
  refine ZO.iconst (pc := 1) (0 : Int32) d_M_sheet_1 (by decide) ?_
  refine ZO.putI (pc := 2) d_M_sheet_2 zo_0 zp_M_3 rfl ?_
  refine ZO.ltS (fun s1 => ?_)
  refine ZO.iload_n (pc := 5) 1 d_M_sheet_5 rfl rfl ?_
  refine ZO.i2l (pc := 6) d_M_sheet_6 ?_
  refine ZO.lconst (pc := 7) (0 : Int64) d_M_sheet_7 (by decide) ?_
  refine ZO.ldc2 (pc := 8) (3 : Int64) d_M_sheet_8 zk_M_202 ?_
  refine ZO.tSB (pc := 11) (As := [.long a0.toInt64, .long (0 : Int64), .long (3 : Int64)]) (rest := []) d_M_sheet_11 zc_M_17 (by decide) rfl rfl (Nat.le_of_ble_eq_true rfl) (ok_M_in g a0.toInt64 (0 : Int64) (3 : Int64) s1) ?_
  refine ZO.ifb_eq (pc := 14) 23 d_M_sheet_14 (by decide) rfl (fun h2 => ?_) (fun h2 => ?_)
  · refine ZO.iload_n (pc := 17) 2 d_M_sheet_17 rfl rfl ?_
    refine ZO.bipush (pc := 18) (12 : Int32) d_M_sheet_18 (by decide) ?_
    refine ZO.icmp_le (pc := 20) 25 d_M_sheet_20 (by decide) rfl (fun h3 => ?_) (fun h3 => ?_)
    · refine ZO.iload_n (pc := 25) 1 d_M_sheet_25 rfl rfl ?_
      refine ZO.iconst (pc := 26) (3 : Int32) d_M_sheet_26 (by decide) ?_
      refine ZO.rjn (pcJ := 37) (LJ := fun (x4 : Unit) => ([(0, .ref 0), (1, .int a0), (2, .int a1), (3, .int a2), (4, .int a3)] : List (Nat × Value))) (SJ := fun (x4 : Unit) => ([] : List Value)) (σJ := fun (x4 : Unit) => s1) (fun x4 => ?_) (fun j22 hj22 => ?_)
      · refine ZO.iconst (pc := 37) (0 : Int32) d_M_sheet_37 (by decide) ?_
        refine ZO.istore (pc := 38) (v := (0 : Int32)) (L' := [(0, .ref 0), (1, .int a0), (2, .int a1), (3, .int a2), (4, .int a3), (5, .int (0 : Int32))]) [1, 2, 3, 4, 5, 0] d_M_sheet_38 (by decide) rfl ?_
        refine ZO.iload_n (pc := 40) 3 d_M_sheet_40 rfl rfl ?_
        refine ZO.istore (pc := 41) (v := a2) (L' := [(0, .ref 0), (1, .int a0), (2, .int a1), (3, .int a2), (4, .int a3), (5, .int (0 : Int32)), (6, .int a2)]) [1, 2, 3, 4, 5, 6, 0] d_M_sheet_41 (by decide) rfl ?_
        refine ZO.iconst (pc := 43) (0 : Int32) d_M_sheet_43 (by decide) ?_
        refine ZO.istore (pc := 44) (v := (0 : Int32)) (L' := [(0, .ref 0), (1, .int a0), (2, .int a1), (3, .int a2), (4, .int a3), (5, .int (0 : Int32)), (6, .int a2), (7, .int (0 : Int32))]) [1, 2, 3, 4, 5, 6, 7, 0] d_M_sheet_44 (by decide) rfl ?_
        refine ZO.sub (L' := [(0, .ref 0), (1, .int a0), (2, .int a1), (4, .int a3), (5, .int (0 : Int32)), (6, .int a2), (7, .int (0 : Int32))]) [0, 1, 2, 4, 5, 6, 7] rfl ?_
        refine ZO.loop (fun (x5 : Int32 × Int32 × Int32 × ZSt) => ([(0, .ref 0), (1, .int a0), (2, .int a1), (4, .int a3), (5, .int x5.1), (6, .int x5.2.1), (7, .int x5.2.2.1)] : List (Nat × Value))) (fun (x5 : Int32 × Int32 × Int32 × ZSt) => x5.2.2.2) [] (fun j6 x5 hj6 => ?_) rfl rfl rfl
        refine ZO.iload (pc := 46) 6 d_M_sheet_46 rfl ?_
        refine ZO.aload_n (pc := 48) 0 d_M_sheet_48 rfl rfl ?_
        refine ZO.getI (pc := 49) d_M_sheet_49 zo_0 zf_M_14 rfl ?_
        refine ZO.icmp_ge (pc := 52) 139 d_M_sheet_52 (by decide) rfl (fun h7 => ?_) (fun h7 => ?_)
        · refine ZO.iload_n (pc := 139) 1 d_M_sheet_139 rfl rfl ?_
          refine ZO.iconst (pc := 140) (3 : Int32) d_M_sheet_140 (by decide) ?_
          refine ZO.icmp_ne (pc := 141) 149 d_M_sheet_141 (by decide) rfl (fun h8 => ?_) (fun h8 => ?_)
          · refine ZO.bipush (pc := 144) (-3 : Int32) d_M_sheet_144 (by decide) ?_
            refine ZO.goto (pc := 146) 151 d_M_sheet_146 (by decide) ?_
            exact ZO.iret (pc := 151)  d_M_sheet_151 rfl rfl rfl
          · refine ZO.iload (pc := 149) 4 d_M_sheet_149 rfl ?_
            exact ZO.iret (pc := 151)  d_M_sheet_151 rfl rfl rfl
        · refine ZO.iload_n (pc := 55) 1 d_M_sheet_55 rfl rfl ?_
          refine ZO.phi (pcJ := 78) (LJ := fun (x9 : Int32) => ([(0, .ref 0), (1, .int a0), (2, .int a1), (4, .int a3), (5, .int x5.1), (6, .int x5.2.1), (7, .int x5.2.2.1)] : List (Nat × Value))) (SJ := fun (x9 : Int32) => ([.int x9] : List Value)) (fun x9 => ?_) (fun t hj19 => ?_)
          · refine ZO.istore (pc := 78) (v := x9) (L' := [(0, .ref 0), (1, .int a0), (2, .int a1), (4, .int a3), (5, .int x5.1), (6, .int x5.2.1), (7, .int x5.2.2.1), (8, .int x9)]) [1, 2, 3, 4, 5, 6, 7, 0] d_M_sheet_78 (by decide) rfl ?_
            refine ZO.aload_n (pc := 80) 0 d_M_sheet_80 rfl rfl ?_
            refine ZO.getA (pc := 81) 104 d_M_sheet_81 zo_0 zf_M_173 rfl rfl ?_
            refine ZO.iload (pc := 84) 6 d_M_sheet_84 rfl ?_
            refine ZO.iload_n (pc := 86) 1 d_M_sheet_86 rfl rfl ?_
            refine ZO.iconst (pc := 87) (3 : Int32) d_M_sheet_87 (by decide) ?_
            refine ZO.phi (pcJ := 113) (LJ := fun (x10 : Int32) => ([(0, .ref 0), (1, .int a0), (2, .int a1), (4, .int a3), (5, .int x5.1), (6, .int x5.2.1), (7, .int x5.2.2.1)] : List (Nat × Value))) (SJ := fun (x10 : Int32) => ([.int x10, .int x5.2.2.1, .ref 104] : List Value)) (fun x10 => ?_) (fun t hj16 => ?_)
            · refine ZO.rgd (fun h11 => ?_)
              refine ZO.iast (pc := 113) d_M_sheet_113 za_104 h11 ?_
              refine ZO.ltS (fun s12 => ?_)
              refine ZO.iload (pc := 114) 4 d_M_sheet_114 rfl ?_
              refine ZO.aload_n (pc := 116) 0 d_M_sheet_116 rfl rfl ?_
              refine ZO.getA (pc := 117) 104 d_M_sheet_117 zo_0 zf_M_173 rfl rfl ?_
              refine ZO.iload (pc := 120) 6 d_M_sheet_120 rfl ?_
              refine ZO.iald (pc := 122) d_M_sheet_122 za_104 h11 ?_
              refine ZO.iadd (pc := 123) d_M_sheet_123 ?_
              refine ZO.ltI (fun v13 => ?_)
              refine ZO.istore (pc := 124) (v := v13) (L' := [(0, .ref 0), (1, .int a0), (2, .int a1), (4, .int a3), (5, .int v13), (6, .int x5.2.1), (7, .int x5.2.2.1)]) [1, 2, 3, 4, 0, 5, 6] d_M_sheet_124 (by decide) rfl ?_
              refine ZO.iload (pc := 126) 5 d_M_sheet_126 rfl ?_
              refine ZO.iload (pc := 128) 3 d_M_sheet_128 rfl ?_
              refine ZO.iadd (pc := 130) d_M_sheet_130 ?_
              refine ZO.ltI (fun v14 => ?_)
              refine ZO.istore (pc := 131) (v := v14) (L' := [(0, .ref 0), (1, .int a0), (2, .int a1), (4, .int a3), (5, .int v13), (6, .int v14), (7, .int x5.2.2.1)]) [1, 2, 3, 4, 5, 0, 6] d_M_sheet_131 (by decide) rfl ?_
              refine ZO.iincL (pc := 133) (i := 6) (x5.2.2.1 + (1 : Int32)) (L' := fun v15 => [(0, .ref 0), (1, .int a0), (2, .int a1), (4, .int a3), (5, .int v13), (6, .int v14), (7, .int v15)]) [1, 2, 3, 4, 5, 6, 0] d_M_sheet_133 rfl (by rfl) (by decide) (fun _ => rfl) (fun v15 => ?_)
              refine ZO.goto (pc := 136) 46 d_M_sheet_136 (by decide) ?_
              exact hj6 (v13, v14, v15, s12)
            · refine ZO.icmp_eq (pc := 88) 97 d_M_sheet_88 (by decide) z_ite (fun h17 => ?_) (fun h17 => ?_)
              · refine ZO.bipush (pc := 97) (99 : Int32) d_M_sheet_97 (by decide) ?_
                refine ZO.goto (pc := 99) 113 d_M_sheet_99 (by decide) ?_
                exact ZO.sub [0, 1, 2, 3, 4, 5, 6] rfl (hj16 (99 : Int32) (by rw [if_pos h17]))
              · refine ZO.iload (pc := 91) 6 d_M_sheet_91 rfl ?_
                refine ZO.iload_n (pc := 93) 2 d_M_sheet_93 rfl rfl ?_
                refine ZO.icmp_lt (pc := 94) 102 d_M_sheet_94 (by decide) z_ite (fun h18 => ?_) (fun h18 => ?_)
                · refine ZO.iconst (pc := 102) (0 : Int32) d_M_sheet_102 (by decide) ?_
                  refine ZO.bipush (pc := 103) (99 : Int32) d_M_sheet_103 (by decide) ?_
                  refine ZO.iload (pc := 105) 7 d_M_sheet_105 rfl ?_
                  refine ZO.imin (pc := 107) d_M_sheet_107 zm_M_112 (by decide) (Nat.le_of_ble_eq_true rfl) ?_
                  refine ZO.imax (pc := 110) d_M_sheet_110 zm_M_204 (by decide) (Nat.le_of_ble_eq_true rfl) ?_
                  exact ZO.sub [0, 1, 2, 3, 4, 5, 6] rfl (hj16 (imax (0 : Int32) (imin (99 : Int32) x9)) (by rw [if_neg h17, if_pos h18]))
                · refine ZO.bipush (pc := 97) (99 : Int32) d_M_sheet_97 (by decide) ?_
                  refine ZO.goto (pc := 99) 113 d_M_sheet_99 (by decide) ?_
                  exact ZO.sub [0, 1, 2, 3, 4, 5, 6] rfl (hj16 (99 : Int32) (by rw [if_neg h17, if_neg h18]))
          · refine ZO.if_ne (pc := 56) 65 d_M_sheet_56 (by decide) z_ite (fun h20 => ?_) (fun h20 => ?_)
            · refine ZO.iload (pc := 59) 5 d_M_sheet_59 rfl ?_
              refine ZO.i2b (pc := 61) d_M_sheet_61 ?_
              refine ZO.goto (pc := 62) 78 d_M_sheet_62 (by decide) ?_
              exact hj19 x5.2.1.toInt8.toInt32 (by rw [if_pos h20])
            · refine ZO.iload_n (pc := 65) 1 d_M_sheet_65 rfl rfl ?_
              refine ZO.iconst (pc := 66) (1 : Int32) d_M_sheet_66 (by decide) ?_
              refine ZO.icmp_ne (pc := 67) 76 d_M_sheet_67 (by decide) z_ite (fun h21 => ?_) (fun h21 => ?_)
              · refine ZO.iload (pc := 70) 5 d_M_sheet_70 rfl ?_
                refine ZO.i2s (pc := 72) d_M_sheet_72 ?_
                refine ZO.goto (pc := 73) 78 d_M_sheet_73 (by decide) ?_
                exact hj19 x5.2.1.toInt16.toInt32 (by rw [if_neg h20, if_pos h21])
              · refine ZO.iload (pc := 76) 5 d_M_sheet_76 rfl ?_
                exact hj19 x5.2.1 (by rw [if_neg h20, if_neg h21])
      · refine ZO.icmp_eq (pc := 27) 37 d_M_sheet_27 (by decide) rfl (fun h23 => ?_) (fun h23 => ?_)
        · exact hj22 ()
        · refine ZO.iload_n (pc := 30) 2 d_M_sheet_30 rfl rfl ?_
          refine ZO.if_ge (pc := 31) 37 d_M_sheet_31 (by decide) rfl (fun h24 => ?_) (fun h24 => ?_)
          · exact hj22 ()
          · refine ZO.bipush (pc := 34) (-2 : Int32) d_M_sheet_34 (by decide) ?_
            exact ZO.iret (pc := 36)  d_M_sheet_36 rfl rfl rfl
    · refine ZO.iconst (pc := 23) (-1 : Int32) d_M_sheet_23 (by decide) ?_
      exact ZO.iret (pc := 24)  d_M_sheet_24 rfl rfl rfl
  · refine ZO.iconst (pc := 23) (-1 : Int32) d_M_sheet_23 (by decide) ?_
    exact ZO.iret (pc := 24)  d_M_sheet_24 rfl rfl rfl
def f_M_about (n : Nat) (a0 : Int32) (a1 : Int32) (s : ZSt) : Option (Int32 × ZSt) :=
  lt (si s 0 0 (0 : Int32)) (fun s1 =>
  (jn (fun (x2 : Unit) =>
    bn (f_M_refuse s1) (fun p3 =>
      some (p3.1, p3.2))) (fun j4 =>
    if (f_M_isBook a0 s1) = true then
  (if (f_M_in a1.toInt64 (0 : Int64) (4 : Int64)) = true then
    (if a1 = (0 : Int32) then
      gd (inb a0 12) (
        some ((ai s1 104 a0), s1))
    else if a1 = (1 : Int32) then
      gd (inb a0 12) (
        some ((ai s1 105 a0), s1))
    else if a1 = (2 : Int32) then
      bn (f_M_tableOf n a0 s1) (fun p12 =>
        some (p12, s1))
    else if a1 = (3 : Int32) then
      bn (f_M_readBy n a0 s1) (fun p14 =>
        some (p14, s1))
    else bn (f_M_isSecond n a0 s1) (fun p15 =>
        some ((f_M_flag p15), s1)))
  else j4 ())
else j4 ())))
set_option maxHeartbeats 4000000 in
set_option maxRecDepth 20000 in
theorem ok_M_about (g : ZG) (n : Nat) (a0 : Int32) (a1 : Int32) (s : ZSt) : ZF g 3 y_M_about [.ref 0, .int a0, .int a1] s (f_M_about n a0 a1 s) (fun b => some (.int b.1)) (fun b => b.2) := by
  refine ZF.of (by decide +kernel) (Nat.le_of_ble_eq_true rfl) ?_
  unfold f_M_about
  show ZO g 3 y_M_about zu0 0 [(0, .ref 0), (1, .int a0), (2, .int a1)] [] s _ _
  refine ZO.aload_n (pc := 0) 0 d_M_about_0 rfl rfl ?_
  refine ZO.iconst (pc := 1) (0 : Int32) d_M_about_1 (by decide) ?_
  refine ZO.putI (pc := 2) d_M_about_2 zo_0 zp_M_3 rfl ?_
  refine ZO.ltS (fun s1 => ?_)
  refine ZO.aload_n (pc := 5) 0 d_M_about_5 rfl rfl ?_
  refine ZO.iload_n (pc := 6) 1 d_M_about_6 rfl rfl ?_
  refine ZO.tVB (pc := 7) (As := [.int a0]) (rest := []) d_M_about_7 zc_M_189 (by decide) zo_0 rfl rfl rfl (Nat.le_of_ble_eq_true rfl) (ok_M_isBook g a0 s1) ?_
  refine ZO.rjn (pcJ := 25) (LJ := fun (x2 : Unit) => ([(0, .ref 0)] : List (Nat × Value))) (SJ := fun (x2 : Unit) => ([] : List Value)) (σJ := fun (x2 : Unit) => s1) (fun x2 => ?_) (fun j4 hj4 => ?_)
  · refine ZO.aload_n (pc := 25) 0 d_M_about_25 rfl rfl ?_
    refine ZO.cVI (pc := 26) (As := []) (rest := []) d_M_about_26 zc_M_209 (by decide) zo_0 rfl rfl rfl (Nat.le_of_ble_eq_true rfl) (ok_M_refuse g s1) (fun p3 ep3 => ?_)
    exact ZO.iret (pc := 29)  d_M_about_29 rfl rfl rfl
  · refine ZO.ifb_eq (pc := 10) 25 d_M_about_10 (by decide) rfl (fun h5 => ?_) (fun h5 => ?_)
    · refine ZO.iload_n (pc := 13) 2 d_M_about_13 rfl rfl ?_
      refine ZO.i2l (pc := 14) d_M_about_14 ?_
      refine ZO.lconst (pc := 15) (0 : Int64) d_M_about_15 (by decide) ?_
      refine ZO.ldc2 (pc := 16) (4 : Int64) d_M_about_16 zk_M_207 ?_
      refine ZO.tSB (pc := 19) (As := [.long a1.toInt64, .long (0 : Int64), .long (4 : Int64)]) (rest := []) d_M_about_19 zc_M_17 (by decide) rfl rfl (Nat.le_of_ble_eq_true rfl) (ok_M_in g a1.toInt64 (0 : Int64) (4 : Int64) s1) ?_
      refine ZO.ifb_ne (pc := 22) 30 d_M_about_22 (by decide) rfl (fun h6 => ?_) (fun h6 => ?_)
      · refine ZO.iload_n (pc := 30) 2 d_M_about_30 rfl rfl ?_
        refine ZO.split (c0 := a1 = (0 : Int32)) rfl (fun h7 => ?_) (fun h7 => ?_)
        · refine ZO.tswI (pc := 31) 60 (0 : Int32) h7 d_M_about_31 (by decide) (by decide) (by decide) ?_
          refine ZO.aload_n (pc := 60) 0 d_M_about_60 rfl rfl ?_
          refine ZO.getA (pc := 61) 104 d_M_about_61 zo_0 zf_M_173 rfl rfl ?_
          refine ZO.iload_n (pc := 64) 1 d_M_about_64 rfl rfl ?_
          refine ZO.rgd (fun h8 => ?_)
          refine ZO.iald (pc := 65) d_M_about_65 za_104 h8 ?_
          exact ZO.iret (pc := 66)  d_M_about_66 rfl rfl rfl
        refine ZO.split (c0 := a1 = (1 : Int32)) rfl (fun h9 => ?_) (fun h9 => ?_)
        · refine ZO.tswI (pc := 31) 67 (1 : Int32) h9 d_M_about_31 (by decide) (by decide) (by decide) ?_
          refine ZO.aload_n (pc := 67) 0 d_M_about_67 rfl rfl ?_
          refine ZO.getA (pc := 68) 105 d_M_about_68 zo_0 zf_M_176 rfl rfl ?_
          refine ZO.iload_n (pc := 71) 1 d_M_about_71 rfl rfl ?_
          refine ZO.rgd (fun h10 => ?_)
          refine ZO.iald (pc := 72) d_M_about_72 za_105 h10 ?_
          exact ZO.iret (pc := 73)  d_M_about_73 rfl rfl rfl
        refine ZO.split (c0 := a1 = (2 : Int32)) rfl (fun h11 => ?_) (fun h11 => ?_)
        · refine ZO.tswI (pc := 31) 74 (2 : Int32) h11 d_M_about_31 (by decide) (by decide) (by decide) ?_
          refine ZO.aload_n (pc := 74) 0 d_M_about_74 rfl rfl ?_
          refine ZO.iload_n (pc := 75) 1 d_M_about_75 rfl rfl ?_
          refine ZO.cVI (pc := 76) (As := [.int a0]) (rest := []) d_M_about_76 zc_M_183 (by decide) zo_0 rfl rfl rfl (Nat.le_of_ble_eq_true rfl) (ok_M_tableOf g n a0 s1) (fun p12 ep12 => ?_)
          exact ZO.iret (pc := 79)  d_M_about_79 rfl rfl rfl
        refine ZO.split (c0 := a1 = (3 : Int32)) rfl (fun h13 => ?_) (fun h13 => ?_)
        · refine ZO.tswI (pc := 31) 80 (3 : Int32) h13 d_M_about_31 (by decide) (by decide) (by decide) ?_
          refine ZO.aload_n (pc := 80) 0 d_M_about_80 rfl rfl ?_
          refine ZO.iload_n (pc := 81) 1 d_M_about_81 rfl rfl ?_
          refine ZO.cVI (pc := 82) (As := [.int a0]) (rest := []) d_M_about_82 zc_M_138 (by decide) zo_0 rfl rfl rfl (Nat.le_of_ble_eq_true rfl) (ok_M_readBy g n a0 s1) (fun p14 ep14 => ?_)
          exact ZO.iret (pc := 85)  d_M_about_85 rfl rfl rfl
        refine ZO.tswO (pc := 31) 86 d_M_about_31 (by have q0 := lv_neT h7 (show (0 : Int32).toInt = 0 by decide); have q1 := lv_neT h9 (show (1 : Int32).toInt = 1 by decide); have q2 := lv_neT h11 (show (2 : Int32).toInt = 2 by decide); have q3 := lv_neT h13 (show (3 : Int32).toInt = 3 by decide); omega) (by decide) ?_
        refine ZO.aload_n (pc := 86) 0 d_M_about_86 rfl rfl ?_
        refine ZO.iload_n (pc := 87) 1 d_M_about_87 rfl rfl ?_
        refine ZO.cVB (pc := 88) (As := [.int a0]) (rest := []) d_M_about_88 zc_M_141 (by decide) zo_0 rfl rfl rfl (Nat.le_of_ble_eq_true rfl) (ok_M_isSecond g n a0 s1) (fun p15 ep15 => ?_)
        refine ZO.tSI (pc := 91) (As := [.int (b2i p15)]) (rest := []) d_M_about_91 zc_M_33 (by decide) rfl rfl (Nat.le_of_ble_eq_true rfl) (ok_M_flag g p15 s1) ?_
        exact ZO.iret (pc := 94)  d_M_about_94 rfl rfl rfl
      · exact ZO.sub [0] rfl (hj4 ())
    · exact ZO.sub [0] rfl (hj4 ())
def f_M_open (a0 : Int32) (s : ZSt) : Option (Int32 × ZSt) :=
  lt (si s 0 0 (0 : Int32)) (fun s1 =>
  (if (f_M_isTable a0) = true then
  gd (inb a0 3) (
    some ((ai s1 108 a0), s1))
else some ((-1 : Int32), s1)))
set_option maxHeartbeats 4000000 in
set_option maxRecDepth 20000 in
theorem ok_M_open (g : ZG) (a0 : Int32) (s : ZSt) : ZF g 2 y_M_open [.ref 0, .int a0] s (f_M_open a0 s) (fun b => some (.int b.1)) (fun b => b.2) := by
  refine ZF.of (by decide +kernel) (Nat.le_of_ble_eq_true rfl) ?_
  unfold f_M_open
  show ZO g 2 y_M_open zu0 0 [(0, .ref 0), (1, .int a0)] [] s _ _
  refine ZO.aload_n (pc := 0) 0 d_M_open_0 rfl rfl ?_
  refine ZO.iconst (pc := 1) (0 : Int32) d_M_open_1 (by decide) ?_
  refine ZO.putI (pc := 2) d_M_open_2 zo_0 zp_M_3 rfl ?_
  refine ZO.ltS (fun s1 => ?_)
  refine ZO.iload_n (pc := 5) 1 d_M_open_5 rfl rfl ?_
  refine ZO.tSB (pc := 6) (As := [.int a0]) (rest := []) d_M_open_6 zc_M_194 (by decide) rfl rfl (Nat.le_of_ble_eq_true rfl) (ok_M_isTable g a0 s1) ?_
  refine ZO.ifb_eq (pc := 9) 21 d_M_open_9 (by decide) rfl (fun h2 => ?_) (fun h2 => ?_)
  · refine ZO.aload_n (pc := 12) 0 d_M_open_12 rfl rfl ?_
    refine ZO.getA (pc := 13) 108 d_M_open_13 zo_0 zf_M_154 rfl rfl ?_
    refine ZO.iload_n (pc := 16) 1 d_M_open_16 rfl rfl ?_
    refine ZO.rgd (fun h3 => ?_)
    refine ZO.iald (pc := 17) d_M_open_17 za_108 h3 ?_
    refine ZO.goto (pc := 18) 22 d_M_open_18 (by decide) ?_
    exact ZO.iret (pc := 22)  d_M_open_22 rfl rfl rfl
  · refine ZO.iconst (pc := 21) (-1 : Int32) d_M_open_21 (by decide) ?_
    exact ZO.iret (pc := 22)  d_M_open_22 rfl rfl rfl
def f_M_value (n : Nat) (a0 : Int32) (a1 : Int32) (s : ZSt) : Option (Int32 × ZSt) :=
  lt (si s 0 0 (0 : Int32)) (fun s1 =>
  (jn (fun (x2 : Unit) =>
    bn (f_M_refuse s1) (fun p3 =>
      some (p3.1, p3.2))) (fun j4 =>
    if (f_M_isBook a0 s1) = true then
  (if (f_M_isTable a1) = true then
    gd (inb a1 3) (
      bn (f_M_conditionOf n a0 a1 (ai s1 108 a1) s1) (fun p8 =>
      some (p8.1, p8.2)))
  else j4 ())
else j4 ())))
set_option maxHeartbeats 4000000 in
set_option maxRecDepth 20000 in
theorem ok_M_value (g : ZG) (n : Nat) (a0 : Int32) (a1 : Int32) (s : ZSt) : ZF g 4 y_M_value [.ref 0, .int a0, .int a1] s (f_M_value n a0 a1 s) (fun b => some (.int b.1)) (fun b => b.2) := by
  refine ZF.of (by decide +kernel) (Nat.le_of_ble_eq_true rfl) ?_
  unfold f_M_value
  show ZO g 4 y_M_value zu0 0 [(0, .ref 0), (1, .int a0), (2, .int a1)] [] s _ _
  refine ZO.aload_n (pc := 0) 0 d_M_value_0 rfl rfl ?_
  refine ZO.iconst (pc := 1) (0 : Int32) d_M_value_1 (by decide) ?_
  refine ZO.putI (pc := 2) d_M_value_2 zo_0 zp_M_3 rfl ?_
  refine ZO.ltS (fun s1 => ?_)
  refine ZO.aload_n (pc := 5) 0 d_M_value_5 rfl rfl ?_
  refine ZO.iload_n (pc := 6) 1 d_M_value_6 rfl rfl ?_
  refine ZO.tVB (pc := 7) (As := [.int a0]) (rest := []) d_M_value_7 zc_M_189 (by decide) zo_0 rfl rfl rfl (Nat.le_of_ble_eq_true rfl) (ok_M_isBook g a0 s1) ?_
  refine ZO.rjn (pcJ := 20) (LJ := fun (x2 : Unit) => ([(0, .ref 0)] : List (Nat × Value))) (SJ := fun (x2 : Unit) => ([] : List Value)) (σJ := fun (x2 : Unit) => s1) (fun x2 => ?_) (fun j4 hj4 => ?_)
  · refine ZO.aload_n (pc := 20) 0 d_M_value_20 rfl rfl ?_
    refine ZO.cVI (pc := 21) (As := []) (rest := []) d_M_value_21 zc_M_209 (by decide) zo_0 rfl rfl rfl (Nat.le_of_ble_eq_true rfl) (ok_M_refuse g s1) (fun p3 ep3 => ?_)
    exact ZO.iret (pc := 24)  d_M_value_24 rfl rfl rfl
  · refine ZO.ifb_eq (pc := 10) 20 d_M_value_10 (by decide) rfl (fun h5 => ?_) (fun h5 => ?_)
    · refine ZO.iload_n (pc := 13) 2 d_M_value_13 rfl rfl ?_
      refine ZO.tSB (pc := 14) (As := [.int a1]) (rest := []) d_M_value_14 zc_M_194 (by decide) rfl rfl (Nat.le_of_ble_eq_true rfl) (ok_M_isTable g a1 s1) ?_
      refine ZO.ifb_ne (pc := 17) 25 d_M_value_17 (by decide) rfl (fun h6 => ?_) (fun h6 => ?_)
      · refine ZO.aload_n (pc := 25) 0 d_M_value_25 rfl rfl ?_
        refine ZO.iload_n (pc := 26) 1 d_M_value_26 rfl rfl ?_
        refine ZO.iload_n (pc := 27) 2 d_M_value_27 rfl rfl ?_
        refine ZO.aload_n (pc := 28) 0 d_M_value_28 rfl rfl ?_
        refine ZO.getA (pc := 29) 108 d_M_value_29 zo_0 zf_M_154 rfl rfl ?_
        refine ZO.iload_n (pc := 32) 2 d_M_value_32 rfl rfl ?_
        refine ZO.rgd (fun h7 => ?_)
        refine ZO.iald (pc := 33) d_M_value_33 za_108 h7 ?_
        refine ZO.cVI (pc := 34) (As := [.int a0, .int a1, .int (ai s1 108 a1)]) (rest := []) d_M_value_34 zc_M_147 (by decide) zo_0 rfl rfl rfl (Nat.le_of_ble_eq_true rfl) (ok_M_conditionOf g n a0 a1 (ai s1 108 a1) s1) (fun p8 ep8 => ?_)
        exact ZO.iret (pc := 37)  d_M_value_37 rfl rfl rfl
      · exact ZO.sub [0] rfl (hj4 ())
    · exact ZO.sub [0] rfl (hj4 ())
def f_M_isAct (a0 : Int32) (s : ZSt) : Bool :=
  (if (f_M_in a0.toInt64 (0 : Int64) (139 : Int64)) = true then
  (if (f_M_isBook (remI a0 (20 : Int32)) s) = true then
    true
  else false)
else false)
set_option maxHeartbeats 4000000 in
set_option maxRecDepth 20000 in
theorem ok_M_isAct (g : ZG) (a0 : Int32) (s : ZSt) : ZF g 2 y_M_isAct [.ref 0, .int a0] s (some (f_M_isAct a0 s)) (fun b => some (.int (b2i b))) (fun _ => s) := by
  refine ZF.of (by decide +kernel) (Nat.le_of_ble_eq_true rfl) ?_
  unfold f_M_isAct
  show ZO g 2 y_M_isAct zu0 0 [(0, .ref 0), (1, .int a0)] [] s _ _
  refine ZO.iload_n (pc := 0) 1 d_M_isAct_0 rfl rfl ?_
  refine ZO.i2l (pc := 1) d_M_isAct_1 ?_
  refine ZO.lconst (pc := 2) (0 : Int64) d_M_isAct_2 (by decide) ?_
  refine ZO.ldc2 (pc := 3) (139 : Int64) d_M_isAct_3 zk_M_212 ?_
  refine ZO.tSB (pc := 6) (As := [.long a0.toInt64, .long (0 : Int64), .long (139 : Int64)]) (rest := []) d_M_isAct_6 zc_M_17 (by decide) rfl rfl (Nat.le_of_ble_eq_true rfl) (ok_M_in g a0.toInt64 (0 : Int64) (139 : Int64) s) ?_
  refine ZO.ifb_eq (pc := 9) 27 d_M_isAct_9 (by decide) z_some (fun h1 => ?_) (fun h1 => ?_)
  · refine ZO.aload_n (pc := 12) 0 d_M_isAct_12 rfl rfl ?_
    refine ZO.iload_n (pc := 13) 1 d_M_isAct_13 rfl rfl ?_
    refine ZO.bipush (pc := 14) (20 : Int32) d_M_isAct_14 (by decide) ?_
    refine ZO.irem (pc := 16) d_M_isAct_16 (by decide) ?_
    refine ZO.tVB (pc := 17) (As := [.int (remI a0 (20 : Int32))]) (rest := []) d_M_isAct_17 zc_M_189 (by decide) zo_0 rfl rfl rfl (Nat.le_of_ble_eq_true rfl) (ok_M_isBook g (remI a0 (20 : Int32)) s) ?_
    refine ZO.ifb_eq (pc := 20) 27 d_M_isAct_20 (by decide) z_some (fun h2 => ?_) (fun h2 => ?_)
    · refine ZO.iconst (pc := 23) (1 : Int32) d_M_isAct_23 (by decide) ?_
      refine ZO.goto (pc := 24) 28 d_M_isAct_24 (by decide) ?_
      exact ZO.zret (pc := 28) (v := true) d_M_isAct_28 rfl rfl rfl
    · refine ZO.iconst (pc := 27) (0 : Int32) d_M_isAct_27 (by decide) ?_
      exact ZO.zret (pc := 28) (v := false) d_M_isAct_28 rfl rfl rfl
  · refine ZO.iconst (pc := 27) (0 : Int32) d_M_isAct_27 (by decide) ?_
    exact ZO.zret (pc := 28) (v := false) d_M_isAct_28 rfl rfl rfl
def f_M_noPlace (n : Nat) (a0 : Int32) (a1 : Int32) (s : ZSt) : Option (Int32 × ZSt) :=
  gd (inb a1 3) (
  (if (f_J_bitCount (ai s 108 a1)) < (ai s 107 a1) then
  bn (f_M_may n a0 a1 (ai s 108 a1) s) (fun p3 =>
    (if p3.1 = true then
    some ((0 : Int32), p3.2)
  else some ((-5 : Int32), p3.2)))
else some ((-4 : Int32), s)))
set_option maxHeartbeats 4000000 in
set_option maxRecDepth 20000 in
theorem ok_M_noPlace (g : ZG) (n : Nat) (a0 : Int32) (a1 : Int32) (s : ZSt) : ZF g 5 y_M_noPlace [.ref 0, .int a0, .int a1] s (f_M_noPlace n a0 a1 s) (fun b => some (.int b.1)) (fun b => b.2) := by
  refine ZF.of (by decide +kernel) (Nat.le_of_ble_eq_true rfl) ?_
  unfold f_M_noPlace
  show ZO g 5 y_M_noPlace zu0 0 [(0, .ref 0), (1, .int a0), (2, .int a1)] [] s _ _
  refine ZO.aload_n (pc := 0) 0 d_M_noPlace_0 rfl rfl ?_
  refine ZO.getA (pc := 1) 108 d_M_noPlace_1 zo_0 zf_M_154 rfl rfl ?_
  refine ZO.iload_n (pc := 4) 2 d_M_noPlace_4 rfl rfl ?_
  refine ZO.rgd (fun h1 => ?_)
  refine ZO.iald (pc := 5) d_M_noPlace_5 za_108 h1 ?_
  refine ZO.tSI (pc := 6) (As := [.int (ai s 108 a1)]) (rest := []) d_M_noPlace_6 zc_M_118 (by decide) rfl rfl (Nat.le_of_ble_eq_true rfl) (ok_J_bitCount g (ai s 108 a1) s) ?_
  refine ZO.aload_n (pc := 9) 0 d_M_noPlace_9 rfl rfl ?_
  refine ZO.getA (pc := 10) 107 d_M_noPlace_10 zo_0 zf_M_199 rfl rfl ?_
  refine ZO.iload_n (pc := 13) 2 d_M_noPlace_13 rfl rfl ?_
  refine ZO.iald (pc := 14) d_M_noPlace_14 za_107 h1 ?_
  refine ZO.icmp_lt (pc := 15) 23 d_M_noPlace_15 (by decide) rfl (fun h2 => ?_) (fun h2 => ?_)
  · refine ZO.aload_n (pc := 23) 0 d_M_noPlace_23 rfl rfl ?_
    refine ZO.iload_n (pc := 24) 1 d_M_noPlace_24 rfl rfl ?_
    refine ZO.iload_n (pc := 25) 2 d_M_noPlace_25 rfl rfl ?_
    refine ZO.aload_n (pc := 26) 0 d_M_noPlace_26 rfl rfl ?_
    refine ZO.getA (pc := 27) 108 d_M_noPlace_27 zo_0 zf_M_154 rfl rfl ?_
    refine ZO.iload_n (pc := 30) 2 d_M_noPlace_30 rfl rfl ?_
    refine ZO.iald (pc := 31) d_M_noPlace_31 za_108 h1 ?_
    refine ZO.cVB (pc := 32) (As := [.int a0, .int a1, .int (ai s 108 a1)]) (rest := []) d_M_noPlace_32 zc_M_150 (by decide) zo_0 rfl rfl rfl (Nat.le_of_ble_eq_true rfl) (ok_M_may g n a0 a1 (ai s 108 a1) s) (fun p3 ep3 => ?_)
    refine ZO.ifb_eq (pc := 35) 42 d_M_noPlace_35 (by decide) rfl (fun h4 => ?_) (fun h4 => ?_)
    · refine ZO.iconst (pc := 38) (0 : Int32) d_M_noPlace_38 (by decide) ?_
      refine ZO.goto (pc := 39) 44 d_M_noPlace_39 (by decide) ?_
      exact ZO.iret (pc := 44)  d_M_noPlace_44 rfl rfl rfl
    · refine ZO.bipush (pc := 42) (-5 : Int32) d_M_noPlace_42 (by decide) ?_
      exact ZO.iret (pc := 44)  d_M_noPlace_44 rfl rfl rfl
  · refine ZO.bipush (pc := 18) (-4 : Int32) d_M_noPlace_18 (by decide) ?_
    refine ZO.goto (pc := 20) 44 d_M_noPlace_20 (by decide) ?_
    exact ZO.iret (pc := 44)  d_M_noPlace_44 rfl rfl rfl
def f_M_whyNot (n : Nat) (a0 : Int32) (s : ZSt) : Option (Int32 × ZSt) :=
  lt (remI a0 (20 : Int32)) (fun v1 =>
  bn (f_M_tableOf n v1 s) (fun p2 =>
  (if (60 : Int32) ≤ a0 then
  (if (80 : Int32) ≤ a0 then
    (jn (fun (x5 : Unit) =>
        some ((-2 : Int32), s)) (fun j6 =>
        if p2 < 0 then
      j6 ()
    else (if p2 = ((a0 / (20 : Int32)) - (4 : Int32)) then
        j6 ()
      else bn (f_M_noPlace n v1 ((a0 / (20 : Int32)) - (4 : Int32)) s) (fun p9 =>
          some (p9.1, p9.2)))))
  else (if 0 ≤ p2 then
      some ((0 : Int32), s)
    else some ((-2 : Int32), s)))
else (if p2 < 0 then
    gd (inb v1 12) (
      (if (ai s 105 v1) < (ai s 104 v1) then
      bn (f_M_noPlace n v1 (a0 / (20 : Int32)) s) (fun p14 =>
        some (p14.1, p14.2))
    else some ((-3 : Int32), s)))
  else some ((-2 : Int32), s)))))
set_option maxHeartbeats 4000000 in
set_option maxRecDepth 20000 in
theorem ok_M_whyNot (g : ZG) (n : Nat) (a0 : Int32) (s : ZSt) : ZF g 6 y_M_whyNot [.ref 0, .int a0] s (f_M_whyNot n a0 s) (fun b => some (.int b.1)) (fun b => b.2) := by
  refine ZF.of (by decide +kernel) (Nat.le_of_ble_eq_true rfl) ?_
  unfold f_M_whyNot
  show ZO g 6 y_M_whyNot zu0 0 [(0, .ref 0), (1, .int a0)] [] s _ _
  refine ZO.iload_n (pc := 0) 1 d_M_whyNot_0 rfl rfl ?_
  refine ZO.bipush (pc := 1) (20 : Int32) d_M_whyNot_1 (by decide) ?_
  refine ZO.irem (pc := 3) d_M_whyNot_3 (by decide) ?_
  refine ZO.ltI (fun v1 => ?_)
  refine ZO.istore_n (pc := 4) (v := v1) (L' := [(0, .ref 0), (1, .int a0), (2, .int v1)]) [1, 2, 0] d_M_whyNot_4 rfl (by decide) rfl ?_
  refine ZO.aload_n (pc := 5) 0 d_M_whyNot_5 rfl rfl ?_
  refine ZO.iload_n (pc := 6) 2 d_M_whyNot_6 rfl rfl ?_
  refine ZO.cVI (pc := 7) (As := [.int v1]) (rest := []) d_M_whyNot_7 zc_M_183 (by decide) zo_0 rfl rfl rfl (Nat.le_of_ble_eq_true rfl) (ok_M_tableOf g n v1 s) (fun p2 ep2 => ?_)
  refine ZO.istore_n (pc := 10) (v := p2) (L' := [(0, .ref 0), (1, .int a0), (2, .int v1), (3, .int p2)]) [1, 2, 3, 0] d_M_whyNot_10 rfl (by decide) rfl ?_
  refine ZO.iload_n (pc := 11) 1 d_M_whyNot_11 rfl rfl ?_
  refine ZO.bipush (pc := 12) (60 : Int32) d_M_whyNot_12 (by decide) ?_
  refine ZO.icmp_ge (pc := 14) 56 d_M_whyNot_14 (by decide) rfl (fun h3 => ?_) (fun h3 => ?_)
  · refine ZO.iload_n (pc := 56) 1 d_M_whyNot_56 rfl rfl ?_
    refine ZO.bipush (pc := 57) (80 : Int32) d_M_whyNot_57 (by decide) ?_
    refine ZO.icmp_ge (pc := 59) 73 d_M_whyNot_59 (by decide) rfl (fun h4 => ?_) (fun h4 => ?_)
    · refine ZO.iload_n (pc := 73) 3 d_M_whyNot_73 rfl rfl ?_
      refine ZO.rjn (pcJ := 87) (LJ := fun (x5 : Unit) => ([] : List (Nat × Value))) (SJ := fun (x5 : Unit) => ([] : List Value)) (σJ := fun (x5 : Unit) => s) (fun x5 => ?_) (fun j6 hj6 => ?_)
      · refine ZO.bipush (pc := 87) (-2 : Int32) d_M_whyNot_87 (by decide) ?_
        refine ZO.goto (pc := 89) 103 d_M_whyNot_89 (by decide) ?_
        exact ZO.iret (pc := 103)  d_M_whyNot_103 rfl rfl rfl
      · refine ZO.if_lt (pc := 74) 87 d_M_whyNot_74 (by decide) rfl (fun h7 => ?_) (fun h7 => ?_)
        · exact ZO.sub [] rfl (hj6 ())
        · refine ZO.iload_n (pc := 77) 3 d_M_whyNot_77 rfl rfl ?_
          refine ZO.iload_n (pc := 78) 1 d_M_whyNot_78 rfl rfl ?_
          refine ZO.bipush (pc := 79) (20 : Int32) d_M_whyNot_79 (by decide) ?_
          refine ZO.idiv (pc := 81) d_M_whyNot_81 (by decide) ?_
          refine ZO.iconst (pc := 82) (4 : Int32) d_M_whyNot_82 (by decide) ?_
          refine ZO.isub (pc := 83) d_M_whyNot_83 ?_
          refine ZO.icmp_ne (pc := 84) 92 d_M_whyNot_84 (by decide) rfl (fun h8 => ?_) (fun h8 => ?_)
          · exact ZO.sub [] rfl (hj6 ())
          · refine ZO.aload_n (pc := 92) 0 d_M_whyNot_92 rfl rfl ?_
            refine ZO.iload_n (pc := 93) 2 d_M_whyNot_93 rfl rfl ?_
            refine ZO.iload_n (pc := 94) 1 d_M_whyNot_94 rfl rfl ?_
            refine ZO.bipush (pc := 95) (20 : Int32) d_M_whyNot_95 (by decide) ?_
            refine ZO.idiv (pc := 97) d_M_whyNot_97 (by decide) ?_
            refine ZO.iconst (pc := 98) (4 : Int32) d_M_whyNot_98 (by decide) ?_
            refine ZO.isub (pc := 99) d_M_whyNot_99 ?_
            refine ZO.cVI (pc := 100) (As := [.int v1, .int ((a0 / (20 : Int32)) - (4 : Int32))]) (rest := []) d_M_whyNot_100 zc_M_214 (by decide) zo_0 rfl rfl rfl (Nat.le_of_ble_eq_true rfl) (ok_M_noPlace g n v1 ((a0 / (20 : Int32)) - (4 : Int32)) s) (fun p9 ep9 => ?_)
            exact ZO.iret (pc := 103)  d_M_whyNot_103 rfl rfl rfl
    · refine ZO.iload_n (pc := 62) 3 d_M_whyNot_62 rfl rfl ?_
      refine ZO.if_ge (pc := 63) 71 d_M_whyNot_63 (by decide) rfl (fun h10 => ?_) (fun h10 => ?_)
      · refine ZO.iconst (pc := 71) (0 : Int32) d_M_whyNot_71 (by decide) ?_
        exact ZO.iret (pc := 72)  d_M_whyNot_72 rfl rfl rfl
      · refine ZO.bipush (pc := 66) (-2 : Int32) d_M_whyNot_66 (by decide) ?_
        refine ZO.goto (pc := 68) 72 d_M_whyNot_68 (by decide) ?_
        exact ZO.iret (pc := 72)  d_M_whyNot_72 rfl rfl rfl
  · refine ZO.iload_n (pc := 17) 3 d_M_whyNot_17 rfl rfl ?_
    refine ZO.if_lt (pc := 18) 26 d_M_whyNot_18 (by decide) rfl (fun h11 => ?_) (fun h11 => ?_)
    · refine ZO.aload_n (pc := 26) 0 d_M_whyNot_26 rfl rfl ?_
      refine ZO.getA (pc := 27) 105 d_M_whyNot_27 zo_0 zf_M_176 rfl rfl ?_
      refine ZO.iload_n (pc := 30) 2 d_M_whyNot_30 rfl rfl ?_
      refine ZO.rgd (fun h12 => ?_)
      refine ZO.iald (pc := 31) d_M_whyNot_31 za_105 h12 ?_
      refine ZO.aload_n (pc := 32) 0 d_M_whyNot_32 rfl rfl ?_
      refine ZO.getA (pc := 33) 104 d_M_whyNot_33 zo_0 zf_M_173 rfl rfl ?_
      refine ZO.iload_n (pc := 36) 2 d_M_whyNot_36 rfl rfl ?_
      refine ZO.iald (pc := 37) d_M_whyNot_37 za_104 h12 ?_
      refine ZO.icmp_lt (pc := 38) 46 d_M_whyNot_38 (by decide) rfl (fun h13 => ?_) (fun h13 => ?_)
      · refine ZO.aload_n (pc := 46) 0 d_M_whyNot_46 rfl rfl ?_
        refine ZO.iload_n (pc := 47) 2 d_M_whyNot_47 rfl rfl ?_
        refine ZO.iload_n (pc := 48) 1 d_M_whyNot_48 rfl rfl ?_
        refine ZO.bipush (pc := 49) (20 : Int32) d_M_whyNot_49 (by decide) ?_
        refine ZO.idiv (pc := 51) d_M_whyNot_51 (by decide) ?_
        refine ZO.cVI (pc := 52) (As := [.int v1, .int (a0 / (20 : Int32))]) (rest := []) d_M_whyNot_52 zc_M_214 (by decide) zo_0 rfl rfl rfl (Nat.le_of_ble_eq_true rfl) (ok_M_noPlace g n v1 (a0 / (20 : Int32)) s) (fun p14 ep14 => ?_)
        exact ZO.iret (pc := 55)  d_M_whyNot_55 rfl rfl rfl
      · refine ZO.bipush (pc := 41) (-3 : Int32) d_M_whyNot_41 (by decide) ?_
        refine ZO.goto (pc := 43) 55 d_M_whyNot_43 (by decide) ?_
        exact ZO.iret (pc := 55)  d_M_whyNot_55 rfl rfl rfl
    · refine ZO.bipush (pc := 21) (-2 : Int32) d_M_whyNot_21 (by decide) ?_
      refine ZO.goto (pc := 23) 55 d_M_whyNot_23 (by decide) ?_
      exact ZO.iret (pc := 55)  d_M_whyNot_55 rfl rfl rfl
def f_M_shut (n : Nat) (a0 : Int32) (s : ZSt) : Option (Int32 × ZSt) :=
  bn (f_M_tableOf n a0 s) (fun p1 =>
  gd (inb p1 3) (
  lt ((ai s 108 p1) &&& ((shI (1 : Int32) a0) ^^^ (-1 : Int32))) (fun v3 =>
  bn (f_M_settled n p1 v3 s) (fun p4 =>
  lt (sai p4.2 108 p1 p4.1) (fun s5 =>
  some ((v3 &&& ((ai s5 108 p1) ^^^ (-1 : Int32))), s5))))))
set_option maxHeartbeats 4000000 in
set_option maxRecDepth 20000 in
theorem ok_M_shut (g : ZG) (n : Nat) (a0 : Int32) (s : ZSt) : ZF g 6 y_M_shut [.ref 0, .int a0] s (f_M_shut n a0 s) (fun b => some (.int b.1)) (fun b => b.2) := by
  refine ZF.of (by decide +kernel) (Nat.le_of_ble_eq_true rfl) ?_
  unfold f_M_shut
  show ZO g 6 y_M_shut zu0 0 [(0, .ref 0), (1, .int a0)] [] s _ _
  refine ZO.aload_n (pc := 0) 0 d_M_shut_0 rfl rfl ?_
  refine ZO.iload_n (pc := 1) 1 d_M_shut_1 rfl rfl ?_
  refine ZO.cVI (pc := 2) (As := [.int a0]) (rest := []) d_M_shut_2 zc_M_183 (by decide) zo_0 rfl rfl rfl (Nat.le_of_ble_eq_true rfl) (ok_M_tableOf g n a0 s) (fun p1 ep1 => ?_)
  refine ZO.istore_n (pc := 5) (v := p1) (L' := [(0, .ref 0), (1, .int a0), (2, .int p1)]) [1, 2, 0] d_M_shut_5 rfl (by decide) rfl ?_
  refine ZO.aload_n (pc := 6) 0 d_M_shut_6 rfl rfl ?_
  refine ZO.getA (pc := 7) 108 d_M_shut_7 zo_0 zf_M_154 rfl rfl ?_
  refine ZO.iload_n (pc := 10) 2 d_M_shut_10 rfl rfl ?_
  refine ZO.rgd (fun h2 => ?_)
  refine ZO.iald (pc := 11) d_M_shut_11 za_108 h2 ?_
  refine ZO.iconst (pc := 12) (1 : Int32) d_M_shut_12 (by decide) ?_
  refine ZO.iload_n (pc := 13) 1 d_M_shut_13 rfl rfl ?_
  refine ZO.ishl (pc := 14) d_M_shut_14 ?_
  refine ZO.iconst (pc := 15) (-1 : Int32) d_M_shut_15 (by decide) ?_
  refine ZO.ixor (pc := 16) d_M_shut_16 ?_
  refine ZO.iand (pc := 17) d_M_shut_17 ?_
  refine ZO.ltI (fun v3 => ?_)
  refine ZO.istore_n (pc := 18) (v := v3) (L' := [(0, .ref 0), (1, .int a0), (2, .int p1), (3, .int v3)]) [1, 2, 3, 0] d_M_shut_18 rfl (by decide) rfl ?_
  refine ZO.aload_n (pc := 19) 0 d_M_shut_19 rfl rfl ?_
  refine ZO.getA (pc := 20) 108 d_M_shut_20 zo_0 zf_M_154 rfl rfl ?_
  refine ZO.iload_n (pc := 23) 2 d_M_shut_23 rfl rfl ?_
  refine ZO.aload_n (pc := 24) 0 d_M_shut_24 rfl rfl ?_
  refine ZO.iload_n (pc := 25) 2 d_M_shut_25 rfl rfl ?_
  refine ZO.iload_n (pc := 26) 3 d_M_shut_26 rfl rfl ?_
  refine ZO.cVI (pc := 27) (As := [.int p1, .int v3]) (rest := [.int p1, .ref 108]) d_M_shut_27 zc_M_186 (by decide) zo_0 rfl rfl rfl (Nat.le_of_ble_eq_true rfl) (ok_M_settled g n p1 v3 s) (fun p4 ep4 => ?_)
  refine ZO.iast (pc := 30) d_M_shut_30 za_108 h2 ?_
  refine ZO.ltS (fun s5 => ?_)
  refine ZO.iload_n (pc := 31) 3 d_M_shut_31 rfl rfl ?_
  refine ZO.aload_n (pc := 32) 0 d_M_shut_32 rfl rfl ?_
  refine ZO.getA (pc := 33) 108 d_M_shut_33 zo_0 zf_M_154 rfl rfl ?_
  refine ZO.iload_n (pc := 36) 2 d_M_shut_36 rfl rfl ?_
  refine ZO.iald (pc := 37) d_M_shut_37 za_108 h2 ?_
  refine ZO.iconst (pc := 38) (-1 : Int32) d_M_shut_38 (by decide) ?_
  refine ZO.ixor (pc := 39) d_M_shut_39 ?_
  refine ZO.iand (pc := 40) d_M_shut_40 ?_
  exact ZO.iret (pc := 41)  d_M_shut_41 rfl rfl rfl
def f_M_opens (n : Nat) (a0 : Int32) (a1 : Int32) (s : ZSt) : Option (Int32 × ZSt) :=
  gd (inb a1 3) (
  lt ((ai s 108 a1) ||| (shI (1 : Int32) a0)) (fun v2 =>
  bn (f_M_settled n a1 v2 s) (fun p3 =>
  lt (sai p3.2 108 a1 p3.1) (fun s4 =>
  some ((v2 &&& ((ai s4 108 a1) ^^^ (-1 : Int32))), s4)))))
set_option maxHeartbeats 4000000 in
set_option maxRecDepth 20000 in
theorem ok_M_opens (g : ZG) (n : Nat) (a0 : Int32) (a1 : Int32) (s : ZSt) : ZF g 6 y_M_opens [.ref 0, .int a0, .int a1] s (f_M_opens n a0 a1 s) (fun b => some (.int b.1)) (fun b => b.2) := by
  refine ZF.of (by decide +kernel) (Nat.le_of_ble_eq_true rfl) ?_
  unfold f_M_opens
  show ZO g 6 y_M_opens zu0 0 [(0, .ref 0), (1, .int a0), (2, .int a1)] [] s _ _
  refine ZO.aload_n (pc := 0) 0 d_M_opens_0 rfl rfl ?_
  refine ZO.getA (pc := 1) 108 d_M_opens_1 zo_0 zf_M_154 rfl rfl ?_
  refine ZO.iload_n (pc := 4) 2 d_M_opens_4 rfl rfl ?_
  refine ZO.rgd (fun h1 => ?_)
  refine ZO.iald (pc := 5) d_M_opens_5 za_108 h1 ?_
  refine ZO.iconst (pc := 6) (1 : Int32) d_M_opens_6 (by decide) ?_
  refine ZO.iload_n (pc := 7) 1 d_M_opens_7 rfl rfl ?_
  refine ZO.ishl (pc := 8) d_M_opens_8 ?_
  refine ZO.ior (pc := 9) d_M_opens_9 ?_
  refine ZO.ltI (fun v2 => ?_)
  refine ZO.istore_n (pc := 10) (v := v2) (L' := [(0, .ref 0), (1, .int a0), (2, .int a1), (3, .int v2)]) [1, 2, 3, 0] d_M_opens_10 rfl (by decide) rfl ?_
  refine ZO.aload_n (pc := 11) 0 d_M_opens_11 rfl rfl ?_
  refine ZO.getA (pc := 12) 108 d_M_opens_12 zo_0 zf_M_154 rfl rfl ?_
  refine ZO.iload_n (pc := 15) 2 d_M_opens_15 rfl rfl ?_
  refine ZO.aload_n (pc := 16) 0 d_M_opens_16 rfl rfl ?_
  refine ZO.iload_n (pc := 17) 2 d_M_opens_17 rfl rfl ?_
  refine ZO.iload_n (pc := 18) 3 d_M_opens_18 rfl rfl ?_
  refine ZO.cVI (pc := 19) (As := [.int a1, .int v2]) (rest := [.int a1, .ref 108]) d_M_opens_19 zc_M_186 (by decide) zo_0 rfl rfl rfl (Nat.le_of_ble_eq_true rfl) (ok_M_settled g n a1 v2 s) (fun p3 ep3 => ?_)
  refine ZO.iast (pc := 22) d_M_opens_22 za_108 h1 ?_
  refine ZO.ltS (fun s4 => ?_)
  refine ZO.iload_n (pc := 23) 3 d_M_opens_23 rfl rfl ?_
  refine ZO.aload_n (pc := 24) 0 d_M_opens_24 rfl rfl ?_
  refine ZO.getA (pc := 25) 108 d_M_opens_25 zo_0 zf_M_154 rfl rfl ?_
  refine ZO.iload_n (pc := 28) 2 d_M_opens_28 rfl rfl ?_
  refine ZO.iald (pc := 29) d_M_opens_29 za_108 h1 ?_
  refine ZO.iconst (pc := 30) (-1 : Int32) d_M_opens_30 (by decide) ?_
  refine ZO.ixor (pc := 31) d_M_opens_31 ?_
  refine ZO.iand (pc := 32) d_M_opens_32 ?_
  exact ZO.iret (pc := 33)  d_M_opens_33 rfl rfl rfl
def f_M_makes (n : Nat) (a0 : Int32) (s : ZSt) : Option (Int32 × ZSt) :=
  lt (remI a0 (20 : Int32)) (fun v1 =>
  (if (60 : Int32) ≤ a0 then
  bn (f_M_shut n v1 s) (fun p3 =>
    (if (80 : Int32) ≤ a0 then
    bn (f_M_opens n v1 ((a0 / (20 : Int32)) - (4 : Int32)) p3.2) (fun p5 =>
      some ((p3.1 ||| p5.1), p5.2))
  else some (p3.1, p3.2)))
else gd (inb v1 12) (
    lt (sai s 105 v1 ((ai s 105 v1) + (1 : Int32))) (fun s7 =>
    bn (f_M_opens n v1 (a0 / (20 : Int32)) s7) (fun p8 =>
    some (p8.1, p8.2))))))
set_option maxHeartbeats 4000000 in
set_option maxRecDepth 20000 in
theorem ok_M_makes (g : ZG) (n : Nat) (a0 : Int32) (s : ZSt) : ZF g 7 y_M_makes [.ref 0, .int a0] s (f_M_makes n a0 s) (fun b => some (.int b.1)) (fun b => b.2) := by
  refine ZF.of (by decide +kernel) (Nat.le_of_ble_eq_true rfl) ?_
  unfold f_M_makes
  show ZO g 7 y_M_makes zu0 0 [(0, .ref 0), (1, .int a0)] [] s _ _
  refine ZO.iload_n (pc := 0) 1 d_M_makes_0 rfl rfl ?_
  refine ZO.bipush (pc := 1) (20 : Int32) d_M_makes_1 (by decide) ?_
  refine ZO.irem (pc := 3) d_M_makes_3 (by decide) ?_
  refine ZO.ltI (fun v1 => ?_)
  refine ZO.istore_n (pc := 4) (v := v1) (L' := [(0, .ref 0), (1, .int a0), (2, .int v1)]) [1, 2, 0] d_M_makes_4 rfl (by decide) rfl ?_
  refine ZO.iload_n (pc := 5) 1 d_M_makes_5 rfl rfl ?_
  refine ZO.bipush (pc := 6) (60 : Int32) d_M_makes_6 (by decide) ?_
  refine ZO.icmp_ge (pc := 8) 31 d_M_makes_8 (by decide) rfl (fun h2 => ?_) (fun h2 => ?_)
  · refine ZO.aload_n (pc := 31) 0 d_M_makes_31 rfl rfl ?_
    refine ZO.iload_n (pc := 32) 2 d_M_makes_32 rfl rfl ?_
    refine ZO.cVI (pc := 33) (As := [.int v1]) (rest := []) d_M_makes_33 zc_M_220 (by decide) zo_0 rfl rfl rfl (Nat.le_of_ble_eq_true rfl) (ok_M_shut g n v1 s) (fun p3 ep3 => ?_)
    refine ZO.istore_n (pc := 36) (v := p3.1) (L' := [(0, .ref 0), (1, .int a0), (2, .int v1), (3, .int p3.1)]) [1, 2, 3, 0] d_M_makes_36 rfl (by decide) rfl ?_
    refine ZO.iload_n (pc := 37) 1 d_M_makes_37 rfl rfl ?_
    refine ZO.bipush (pc := 38) (80 : Int32) d_M_makes_38 (by decide) ?_
    refine ZO.icmp_ge (pc := 40) 47 d_M_makes_40 (by decide) rfl (fun h4 => ?_) (fun h4 => ?_)
    · refine ZO.iload_n (pc := 47) 3 d_M_makes_47 rfl rfl ?_
      refine ZO.aload_n (pc := 48) 0 d_M_makes_48 rfl rfl ?_
      refine ZO.iload_n (pc := 49) 2 d_M_makes_49 rfl rfl ?_
      refine ZO.iload_n (pc := 50) 1 d_M_makes_50 rfl rfl ?_
      refine ZO.bipush (pc := 51) (20 : Int32) d_M_makes_51 (by decide) ?_
      refine ZO.idiv (pc := 53) d_M_makes_53 (by decide) ?_
      refine ZO.iconst (pc := 54) (4 : Int32) d_M_makes_54 (by decide) ?_
      refine ZO.isub (pc := 55) d_M_makes_55 ?_
      refine ZO.cVI (pc := 56) (As := [.int v1, .int ((a0 / (20 : Int32)) - (4 : Int32))]) (rest := [.int p3.1]) d_M_makes_56 zc_M_217 (by decide) zo_0 rfl rfl rfl (Nat.le_of_ble_eq_true rfl) (ok_M_opens g n v1 ((a0 / (20 : Int32)) - (4 : Int32)) p3.2) (fun p5 ep5 => ?_)
      refine ZO.ior (pc := 59) d_M_makes_59 ?_
      exact ZO.iret (pc := 60)  d_M_makes_60 rfl rfl rfl
    · refine ZO.iload_n (pc := 43) 3 d_M_makes_43 rfl rfl ?_
      refine ZO.goto (pc := 44) 60 d_M_makes_44 (by decide) ?_
      exact ZO.iret (pc := 60)  d_M_makes_60 rfl rfl rfl
  · refine ZO.aload_n (pc := 11) 0 d_M_makes_11 rfl rfl ?_
    refine ZO.getA (pc := 12) 105 d_M_makes_12 zo_0 zf_M_176 rfl rfl ?_
    refine ZO.iload_n (pc := 15) 2 d_M_makes_15 rfl rfl ?_
    refine ZO.dup2 (pc := 16) d_M_makes_16 rfl rfl ?_
    refine ZO.rgd (fun h6 => ?_)
    refine ZO.iald (pc := 17) d_M_makes_17 za_105 h6 ?_
    refine ZO.iconst (pc := 18) (1 : Int32) d_M_makes_18 (by decide) ?_
    refine ZO.iadd (pc := 19) d_M_makes_19 ?_
    refine ZO.iast (pc := 20) d_M_makes_20 za_105 h6 ?_
    refine ZO.ltS (fun s7 => ?_)
    refine ZO.aload_n (pc := 21) 0 d_M_makes_21 rfl rfl ?_
    refine ZO.iload_n (pc := 22) 2 d_M_makes_22 rfl rfl ?_
    refine ZO.iload_n (pc := 23) 1 d_M_makes_23 rfl rfl ?_
    refine ZO.bipush (pc := 24) (20 : Int32) d_M_makes_24 (by decide) ?_
    refine ZO.idiv (pc := 26) d_M_makes_26 (by decide) ?_
    refine ZO.cVI (pc := 27) (As := [.int v1, .int (a0 / (20 : Int32))]) (rest := []) d_M_makes_27 zc_M_217 (by decide) zo_0 rfl rfl rfl (Nat.le_of_ble_eq_true rfl) (ok_M_opens g n v1 (a0 / (20 : Int32)) s7) (fun p8 ep8 => ?_)
    exact ZO.iret (pc := 30)  d_M_makes_30 rfl rfl rfl
def f_M_act (n : Nat) (a0 : Int32) (s : ZSt) : Option (Int32 × ZSt) :=
  lt (si s 0 0 (0 : Int32)) (fun s1 =>
  (if (f_M_isAct a0 s1) = true then
  bn (f_M_whyNot n a0 s1) (fun p3 =>
    (if 0 ≤ p3.1 then
    bn (f_M_makes n a0 p3.2) (fun p5 =>
      some (p5.1, p5.2))
  else some (p3.1, p3.2)))
else some ((-1 : Int32), s1)))
set_option maxHeartbeats 4000000 in
set_option maxRecDepth 20000 in
theorem ok_M_act (g : ZG) (n : Nat) (a0 : Int32) (s : ZSt) : ZF g 8 y_M_act [.ref 0, .int a0] s (f_M_act n a0 s) (fun b => some (.int b.1)) (fun b => b.2) := by
  refine ZF.of (by decide +kernel) (Nat.le_of_ble_eq_true rfl) ?_
  unfold f_M_act
  show ZO g 8 y_M_act zu0 0 [(0, .ref 0), (1, .int a0)] [] s _ _
  refine ZO.aload_n (pc := 0) 0 d_M_act_0 rfl rfl ?_
  refine ZO.iconst (pc := 1) (0 : Int32) d_M_act_1 (by decide) ?_
  refine ZO.putI (pc := 2) d_M_act_2 zo_0 zp_M_3 rfl ?_
  refine ZO.ltS (fun s1 => ?_)
  refine ZO.aload_n (pc := 5) 0 d_M_act_5 rfl rfl ?_
  refine ZO.iload_n (pc := 6) 1 d_M_act_6 rfl rfl ?_
  refine ZO.tVB (pc := 7) (As := [.int a0]) (rest := []) d_M_act_7 zc_M_223 (by decide) zo_0 rfl rfl rfl (Nat.le_of_ble_eq_true rfl) (ok_M_isAct g a0 s1) ?_
  refine ZO.ifb_ne (pc := 10) 15 d_M_act_10 (by decide) rfl (fun h2 => ?_) (fun h2 => ?_)
  · refine ZO.aload_n (pc := 15) 0 d_M_act_15 rfl rfl ?_
    refine ZO.iload_n (pc := 16) 1 d_M_act_16 rfl rfl ?_
    refine ZO.cVI (pc := 17) (As := [.int a0]) (rest := []) d_M_act_17 zc_M_226 (by decide) zo_0 rfl rfl rfl (Nat.le_of_ble_eq_true rfl) (ok_M_whyNot g n a0 s1) (fun p3 ep3 => ?_)
    refine ZO.istore_n (pc := 20) (v := p3.1) (L' := [(0, .ref 0), (1, .int a0), (2, .int p3.1)]) [1, 2, 0] d_M_act_20 rfl (by decide) rfl ?_
    refine ZO.iload_n (pc := 21) 2 d_M_act_21 rfl rfl ?_
    refine ZO.if_ge (pc := 22) 29 d_M_act_22 (by decide) rfl (fun h4 => ?_) (fun h4 => ?_)
    · refine ZO.aload_n (pc := 29) 0 d_M_act_29 rfl rfl ?_
      refine ZO.iload_n (pc := 30) 1 d_M_act_30 rfl rfl ?_
      refine ZO.cVI (pc := 31) (As := [.int a0]) (rest := []) d_M_act_31 zc_M_229 (by decide) zo_0 rfl rfl rfl (Nat.le_of_ble_eq_true rfl) (ok_M_makes g n a0 p3.2) (fun p5 ep5 => ?_)
      exact ZO.iret (pc := 34)  d_M_act_34 rfl rfl rfl
    · refine ZO.iload_n (pc := 25) 2 d_M_act_25 rfl rfl ?_
      refine ZO.goto (pc := 26) 34 d_M_act_26 (by decide) ?_
      exact ZO.iret (pc := 34)  d_M_act_34 rfl rfl rfl
  · refine ZO.iconst (pc := 13) (-1 : Int32) d_M_act_13 (by decide) ?_
    exact ZO.iret (pc := 14)  d_M_act_14 rfl rfl rfl
def f_M_why (n : Nat) (a0 : Int32) (s : ZSt) : Option (Int32 × ZSt) :=
  lt (si s 0 0 (0 : Int32)) (fun s1 =>
  (if (f_M_isAct a0 s1) = true then
  bn (f_M_whyNot n a0 s1) (fun p3 =>
    some (p3.1, p3.2))
else some ((-1 : Int32), s1)))
set_option maxHeartbeats 4000000 in
set_option maxRecDepth 20000 in
theorem ok_M_why (g : ZG) (n : Nat) (a0 : Int32) (s : ZSt) : ZF g 7 y_M_why [.ref 0, .int a0] s (f_M_why n a0 s) (fun b => some (.int b.1)) (fun b => b.2) := by
  refine ZF.of (by decide +kernel) (Nat.le_of_ble_eq_true rfl) ?_
  unfold f_M_why
  show ZO g 7 y_M_why zu0 0 [(0, .ref 0), (1, .int a0)] [] s _ _
  refine ZO.aload_n (pc := 0) 0 d_M_why_0 rfl rfl ?_
  refine ZO.iconst (pc := 1) (0 : Int32) d_M_why_1 (by decide) ?_
  refine ZO.putI (pc := 2) d_M_why_2 zo_0 zp_M_3 rfl ?_
  refine ZO.ltS (fun s1 => ?_)
  refine ZO.aload_n (pc := 5) 0 d_M_why_5 rfl rfl ?_
  refine ZO.iload_n (pc := 6) 1 d_M_why_6 rfl rfl ?_
  refine ZO.tVB (pc := 7) (As := [.int a0]) (rest := []) d_M_why_7 zc_M_223 (by decide) zo_0 rfl rfl rfl (Nat.le_of_ble_eq_true rfl) (ok_M_isAct g a0 s1) ?_
  refine ZO.ifb_eq (pc := 10) 21 d_M_why_10 (by decide) rfl (fun h2 => ?_) (fun h2 => ?_)
  · refine ZO.aload_n (pc := 13) 0 d_M_why_13 rfl rfl ?_
    refine ZO.iload_n (pc := 14) 1 d_M_why_14 rfl rfl ?_
    refine ZO.cVI (pc := 15) (As := [.int a0]) (rest := []) d_M_why_15 zc_M_226 (by decide) zo_0 rfl rfl rfl (Nat.le_of_ble_eq_true rfl) (ok_M_whyNot g n a0 s1) (fun p3 ep3 => ?_)
    refine ZO.goto (pc := 18) 22 d_M_why_18 (by decide) ?_
    exact ZO.iret (pc := 22)  d_M_why_22 rfl rfl rfl
  · refine ZO.iconst (pc := 21) (-1 : Int32) d_M_why_21 (by decide) ?_
    exact ZO.iret (pc := 22)  d_M_why_22 rfl rfl rfl
def f_M_can (n : Nat) (s : ZSt) : Option (Int32 × ZSt) :=
  lt (si s 0 0 (0 : Int32)) (fun s1 =>
  lt (si s1 0 1 (0 : Int32)) (fun s2 =>
  lpN (fun j4 (x3 : Int32 × Int32 × ZSt) =>
  (if (140 : Int32) ≤ x3.2.1 then
    some (x3.1, x3.2.2)
  else (jn (fun (x6 : Int32 × ZSt) =>
        lt (x3.2.1 + (1 : Int32)) (fun v7 =>
          j4 (x6.1, v7, x6.2))) (fun j8 =>
        if (f_M_isAct x3.2.1 x3.2.2) = true then
      (if (f_M_in x3.2.1.toInt64 (60 : Int64) (79 : Int64)) = true then
        j8 (x3.1, x3.2.2)
      else bn (f_M_whyNot n x3.2.1 x3.2.2) (fun p11 =>
          (if p11.1 = 0 then
          (jn (fun (x13 : ZSt) =>
              lt (x3.1 + (1 : Int32)) (fun v14 =>
                j8 (v14, x13))) (fun j15 =>
              if (8 : Int32) ≤ x3.1 then
            j15 p11.2
          else bn (f_M_enters x3.2.1 p11.2) (fun p17 =>
              j15 p17)))
        else j8 (x3.1, p11.2))))
    else j8 (x3.1, x3.2.2))))) n ((0 : Int32), (0 : Int32), s2)))
set_option maxHeartbeats 4000000 in
set_option maxRecDepth 20000 in
theorem ok_M_can (g : ZG) (n : Nat) (s : ZSt) : ZF g 7 y_M_can [.ref 0] s (f_M_can n s) (fun b => some (.int b.1)) (fun b => b.2) := by
  refine ZF.of (by decide +kernel) (Nat.le_of_ble_eq_true rfl) ?_
  unfold f_M_can
  show ZO g 7 y_M_can zu0 0 [(0, .ref 0)] [] s _ _
  refine ZO.aload_n (pc := 0) 0 d_M_can_0 rfl rfl ?_
  refine ZO.iconst (pc := 1) (0 : Int32) d_M_can_1 (by decide) ?_
  refine ZO.putI (pc := 2) d_M_can_2 zo_0 zp_M_3 rfl ?_
  refine ZO.ltS (fun s1 => ?_)
  refine ZO.aload_n (pc := 5) 0 d_M_can_5 rfl rfl ?_
  refine ZO.iconst (pc := 6) (0 : Int32) d_M_can_6 (by decide) ?_
  refine ZO.putI (pc := 7) d_M_can_7 zo_0 zp_M_11 rfl ?_
  refine ZO.ltS (fun s2 => ?_)
  refine ZO.iconst (pc := 10) (0 : Int32) d_M_can_10 (by decide) ?_
  refine ZO.istore_n (pc := 11) (v := (0 : Int32)) (L' := [(0, .ref 0), (1, .int (0 : Int32))]) [1, 0] d_M_can_11 rfl (by decide) rfl ?_
  refine ZO.iconst (pc := 12) (0 : Int32) d_M_can_12 (by decide) ?_
  refine ZO.istore_n (pc := 13) (v := (0 : Int32)) (L' := [(0, .ref 0), (1, .int (0 : Int32)), (2, .int (0 : Int32))]) [1, 2, 0] d_M_can_13 rfl (by decide) rfl ?_
  refine ZO.loop (fun (x3 : Int32 × Int32 × ZSt) => ([(0, .ref 0), (1, .int x3.1), (2, .int x3.2.1)] : List (Nat × Value))) (fun (x3 : Int32 × Int32 × ZSt) => x3.2.2) [] (fun j4 x3 hj4 => ?_) rfl rfl rfl
  refine ZO.iload_n (pc := 14) 2 d_M_can_14 rfl rfl ?_
  refine ZO.sipush (pc := 15) (140 : Int32) d_M_can_15 (by decide) ?_
  refine ZO.icmp_ge (pc := 18) 71 d_M_can_18 (by decide) rfl (fun h5 => ?_) (fun h5 => ?_)
  · refine ZO.iload_n (pc := 71) 1 d_M_can_71 rfl rfl ?_
    exact ZO.iret (pc := 72)  d_M_can_72 rfl rfl rfl
  · refine ZO.aload_n (pc := 21) 0 d_M_can_21 rfl rfl ?_
    refine ZO.iload_n (pc := 22) 2 d_M_can_22 rfl rfl ?_
    refine ZO.tVB (pc := 23) (As := [.int x3.2.1]) (rest := []) d_M_can_23 zc_M_223 (by decide) zo_0 rfl rfl rfl (Nat.le_of_ble_eq_true rfl) (ok_M_isAct g x3.2.1 x3.2.2) ?_
    refine ZO.rjn (pcJ := 65) (LJ := fun (x6 : Int32 × ZSt) => ([(0, .ref 0), (1, .int x6.1), (2, .int x3.2.1)] : List (Nat × Value))) (SJ := fun (x6 : Int32 × ZSt) => ([] : List Value)) (σJ := fun (x6 : Int32 × ZSt) => x6.2) (fun x6 => ?_) (fun j8 hj8 => ?_)
    · refine ZO.iincL (pc := 65) (i := 2) (x3.2.1 + (1 : Int32)) (L' := fun v7 => [(0, .ref 0), (1, .int x6.1), (2, .int v7)]) [1, 2, 0] d_M_can_65 rfl (by rfl) (by decide) (fun _ => rfl) (fun v7 => ?_)
      refine ZO.goto (pc := 68) 14 d_M_can_68 (by decide) ?_
      exact hj4 (x6.1, v7, x6.2)
    · refine ZO.ifb_eq (pc := 26) 65 d_M_can_26 (by decide) rfl (fun h9 => ?_) (fun h9 => ?_)
      · refine ZO.iload_n (pc := 29) 2 d_M_can_29 rfl rfl ?_
        refine ZO.i2l (pc := 30) d_M_can_30 ?_
        refine ZO.ldc2 (pc := 31) (60 : Int64) d_M_can_31 zk_M_232 ?_
        refine ZO.ldc2 (pc := 34) (79 : Int64) d_M_can_34 zk_M_234 ?_
        refine ZO.tSB (pc := 37) (As := [.long x3.2.1.toInt64, .long (60 : Int64), .long (79 : Int64)]) (rest := []) d_M_can_37 zc_M_17 (by decide) rfl rfl (Nat.le_of_ble_eq_true rfl) (ok_M_in g x3.2.1.toInt64 (60 : Int64) (79 : Int64) x3.2.2) ?_
        refine ZO.ifb_ne (pc := 40) 65 d_M_can_40 (by decide) rfl (fun h10 => ?_) (fun h10 => ?_)
        · exact hj8 (x3.1, x3.2.2)
        · refine ZO.aload_n (pc := 43) 0 d_M_can_43 rfl rfl ?_
          refine ZO.iload_n (pc := 44) 2 d_M_can_44 rfl rfl ?_
          refine ZO.cVI (pc := 45) (As := [.int x3.2.1]) (rest := []) d_M_can_45 zc_M_226 (by decide) zo_0 rfl rfl rfl (Nat.le_of_ble_eq_true rfl) (ok_M_whyNot g n x3.2.1 x3.2.2) (fun p11 ep11 => ?_)
          refine ZO.if_ne (pc := 48) 65 d_M_can_48 (by decide) rfl (fun h12 => ?_) (fun h12 => ?_)
          · refine ZO.iload_n (pc := 51) 1 d_M_can_51 rfl rfl ?_
            refine ZO.bipush (pc := 52) (8 : Int32) d_M_can_52 (by decide) ?_
            refine ZO.rjn (pcJ := 62) (LJ := fun (x13 : ZSt) => ([(0, .ref 0), (1, .int x3.1), (2, .int x3.2.1)] : List (Nat × Value))) (SJ := fun (x13 : ZSt) => ([] : List Value)) (σJ := fun (x13 : ZSt) => x13) (fun x13 => ?_) (fun j15 hj15 => ?_)
            · refine ZO.iincL (pc := 62) (i := 1) (x3.1 + (1 : Int32)) (L' := fun v14 => [(0, .ref 0), (1, .int v14), (2, .int x3.2.1)]) [1, 0, 2] d_M_can_62 rfl (by rfl) (by decide) (fun _ => rfl) (fun v14 => ?_)
              exact hj8 (v14, x13)
            · refine ZO.icmp_ge (pc := 54) 62 d_M_can_54 (by decide) rfl (fun h16 => ?_) (fun h16 => ?_)
              · exact hj15 p11.2
              · refine ZO.aload_n (pc := 57) 0 d_M_can_57 rfl rfl ?_
                refine ZO.iload_n (pc := 58) 2 d_M_can_58 rfl rfl ?_
                refine ZO.cVV (pc := 59) (As := [.int x3.2.1]) (rest := []) d_M_can_59 zc_M_236 (by decide) zo_0 rfl rfl rfl (Nat.le_of_ble_eq_true rfl) (ok_M_enters g x3.2.1 p11.2) (fun p17 ep17 => ?_)
                exact hj15 p17
          · exact hj8 (x3.1, p11.2)
      · exact hj8 (x3.1, x3.2.2)
def f_M_night (n : Nat) (a0 : Int32) (s : ZSt) : Option (Int32 × ZSt) :=
  lt (si s 0 0 (0 : Int32)) (fun s1 =>
  (if (f_M_areBooks a0 s1) = true then
  lpN (fun j4 (x3 : Int32 × Int32 × ZSt) =>
    (if (3 : Int32) ≤ x3.2.1 then
      some (x3.1, x3.2.2)
    else gd (inb x3.2.1 3) (
        bn (f_M_settled n x3.2.1 ((ai x3.2.2 108 x3.2.1) &&& a0) x3.2.2) (fun p7 =>
        lt (sai p7.2 108 x3.2.1 p7.1) (fun s8 =>
        lt (x3.1 ||| (ai s8 108 x3.2.1)) (fun v9 =>
        lt (x3.2.1 + (1 : Int32)) (fun v10 =>
        j4 (v9, v10, s8)))))))) n ((0 : Int32), (0 : Int32), s1)
else some ((-1 : Int32), s1)))
set_option maxHeartbeats 4000000 in
set_option maxRecDepth 20000 in
theorem ok_M_night (g : ZG) (n : Nat) (a0 : Int32) (s : ZSt) : ZF g 6 y_M_night [.ref 0, .int a0] s (f_M_night n a0 s) (fun b => some (.int b.1)) (fun b => b.2) := by
  refine ZF.of (by decide +kernel) (Nat.le_of_ble_eq_true rfl) ?_
  unfold f_M_night
  show ZO g 6 y_M_night zu0 0 [(0, .ref 0), (1, .int a0)] [] s _ _
  refine ZO.aload_n (pc := 0) 0 d_M_night_0 rfl rfl ?_
  refine ZO.iconst (pc := 1) (0 : Int32) d_M_night_1 (by decide) ?_
  refine ZO.putI (pc := 2) d_M_night_2 zo_0 zp_M_3 rfl ?_
  refine ZO.ltS (fun s1 => ?_)
  refine ZO.aload_n (pc := 5) 0 d_M_night_5 rfl rfl ?_
  refine ZO.iload_n (pc := 6) 1 d_M_night_6 rfl rfl ?_
  refine ZO.tVB (pc := 7) (As := [.int a0]) (rest := []) d_M_night_7 zc_M_239 (by decide) zo_0 rfl rfl rfl (Nat.le_of_ble_eq_true rfl) (ok_M_areBooks g a0 s1) ?_
  refine ZO.ifb_ne (pc := 10) 15 d_M_night_10 (by decide) rfl (fun h2 => ?_) (fun h2 => ?_)
  · refine ZO.iconst (pc := 15) (0 : Int32) d_M_night_15 (by decide) ?_
    refine ZO.istore_n (pc := 16) (v := (0 : Int32)) (L' := [(0, .ref 0), (1, .int a0), (2, .int (0 : Int32))]) [1, 2, 0] d_M_night_16 rfl (by decide) rfl ?_
    refine ZO.iconst (pc := 17) (0 : Int32) d_M_night_17 (by decide) ?_
    refine ZO.istore_n (pc := 18) (v := (0 : Int32)) (L' := [(0, .ref 0), (1, .int a0), (2, .int (0 : Int32)), (3, .int (0 : Int32))]) [1, 2, 3, 0] d_M_night_18 rfl (by decide) rfl ?_
    refine ZO.loop (fun (x3 : Int32 × Int32 × ZSt) => ([(0, .ref 0), (1, .int a0), (2, .int x3.1), (3, .int x3.2.1)] : List (Nat × Value))) (fun (x3 : Int32 × Int32 × ZSt) => x3.2.2) [] (fun j4 x3 hj4 => ?_) rfl rfl rfl
    refine ZO.iload_n (pc := 19) 3 d_M_night_19 rfl rfl ?_
    refine ZO.iconst (pc := 20) (3 : Int32) d_M_night_20 (by decide) ?_
    refine ZO.icmp_ge (pc := 21) 58 d_M_night_21 (by decide) rfl (fun h5 => ?_) (fun h5 => ?_)
    · refine ZO.iload_n (pc := 58) 2 d_M_night_58 rfl rfl ?_
      exact ZO.iret (pc := 59)  d_M_night_59 rfl rfl rfl
    · refine ZO.aload_n (pc := 24) 0 d_M_night_24 rfl rfl ?_
      refine ZO.getA (pc := 25) 108 d_M_night_25 zo_0 zf_M_154 rfl rfl ?_
      refine ZO.iload_n (pc := 28) 3 d_M_night_28 rfl rfl ?_
      refine ZO.aload_n (pc := 29) 0 d_M_night_29 rfl rfl ?_
      refine ZO.iload_n (pc := 30) 3 d_M_night_30 rfl rfl ?_
      refine ZO.aload_n (pc := 31) 0 d_M_night_31 rfl rfl ?_
      refine ZO.getA (pc := 32) 108 d_M_night_32 zo_0 zf_M_154 rfl rfl ?_
      refine ZO.iload_n (pc := 35) 3 d_M_night_35 rfl rfl ?_
      refine ZO.rgd (fun h6 => ?_)
      refine ZO.iald (pc := 36) d_M_night_36 za_108 h6 ?_
      refine ZO.iload_n (pc := 37) 1 d_M_night_37 rfl rfl ?_
      refine ZO.iand (pc := 38) d_M_night_38 ?_
      refine ZO.cVI (pc := 39) (As := [.int x3.2.1, .int ((ai x3.2.2 108 x3.2.1) &&& a0)]) (rest := [.int x3.2.1, .ref 108]) d_M_night_39 zc_M_186 (by decide) zo_0 rfl rfl rfl (Nat.le_of_ble_eq_true rfl) (ok_M_settled g n x3.2.1 ((ai x3.2.2 108 x3.2.1) &&& a0) x3.2.2) (fun p7 ep7 => ?_)
      refine ZO.iast (pc := 42) d_M_night_42 za_108 h6 ?_
      refine ZO.ltS (fun s8 => ?_)
      refine ZO.iload_n (pc := 43) 2 d_M_night_43 rfl rfl ?_
      refine ZO.aload_n (pc := 44) 0 d_M_night_44 rfl rfl ?_
      refine ZO.getA (pc := 45) 108 d_M_night_45 zo_0 zf_M_154 rfl rfl ?_
      refine ZO.iload_n (pc := 48) 3 d_M_night_48 rfl rfl ?_
      refine ZO.iald (pc := 49) d_M_night_49 za_108 h6 ?_
      refine ZO.ior (pc := 50) d_M_night_50 ?_
      refine ZO.ltI (fun v9 => ?_)
      refine ZO.istore_n (pc := 51) (v := v9) (L' := [(0, .ref 0), (1, .int a0), (2, .int v9), (3, .int x3.2.1)]) [1, 2, 0, 3] d_M_night_51 rfl (by decide) rfl ?_
      refine ZO.iincL (pc := 52) (i := 3) (x3.2.1 + (1 : Int32)) (L' := fun v10 => [(0, .ref 0), (1, .int a0), (2, .int v9), (3, .int v10)]) [1, 2, 3, 0] d_M_night_52 rfl (by rfl) (by decide) (fun _ => rfl) (fun v10 => ?_)
      refine ZO.goto (pc := 55) 19 d_M_night_55 (by decide) ?_
      exact hj4 (v9, v10, s8)
  · refine ZO.iconst (pc := 13) (-1 : Int32) d_M_night_13 (by decide) ?_
    exact ZO.iret (pc := 14)  d_M_night_14 rfl rfl rfl
def f_M_putsBy (n : Nat) (s : ZSt) : Option ZSt :=
  lpN (fun j2 (x1 : Int32 × ZSt) =>
  (if (3 : Int32) ≤ x1.1 then
    lpN (fun j5 (x4 : Int32 × ZSt) =>
      (if (12 : Int32) ≤ x4.1 then
        some x4.2
      else gd (inb x4.1 12) (
          lt (sai x4.2 124 x4.1 (ai x4.2 105 x4.1)) (fun s8 =>
          lt (x4.1 + (1 : Int32)) (fun v9 =>
          j5 (v9, s8)))))) n ((0 : Int32), x1.2)
  else gd (inb x1.1 3) (
      lt (sai x1.2 123 x1.1 (ai x1.2 108 x1.1)) (fun s11 =>
      lt (x1.1 + (1 : Int32)) (fun v12 =>
      j2 (v12, s11)))))) n ((0 : Int32), s)
set_option maxHeartbeats 4000000 in
set_option maxRecDepth 20000 in
theorem ok_M_putsBy (g : ZG) (n : Nat) (s : ZSt) : ZF g 0 y_M_putsBy [.ref 0] s (f_M_putsBy n s) (fun _ => none) (fun b => b) := by
  refine ZF.of (by decide +kernel) (Nat.le_of_ble_eq_true rfl) ?_
  unfold f_M_putsBy
  show ZO g 0 y_M_putsBy zu0 0 [(0, .ref 0)] [] s _ _
  refine ZO.iconst (pc := 0) (0 : Int32) d_M_putsBy_0 (by decide) ?_
  refine ZO.istore_n (pc := 1) (v := (0 : Int32)) (L' := [(0, .ref 0), (1, .int (0 : Int32))]) [1, 0] d_M_putsBy_1 rfl (by decide) rfl ?_
  refine ZO.loop (fun (x1 : Int32 × ZSt) => ([(0, .ref 0), (1, .int x1.1)] : List (Nat × Value))) (fun (x1 : Int32 × ZSt) => x1.2) [] (fun j2 x1 hj2 => ?_) rfl rfl rfl
  refine ZO.iload_n (pc := 2) 1 d_M_putsBy_2 rfl rfl ?_
  refine ZO.iconst (pc := 3) (3 : Int32) d_M_putsBy_3 (by decide) ?_
  refine ZO.icmp_ge (pc := 4) 25 d_M_putsBy_4 (by decide) rfl (fun h3 => ?_) (fun h3 => ?_)
  · refine ZO.iconst (pc := 25) (0 : Int32) d_M_putsBy_25 (by decide) ?_
    refine ZO.istore_n (pc := 26) (v := (0 : Int32)) (L' := [(0, .ref 0), (1, .int (0 : Int32))]) [1, 0] d_M_putsBy_26 rfl (by decide) rfl ?_
    refine ZO.loop (fun (x4 : Int32 × ZSt) => ([(0, .ref 0), (1, .int x4.1)] : List (Nat × Value))) (fun (x4 : Int32 × ZSt) => x4.2) [] (fun j5 x4 hj5 => ?_) rfl rfl rfl
    refine ZO.iload_n (pc := 27) 1 d_M_putsBy_27 rfl rfl ?_
    refine ZO.bipush (pc := 28) (12 : Int32) d_M_putsBy_28 (by decide) ?_
    refine ZO.icmp_ge (pc := 30) 51 d_M_putsBy_30 (by decide) rfl (fun h6 => ?_) (fun h6 => ?_)
    · exact ZO.vret (pc := 51) d_M_putsBy_51 rfl rfl rfl
    · refine ZO.aload_n (pc := 33) 0 d_M_putsBy_33 rfl rfl ?_
      refine ZO.getA (pc := 34) 124 d_M_putsBy_34 zo_0 zf_M_245 rfl rfl ?_
      refine ZO.iload_n (pc := 37) 1 d_M_putsBy_37 rfl rfl ?_
      refine ZO.aload_n (pc := 38) 0 d_M_putsBy_38 rfl rfl ?_
      refine ZO.getA (pc := 39) 105 d_M_putsBy_39 zo_0 zf_M_176 rfl rfl ?_
      refine ZO.iload_n (pc := 42) 1 d_M_putsBy_42 rfl rfl ?_
      refine ZO.rgd (fun h7 => ?_)
      refine ZO.iald (pc := 43) d_M_putsBy_43 za_105 h7 ?_
      refine ZO.iast (pc := 44) d_M_putsBy_44 za_124 h7 ?_
      refine ZO.ltS (fun s8 => ?_)
      refine ZO.iincL (pc := 45) (i := 1) (x4.1 + (1 : Int32)) (L' := fun v9 => [(0, .ref 0), (1, .int v9)]) [1, 0] d_M_putsBy_45 rfl (by rfl) (by decide) (fun _ => rfl) (fun v9 => ?_)
      refine ZO.goto (pc := 48) 27 d_M_putsBy_48 (by decide) ?_
      exact hj5 (v9, s8)
  · refine ZO.aload_n (pc := 7) 0 d_M_putsBy_7 rfl rfl ?_
    refine ZO.getA (pc := 8) 123 d_M_putsBy_8 zo_0 zf_M_242 rfl rfl ?_
    refine ZO.iload_n (pc := 11) 1 d_M_putsBy_11 rfl rfl ?_
    refine ZO.aload_n (pc := 12) 0 d_M_putsBy_12 rfl rfl ?_
    refine ZO.getA (pc := 13) 108 d_M_putsBy_13 zo_0 zf_M_154 rfl rfl ?_
    refine ZO.iload_n (pc := 16) 1 d_M_putsBy_16 rfl rfl ?_
    refine ZO.rgd (fun h10 => ?_)
    refine ZO.iald (pc := 17) d_M_putsBy_17 za_108 h10 ?_
    refine ZO.iast (pc := 18) d_M_putsBy_18 za_123 h10 ?_
    refine ZO.ltS (fun s11 => ?_)
    refine ZO.iincL (pc := 19) (i := 1) (x1.1 + (1 : Int32)) (L' := fun v12 => [(0, .ref 0), (1, .int v12)]) [1, 0] d_M_putsBy_19 rfl (by rfl) (by decide) (fun _ => rfl) (fun v12 => ?_)
    refine ZO.goto (pc := 22) 2 d_M_putsBy_22 (by decide) ?_
    exact hj2 (v12, s11)
def f_M_putsBack (n : Nat) (s : ZSt) : Option ZSt :=
  lpN (fun j2 (x1 : Int32 × ZSt) =>
  (if (3 : Int32) ≤ x1.1 then
    lpN (fun j5 (x4 : Int32 × ZSt) =>
      (if (12 : Int32) ≤ x4.1 then
        some x4.2
      else gd (inb x4.1 12) (
          lt (sai x4.2 105 x4.1 (ai x4.2 124 x4.1)) (fun s8 =>
          lt (x4.1 + (1 : Int32)) (fun v9 =>
          j5 (v9, s8)))))) n ((0 : Int32), x1.2)
  else gd (inb x1.1 3) (
      lt (sai x1.2 108 x1.1 (ai x1.2 123 x1.1)) (fun s11 =>
      lt (x1.1 + (1 : Int32)) (fun v12 =>
      j2 (v12, s11)))))) n ((0 : Int32), s)
set_option maxHeartbeats 4000000 in
set_option maxRecDepth 20000 in
theorem ok_M_putsBack (g : ZG) (n : Nat) (s : ZSt) : ZF g 0 y_M_putsBack [.ref 0] s (f_M_putsBack n s) (fun _ => none) (fun b => b) := by
  refine ZF.of (by decide +kernel) (Nat.le_of_ble_eq_true rfl) ?_
  unfold f_M_putsBack
  show ZO g 0 y_M_putsBack zu0 0 [(0, .ref 0)] [] s _ _
  refine ZO.iconst (pc := 0) (0 : Int32) d_M_putsBack_0 (by decide) ?_
  refine ZO.istore_n (pc := 1) (v := (0 : Int32)) (L' := [(0, .ref 0), (1, .int (0 : Int32))]) [1, 0] d_M_putsBack_1 rfl (by decide) rfl ?_
  refine ZO.loop (fun (x1 : Int32 × ZSt) => ([(0, .ref 0), (1, .int x1.1)] : List (Nat × Value))) (fun (x1 : Int32 × ZSt) => x1.2) [] (fun j2 x1 hj2 => ?_) rfl rfl rfl
  refine ZO.iload_n (pc := 2) 1 d_M_putsBack_2 rfl rfl ?_
  refine ZO.iconst (pc := 3) (3 : Int32) d_M_putsBack_3 (by decide) ?_
  refine ZO.icmp_ge (pc := 4) 25 d_M_putsBack_4 (by decide) rfl (fun h3 => ?_) (fun h3 => ?_)
  · refine ZO.iconst (pc := 25) (0 : Int32) d_M_putsBack_25 (by decide) ?_
    refine ZO.istore_n (pc := 26) (v := (0 : Int32)) (L' := [(0, .ref 0), (1, .int (0 : Int32))]) [1, 0] d_M_putsBack_26 rfl (by decide) rfl ?_
    refine ZO.loop (fun (x4 : Int32 × ZSt) => ([(0, .ref 0), (1, .int x4.1)] : List (Nat × Value))) (fun (x4 : Int32 × ZSt) => x4.2) [] (fun j5 x4 hj5 => ?_) rfl rfl rfl
    refine ZO.iload_n (pc := 27) 1 d_M_putsBack_27 rfl rfl ?_
    refine ZO.bipush (pc := 28) (12 : Int32) d_M_putsBack_28 (by decide) ?_
    refine ZO.icmp_ge (pc := 30) 51 d_M_putsBack_30 (by decide) rfl (fun h6 => ?_) (fun h6 => ?_)
    · exact ZO.vret (pc := 51) d_M_putsBack_51 rfl rfl rfl
    · refine ZO.aload_n (pc := 33) 0 d_M_putsBack_33 rfl rfl ?_
      refine ZO.getA (pc := 34) 105 d_M_putsBack_34 zo_0 zf_M_176 rfl rfl ?_
      refine ZO.iload_n (pc := 37) 1 d_M_putsBack_37 rfl rfl ?_
      refine ZO.aload_n (pc := 38) 0 d_M_putsBack_38 rfl rfl ?_
      refine ZO.getA (pc := 39) 124 d_M_putsBack_39 zo_0 zf_M_245 rfl rfl ?_
      refine ZO.iload_n (pc := 42) 1 d_M_putsBack_42 rfl rfl ?_
      refine ZO.rgd (fun h7 => ?_)
      refine ZO.iald (pc := 43) d_M_putsBack_43 za_124 h7 ?_
      refine ZO.iast (pc := 44) d_M_putsBack_44 za_105 h7 ?_
      refine ZO.ltS (fun s8 => ?_)
      refine ZO.iincL (pc := 45) (i := 1) (x4.1 + (1 : Int32)) (L' := fun v9 => [(0, .ref 0), (1, .int v9)]) [1, 0] d_M_putsBack_45 rfl (by rfl) (by decide) (fun _ => rfl) (fun v9 => ?_)
      refine ZO.goto (pc := 48) 27 d_M_putsBack_48 (by decide) ?_
      exact hj5 (v9, s8)
  · refine ZO.aload_n (pc := 7) 0 d_M_putsBack_7 rfl rfl ?_
    refine ZO.getA (pc := 8) 108 d_M_putsBack_8 zo_0 zf_M_154 rfl rfl ?_
    refine ZO.iload_n (pc := 11) 1 d_M_putsBack_11 rfl rfl ?_
    refine ZO.aload_n (pc := 12) 0 d_M_putsBack_12 rfl rfl ?_
    refine ZO.getA (pc := 13) 123 d_M_putsBack_13 zo_0 zf_M_242 rfl rfl ?_
    refine ZO.iload_n (pc := 16) 1 d_M_putsBack_16 rfl rfl ?_
    refine ZO.rgd (fun h10 => ?_)
    refine ZO.iald (pc := 17) d_M_putsBack_17 za_123 h10 ?_
    refine ZO.iast (pc := 18) d_M_putsBack_18 za_108 h10 ?_
    refine ZO.ltS (fun s11 => ?_)
    refine ZO.iincL (pc := 19) (i := 1) (x1.1 + (1 : Int32)) (L' := fun v12 => [(0, .ref 0), (1, .int v12)]) [1, 0] d_M_putsBack_19 rfl (by rfl) (by decide) (fun _ => rfl) (fun v12 => ?_)
    refine ZO.goto (pc := 22) 2 d_M_putsBack_22 (by decide) ?_
    exact hj2 (v12, s11)
def f_M_judge (n : Nat) (a0 : Int32) (a1 : Int32) (a2 : Int32) (s : ZSt) : Option (Int32 × ZSt) :=
  lt (si s 0 0 (0 : Int32)) (fun s1 =>
  (if (f_M_in a0.toInt64 (0 : Int64) (8 : Int64)) = true then
  bn (f_M_putsBy n s1) (fun p3 =>
    jn (fun (x4 : Int32 × ZSt) =>
    lt (si x4.2 0 1 (0 : Int32)) (fun s5 =>
      lpN (fun j7 (x6 : Int32 × ZSt) =>
      (if (3 : Int32) ≤ x6.1 then
        bn (f_M_putsBack n x6.2) (fun p9 =>
          some (x4.1, p9))
      else gd (inb x6.1 3) (
          bn (f_M_enters (ai x6.2 108 x6.1) x6.2) (fun p11 =>
          lt (x6.1 + (1 : Int32)) (fun v12 =>
          j7 (v12, p11)))))) n ((0 : Int32), s5))) (fun j13 =>
    lpN (fun j15 (x14 : Int32 × Int32 × ZSt) =>
    (if a0 ≤ x14.2.1 then
      j13 (x14.1, x14.2.2)
    else (if 0 ≤ x14.1 then
        j13 (x14.1, x14.2.2)
      else (lt ((if (4 : Int32) ≤ x14.2.1 then
          a2
        else a1) : Int32) (fun x18 =>
            lt ((srI x18 ((8 : Int32) * (remI x14.2.1 (4 : Int32)))) &&& (255 : Int32)) (fun v19 =>
              (jn (fun (x20 : Int32 × ZSt) =>
                lt (x14.2.1 + (1 : Int32)) (fun v21 =>
                  j15 (x20.1, v21, x20.2))) (fun j22 =>
                jn (fun (x23 : ZSt) =>
                j22 (x14.2.1, x23)) (fun j24 =>
                if (f_M_isAct v19 x14.2.2) = true then
              bn (f_M_whyNot n v19 x14.2.2) (fun p26 =>
                (if p26.1 = 0 then
                bn (f_M_makes n v19 p26.2) (fun p28 =>
                  j22 (x14.1, p28.2))
              else j24 p26.2))
            else j24 x14.2.2))))))))) n ((-2 : Int32), (0 : Int32), p3)))
else some ((-1 : Int32), s1)))
set_option maxHeartbeats 4000000 in
set_option maxRecDepth 20000 in
theorem ok_M_judge (g : ZG) (n : Nat) (a0 : Int32) (a1 : Int32) (a2 : Int32) (s : ZSt) : ZF g 8 y_M_judge [.ref 0, .int a0, .int a1, .int a2] s (f_M_judge n a0 a1 a2 s) (fun b => some (.int b.1)) (fun b => b.2) := by
  refine ZF.of (by decide +kernel) (Nat.le_of_ble_eq_true rfl) ?_
  unfold f_M_judge
  show ZO g 8 y_M_judge zu0 0 [(0, .ref 0), (1, .int a0), (2, .int a1), (3, .int a2)] [] s _ _
  refine ZO.aload_n (pc := 0) 0 d_M_judge_0 rfl rfl ?_
  refine ZO.iconst (pc := 1) (0 : Int32) d_M_judge_1 (by decide) ?_
  refine ZO.putI (pc := 2) d_M_judge_2 zo_0 zp_M_3 rfl ?_
  refine ZO.ltS (fun s1 => ?_)
  refine ZO.iload_n (pc := 5) 1 d_M_judge_5 rfl rfl ?_
  refine ZO.i2l (pc := 6) d_M_judge_6 ?_
  refine ZO.lconst (pc := 7) (0 : Int64) d_M_judge_7 (by decide) ?_
  refine ZO.ldc2 (pc := 8) (8 : Int64) d_M_judge_8 zk_M_248 ?_
  refine ZO.tSB (pc := 11) (As := [.long a0.toInt64, .long (0 : Int64), .long (8 : Int64)]) (rest := []) d_M_judge_11 zc_M_17 (by decide) rfl rfl (Nat.le_of_ble_eq_true rfl) (ok_M_in g a0.toInt64 (0 : Int64) (8 : Int64) s1) ?_
  refine ZO.ifb_ne (pc := 14) 19 d_M_judge_14 (by decide) rfl (fun h2 => ?_) (fun h2 => ?_)
  · refine ZO.aload_n (pc := 19) 0 d_M_judge_19 rfl rfl ?_
    refine ZO.cVV (pc := 20) (As := []) (rest := []) d_M_judge_20 zc_M_250 (by decide) zo_0 rfl rfl rfl (Nat.le_of_ble_eq_true rfl) (ok_M_putsBy g n s1) (fun p3 ep3 => ?_)
    refine ZO.bipush (pc := 23) (-2 : Int32) d_M_judge_23 (by decide) ?_
    refine ZO.istore (pc := 25) (v := (-2 : Int32)) (L' := [(0, .ref 0), (1, .int a0), (2, .int a1), (3, .int a2), (4, .int (-2 : Int32))]) [1, 2, 3, 4, 0] d_M_judge_25 (by decide) rfl ?_
    refine ZO.iconst (pc := 27) (0 : Int32) d_M_judge_27 (by decide) ?_
    refine ZO.istore (pc := 28) (v := (0 : Int32)) (L' := [(0, .ref 0), (1, .int a0), (2, .int a1), (3, .int a2), (4, .int (-2 : Int32)), (5, .int (0 : Int32))]) [1, 2, 3, 4, 5, 0] d_M_judge_28 (by decide) rfl ?_
    refine ZO.rjn (pcJ := 104) (LJ := fun (x4 : Int32 × ZSt) => ([(0, .ref 0), (4, .int x4.1)] : List (Nat × Value))) (SJ := fun (x4 : Int32 × ZSt) => ([] : List Value)) (σJ := fun (x4 : Int32 × ZSt) => x4.2) (fun x4 => ?_) (fun j13 hj13 => ?_)
    · refine ZO.aload_n (pc := 104) 0 d_M_judge_104 rfl rfl ?_
      refine ZO.iconst (pc := 105) (0 : Int32) d_M_judge_105 (by decide) ?_
      refine ZO.putI (pc := 106) d_M_judge_106 zo_0 zp_M_11 rfl ?_
      refine ZO.ltS (fun s5 => ?_)
      refine ZO.iconst (pc := 109) (0 : Int32) d_M_judge_109 (by decide) ?_
      refine ZO.istore (pc := 110) (v := (0 : Int32)) (L' := [(0, .ref 0), (4, .int x4.1), (5, .int (0 : Int32))]) [1, 2, 0] d_M_judge_110 (by decide) rfl ?_
      refine ZO.loop (fun (x6 : Int32 × ZSt) => ([(0, .ref 0), (4, .int x4.1), (5, .int x6.1)] : List (Nat × Value))) (fun (x6 : Int32 × ZSt) => x6.2) [] (fun j7 x6 hj7 => ?_) rfl rfl rfl
      refine ZO.iload (pc := 112) 2 d_M_judge_112 rfl ?_
      refine ZO.iconst (pc := 114) (3 : Int32) d_M_judge_114 (by decide) ?_
      refine ZO.icmp_ge (pc := 115) 135 d_M_judge_115 (by decide) rfl (fun h8 => ?_) (fun h8 => ?_)
      · refine ZO.aload_n (pc := 135) 0 d_M_judge_135 rfl rfl ?_
        refine ZO.cVV (pc := 136) (As := []) (rest := []) d_M_judge_136 zc_M_254 (by decide) zo_0 rfl rfl rfl (Nat.le_of_ble_eq_true rfl) (ok_M_putsBack g n x6.2) (fun p9 ep9 => ?_)
        refine ZO.iload (pc := 139) 1 d_M_judge_139 rfl ?_
        exact ZO.iret (pc := 141)  d_M_judge_141 rfl rfl rfl
      · refine ZO.aload_n (pc := 118) 0 d_M_judge_118 rfl rfl ?_
        refine ZO.aload_n (pc := 119) 0 d_M_judge_119 rfl rfl ?_
        refine ZO.getA (pc := 120) 108 d_M_judge_120 zo_0 zf_M_154 rfl rfl ?_
        refine ZO.iload (pc := 123) 2 d_M_judge_123 rfl ?_
        refine ZO.rgd (fun h10 => ?_)
        refine ZO.iald (pc := 125) d_M_judge_125 za_108 h10 ?_
        refine ZO.cVV (pc := 126) (As := [.int (ai x6.2 108 x6.1)]) (rest := []) d_M_judge_126 zc_M_236 (by decide) zo_0 rfl rfl rfl (Nat.le_of_ble_eq_true rfl) (ok_M_enters g (ai x6.2 108 x6.1) x6.2) (fun p11 ep11 => ?_)
        refine ZO.iincL (pc := 129) (i := 2) (x6.1 + (1 : Int32)) (L' := fun v12 => [(0, .ref 0), (4, .int x4.1), (5, .int v12)]) [1, 2, 0] d_M_judge_129 rfl (by rfl) (by decide) (fun _ => rfl) (fun v12 => ?_)
        refine ZO.goto (pc := 132) 112 d_M_judge_132 (by decide) ?_
        exact hj7 (v12, p11)
    · refine ZO.loop (fun (x14 : Int32 × Int32 × ZSt) => ([(0, .ref 0), (1, .int a0), (2, .int a1), (3, .int a2), (4, .int x14.1), (5, .int x14.2.1)] : List (Nat × Value))) (fun (x14 : Int32 × Int32 × ZSt) => x14.2.2) [] (fun j15 x14 hj15 => ?_) rfl rfl rfl
      refine ZO.iload (pc := 30) 5 d_M_judge_30 rfl ?_
      refine ZO.iload_n (pc := 32) 1 d_M_judge_32 rfl rfl ?_
      refine ZO.icmp_ge (pc := 33) 104 d_M_judge_33 (by decide) rfl (fun h16 => ?_) (fun h16 => ?_)
      · exact ZO.sub [0, 4] rfl (hj13 (x14.1, x14.2.2))
      · refine ZO.iload (pc := 36) 4 d_M_judge_36 rfl ?_
        refine ZO.if_ge (pc := 38) 104 d_M_judge_38 (by decide) rfl (fun h17 => ?_) (fun h17 => ?_)
        · exact ZO.sub [0, 4] rfl (hj13 (x14.1, x14.2.2))
        · refine ZO.iload (pc := 41) 5 d_M_judge_41 rfl ?_
          refine ZO.iconst (pc := 43) (4 : Int32) d_M_judge_43 (by decide) ?_
          refine ZO.phi (pcJ := 52) (LJ := fun (x18 : Int32) => ([(0, .ref 0), (1, .int a0), (2, .int a1), (3, .int a2), (4, .int x14.1), (5, .int x14.2.1)] : List (Nat × Value))) (SJ := fun (x18 : Int32) => ([.int x18] : List Value)) (fun x18 => ?_) (fun t hj29 => ?_)
          · refine ZO.bipush (pc := 52) (8 : Int32) d_M_judge_52 (by decide) ?_
            refine ZO.iload (pc := 54) 5 d_M_judge_54 rfl ?_
            refine ZO.iconst (pc := 56) (4 : Int32) d_M_judge_56 (by decide) ?_
            refine ZO.irem (pc := 57) d_M_judge_57 (by decide) ?_
            refine ZO.imul (pc := 58) d_M_judge_58 ?_
            refine ZO.ishr (pc := 59) d_M_judge_59 ?_
            refine ZO.sipush (pc := 60) (255 : Int32) d_M_judge_60 (by decide) ?_
            refine ZO.iand (pc := 63) d_M_judge_63 ?_
            refine ZO.ltI (fun v19 => ?_)
            refine ZO.istore (pc := 64) (v := v19) (L' := [(0, .ref 0), (1, .int a0), (2, .int a1), (3, .int a2), (4, .int x14.1), (5, .int x14.2.1), (6, .int v19)]) [1, 2, 3, 4, 5, 6, 0] d_M_judge_64 (by decide) rfl ?_
            refine ZO.aload_n (pc := 66) 0 d_M_judge_66 rfl rfl ?_
            refine ZO.iload (pc := 67) 6 d_M_judge_67 rfl ?_
            refine ZO.tVB (pc := 69) (As := [.int v19]) (rest := []) d_M_judge_69 zc_M_223 (by decide) zo_0 rfl rfl rfl (Nat.le_of_ble_eq_true rfl) (ok_M_isAct g v19 x14.2.2) ?_
            refine ZO.rjn (pcJ := 98) (LJ := fun (x20 : Int32 × ZSt) => ([(0, .ref 0), (1, .int a0), (2, .int a1), (3, .int a2), (4, .int x20.1), (5, .int x14.2.1)] : List (Nat × Value))) (SJ := fun (x20 : Int32 × ZSt) => ([] : List Value)) (σJ := fun (x20 : Int32 × ZSt) => x20.2) (fun x20 => ?_) (fun j22 hj22 => ?_)
            · refine ZO.iincL (pc := 98) (i := 5) (x14.2.1 + (1 : Int32)) (L' := fun v21 => [(0, .ref 0), (1, .int a0), (2, .int a1), (3, .int a2), (4, .int x20.1), (5, .int v21)]) [1, 2, 3, 4, 5, 0] d_M_judge_98 rfl (by rfl) (by decide) (fun _ => rfl) (fun v21 => ?_)
              refine ZO.goto (pc := 101) 30 d_M_judge_101 (by decide) ?_
              exact hj15 (x20.1, v21, x20.2)
            · refine ZO.rjn (pcJ := 94) (LJ := fun (x23 : ZSt) => ([(0, .ref 0), (1, .int a0), (2, .int a1), (3, .int a2), (5, .int x14.2.1)] : List (Nat × Value))) (SJ := fun (x23 : ZSt) => ([] : List Value)) (σJ := fun (x23 : ZSt) => x23) (fun x23 => ?_) (fun j24 hj24 => ?_)
              · refine ZO.iload (pc := 94) 4 d_M_judge_94 rfl ?_
                refine ZO.istore (pc := 96) (v := x14.2.1) (L' := [(0, .ref 0), (1, .int a0), (2, .int a1), (3, .int a2), (4, .int x14.2.1), (5, .int x14.2.1)]) [1, 2, 3, 4, 0, 5] d_M_judge_96 (by decide) rfl ?_
                exact hj22 (x14.2.1, x23)
              · refine ZO.ifb_eq (pc := 72) 94 d_M_judge_72 (by decide) rfl (fun h25 => ?_) (fun h25 => ?_)
                · refine ZO.aload_n (pc := 75) 0 d_M_judge_75 rfl rfl ?_
                  refine ZO.iload (pc := 76) 6 d_M_judge_76 rfl ?_
                  refine ZO.cVI (pc := 78) (As := [.int v19]) (rest := []) d_M_judge_78 zc_M_226 (by decide) zo_0 rfl rfl rfl (Nat.le_of_ble_eq_true rfl) (ok_M_whyNot g n v19 x14.2.2) (fun p26 ep26 => ?_)
                  refine ZO.if_ne (pc := 81) 94 d_M_judge_81 (by decide) rfl (fun h27 => ?_) (fun h27 => ?_)
                  · refine ZO.aload_n (pc := 84) 0 d_M_judge_84 rfl rfl ?_
                    refine ZO.iload (pc := 85) 6 d_M_judge_85 rfl ?_
                    refine ZO.cVI (pc := 87) (As := [.int v19]) (rest := []) d_M_judge_87 zc_M_229 (by decide) zo_0 rfl rfl rfl (Nat.le_of_ble_eq_true rfl) (ok_M_makes g n v19 p26.2) (fun p28 ep28 => ?_)
                    refine ZO.pop (pc := 90) d_M_judge_90 rfl ?_
                    refine ZO.goto (pc := 91) 98 d_M_judge_91 (by decide) ?_
                    exact ZO.sub [0, 1, 2, 3, 4, 5] rfl (hj22 (x14.1, p28.2))
                  · exact ZO.sub [0, 1, 2, 3, 5] rfl (hj24 p26.2)
                · exact ZO.sub [0, 1, 2, 3, 5] rfl (hj24 x14.2.2)
          · refine ZO.icmp_ge (pc := 44) 51 d_M_judge_44 (by decide) z_ite (fun h30 => ?_) (fun h30 => ?_)
            · refine ZO.iload_n (pc := 51) 3 d_M_judge_51 rfl rfl ?_
              exact hj29 a2 (by rw [if_pos h30])
            · refine ZO.iload_n (pc := 47) 2 d_M_judge_47 rfl rfl ?_
              refine ZO.goto (pc := 48) 52 d_M_judge_48 (by decide) ?_
              exact hj29 a1 (by rw [if_neg h30])
  · refine ZO.iconst (pc := 17) (-1 : Int32) d_M_judge_17 (by decide) ?_
    exact ZO.iret (pc := 18)  d_M_judge_18 rfl rfl rfl
def f_M_reader (a0 : Int32) (a1 : Int32) (s : ZSt) : Option (Int32 × ZSt) :=
  lt (si s 0 0 (0 : Int32)) (fun s1 =>
  (if (f_M_isTable a0) = true then
  (if (f_M_areBooks a1 s1) = true then
    (if (gi s1 0 9) = (6 : Int32) then
      some ((-1 : Int32), s1)
    else gd (inb (gi s1 0 9) 6) (
        lt (sai s1 110 (gi s1 0 9) a0) (fun s6 =>
        gd (inb (gi s6 0 9) 6) (
        lt (sai s6 111 (gi s6 0 9) a0) (fun s8 =>
        gd (inb (gi s8 0 9) 6) (
        lt (sai s8 112 (gi s8 0 9) a1) (fun s10 =>
        gd (inb (gi s10 0 9) 6) (
        lt (sai s10 113 (gi s10 0 9) (0 : Int32)) (fun s12 =>
        lt (si s12 0 9 ((gi s12 0 9) + (1 : Int32))) (fun s13 =>
        some (((gi s13 0 9) - (1 : Int32)), s13)))))))))))
  else some ((-1 : Int32), s1))
else some ((-1 : Int32), s1)))
set_option maxHeartbeats 4000000 in
set_option maxRecDepth 20000 in
theorem ok_M_reader (g : ZG) (a0 : Int32) (a1 : Int32) (s : ZSt) : ZF g 2 y_M_reader [.ref 0, .int a0, .int a1] s (f_M_reader a0 a1 s) (fun b => some (.int b.1)) (fun b => b.2) := by
  refine ZF.of (by decide +kernel) (Nat.le_of_ble_eq_true rfl) ?_
  unfold f_M_reader
  show ZO g 2 y_M_reader zu0 0 [(0, .ref 0), (1, .int a0), (2, .int a1)] [] s _ _
  refine ZO.aload_n (pc := 0) 0 d_M_reader_0 rfl rfl ?_
  refine ZO.iconst (pc := 1) (0 : Int32) d_M_reader_1 (by decide) ?_
  refine ZO.putI (pc := 2) d_M_reader_2 zo_0 zp_M_3 rfl ?_
  refine ZO.ltS (fun s1 => ?_)
  refine ZO.iload_n (pc := 5) 1 d_M_reader_5 rfl rfl ?_
  refine ZO.tSB (pc := 6) (As := [.int a0]) (rest := []) d_M_reader_6 zc_M_194 (by decide) rfl rfl (Nat.le_of_ble_eq_true rfl) (ok_M_isTable g a0 s1) ?_
  refine ZO.ifb_eq (pc := 9) 29 d_M_reader_9 (by decide) rfl (fun h2 => ?_) (fun h2 => ?_)
  · refine ZO.aload_n (pc := 12) 0 d_M_reader_12 rfl rfl ?_
    refine ZO.iload_n (pc := 13) 2 d_M_reader_13 rfl rfl ?_
    refine ZO.tVB (pc := 14) (As := [.int a1]) (rest := []) d_M_reader_14 zc_M_239 (by decide) zo_0 rfl rfl rfl (Nat.le_of_ble_eq_true rfl) (ok_M_areBooks g a1 s1) ?_
    refine ZO.ifb_eq (pc := 17) 29 d_M_reader_17 (by decide) rfl (fun h3 => ?_) (fun h3 => ?_)
    · refine ZO.aload_n (pc := 20) 0 d_M_reader_20 rfl rfl ?_
      refine ZO.getI (pc := 21) d_M_reader_21 zo_0 zf_M_23 rfl ?_
      refine ZO.bipush (pc := 24) (6 : Int32) d_M_reader_24 (by decide) ?_
      refine ZO.icmp_ne (pc := 26) 31 d_M_reader_26 (by decide) rfl (fun h4 => ?_) (fun h4 => ?_)
      · refine ZO.iconst (pc := 29) (-1 : Int32) d_M_reader_29 (by decide) ?_
        exact ZO.iret (pc := 30)  d_M_reader_30 rfl rfl rfl
      · refine ZO.aload_n (pc := 31) 0 d_M_reader_31 rfl rfl ?_
        refine ZO.getA (pc := 32) 110 d_M_reader_32 zo_0 zf_M_257 rfl rfl ?_
        refine ZO.aload_n (pc := 35) 0 d_M_reader_35 rfl rfl ?_
        refine ZO.getI (pc := 36) d_M_reader_36 zo_0 zf_M_23 rfl ?_
        refine ZO.iload_n (pc := 39) 1 d_M_reader_39 rfl rfl ?_
        refine ZO.rgd (fun h5 => ?_)
        refine ZO.iast (pc := 40) d_M_reader_40 za_110 h5 ?_
        refine ZO.ltS (fun s6 => ?_)
        refine ZO.aload_n (pc := 41) 0 d_M_reader_41 rfl rfl ?_
        refine ZO.getA (pc := 42) 111 d_M_reader_42 zo_0 zf_M_260 rfl rfl ?_
        refine ZO.aload_n (pc := 45) 0 d_M_reader_45 rfl rfl ?_
        refine ZO.getI (pc := 46) d_M_reader_46 zo_0 zf_M_23 rfl ?_
        refine ZO.iload_n (pc := 49) 1 d_M_reader_49 rfl rfl ?_
        refine ZO.rgd (fun h7 => ?_)
        refine ZO.iast (pc := 50) d_M_reader_50 za_111 h7 ?_
        refine ZO.ltS (fun s8 => ?_)
        refine ZO.aload_n (pc := 51) 0 d_M_reader_51 rfl rfl ?_
        refine ZO.getA (pc := 52) 112 d_M_reader_52 zo_0 zf_M_263 rfl rfl ?_
        refine ZO.aload_n (pc := 55) 0 d_M_reader_55 rfl rfl ?_
        refine ZO.getI (pc := 56) d_M_reader_56 zo_0 zf_M_23 rfl ?_
        refine ZO.iload_n (pc := 59) 2 d_M_reader_59 rfl rfl ?_
        refine ZO.rgd (fun h9 => ?_)
        refine ZO.iast (pc := 60) d_M_reader_60 za_112 h9 ?_
        refine ZO.ltS (fun s10 => ?_)
        refine ZO.aload_n (pc := 61) 0 d_M_reader_61 rfl rfl ?_
        refine ZO.getA (pc := 62) 113 d_M_reader_62 zo_0 zf_M_26 rfl rfl ?_
        refine ZO.aload_n (pc := 65) 0 d_M_reader_65 rfl rfl ?_
        refine ZO.getI (pc := 66) d_M_reader_66 zo_0 zf_M_23 rfl ?_
        refine ZO.iconst (pc := 69) (0 : Int32) d_M_reader_69 (by decide) ?_
        refine ZO.rgd (fun h11 => ?_)
        refine ZO.iast (pc := 70) d_M_reader_70 za_113 h11 ?_
        refine ZO.ltS (fun s12 => ?_)
        refine ZO.aload_n (pc := 71) 0 d_M_reader_71 rfl rfl ?_
        refine ZO.dup (pc := 72) d_M_reader_72 rfl ?_
        refine ZO.getI (pc := 73) d_M_reader_73 zo_0 zf_M_23 rfl ?_
        refine ZO.iconst (pc := 76) (1 : Int32) d_M_reader_76 (by decide) ?_
        refine ZO.iadd (pc := 77) d_M_reader_77 ?_
        refine ZO.putI (pc := 78) d_M_reader_78 zo_0 zp_M_23 rfl ?_
        refine ZO.ltS (fun s13 => ?_)
        refine ZO.aload_n (pc := 81) 0 d_M_reader_81 rfl rfl ?_
        refine ZO.getI (pc := 82) d_M_reader_82 zo_0 zf_M_23 rfl ?_
        refine ZO.iconst (pc := 85) (1 : Int32) d_M_reader_85 (by decide) ?_
        refine ZO.isub (pc := 86) d_M_reader_86 ?_
        exact ZO.iret (pc := 87)  d_M_reader_87 rfl rfl rfl
    · refine ZO.iconst (pc := 29) (-1 : Int32) d_M_reader_29 (by decide) ?_
      exact ZO.iret (pc := 30)  d_M_reader_30 rfl rfl rfl
  · refine ZO.iconst (pc := 29) (-1 : Int32) d_M_reader_29 (by decide) ?_
    exact ZO.iret (pc := 30)  d_M_reader_30 rfl rfl rfl
def f_M_sit (a0 : Int32) (a1 : Int32) (s : ZSt) : Option (Int32 × ZSt) :=
  lt (si s 0 0 (0 : Int32)) (fun s1 =>
  (if (f_M_isReader a0 s1) = true then
  (if (f_M_isTable a1) = true then
    gd (inb a0 6) (
      lt (ai s1 110 a0) (fun v5 =>
      lt (sai s1 110 a0 a1) (fun s6 =>
      some (v5, s6))))
  else some ((-1 : Int32), s1))
else some ((-1 : Int32), s1)))
set_option maxHeartbeats 4000000 in
set_option maxRecDepth 20000 in
theorem ok_M_sit (g : ZG) (a0 : Int32) (a1 : Int32) (s : ZSt) : ZF g 2 y_M_sit [.ref 0, .int a0, .int a1] s (f_M_sit a0 a1 s) (fun b => some (.int b.1)) (fun b => b.2) := by
  refine ZF.of (by decide +kernel) (Nat.le_of_ble_eq_true rfl) ?_
  unfold f_M_sit
  show ZO g 2 y_M_sit zu0 0 [(0, .ref 0), (1, .int a0), (2, .int a1)] [] s _ _
  refine ZO.aload_n (pc := 0) 0 d_M_sit_0 rfl rfl ?_
  refine ZO.iconst (pc := 1) (0 : Int32) d_M_sit_1 (by decide) ?_
  refine ZO.putI (pc := 2) d_M_sit_2 zo_0 zp_M_3 rfl ?_
  refine ZO.ltS (fun s1 => ?_)
  refine ZO.aload_n (pc := 5) 0 d_M_sit_5 rfl rfl ?_
  refine ZO.iload_n (pc := 6) 1 d_M_sit_6 rfl rfl ?_
  refine ZO.tVB (pc := 7) (As := [.int a0]) (rest := []) d_M_sit_7 zc_M_266 (by decide) zo_0 rfl rfl rfl (Nat.le_of_ble_eq_true rfl) (ok_M_isReader g a0 s1) ?_
  refine ZO.ifb_eq (pc := 10) 20 d_M_sit_10 (by decide) rfl (fun h2 => ?_) (fun h2 => ?_)
  · refine ZO.iload_n (pc := 13) 2 d_M_sit_13 rfl rfl ?_
    refine ZO.tSB (pc := 14) (As := [.int a1]) (rest := []) d_M_sit_14 zc_M_194 (by decide) rfl rfl (Nat.le_of_ble_eq_true rfl) (ok_M_isTable g a1 s1) ?_
    refine ZO.ifb_ne (pc := 17) 22 d_M_sit_17 (by decide) rfl (fun h3 => ?_) (fun h3 => ?_)
    · refine ZO.aload_n (pc := 22) 0 d_M_sit_22 rfl rfl ?_
      refine ZO.getA (pc := 23) 110 d_M_sit_23 zo_0 zf_M_257 rfl rfl ?_
      refine ZO.iload_n (pc := 26) 1 d_M_sit_26 rfl rfl ?_
      refine ZO.rgd (fun h4 => ?_)
      refine ZO.iald (pc := 27) d_M_sit_27 za_110 h4 ?_
      refine ZO.ltI (fun v5 => ?_)
      refine ZO.istore_n (pc := 28) (v := v5) (L' := [(0, .ref 0), (1, .int a0), (2, .int a1), (3, .int v5)]) [1, 2, 3, 0] d_M_sit_28 rfl (by decide) rfl ?_
      refine ZO.aload_n (pc := 29) 0 d_M_sit_29 rfl rfl ?_
      refine ZO.getA (pc := 30) 110 d_M_sit_30 zo_0 zf_M_257 rfl rfl ?_
      refine ZO.iload_n (pc := 33) 1 d_M_sit_33 rfl rfl ?_
      refine ZO.iload_n (pc := 34) 2 d_M_sit_34 rfl rfl ?_
      refine ZO.iast (pc := 35) d_M_sit_35 za_110 h4 ?_
      refine ZO.ltS (fun s6 => ?_)
      refine ZO.iload_n (pc := 36) 3 d_M_sit_36 rfl rfl ?_
      exact ZO.iret (pc := 37)  d_M_sit_37 rfl rfl rfl
    · refine ZO.iconst (pc := 20) (-1 : Int32) d_M_sit_20 (by decide) ?_
      exact ZO.iret (pc := 21)  d_M_sit_21 rfl rfl rfl
  · refine ZO.iconst (pc := 20) (-1 : Int32) d_M_sit_20 (by decide) ?_
    exact ZO.iret (pc := 21)  d_M_sit_21 rfl rfl rfl
def f_M_hasRead (n : Nat) (a0 : Int32) (a1 : Int32) (s : ZSt) : Option (Int32 × ZSt) :=
  gd (inb a0 6) (
  lt (sai s 113 a0 ((ai s 113 a0) ||| (shI (1 : Int32) a1))) (fun s2 =>
  lt (ai s2 110 a0) (fun v3 =>
  gd (inb v3 3) (
  bn (f_M_settled n v3 (ai s2 108 v3) s2) (fun p5 =>
  lt (sai p5.2 108 v3 p5.1) (fun s6 =>
  bn (f_M_readBy n a1 s6) (fun p7 =>
  some (p7, s6))))))))
set_option maxHeartbeats 4000000 in
set_option maxRecDepth 20000 in
theorem ok_M_hasRead (g : ZG) (n : Nat) (a0 : Int32) (a1 : Int32) (s : ZSt) : ZF g 6 y_M_hasRead [.ref 0, .int a0, .int a1] s (f_M_hasRead n a0 a1 s) (fun b => some (.int b.1)) (fun b => b.2) := by
  refine ZF.of (by decide +kernel) (Nat.le_of_ble_eq_true rfl) ?_
  unfold f_M_hasRead
  show ZO g 6 y_M_hasRead zu0 0 [(0, .ref 0), (1, .int a0), (2, .int a1)] [] s _ _
  refine ZO.aload_n (pc := 0) 0 d_M_hasRead_0 rfl rfl ?_
  refine ZO.getA (pc := 1) 113 d_M_hasRead_1 zo_0 zf_M_26 rfl rfl ?_
  refine ZO.iload_n (pc := 4) 1 d_M_hasRead_4 rfl rfl ?_
  refine ZO.dup2 (pc := 5) d_M_hasRead_5 rfl rfl ?_
  refine ZO.rgd (fun h1 => ?_)
  refine ZO.iald (pc := 6) d_M_hasRead_6 za_113 h1 ?_
  refine ZO.iconst (pc := 7) (1 : Int32) d_M_hasRead_7 (by decide) ?_
  refine ZO.iload_n (pc := 8) 2 d_M_hasRead_8 rfl rfl ?_
  refine ZO.ishl (pc := 9) d_M_hasRead_9 ?_
  refine ZO.ior (pc := 10) d_M_hasRead_10 ?_
  refine ZO.iast (pc := 11) d_M_hasRead_11 za_113 h1 ?_
  refine ZO.ltS (fun s2 => ?_)
  refine ZO.aload_n (pc := 12) 0 d_M_hasRead_12 rfl rfl ?_
  refine ZO.getA (pc := 13) 110 d_M_hasRead_13 zo_0 zf_M_257 rfl rfl ?_
  refine ZO.iload_n (pc := 16) 1 d_M_hasRead_16 rfl rfl ?_
  refine ZO.iald (pc := 17) d_M_hasRead_17 za_110 h1 ?_
  refine ZO.ltI (fun v3 => ?_)
  refine ZO.istore_n (pc := 18) (v := v3) (L' := [(0, .ref 0), (1, .int a0), (2, .int a1), (3, .int v3)]) [1, 2, 3, 0] d_M_hasRead_18 rfl (by decide) rfl ?_
  refine ZO.aload_n (pc := 19) 0 d_M_hasRead_19 rfl rfl ?_
  refine ZO.getA (pc := 20) 108 d_M_hasRead_20 zo_0 zf_M_154 rfl rfl ?_
  refine ZO.iload_n (pc := 23) 3 d_M_hasRead_23 rfl rfl ?_
  refine ZO.aload_n (pc := 24) 0 d_M_hasRead_24 rfl rfl ?_
  refine ZO.iload_n (pc := 25) 3 d_M_hasRead_25 rfl rfl ?_
  refine ZO.aload_n (pc := 26) 0 d_M_hasRead_26 rfl rfl ?_
  refine ZO.getA (pc := 27) 108 d_M_hasRead_27 zo_0 zf_M_154 rfl rfl ?_
  refine ZO.iload_n (pc := 30) 3 d_M_hasRead_30 rfl rfl ?_
  refine ZO.rgd (fun h4 => ?_)
  refine ZO.iald (pc := 31) d_M_hasRead_31 za_108 h4 ?_
  refine ZO.cVI (pc := 32) (As := [.int v3, .int (ai s2 108 v3)]) (rest := [.int v3, .ref 108]) d_M_hasRead_32 zc_M_186 (by decide) zo_0 rfl rfl rfl (Nat.le_of_ble_eq_true rfl) (ok_M_settled g n v3 (ai s2 108 v3) s2) (fun p5 ep5 => ?_)
  refine ZO.iast (pc := 35) d_M_hasRead_35 za_108 h4 ?_
  refine ZO.ltS (fun s6 => ?_)
  refine ZO.aload_n (pc := 36) 0 d_M_hasRead_36 rfl rfl ?_
  refine ZO.iload_n (pc := 37) 2 d_M_hasRead_37 rfl rfl ?_
  refine ZO.cVI (pc := 38) (As := [.int a1]) (rest := []) d_M_hasRead_38 zc_M_138 (by decide) zo_0 rfl rfl rfl (Nat.le_of_ble_eq_true rfl) (ok_M_readBy g n a1 s6) (fun p7 ep7 => ?_)
  exact ZO.iret (pc := 41)  d_M_hasRead_41 rfl rfl rfl
def f_M_read (n : Nat) (a0 : Int32) (a1 : Int32) (s : ZSt) : Option (Int32 × ZSt) :=
  lt (si s 0 0 (0 : Int32)) (fun s1 =>
  (if (f_M_isReader a0 s1) = true then
  (if (f_M_isBook a1 s1) = true then
    gd (inb a0 6) (
      gd (inb (ai s1 110 a0) 3) (
      (if (f_M_has (ai s1 108 (ai s1 110 a0)) a1) = true then
      bn (f_M_hasRead n a0 a1 s1) (fun p7 =>
        some (p7.1, p7.2))
    else some ((-2 : Int32), s1))))
  else some ((-1 : Int32), s1))
else some ((-1 : Int32), s1)))
set_option maxHeartbeats 4000000 in
set_option maxRecDepth 20000 in
theorem ok_M_read (g : ZG) (n : Nat) (a0 : Int32) (a1 : Int32) (s : ZSt) : ZF g 7 y_M_read [.ref 0, .int a0, .int a1] s (f_M_read n a0 a1 s) (fun b => some (.int b.1)) (fun b => b.2) := by
  refine ZF.of (by decide +kernel) (Nat.le_of_ble_eq_true rfl) ?_
  unfold f_M_read
  show ZO g 7 y_M_read zu0 0 [(0, .ref 0), (1, .int a0), (2, .int a1)] [] s _ _
  refine ZO.aload_n (pc := 0) 0 d_M_read_0 rfl rfl ?_
  refine ZO.iconst (pc := 1) (0 : Int32) d_M_read_1 (by decide) ?_
  refine ZO.putI (pc := 2) d_M_read_2 zo_0 zp_M_3 rfl ?_
  refine ZO.ltS (fun s1 => ?_)
  refine ZO.aload_n (pc := 5) 0 d_M_read_5 rfl rfl ?_
  refine ZO.iload_n (pc := 6) 1 d_M_read_6 rfl rfl ?_
  refine ZO.tVB (pc := 7) (As := [.int a0]) (rest := []) d_M_read_7 zc_M_266 (by decide) zo_0 rfl rfl rfl (Nat.le_of_ble_eq_true rfl) (ok_M_isReader g a0 s1) ?_
  refine ZO.ifb_eq (pc := 10) 21 d_M_read_10 (by decide) rfl (fun h2 => ?_) (fun h2 => ?_)
  · refine ZO.aload_n (pc := 13) 0 d_M_read_13 rfl rfl ?_
    refine ZO.iload_n (pc := 14) 2 d_M_read_14 rfl rfl ?_
    refine ZO.tVB (pc := 15) (As := [.int a1]) (rest := []) d_M_read_15 zc_M_189 (by decide) zo_0 rfl rfl rfl (Nat.le_of_ble_eq_true rfl) (ok_M_isBook g a1 s1) ?_
    refine ZO.ifb_ne (pc := 18) 23 d_M_read_18 (by decide) rfl (fun h3 => ?_) (fun h3 => ?_)
    · refine ZO.aload_n (pc := 23) 0 d_M_read_23 rfl rfl ?_
      refine ZO.getA (pc := 24) 108 d_M_read_24 zo_0 zf_M_154 rfl rfl ?_
      refine ZO.aload_n (pc := 27) 0 d_M_read_27 rfl rfl ?_
      refine ZO.getA (pc := 28) 110 d_M_read_28 zo_0 zf_M_257 rfl rfl ?_
      refine ZO.iload_n (pc := 31) 1 d_M_read_31 rfl rfl ?_
      refine ZO.rgd (fun h4 => ?_)
      refine ZO.iald (pc := 32) d_M_read_32 za_110 h4 ?_
      refine ZO.rgd (fun h5 => ?_)
      refine ZO.iald (pc := 33) d_M_read_33 za_108 h5 ?_
      refine ZO.iload_n (pc := 34) 2 d_M_read_34 rfl rfl ?_
      refine ZO.tSB (pc := 35) (As := [.int (ai s1 108 (ai s1 110 a0)), .int a1]) (rest := []) d_M_read_35 zc_M_29 (by decide) rfl rfl (Nat.le_of_ble_eq_true rfl) (ok_M_has g (ai s1 108 (ai s1 110 a0)) a1 s1) ?_
      refine ZO.ifb_eq (pc := 38) 50 d_M_read_38 (by decide) rfl (fun h6 => ?_) (fun h6 => ?_)
      · refine ZO.aload_n (pc := 41) 0 d_M_read_41 rfl rfl ?_
        refine ZO.iload_n (pc := 42) 1 d_M_read_42 rfl rfl ?_
        refine ZO.iload_n (pc := 43) 2 d_M_read_43 rfl rfl ?_
        refine ZO.cVI (pc := 44) (As := [.int a0, .int a1]) (rest := []) d_M_read_44 zc_M_269 (by decide) zo_0 rfl rfl rfl (Nat.le_of_ble_eq_true rfl) (ok_M_hasRead g n a0 a1 s1) (fun p7 ep7 => ?_)
        refine ZO.goto (pc := 47) 52 d_M_read_47 (by decide) ?_
        exact ZO.iret (pc := 52)  d_M_read_52 rfl rfl rfl
      · refine ZO.bipush (pc := 50) (-2 : Int32) d_M_read_50 (by decide) ?_
        exact ZO.iret (pc := 52)  d_M_read_52 rfl rfl rfl
    · refine ZO.iconst (pc := 21) (-1 : Int32) d_M_read_21 (by decide) ?_
      exact ZO.iret (pc := 22)  d_M_read_22 rfl rfl rfl
  · refine ZO.iconst (pc := 21) (-1 : Int32) d_M_read_21 (by decide) ?_
    exact ZO.iret (pc := 22)  d_M_read_22 rfl rfl rfl
def f_M_leftOf (a0 : Int32) (s : ZSt) : Option Int32 :=
  gd (inb a0 6) (
  some ((ai s 112 a0) &&& ((ai s 113 a0) ^^^ (-1 : Int32))))
set_option maxHeartbeats 4000000 in
set_option maxRecDepth 20000 in
theorem ok_M_leftOf (g : ZG) (a0 : Int32) (s : ZSt) : ZF g 0 y_M_leftOf [.ref 0, .int a0] s (f_M_leftOf a0 s) (fun b => some (.int b)) (fun _ => s) := by
  refine ZF.of (by decide +kernel) (Nat.le_of_ble_eq_true rfl) ?_
  unfold f_M_leftOf
  show ZO g 0 y_M_leftOf zu0 0 [(0, .ref 0), (1, .int a0)] [] s _ _
  refine ZO.aload_n (pc := 0) 0 d_M_leftOf_0 rfl rfl ?_
  refine ZO.getA (pc := 1) 112 d_M_leftOf_1 zo_0 zf_M_263 rfl rfl ?_
  refine ZO.iload_n (pc := 4) 1 d_M_leftOf_4 rfl rfl ?_
  refine ZO.rgd (fun h1 => ?_)
  refine ZO.iald (pc := 5) d_M_leftOf_5 za_112 h1 ?_
  refine ZO.aload_n (pc := 6) 0 d_M_leftOf_6 rfl rfl ?_
  refine ZO.getA (pc := 7) 113 d_M_leftOf_7 zo_0 zf_M_26 rfl rfl ?_
  refine ZO.iload_n (pc := 10) 1 d_M_leftOf_10 rfl rfl ?_
  refine ZO.iald (pc := 11) d_M_leftOf_11 za_113 h1 ?_
  refine ZO.iconst (pc := 12) (-1 : Int32) d_M_leftOf_12 (by decide) ?_
  refine ZO.ixor (pc := 13) d_M_leftOf_13 ?_
  refine ZO.iand (pc := 14) d_M_leftOf_14 ?_
  exact ZO.iret (pc := 15)  d_M_leftOf_15 rfl rfl rfl
def f_M_of (a0 : Int32) (a1 : Int32) (s : ZSt) : Option (Int32 × ZSt) :=
  lt (si s 0 0 (0 : Int32)) (fun s1 =>
  (jn (fun (x2 : Unit) =>
    bn (f_M_refuse s1) (fun p3 =>
      some (p3.1, p3.2))) (fun j4 =>
    if (f_M_isReader a0 s1) = true then
  (if (f_M_in a1.toInt64 (0 : Int64) (3 : Int64)) = true then
    (if a1 = 0 then
      gd (inb a0 6) (
        some ((ai s1 110 a0), s1))
    else (if a1 = (1 : Int32) then
        gd (inb a0 6) (
          some ((ai s1 112 a0), s1))
      else (if a1 = (2 : Int32) then
          gd (inb a0 6) (
            some ((ai s1 113 a0), s1))
        else bn (f_M_leftOf a0 s1) (fun p13 =>
            some (p13, s1)))))
  else j4 ())
else j4 ())))
set_option maxHeartbeats 4000000 in
set_option maxRecDepth 20000 in
theorem ok_M_of (g : ZG) (a0 : Int32) (a1 : Int32) (s : ZSt) : ZF g 2 y_M_of [.ref 0, .int a0, .int a1] s (f_M_of a0 a1 s) (fun b => some (.int b.1)) (fun b => b.2) := by
  refine ZF.of (by decide +kernel) (Nat.le_of_ble_eq_true rfl) ?_
  unfold f_M_of
  show ZO g 2 y_M_of zu0 0 [(0, .ref 0), (1, .int a0), (2, .int a1)] [] s _ _
  refine ZO.aload_n (pc := 0) 0 d_M_of_0 rfl rfl ?_
  refine ZO.iconst (pc := 1) (0 : Int32) d_M_of_1 (by decide) ?_
  refine ZO.putI (pc := 2) d_M_of_2 zo_0 zp_M_3 rfl ?_
  refine ZO.ltS (fun s1 => ?_)
  refine ZO.aload_n (pc := 5) 0 d_M_of_5 rfl rfl ?_
  refine ZO.iload_n (pc := 6) 1 d_M_of_6 rfl rfl ?_
  refine ZO.tVB (pc := 7) (As := [.int a0]) (rest := []) d_M_of_7 zc_M_266 (by decide) zo_0 rfl rfl rfl (Nat.le_of_ble_eq_true rfl) (ok_M_isReader g a0 s1) ?_
  refine ZO.rjn (pcJ := 25) (LJ := fun (x2 : Unit) => ([(0, .ref 0)] : List (Nat × Value))) (SJ := fun (x2 : Unit) => ([] : List Value)) (σJ := fun (x2 : Unit) => s1) (fun x2 => ?_) (fun j4 hj4 => ?_)
  · refine ZO.aload_n (pc := 25) 0 d_M_of_25 rfl rfl ?_
    refine ZO.cVI (pc := 26) (As := []) (rest := []) d_M_of_26 zc_M_209 (by decide) zo_0 rfl rfl rfl (Nat.le_of_ble_eq_true rfl) (ok_M_refuse g s1) (fun p3 ep3 => ?_)
    exact ZO.iret (pc := 29)  d_M_of_29 rfl rfl rfl
  · refine ZO.ifb_eq (pc := 10) 25 d_M_of_10 (by decide) rfl (fun h5 => ?_) (fun h5 => ?_)
    · refine ZO.iload_n (pc := 13) 2 d_M_of_13 rfl rfl ?_
      refine ZO.i2l (pc := 14) d_M_of_14 ?_
      refine ZO.lconst (pc := 15) (0 : Int64) d_M_of_15 (by decide) ?_
      refine ZO.ldc2 (pc := 16) (3 : Int64) d_M_of_16 zk_M_202 ?_
      refine ZO.tSB (pc := 19) (As := [.long a1.toInt64, .long (0 : Int64), .long (3 : Int64)]) (rest := []) d_M_of_19 zc_M_17 (by decide) rfl rfl (Nat.le_of_ble_eq_true rfl) (ok_M_in g a1.toInt64 (0 : Int64) (3 : Int64) s1) ?_
      refine ZO.ifb_ne (pc := 22) 30 d_M_of_22 (by decide) rfl (fun h6 => ?_) (fun h6 => ?_)
      · refine ZO.iload_n (pc := 30) 2 d_M_of_30 rfl rfl ?_
        refine ZO.if_ne (pc := 31) 43 d_M_of_31 (by decide) rfl (fun h7 => ?_) (fun h7 => ?_)
        · refine ZO.aload_n (pc := 34) 0 d_M_of_34 rfl rfl ?_
          refine ZO.getA (pc := 35) 110 d_M_of_35 zo_0 zf_M_257 rfl rfl ?_
          refine ZO.iload_n (pc := 38) 1 d_M_of_38 rfl rfl ?_
          refine ZO.rgd (fun h8 => ?_)
          refine ZO.iald (pc := 39) d_M_of_39 za_110 h8 ?_
          refine ZO.goto (pc := 40) 76 d_M_of_40 (by decide) ?_
          exact ZO.iret (pc := 76)  d_M_of_76 rfl rfl rfl
        · refine ZO.iload_n (pc := 43) 2 d_M_of_43 rfl rfl ?_
          refine ZO.iconst (pc := 44) (1 : Int32) d_M_of_44 (by decide) ?_
          refine ZO.icmp_ne (pc := 45) 57 d_M_of_45 (by decide) rfl (fun h9 => ?_) (fun h9 => ?_)
          · refine ZO.aload_n (pc := 48) 0 d_M_of_48 rfl rfl ?_
            refine ZO.getA (pc := 49) 112 d_M_of_49 zo_0 zf_M_263 rfl rfl ?_
            refine ZO.iload_n (pc := 52) 1 d_M_of_52 rfl rfl ?_
            refine ZO.rgd (fun h10 => ?_)
            refine ZO.iald (pc := 53) d_M_of_53 za_112 h10 ?_
            refine ZO.goto (pc := 54) 76 d_M_of_54 (by decide) ?_
            exact ZO.iret (pc := 76)  d_M_of_76 rfl rfl rfl
          · refine ZO.iload_n (pc := 57) 2 d_M_of_57 rfl rfl ?_
            refine ZO.iconst (pc := 58) (2 : Int32) d_M_of_58 (by decide) ?_
            refine ZO.icmp_ne (pc := 59) 71 d_M_of_59 (by decide) rfl (fun h11 => ?_) (fun h11 => ?_)
            · refine ZO.aload_n (pc := 62) 0 d_M_of_62 rfl rfl ?_
              refine ZO.getA (pc := 63) 113 d_M_of_63 zo_0 zf_M_26 rfl rfl ?_
              refine ZO.iload_n (pc := 66) 1 d_M_of_66 rfl rfl ?_
              refine ZO.rgd (fun h12 => ?_)
              refine ZO.iald (pc := 67) d_M_of_67 za_113 h12 ?_
              refine ZO.goto (pc := 68) 76 d_M_of_68 (by decide) ?_
              exact ZO.iret (pc := 76)  d_M_of_76 rfl rfl rfl
            · refine ZO.aload_n (pc := 71) 0 d_M_of_71 rfl rfl ?_
              refine ZO.iload_n (pc := 72) 1 d_M_of_72 rfl rfl ?_
              refine ZO.cVI (pc := 73) (As := [.int a0]) (rest := []) d_M_of_73 zc_M_272 (by decide) zo_0 rfl rfl rfl (Nat.le_of_ble_eq_true rfl) (ok_M_leftOf g a0 s1) (fun p13 ep13 => ?_)
              exact ZO.iret (pc := 76)  d_M_of_76 rfl rfl rfl
      · exact ZO.sub [0] rfl (hj4 ())
    · exact ZO.sub [0] rfl (hj4 ())
def f_M_ruleOf (n : Nat) (a0 : Int32) (s : ZSt) : Option (Int32 × ZSt) :=
  gd (inb a0 6) (
  gd (inb (ai s 110 a0) 3) (
  bn (f_M_works n (24 : Int32) (ai s 108 (ai s 110 a0)) (f_J_bitCount (ai s 113 a0)) (ai s 110 a0) s) (fun p3 =>
  some (p3.1, p3.2))))
set_option maxHeartbeats 4000000 in
set_option maxRecDepth 20000 in
theorem ok_M_ruleOf (g : ZG) (n : Nat) (a0 : Int32) (s : ZSt) : ZF g 3 y_M_ruleOf [.ref 0, .int a0] s (f_M_ruleOf n a0 s) (fun b => some (.int b.1)) (fun b => b.2) := by
  refine ZF.of (by decide +kernel) (Nat.le_of_ble_eq_true rfl) ?_
  unfold f_M_ruleOf
  show ZO g 3 y_M_ruleOf zu0 0 [(0, .ref 0), (1, .int a0)] [] s _ _
  refine ZO.aload_n (pc := 0) 0 d_M_ruleOf_0 rfl rfl ?_
  refine ZO.bipush (pc := 1) (24 : Int32) d_M_ruleOf_1 (by decide) ?_
  refine ZO.aload_n (pc := 3) 0 d_M_ruleOf_3 rfl rfl ?_
  refine ZO.getA (pc := 4) 108 d_M_ruleOf_4 zo_0 zf_M_154 rfl rfl ?_
  refine ZO.aload_n (pc := 7) 0 d_M_ruleOf_7 rfl rfl ?_
  refine ZO.getA (pc := 8) 110 d_M_ruleOf_8 zo_0 zf_M_257 rfl rfl ?_
  refine ZO.iload_n (pc := 11) 1 d_M_ruleOf_11 rfl rfl ?_
  refine ZO.rgd (fun h1 => ?_)
  refine ZO.iald (pc := 12) d_M_ruleOf_12 za_110 h1 ?_
  refine ZO.rgd (fun h2 => ?_)
  refine ZO.iald (pc := 13) d_M_ruleOf_13 za_108 h2 ?_
  refine ZO.aload_n (pc := 14) 0 d_M_ruleOf_14 rfl rfl ?_
  refine ZO.getA (pc := 15) 113 d_M_ruleOf_15 zo_0 zf_M_26 rfl rfl ?_
  refine ZO.iload_n (pc := 18) 1 d_M_ruleOf_18 rfl rfl ?_
  refine ZO.iald (pc := 19) d_M_ruleOf_19 za_113 h1 ?_
  refine ZO.tSI (pc := 20) (As := [.int (ai s 113 a0)]) (rest := [.int (ai s 108 (ai s 110 a0)), .int (24 : Int32), .ref 0]) d_M_ruleOf_20 zc_M_118 (by decide) rfl rfl (Nat.le_of_ble_eq_true rfl) (ok_J_bitCount g (ai s 113 a0) s) ?_
  refine ZO.aload_n (pc := 23) 0 d_M_ruleOf_23 rfl rfl ?_
  refine ZO.getA (pc := 24) 110 d_M_ruleOf_24 zo_0 zf_M_257 rfl rfl ?_
  refine ZO.iload_n (pc := 27) 1 d_M_ruleOf_27 rfl rfl ?_
  refine ZO.iald (pc := 28) d_M_ruleOf_28 za_110 h1 ?_
  refine ZO.cVI (pc := 29) (As := [.int (24 : Int32), .int (ai s 108 (ai s 110 a0)), .int (f_J_bitCount (ai s 113 a0)), .int (ai s 110 a0)]) (rest := []) d_M_ruleOf_29 zc_M_144 (by decide) zo_0 rfl rfl rfl (Nat.le_of_ble_eq_true rfl) (ok_M_works g n (24 : Int32) (ai s 108 (ai s 110 a0)) (f_J_bitCount (ai s 113 a0)) (ai s 110 a0) s) (fun p3 ep3 => ?_)
  exact ZO.iret (pc := 32)  d_M_ruleOf_32 rfl rfl rfl
def f_M_ranks (n : Nat) (s : ZSt) : Option ZSt :=
  lpN (fun j2 (x1 : Int32 × ZSt) =>
  (if (gi x1.2 0 9) ≤ x1.1 then
    lpN (fun j5 (x4 : Int32 × Int32 × ZSt) =>
      (if (gi x4.2.2 0 9) ≤ x4.2.1 then
        some x4.2.2
      else lpN (fun j8 (x7 : Int32 × Int32) =>
          (if (gi x4.2.2 0 9) ≤ x7.2 then
            gd (inb x4.2.1 6) (
              lt (sai x4.2.2 125 x4.2.1 x7.1) (fun s11 =>
              lt (x4.1 ||| (shI (1 : Int32) x7.1)) (fun v12 =>
              lt (x4.2.1 + (1 : Int32)) (fun v13 =>
              j5 (v12, v13, s11)))))
          else (jn (fun (x14 : Int32) =>
                lt (x7.2 + (1 : Int32)) (fun v15 =>
                  j8 (x14, v15))) (fun j16 =>
                jn (fun (x17 : Unit) =>
                j16 x7.1) (fun j18 =>
                if (f_M_has x4.1 x7.2) = true then
              j18 ()
            else (jn (fun (x20 : Unit) =>
                  j16 x7.2) (fun j21 =>
                  if x7.1 < 0 then
                j21 ()
              else gd (inb x7.2 6) (
                  gd (inb x7.1 6) (
                  (if (ai x4.2.2 126 x7.2) ≤ (ai x4.2.2 126 x7.1) then
                  j18 ()
                else j21 ())))))))))) n ((-1 : Int32), (0 : Int32)))) n ((0 : Int32), (0 : Int32), x1.2)
  else bn (f_M_ruleOf n x1.1 x1.2) (fun p26 =>
      gd (inb x1.1 6) (
      lt (sai p26.2 126 x1.1 p26.1) (fun s28 =>
      lt (x1.1 + (1 : Int32)) (fun v29 =>
      j2 (v29, s28))))))) n ((0 : Int32), s)
set_option maxHeartbeats 4000000 in
set_option maxRecDepth 20000 in
theorem ok_M_ranks (g : ZG) (n : Nat) (s : ZSt) : ZF g 4 y_M_ranks [.ref 0] s (f_M_ranks n s) (fun _ => none) (fun b => b) := by
  refine ZF.of (by decide +kernel) (Nat.le_of_ble_eq_true rfl) ?_
  unfold f_M_ranks
  show ZO g 4 y_M_ranks zu0 0 [(0, .ref 0)] [] s _ _
  refine ZO.iconst (pc := 0) (0 : Int32) d_M_ranks_0 (by decide) ?_
  refine ZO.istore_n (pc := 1) (v := (0 : Int32)) (L' := [(0, .ref 0), (1, .int (0 : Int32))]) [1, 0] d_M_ranks_1 rfl (by decide) rfl ?_
  refine ZO.loop (fun (x1 : Int32 × ZSt) => ([(0, .ref 0), (1, .int x1.1)] : List (Nat × Value))) (fun (x1 : Int32 × ZSt) => x1.2) [] (fun j2 x1 hj2 => ?_) rfl rfl rfl
  refine ZO.iload_n (pc := 2) 1 d_M_ranks_2 rfl rfl ?_
  refine ZO.aload_n (pc := 3) 0 d_M_ranks_3 rfl rfl ?_
  refine ZO.getI (pc := 4) d_M_ranks_4 zo_0 zf_M_23 rfl ?_
  refine ZO.icmp_ge (pc := 7) 27 d_M_ranks_7 (by decide) rfl (fun h3 => ?_) (fun h3 => ?_)
  · refine ZO.iconst (pc := 27) (0 : Int32) d_M_ranks_27 (by decide) ?_
    refine ZO.istore_n (pc := 28) (v := (0 : Int32)) (L' := [(0, .ref 0), (1, .int (0 : Int32))]) [1, 0] d_M_ranks_28 rfl (by decide) rfl ?_
    refine ZO.iconst (pc := 29) (0 : Int32) d_M_ranks_29 (by decide) ?_
    refine ZO.istore_n (pc := 30) (v := (0 : Int32)) (L' := [(0, .ref 0), (1, .int (0 : Int32)), (2, .int (0 : Int32))]) [1, 2, 0] d_M_ranks_30 rfl (by decide) rfl ?_
    refine ZO.loop (fun (x4 : Int32 × Int32 × ZSt) => ([(0, .ref 0), (1, .int x4.1), (2, .int x4.2.1)] : List (Nat × Value))) (fun (x4 : Int32 × Int32 × ZSt) => x4.2.2) [] (fun j5 x4 hj5 => ?_) rfl rfl rfl
    refine ZO.iload_n (pc := 31) 2 d_M_ranks_31 rfl rfl ?_
    refine ZO.aload_n (pc := 32) 0 d_M_ranks_32 rfl rfl ?_
    refine ZO.getI (pc := 33) d_M_ranks_33 zo_0 zf_M_23 rfl ?_
    refine ZO.icmp_ge (pc := 36) 114 d_M_ranks_36 (by decide) rfl (fun h6 => ?_) (fun h6 => ?_)
    · exact ZO.vret (pc := 114) d_M_ranks_114 rfl rfl rfl
    · refine ZO.iconst (pc := 39) (-1 : Int32) d_M_ranks_39 (by decide) ?_
      refine ZO.istore_n (pc := 40) (v := (-1 : Int32)) (L' := [(0, .ref 0), (1, .int x4.1), (2, .int x4.2.1), (3, .int (-1 : Int32))]) [1, 2, 3, 0] d_M_ranks_40 rfl (by decide) rfl ?_
      refine ZO.iconst (pc := 41) (0 : Int32) d_M_ranks_41 (by decide) ?_
      refine ZO.istore (pc := 42) (v := (0 : Int32)) (L' := [(0, .ref 0), (1, .int x4.1), (2, .int x4.2.1), (3, .int (-1 : Int32)), (4, .int (0 : Int32))]) [1, 2, 3, 4, 0] d_M_ranks_42 (by decide) rfl ?_
      refine ZO.loop (fun (x7 : Int32 × Int32) => ([(0, .ref 0), (1, .int x4.1), (2, .int x4.2.1), (3, .int x7.1), (4, .int x7.2)] : List (Nat × Value))) (fun (x7 : Int32 × Int32) => x4.2.2) [] (fun j8 x7 hj8 => ?_) rfl rfl rfl
      refine ZO.iload (pc := 44) 4 d_M_ranks_44 rfl ?_
      refine ZO.aload_n (pc := 46) 0 d_M_ranks_46 rfl rfl ?_
      refine ZO.getI (pc := 47) d_M_ranks_47 zo_0 zf_M_23 rfl ?_
      refine ZO.icmp_ge (pc := 50) 95 d_M_ranks_50 (by decide) rfl (fun h9 => ?_) (fun h9 => ?_)
      · refine ZO.aload_n (pc := 95) 0 d_M_ranks_95 rfl rfl ?_
        refine ZO.getA (pc := 96) 125 d_M_ranks_96 zo_0 zf_M_281 rfl rfl ?_
        refine ZO.iload_n (pc := 99) 2 d_M_ranks_99 rfl rfl ?_
        refine ZO.iload_n (pc := 100) 3 d_M_ranks_100 rfl rfl ?_
        refine ZO.rgd (fun h10 => ?_)
        refine ZO.iast (pc := 101) d_M_ranks_101 za_125 h10 ?_
        refine ZO.ltS (fun s11 => ?_)
        refine ZO.iload_n (pc := 102) 1 d_M_ranks_102 rfl rfl ?_
        refine ZO.iconst (pc := 103) (1 : Int32) d_M_ranks_103 (by decide) ?_
        refine ZO.iload_n (pc := 104) 3 d_M_ranks_104 rfl rfl ?_
        refine ZO.ishl (pc := 105) d_M_ranks_105 ?_
        refine ZO.ior (pc := 106) d_M_ranks_106 ?_
        refine ZO.ltI (fun v12 => ?_)
        refine ZO.istore_n (pc := 107) (v := v12) (L' := [(0, .ref 0), (1, .int v12), (2, .int x4.2.1), (3, .int x7.1), (4, .int x7.2)]) [1, 0, 2, 3, 4] d_M_ranks_107 rfl (by decide) rfl ?_
        refine ZO.iincL (pc := 108) (i := 2) (x4.2.1 + (1 : Int32)) (L' := fun v13 => [(0, .ref 0), (1, .int v12), (2, .int v13), (3, .int x7.1), (4, .int x7.2)]) [1, 2, 0, 3, 4] d_M_ranks_108 rfl (by rfl) (by decide) (fun _ => rfl) (fun v13 => ?_)
        refine ZO.goto (pc := 111) 31 d_M_ranks_111 (by decide) ?_
        exact ZO.sub [0, 1, 2] rfl (hj5 (v12, v13, s11))
      · refine ZO.iload_n (pc := 53) 1 d_M_ranks_53 rfl rfl ?_
        refine ZO.iload (pc := 54) 4 d_M_ranks_54 rfl ?_
        refine ZO.tSB (pc := 56) (As := [.int x4.1, .int x7.2]) (rest := []) d_M_ranks_56 zc_M_29 (by decide) rfl rfl (Nat.le_of_ble_eq_true rfl) (ok_M_has g x4.1 x7.2 x4.2.2) ?_
        refine ZO.rjn (pcJ := 88) (LJ := fun (x14 : Int32) => ([(0, .ref 0), (1, .int x4.1), (2, .int x4.2.1), (4, .int x7.2)] : List (Nat × Value))) (SJ := fun (x14 : Int32) => ([.int x14] : List Value)) (σJ := fun (x14 : Int32) => x4.2.2) (fun x14 => ?_) (fun j16 hj16 => ?_)
        · refine ZO.istore_n (pc := 88) (v := x14) (L' := [(0, .ref 0), (1, .int x4.1), (2, .int x4.2.1), (3, .int x14), (4, .int x7.2)]) [1, 2, 3, 0, 4] d_M_ranks_88 rfl (by decide) rfl ?_
          refine ZO.iincL (pc := 89) (i := 4) (x7.2 + (1 : Int32)) (L' := fun v15 => [(0, .ref 0), (1, .int x4.1), (2, .int x4.2.1), (3, .int x14), (4, .int v15)]) [1, 2, 3, 4, 0] d_M_ranks_89 rfl (by rfl) (by decide) (fun _ => rfl) (fun v15 => ?_)
          refine ZO.goto (pc := 92) 44 d_M_ranks_92 (by decide) ?_
          exact hj8 (x14, v15)
        · refine ZO.rjn (pcJ := 87) (LJ := fun (x17 : Unit) => ([(0, .ref 0), (1, .int x4.1), (2, .int x4.2.1), (3, .int x7.1), (4, .int x7.2)] : List (Nat × Value))) (SJ := fun (x17 : Unit) => ([] : List Value)) (σJ := fun (x17 : Unit) => x4.2.2) (fun x17 => ?_) (fun j18 hj18 => ?_)
          · refine ZO.iload_n (pc := 87) 3 d_M_ranks_87 rfl rfl ?_
            exact ZO.sub [0, 1, 2, 4] rfl (hj16 x7.1)
          · refine ZO.ifb_ne (pc := 59) 87 d_M_ranks_59 (by decide) rfl (fun h19 => ?_) (fun h19 => ?_)
            · exact hj18 ()
            · refine ZO.iload_n (pc := 62) 3 d_M_ranks_62 rfl rfl ?_
              refine ZO.rjn (pcJ := 82) (LJ := fun (x20 : Unit) => ([(0, .ref 0), (1, .int x4.1), (2, .int x4.2.1), (4, .int x7.2)] : List (Nat × Value))) (SJ := fun (x20 : Unit) => ([] : List Value)) (σJ := fun (x20 : Unit) => x4.2.2) (fun x20 => ?_) (fun j21 hj21 => ?_)
              · refine ZO.iload (pc := 82) 3 d_M_ranks_82 rfl ?_
                refine ZO.goto (pc := 84) 88 d_M_ranks_84 (by decide) ?_
                exact hj16 x7.2
              · refine ZO.if_lt (pc := 63) 82 d_M_ranks_63 (by decide) rfl (fun h22 => ?_) (fun h22 => ?_)
                · exact ZO.sub [0, 1, 2, 4] rfl (hj21 ())
                · refine ZO.aload_n (pc := 66) 0 d_M_ranks_66 rfl rfl ?_
                  refine ZO.getA (pc := 67) 126 d_M_ranks_67 zo_0 zf_M_275 rfl rfl ?_
                  refine ZO.iload (pc := 70) 4 d_M_ranks_70 rfl ?_
                  refine ZO.rgd (fun h23 => ?_)
                  refine ZO.iald (pc := 72) d_M_ranks_72 za_126 h23 ?_
                  refine ZO.aload_n (pc := 73) 0 d_M_ranks_73 rfl rfl ?_
                  refine ZO.getA (pc := 74) 126 d_M_ranks_74 zo_0 zf_M_275 rfl rfl ?_
                  refine ZO.iload_n (pc := 77) 3 d_M_ranks_77 rfl rfl ?_
                  refine ZO.rgd (fun h24 => ?_)
                  refine ZO.iald (pc := 78) d_M_ranks_78 za_126 h24 ?_
                  refine ZO.icmp_le (pc := 79) 87 d_M_ranks_79 (by decide) rfl (fun h25 => ?_) (fun h25 => ?_)
                  · exact hj18 ()
                  · exact ZO.sub [0, 1, 2, 4] rfl (hj21 ())
  · refine ZO.aload_n (pc := 10) 0 d_M_ranks_10 rfl rfl ?_
    refine ZO.getA (pc := 11) 126 d_M_ranks_11 zo_0 zf_M_275 rfl rfl ?_
    refine ZO.iload_n (pc := 14) 1 d_M_ranks_14 rfl rfl ?_
    refine ZO.aload_n (pc := 15) 0 d_M_ranks_15 rfl rfl ?_
    refine ZO.iload_n (pc := 16) 1 d_M_ranks_16 rfl rfl ?_
    refine ZO.cVI (pc := 17) (As := [.int x1.1]) (rest := [.int x1.1, .ref 126]) d_M_ranks_17 zc_M_278 (by decide) zo_0 rfl rfl rfl (Nat.le_of_ble_eq_true rfl) (ok_M_ruleOf g n x1.1 x1.2) (fun p26 ep26 => ?_)
    refine ZO.rgd (fun h27 => ?_)
    refine ZO.iast (pc := 20) d_M_ranks_20 za_126 h27 ?_
    refine ZO.ltS (fun s28 => ?_)
    refine ZO.iincL (pc := 21) (i := 1) (x1.1 + (1 : Int32)) (L' := fun v29 => [(0, .ref 0), (1, .int v29)]) [1, 0] d_M_ranks_21 rfl (by rfl) (by decide) (fun _ => rfl) (fun v29 => ?_)
    refine ZO.goto (pc := 24) 2 d_M_ranks_24 (by decide) ?_
    exact hj2 (v29, s28)
def f_M_notes (n : Nat) (a0 : Int32) (s : ZSt) : Option ZSt :=
  (jn (fun (x1 : ZSt) =>
    gd (inb (gi x1 0 27) 60) (
      lt (sai x1 128 (gi x1 0 27) a0) (fun s3 =>
      lt (si s3 0 27 ((gi s3 0 27) + (1 : Int32))) (fun s4 =>
      some s4)))) (fun j5 =>
    if (gi s 0 27) = (60 : Int32) then
  lpN (fun j8 (x7 : Int32 × ZSt) =>
    (if (60 : Int32) ≤ x7.1 then
      lt (si x7.2 0 27 ((gi x7.2 0 27) - (1 : Int32))) (fun s10 =>
        j5 s10)
    else gd (inb x7.1 60) (
        gd (inb (x7.1 - (1 : Int32)) 60) (
        lt (sai x7.2 128 (x7.1 - (1 : Int32)) (ai x7.2 128 x7.1)) (fun s13 =>
        lt (x7.1 + (1 : Int32)) (fun v14 =>
        j8 (v14, s13))))))) n ((1 : Int32), s)
else j5 s))
set_option maxHeartbeats 4000000 in
set_option maxRecDepth 20000 in
theorem ok_M_notes (g : ZG) (n : Nat) (a0 : Int32) (s : ZSt) : ZF g 0 y_M_notes [.ref 0, .int a0] s (f_M_notes n a0 s) (fun _ => none) (fun b => b) := by
  refine ZF.of (by decide +kernel) (Nat.le_of_ble_eq_true rfl) ?_
  unfold f_M_notes
  show ZO g 0 y_M_notes zu0 0 [(0, .ref 0), (1, .int a0)] [] s _ _
  refine ZO.aload_n (pc := 0) 0 d_M_notes_0 rfl rfl ?_
  refine ZO.getI (pc := 1) d_M_notes_1 zo_0 zf_M_284 rfl ?_
  refine ZO.bipush (pc := 4) (60 : Int32) d_M_notes_4 (by decide) ?_
  refine ZO.rjn (pcJ := 47) (LJ := fun (x1 : ZSt) => ([(0, .ref 0), (1, .int a0)] : List (Nat × Value))) (SJ := fun (x1 : ZSt) => ([] : List Value)) (σJ := fun (x1 : ZSt) => x1) (fun x1 => ?_) (fun j5 hj5 => ?_)
  · refine ZO.aload_n (pc := 47) 0 d_M_notes_47 rfl rfl ?_
    refine ZO.getA (pc := 48) 128 d_M_notes_48 zo_0 zf_M_287 rfl rfl ?_
    refine ZO.aload_n (pc := 51) 0 d_M_notes_51 rfl rfl ?_
    refine ZO.getI (pc := 52) d_M_notes_52 zo_0 zf_M_284 rfl ?_
    refine ZO.iload_n (pc := 55) 1 d_M_notes_55 rfl rfl ?_
    refine ZO.rgd (fun h2 => ?_)
    refine ZO.iast (pc := 56) d_M_notes_56 za_128 h2 ?_
    refine ZO.ltS (fun s3 => ?_)
    refine ZO.aload_n (pc := 57) 0 d_M_notes_57 rfl rfl ?_
    refine ZO.dup (pc := 58) d_M_notes_58 rfl ?_
    refine ZO.getI (pc := 59) d_M_notes_59 zo_0 zf_M_284 rfl ?_
    refine ZO.iconst (pc := 62) (1 : Int32) d_M_notes_62 (by decide) ?_
    refine ZO.iadd (pc := 63) d_M_notes_63 ?_
    refine ZO.putI (pc := 64) d_M_notes_64 zo_0 zp_M_284 rfl ?_
    refine ZO.ltS (fun s4 => ?_)
    exact ZO.vret (pc := 67) d_M_notes_67 rfl rfl rfl
  · refine ZO.icmp_ne (pc := 6) 47 d_M_notes_6 (by decide) rfl (fun h6 => ?_) (fun h6 => ?_)
    · refine ZO.iconst (pc := 9) (1 : Int32) d_M_notes_9 (by decide) ?_
      refine ZO.istore_n (pc := 10) (v := (1 : Int32)) (L' := [(0, .ref 0), (1, .int a0), (2, .int (1 : Int32))]) [1, 2, 0] d_M_notes_10 rfl (by decide) rfl ?_
      refine ZO.loop (fun (x7 : Int32 × ZSt) => ([(0, .ref 0), (1, .int a0), (2, .int x7.1)] : List (Nat × Value))) (fun (x7 : Int32 × ZSt) => x7.2) [] (fun j8 x7 hj8 => ?_) rfl rfl rfl
      refine ZO.iload_n (pc := 11) 2 d_M_notes_11 rfl rfl ?_
      refine ZO.bipush (pc := 12) (60 : Int32) d_M_notes_12 (by decide) ?_
      refine ZO.icmp_ge (pc := 14) 37 d_M_notes_14 (by decide) rfl (fun h9 => ?_) (fun h9 => ?_)
      · refine ZO.aload_n (pc := 37) 0 d_M_notes_37 rfl rfl ?_
        refine ZO.dup (pc := 38) d_M_notes_38 rfl ?_
        refine ZO.getI (pc := 39) d_M_notes_39 zo_0 zf_M_284 rfl ?_
        refine ZO.iconst (pc := 42) (1 : Int32) d_M_notes_42 (by decide) ?_
        refine ZO.isub (pc := 43) d_M_notes_43 ?_
        refine ZO.putI (pc := 44) d_M_notes_44 zo_0 zp_M_284 rfl ?_
        refine ZO.ltS (fun s10 => ?_)
        exact ZO.sub [0, 1] rfl (hj5 s10)
      · refine ZO.aload_n (pc := 17) 0 d_M_notes_17 rfl rfl ?_
        refine ZO.getA (pc := 18) 128 d_M_notes_18 zo_0 zf_M_287 rfl rfl ?_
        refine ZO.iload_n (pc := 21) 2 d_M_notes_21 rfl rfl ?_
        refine ZO.iconst (pc := 22) (1 : Int32) d_M_notes_22 (by decide) ?_
        refine ZO.isub (pc := 23) d_M_notes_23 ?_
        refine ZO.aload_n (pc := 24) 0 d_M_notes_24 rfl rfl ?_
        refine ZO.getA (pc := 25) 128 d_M_notes_25 zo_0 zf_M_287 rfl rfl ?_
        refine ZO.iload_n (pc := 28) 2 d_M_notes_28 rfl rfl ?_
        refine ZO.rgd (fun h11 => ?_)
        refine ZO.iald (pc := 29) d_M_notes_29 za_128 h11 ?_
        refine ZO.rgd (fun h12 => ?_)
        refine ZO.iast (pc := 30) d_M_notes_30 za_128 h12 ?_
        refine ZO.ltS (fun s13 => ?_)
        refine ZO.iincL (pc := 31) (i := 2) (x7.1 + (1 : Int32)) (L' := fun v14 => [(0, .ref 0), (1, .int a0), (2, .int v14)]) [1, 2, 0] d_M_notes_31 rfl (by rfl) (by decide) (fun _ => rfl) (fun v14 => ?_)
        refine ZO.goto (pc := 34) 11 d_M_notes_34 (by decide) ?_
        exact hj8 (v14, s13)
    · exact hj5 s
def f_M_firstOpen (n : Nat) (a0 : Int32) (a1 : Int32) (s : ZSt) : Option (Int32 × ZSt) :=
  lpN (fun j2 (x1 : Int32 × ZSt) =>
  (if (gi x1.2 0 3) ≤ x1.1 then
    some ((-1 : Int32), x1.2)
  else (jn (fun (x4 : ZSt) =>
        lt (x1.1 + (1 : Int32)) (fun v5 =>
          j2 (v5, x4))) (fun j6 =>
        if (f_M_has a0 x1.1) = true then
      bn (f_M_whyNot n (((20 : Int32) * a1) + x1.1) x1.2) (fun p8 =>
        (if p8.1 = 0 then
        some (x1.1, p8.2)
      else j6 p8.2))
    else j6 x1.2)))) n ((0 : Int32), s)
set_option maxHeartbeats 4000000 in
set_option maxRecDepth 20000 in
theorem ok_M_firstOpen (g : ZG) (n : Nat) (a0 : Int32) (a1 : Int32) (s : ZSt) : ZF g 7 y_M_firstOpen [.ref 0, .int a0, .int a1] s (f_M_firstOpen n a0 a1 s) (fun b => some (.int b.1)) (fun b => b.2) := by
  refine ZF.of (by decide +kernel) (Nat.le_of_ble_eq_true rfl) ?_
  unfold f_M_firstOpen
  show ZO g 7 y_M_firstOpen zu0 0 [(0, .ref 0), (1, .int a0), (2, .int a1)] [] s _ _
  refine ZO.iconst (pc := 0) (0 : Int32) d_M_firstOpen_0 (by decide) ?_
  refine ZO.istore_n (pc := 1) (v := (0 : Int32)) (L' := [(0, .ref 0), (1, .int a0), (2, .int a1), (3, .int (0 : Int32))]) [1, 2, 3, 0] d_M_firstOpen_1 rfl (by decide) rfl ?_
  refine ZO.loop (fun (x1 : Int32 × ZSt) => ([(0, .ref 0), (1, .int a0), (2, .int a1), (3, .int x1.1)] : List (Nat × Value))) (fun (x1 : Int32 × ZSt) => x1.2) [] (fun j2 x1 hj2 => ?_) rfl rfl rfl
  refine ZO.iload_n (pc := 2) 3 d_M_firstOpen_2 rfl rfl ?_
  refine ZO.aload_n (pc := 3) 0 d_M_firstOpen_3 rfl rfl ?_
  refine ZO.getI (pc := 4) d_M_firstOpen_4 zo_0 zf_M_14 rfl ?_
  refine ZO.icmp_ge (pc := 7) 39 d_M_firstOpen_7 (by decide) rfl (fun h3 => ?_) (fun h3 => ?_)
  · refine ZO.iconst (pc := 39) (-1 : Int32) d_M_firstOpen_39 (by decide) ?_
    exact ZO.iret (pc := 40)  d_M_firstOpen_40 rfl rfl rfl
  · refine ZO.iload_n (pc := 10) 1 d_M_firstOpen_10 rfl rfl ?_
    refine ZO.iload_n (pc := 11) 3 d_M_firstOpen_11 rfl rfl ?_
    refine ZO.tSB (pc := 12) (As := [.int a0, .int x1.1]) (rest := []) d_M_firstOpen_12 zc_M_29 (by decide) rfl rfl (Nat.le_of_ble_eq_true rfl) (ok_M_has g a0 x1.1 x1.2) ?_
    refine ZO.rjn (pcJ := 33) (LJ := fun (x4 : ZSt) => ([(0, .ref 0), (1, .int a0), (2, .int a1), (3, .int x1.1)] : List (Nat × Value))) (SJ := fun (x4 : ZSt) => ([] : List Value)) (σJ := fun (x4 : ZSt) => x4) (fun x4 => ?_) (fun j6 hj6 => ?_)
    · refine ZO.iincL (pc := 33) (i := 3) (x1.1 + (1 : Int32)) (L' := fun v5 => [(0, .ref 0), (1, .int a0), (2, .int a1), (3, .int v5)]) [1, 2, 3, 0] d_M_firstOpen_33 rfl (by rfl) (by decide) (fun _ => rfl) (fun v5 => ?_)
      refine ZO.goto (pc := 36) 2 d_M_firstOpen_36 (by decide) ?_
      exact hj2 (v5, x4)
    · refine ZO.ifb_eq (pc := 15) 33 d_M_firstOpen_15 (by decide) rfl (fun h7 => ?_) (fun h7 => ?_)
      · refine ZO.aload_n (pc := 18) 0 d_M_firstOpen_18 rfl rfl ?_
        refine ZO.bipush (pc := 19) (20 : Int32) d_M_firstOpen_19 (by decide) ?_
        refine ZO.iload_n (pc := 21) 2 d_M_firstOpen_21 rfl rfl ?_
        refine ZO.imul (pc := 22) d_M_firstOpen_22 ?_
        refine ZO.iload_n (pc := 23) 3 d_M_firstOpen_23 rfl rfl ?_
        refine ZO.iadd (pc := 24) d_M_firstOpen_24 ?_
        refine ZO.cVI (pc := 25) (As := [.int (((20 : Int32) * a1) + x1.1)]) (rest := []) d_M_firstOpen_25 zc_M_226 (by decide) zo_0 rfl rfl rfl (Nat.le_of_ble_eq_true rfl) (ok_M_whyNot g n (((20 : Int32) * a1) + x1.1) x1.2) (fun p8 ep8 => ?_)
        refine ZO.if_ne (pc := 28) 33 d_M_firstOpen_28 (by decide) rfl (fun h9 => ?_) (fun h9 => ?_)
        · refine ZO.iload_n (pc := 31) 3 d_M_firstOpen_31 rfl rfl ?_
          exact ZO.iret (pc := 32)  d_M_firstOpen_32 rfl rfl rfl
        · exact hj6 p8.2
      · exact hj6 x1.2
def f_M_helps (n : Nat) (a0 : Int32) (a1 : Int32) (a2 : Int32) (s : ZSt) : Option (Bool × ZSt) :=
  bn (f_M_whyNot n a0 s) (fun p1 =>
  (if 0 ≤ p1.1 then
  bn (f_M_putsBy n p1.2) (fun p3 =>
    bn (f_M_makes n a0 p3) (fun p4 =>
    bn (f_M_firstOpen n a1 a2 p4.2) (fun p5 =>
    (lt ((if p5.1 < 0 then
    false
  else true) : Bool) (fun x6 =>
      bn (f_M_putsBack n p5.2) (fun p7 =>
        some (x6, p7)))))))
else some (false, p1.2)))
set_option maxHeartbeats 4000000 in
set_option maxRecDepth 20000 in
theorem ok_M_helps (g : ZG) (n : Nat) (a0 : Int32) (a1 : Int32) (a2 : Int32) (s : ZSt) : ZF g 8 y_M_helps [.ref 0, .int a0, .int a1, .int a2] s (f_M_helps n a0 a1 a2 s) (fun b => some (.int (b2i b.1))) (fun b => b.2) := by
  refine ZF.of (by decide +kernel) (Nat.le_of_ble_eq_true rfl) ?_
  unfold f_M_helps
  show ZO g 8 y_M_helps zu0 0 [(0, .ref 0), (1, .int a0), (2, .int a1), (3, .int a2)] [] s _ _
  refine ZO.aload_n (pc := 0) 0 d_M_helps_0 rfl rfl ?_
  refine ZO.iload_n (pc := 1) 1 d_M_helps_1 rfl rfl ?_
  refine ZO.cVI (pc := 2) (As := [.int a0]) (rest := []) d_M_helps_2 zc_M_226 (by decide) zo_0 rfl rfl rfl (Nat.le_of_ble_eq_true rfl) (ok_M_whyNot g n a0 s) (fun p1 ep1 => ?_)
  refine ZO.if_ge (pc := 5) 10 d_M_helps_5 (by decide) rfl (fun h2 => ?_) (fun h2 => ?_)
  · refine ZO.aload_n (pc := 10) 0 d_M_helps_10 rfl rfl ?_
    refine ZO.cVV (pc := 11) (As := []) (rest := []) d_M_helps_11 zc_M_250 (by decide) zo_0 rfl rfl rfl (Nat.le_of_ble_eq_true rfl) (ok_M_putsBy g n p1.2) (fun p3 ep3 => ?_)
    refine ZO.aload_n (pc := 14) 0 d_M_helps_14 rfl rfl ?_
    refine ZO.iload_n (pc := 15) 1 d_M_helps_15 rfl rfl ?_
    refine ZO.cVI (pc := 16) (As := [.int a0]) (rest := []) d_M_helps_16 zc_M_229 (by decide) zo_0 rfl rfl rfl (Nat.le_of_ble_eq_true rfl) (ok_M_makes g n a0 p3) (fun p4 ep4 => ?_)
    refine ZO.pop (pc := 19) d_M_helps_19 rfl ?_
    refine ZO.aload_n (pc := 20) 0 d_M_helps_20 rfl rfl ?_
    refine ZO.iload_n (pc := 21) 2 d_M_helps_21 rfl rfl ?_
    refine ZO.iload_n (pc := 22) 3 d_M_helps_22 rfl rfl ?_
    refine ZO.cVI (pc := 23) (As := [.int a1, .int a2]) (rest := []) d_M_helps_23 zc_M_290 (by decide) zo_0 rfl rfl rfl (Nat.le_of_ble_eq_true rfl) (ok_M_firstOpen g n a1 a2 p4.2) (fun p5 ep5 => ?_)
    refine ZO.phi (pcJ := 34) (LJ := fun (x6 : Bool) => ([(0, .ref 0)] : List (Nat × Value))) (SJ := fun (x6 : Bool) => ([.int (b2i x6)] : List Value)) (fun x6 => ?_) (fun t hj8 => ?_)
    · refine ZO.istore (pc := 34) (v := (b2i x6)) (L' := [(0, .ref 0), (4, .int (b2i x6))]) [1, 0] d_M_helps_34 (by decide) rfl ?_
      refine ZO.aload_n (pc := 36) 0 d_M_helps_36 rfl rfl ?_
      refine ZO.cVV (pc := 37) (As := []) (rest := []) d_M_helps_37 zc_M_254 (by decide) zo_0 rfl rfl rfl (Nat.le_of_ble_eq_true rfl) (ok_M_putsBack g n p5.2) (fun p7 ep7 => ?_)
      refine ZO.iload (pc := 40) 1 d_M_helps_40 rfl ?_
      exact ZO.zret (pc := 42) (v := x6) d_M_helps_42 rfl rfl rfl
    · refine ZO.if_lt (pc := 26) 33 d_M_helps_26 (by decide) z_ite (fun h9 => ?_) (fun h9 => ?_)
      · refine ZO.iconst (pc := 33) (0 : Int32) d_M_helps_33 (by decide) ?_
        exact ZO.sub [0] rfl (hj8 false (by rw [if_pos h9]))
      · refine ZO.iconst (pc := 29) (1 : Int32) d_M_helps_29 (by decide) ?_
        refine ZO.goto (pc := 30) 34 d_M_helps_30 (by decide) ?_
        exact ZO.sub [0] rfl (hj8 true (by rw [if_neg h9]))
  · refine ZO.iconst (pc := 8) (0 : Int32) d_M_helps_8 (by decide) ?_
    exact ZO.zret (pc := 9) (v := false) d_M_helps_9 rfl rfl rfl
def f_J_numberOfTrailingZeros (a0 : Int32) : Int32 :=
  lt ((a0 ^^^ (-1 : Int32)) &&& (a0 - (1 : Int32))) (fun v1 =>
  (if 0 < v1 then
  (if v1 ≤ (65536 : Int32) then
    (if v1 ≤ (256 : Int32) then
      (if v1 ≤ (16 : Int32) then
        (if v1 ≤ (4 : Int32) then
          ((1 : Int32) + (usrI v1 (1 : Int32)))
        else lt (usrI v1 (2 : Int32)) (fun v7 =>
            (((1 : Int32) + (2 : Int32)) + (usrI v7 (1 : Int32)))))
      else lt (usrI v1 (4 : Int32)) (fun v8 =>
          (if v8 ≤ (4 : Int32) then
          (((1 : Int32) + (4 : Int32)) + (usrI v8 (1 : Int32)))
        else lt (usrI v8 (2 : Int32)) (fun v10 =>
            ((((1 : Int32) + (4 : Int32)) + (2 : Int32)) + (usrI v10 (1 : Int32)))))))
    else lt (usrI v1 (8 : Int32)) (fun v11 =>
        (if v11 ≤ (16 : Int32) then
        (if v11 ≤ (4 : Int32) then
          (((1 : Int32) + (8 : Int32)) + (usrI v11 (1 : Int32)))
        else lt (usrI v11 (2 : Int32)) (fun v14 =>
            ((((1 : Int32) + (8 : Int32)) + (2 : Int32)) + (usrI v14 (1 : Int32)))))
      else lt (usrI v11 (4 : Int32)) (fun v15 =>
          (if v15 ≤ (4 : Int32) then
          ((((1 : Int32) + (8 : Int32)) + (4 : Int32)) + (usrI v15 (1 : Int32)))
        else lt (usrI v15 (2 : Int32)) (fun v17 =>
            (((((1 : Int32) + (8 : Int32)) + (4 : Int32)) + (2 : Int32)) + (usrI v17 (1 : Int32)))))))))
  else lt (usrI v1 (16 : Int32)) (fun v18 =>
      (if v18 ≤ (256 : Int32) then
      (if v18 ≤ (16 : Int32) then
        (if v18 ≤ (4 : Int32) then
          (((1 : Int32) + (16 : Int32)) + (usrI v18 (1 : Int32)))
        else lt (usrI v18 (2 : Int32)) (fun v22 =>
            ((((1 : Int32) + (16 : Int32)) + (2 : Int32)) + (usrI v22 (1 : Int32)))))
      else lt (usrI v18 (4 : Int32)) (fun v23 =>
          (if v23 ≤ (4 : Int32) then
          ((((1 : Int32) + (16 : Int32)) + (4 : Int32)) + (usrI v23 (1 : Int32)))
        else lt (usrI v23 (2 : Int32)) (fun v25 =>
            (((((1 : Int32) + (16 : Int32)) + (4 : Int32)) + (2 : Int32)) + (usrI v25 (1 : Int32)))))))
    else lt (usrI v18 (8 : Int32)) (fun v26 =>
        (if v26 ≤ (16 : Int32) then
        (if v26 ≤ (4 : Int32) then
          ((((1 : Int32) + (16 : Int32)) + (8 : Int32)) + (usrI v26 (1 : Int32)))
        else lt (usrI v26 (2 : Int32)) (fun v29 =>
            (((((1 : Int32) + (16 : Int32)) + (8 : Int32)) + (2 : Int32)) + (usrI v29 (1 : Int32)))))
      else lt (usrI v26 (4 : Int32)) (fun v30 =>
          (if v30 ≤ (4 : Int32) then
          (((((1 : Int32) + (16 : Int32)) + (8 : Int32)) + (4 : Int32)) + (usrI v30 (1 : Int32)))
        else lt (usrI v30 (2 : Int32)) (fun v32 =>
            ((((((1 : Int32) + (16 : Int32)) + (8 : Int32)) + (4 : Int32)) + (2 : Int32)) + (usrI v32 (1 : Int32)))))))))))
else (v1 &&& (32 : Int32))))
set_option maxHeartbeats 4000000 in
set_option maxRecDepth 20000 in
theorem ok_J_numberOfTrailingZeros (g : ZG) (a0 : Int32) (s : ZSt) : ZF g 0 y_J_numberOfTrailingZeros [.int a0] s (some (f_J_numberOfTrailingZeros a0)) (fun b => some (.int b)) (fun _ => s) := by
  refine ZF.of (by decide +kernel) (Nat.le_of_ble_eq_true rfl) ?_
  unfold f_J_numberOfTrailingZeros
  show ZO g 0 y_J_numberOfTrailingZeros zu0 0 [(0, .int a0)] [] s _ _
  refine ZO.iload_n (pc := 0) 0 d_J_numberOfTrailingZeros_0 rfl rfl ?_
  refine ZO.iconst (pc := 1) (-1 : Int32) d_J_numberOfTrailingZeros_1 (by decide) ?_
  refine ZO.ixor (pc := 2) d_J_numberOfTrailingZeros_2 ?_
  refine ZO.iload_n (pc := 3) 0 d_J_numberOfTrailingZeros_3 rfl rfl ?_
  refine ZO.iconst (pc := 4) (1 : Int32) d_J_numberOfTrailingZeros_4 (by decide) ?_
  refine ZO.isub (pc := 5) d_J_numberOfTrailingZeros_5 ?_
  refine ZO.iand (pc := 6) d_J_numberOfTrailingZeros_6 ?_
  refine ZO.eqT (lt_some _ _) ?_
  refine ZO.ltI (fun v1 => ?_)
  refine ZO.istore_n (pc := 7) (v := v1) (L' := [(0, .int v1)]) [0] d_J_numberOfTrailingZeros_7 rfl (by decide) rfl ?_
  refine ZO.iload_n (pc := 8) 0 d_J_numberOfTrailingZeros_8 rfl rfl ?_
  refine ZO.if_gt (pc := 9) 17 d_J_numberOfTrailingZeros_9 (by decide) z_some (fun h2 => ?_) (fun h2 => ?_)
  · refine ZO.iconst (pc := 17) (1 : Int32) d_J_numberOfTrailingZeros_17 (by decide) ?_
    refine ZO.istore_n (pc := 18) (v := (1 : Int32)) (L' := [(0, .int v1), (1, .int (1 : Int32))]) [1, 0] d_J_numberOfTrailingZeros_18 rfl (by decide) rfl ?_
    refine ZO.iload_n (pc := 19) 0 d_J_numberOfTrailingZeros_19 rfl rfl ?_
    refine ZO.ldcw (pc := 20) (65536 : Int32) d_J_numberOfTrailingZeros_20 zk_J_264 ?_
    refine ZO.icmp_le (pc := 23) 34 d_J_numberOfTrailingZeros_23 (by decide) z_some (fun h3 => ?_) (fun h3 => ?_)
    · refine ZO.iload_n (pc := 34) 0 d_J_numberOfTrailingZeros_34 rfl rfl ?_
      refine ZO.sipush (pc := 35) (256 : Int32) d_J_numberOfTrailingZeros_35 (by decide) ?_
      refine ZO.icmp_le (pc := 38) 49 d_J_numberOfTrailingZeros_38 (by decide) z_some (fun h4 => ?_) (fun h4 => ?_)
      · refine ZO.iload_n (pc := 49) 0 d_J_numberOfTrailingZeros_49 rfl rfl ?_
        refine ZO.bipush (pc := 50) (16 : Int32) d_J_numberOfTrailingZeros_50 (by decide) ?_
        refine ZO.icmp_le (pc := 52) 62 d_J_numberOfTrailingZeros_52 (by decide) z_some (fun h5 => ?_) (fun h5 => ?_)
        · refine ZO.iload_n (pc := 62) 0 d_J_numberOfTrailingZeros_62 rfl rfl ?_
          refine ZO.iconst (pc := 63) (4 : Int32) d_J_numberOfTrailingZeros_63 (by decide) ?_
          refine ZO.icmp_le (pc := 64) 74 d_J_numberOfTrailingZeros_64 (by decide) z_some (fun h6 => ?_) (fun h6 => ?_)
          · refine ZO.iload_n (pc := 74) 1 d_J_numberOfTrailingZeros_74 rfl rfl ?_
            refine ZO.iload_n (pc := 75) 0 d_J_numberOfTrailingZeros_75 rfl rfl ?_
            refine ZO.iconst (pc := 76) (1 : Int32) d_J_numberOfTrailingZeros_76 (by decide) ?_
            refine ZO.iushr (pc := 77) d_J_numberOfTrailingZeros_77 ?_
            refine ZO.iadd (pc := 78) d_J_numberOfTrailingZeros_78 ?_
            exact ZO.iret (pc := 79)  d_J_numberOfTrailingZeros_79 rfl rfl rfl
          · refine ZO.iinc (pc := 67) (i := 1) ((1 : Int32) + (2 : Int32)) (L' := [(0, .int v1), (1, .int ((1 : Int32) + (2 : Int32)))]) [1, 0] d_J_numberOfTrailingZeros_67 rfl (by rfl) (by decide) rfl ?_
            refine ZO.iload_n (pc := 70) 0 d_J_numberOfTrailingZeros_70 rfl rfl ?_
            refine ZO.iconst (pc := 71) (2 : Int32) d_J_numberOfTrailingZeros_71 (by decide) ?_
            refine ZO.iushr (pc := 72) d_J_numberOfTrailingZeros_72 ?_
            refine ZO.eqT (lt_some _ _) ?_
            refine ZO.ltI (fun v7 => ?_)
            refine ZO.istore_n (pc := 73) (v := v7) (L' := [(0, .int v7), (1, .int ((1 : Int32) + (2 : Int32)))]) [0, 1] d_J_numberOfTrailingZeros_73 rfl (by decide) rfl ?_
            refine ZO.iload_n (pc := 74) 1 d_J_numberOfTrailingZeros_74 rfl rfl ?_
            refine ZO.iload_n (pc := 75) 0 d_J_numberOfTrailingZeros_75 rfl rfl ?_
            refine ZO.iconst (pc := 76) (1 : Int32) d_J_numberOfTrailingZeros_76 (by decide) ?_
            refine ZO.iushr (pc := 77) d_J_numberOfTrailingZeros_77 ?_
            refine ZO.iadd (pc := 78) d_J_numberOfTrailingZeros_78 ?_
            exact ZO.iret (pc := 79)  d_J_numberOfTrailingZeros_79 rfl rfl rfl
        · refine ZO.iinc (pc := 55) (i := 1) ((1 : Int32) + (4 : Int32)) (L' := [(0, .int v1), (1, .int ((1 : Int32) + (4 : Int32)))]) [1, 0] d_J_numberOfTrailingZeros_55 rfl (by rfl) (by decide) rfl ?_
          refine ZO.iload_n (pc := 58) 0 d_J_numberOfTrailingZeros_58 rfl rfl ?_
          refine ZO.iconst (pc := 59) (4 : Int32) d_J_numberOfTrailingZeros_59 (by decide) ?_
          refine ZO.iushr (pc := 60) d_J_numberOfTrailingZeros_60 ?_
          refine ZO.eqT (lt_some _ _) ?_
          refine ZO.ltI (fun v8 => ?_)
          refine ZO.istore_n (pc := 61) (v := v8) (L' := [(0, .int v8), (1, .int ((1 : Int32) + (4 : Int32)))]) [0, 1] d_J_numberOfTrailingZeros_61 rfl (by decide) rfl ?_
          refine ZO.iload_n (pc := 62) 0 d_J_numberOfTrailingZeros_62 rfl rfl ?_
          refine ZO.iconst (pc := 63) (4 : Int32) d_J_numberOfTrailingZeros_63 (by decide) ?_
          refine ZO.icmp_le (pc := 64) 74 d_J_numberOfTrailingZeros_64 (by decide) z_some (fun h9 => ?_) (fun h9 => ?_)
          · refine ZO.iload_n (pc := 74) 1 d_J_numberOfTrailingZeros_74 rfl rfl ?_
            refine ZO.iload_n (pc := 75) 0 d_J_numberOfTrailingZeros_75 rfl rfl ?_
            refine ZO.iconst (pc := 76) (1 : Int32) d_J_numberOfTrailingZeros_76 (by decide) ?_
            refine ZO.iushr (pc := 77) d_J_numberOfTrailingZeros_77 ?_
            refine ZO.iadd (pc := 78) d_J_numberOfTrailingZeros_78 ?_
            exact ZO.iret (pc := 79)  d_J_numberOfTrailingZeros_79 rfl rfl rfl
          · refine ZO.iinc (pc := 67) (i := 1) (((1 : Int32) + (4 : Int32)) + (2 : Int32)) (L' := [(0, .int v8), (1, .int (((1 : Int32) + (4 : Int32)) + (2 : Int32)))]) [1, 0] d_J_numberOfTrailingZeros_67 rfl (by rfl) (by decide) rfl ?_
            refine ZO.iload_n (pc := 70) 0 d_J_numberOfTrailingZeros_70 rfl rfl ?_
            refine ZO.iconst (pc := 71) (2 : Int32) d_J_numberOfTrailingZeros_71 (by decide) ?_
            refine ZO.iushr (pc := 72) d_J_numberOfTrailingZeros_72 ?_
            refine ZO.eqT (lt_some _ _) ?_
            refine ZO.ltI (fun v10 => ?_)
            refine ZO.istore_n (pc := 73) (v := v10) (L' := [(0, .int v10), (1, .int (((1 : Int32) + (4 : Int32)) + (2 : Int32)))]) [0, 1] d_J_numberOfTrailingZeros_73 rfl (by decide) rfl ?_
            refine ZO.iload_n (pc := 74) 1 d_J_numberOfTrailingZeros_74 rfl rfl ?_
            refine ZO.iload_n (pc := 75) 0 d_J_numberOfTrailingZeros_75 rfl rfl ?_
            refine ZO.iconst (pc := 76) (1 : Int32) d_J_numberOfTrailingZeros_76 (by decide) ?_
            refine ZO.iushr (pc := 77) d_J_numberOfTrailingZeros_77 ?_
            refine ZO.iadd (pc := 78) d_J_numberOfTrailingZeros_78 ?_
            exact ZO.iret (pc := 79)  d_J_numberOfTrailingZeros_79 rfl rfl rfl
      · refine ZO.iinc (pc := 41) (i := 1) ((1 : Int32) + (8 : Int32)) (L' := [(0, .int v1), (1, .int ((1 : Int32) + (8 : Int32)))]) [1, 0] d_J_numberOfTrailingZeros_41 rfl (by rfl) (by decide) rfl ?_
        refine ZO.iload_n (pc := 44) 0 d_J_numberOfTrailingZeros_44 rfl rfl ?_
        refine ZO.bipush (pc := 45) (8 : Int32) d_J_numberOfTrailingZeros_45 (by decide) ?_
        refine ZO.iushr (pc := 47) d_J_numberOfTrailingZeros_47 ?_
        refine ZO.eqT (lt_some _ _) ?_
        refine ZO.ltI (fun v11 => ?_)
        refine ZO.istore_n (pc := 48) (v := v11) (L' := [(0, .int v11), (1, .int ((1 : Int32) + (8 : Int32)))]) [0, 1] d_J_numberOfTrailingZeros_48 rfl (by decide) rfl ?_
        refine ZO.iload_n (pc := 49) 0 d_J_numberOfTrailingZeros_49 rfl rfl ?_
        refine ZO.bipush (pc := 50) (16 : Int32) d_J_numberOfTrailingZeros_50 (by decide) ?_
        refine ZO.icmp_le (pc := 52) 62 d_J_numberOfTrailingZeros_52 (by decide) z_some (fun h12 => ?_) (fun h12 => ?_)
        · refine ZO.iload_n (pc := 62) 0 d_J_numberOfTrailingZeros_62 rfl rfl ?_
          refine ZO.iconst (pc := 63) (4 : Int32) d_J_numberOfTrailingZeros_63 (by decide) ?_
          refine ZO.icmp_le (pc := 64) 74 d_J_numberOfTrailingZeros_64 (by decide) z_some (fun h13 => ?_) (fun h13 => ?_)
          · refine ZO.iload_n (pc := 74) 1 d_J_numberOfTrailingZeros_74 rfl rfl ?_
            refine ZO.iload_n (pc := 75) 0 d_J_numberOfTrailingZeros_75 rfl rfl ?_
            refine ZO.iconst (pc := 76) (1 : Int32) d_J_numberOfTrailingZeros_76 (by decide) ?_
            refine ZO.iushr (pc := 77) d_J_numberOfTrailingZeros_77 ?_
            refine ZO.iadd (pc := 78) d_J_numberOfTrailingZeros_78 ?_
            exact ZO.iret (pc := 79)  d_J_numberOfTrailingZeros_79 rfl rfl rfl
          · refine ZO.iinc (pc := 67) (i := 1) (((1 : Int32) + (8 : Int32)) + (2 : Int32)) (L' := [(0, .int v11), (1, .int (((1 : Int32) + (8 : Int32)) + (2 : Int32)))]) [1, 0] d_J_numberOfTrailingZeros_67 rfl (by rfl) (by decide) rfl ?_
            refine ZO.iload_n (pc := 70) 0 d_J_numberOfTrailingZeros_70 rfl rfl ?_
            refine ZO.iconst (pc := 71) (2 : Int32) d_J_numberOfTrailingZeros_71 (by decide) ?_
            refine ZO.iushr (pc := 72) d_J_numberOfTrailingZeros_72 ?_
            refine ZO.eqT (lt_some _ _) ?_
            refine ZO.ltI (fun v14 => ?_)
            refine ZO.istore_n (pc := 73) (v := v14) (L' := [(0, .int v14), (1, .int (((1 : Int32) + (8 : Int32)) + (2 : Int32)))]) [0, 1] d_J_numberOfTrailingZeros_73 rfl (by decide) rfl ?_
            refine ZO.iload_n (pc := 74) 1 d_J_numberOfTrailingZeros_74 rfl rfl ?_
            refine ZO.iload_n (pc := 75) 0 d_J_numberOfTrailingZeros_75 rfl rfl ?_
            refine ZO.iconst (pc := 76) (1 : Int32) d_J_numberOfTrailingZeros_76 (by decide) ?_
            refine ZO.iushr (pc := 77) d_J_numberOfTrailingZeros_77 ?_
            refine ZO.iadd (pc := 78) d_J_numberOfTrailingZeros_78 ?_
            exact ZO.iret (pc := 79)  d_J_numberOfTrailingZeros_79 rfl rfl rfl
        · refine ZO.iinc (pc := 55) (i := 1) (((1 : Int32) + (8 : Int32)) + (4 : Int32)) (L' := [(0, .int v11), (1, .int (((1 : Int32) + (8 : Int32)) + (4 : Int32)))]) [1, 0] d_J_numberOfTrailingZeros_55 rfl (by rfl) (by decide) rfl ?_
          refine ZO.iload_n (pc := 58) 0 d_J_numberOfTrailingZeros_58 rfl rfl ?_
          refine ZO.iconst (pc := 59) (4 : Int32) d_J_numberOfTrailingZeros_59 (by decide) ?_
          refine ZO.iushr (pc := 60) d_J_numberOfTrailingZeros_60 ?_
          refine ZO.eqT (lt_some _ _) ?_
          refine ZO.ltI (fun v15 => ?_)
          refine ZO.istore_n (pc := 61) (v := v15) (L' := [(0, .int v15), (1, .int (((1 : Int32) + (8 : Int32)) + (4 : Int32)))]) [0, 1] d_J_numberOfTrailingZeros_61 rfl (by decide) rfl ?_
          refine ZO.iload_n (pc := 62) 0 d_J_numberOfTrailingZeros_62 rfl rfl ?_
          refine ZO.iconst (pc := 63) (4 : Int32) d_J_numberOfTrailingZeros_63 (by decide) ?_
          refine ZO.icmp_le (pc := 64) 74 d_J_numberOfTrailingZeros_64 (by decide) z_some (fun h16 => ?_) (fun h16 => ?_)
          · refine ZO.iload_n (pc := 74) 1 d_J_numberOfTrailingZeros_74 rfl rfl ?_
            refine ZO.iload_n (pc := 75) 0 d_J_numberOfTrailingZeros_75 rfl rfl ?_
            refine ZO.iconst (pc := 76) (1 : Int32) d_J_numberOfTrailingZeros_76 (by decide) ?_
            refine ZO.iushr (pc := 77) d_J_numberOfTrailingZeros_77 ?_
            refine ZO.iadd (pc := 78) d_J_numberOfTrailingZeros_78 ?_
            exact ZO.iret (pc := 79)  d_J_numberOfTrailingZeros_79 rfl rfl rfl
          · refine ZO.iinc (pc := 67) (i := 1) ((((1 : Int32) + (8 : Int32)) + (4 : Int32)) + (2 : Int32)) (L' := [(0, .int v15), (1, .int ((((1 : Int32) + (8 : Int32)) + (4 : Int32)) + (2 : Int32)))]) [1, 0] d_J_numberOfTrailingZeros_67 rfl (by rfl) (by decide) rfl ?_
            refine ZO.iload_n (pc := 70) 0 d_J_numberOfTrailingZeros_70 rfl rfl ?_
            refine ZO.iconst (pc := 71) (2 : Int32) d_J_numberOfTrailingZeros_71 (by decide) ?_
            refine ZO.iushr (pc := 72) d_J_numberOfTrailingZeros_72 ?_
            refine ZO.eqT (lt_some _ _) ?_
            refine ZO.ltI (fun v17 => ?_)
            refine ZO.istore_n (pc := 73) (v := v17) (L' := [(0, .int v17), (1, .int ((((1 : Int32) + (8 : Int32)) + (4 : Int32)) + (2 : Int32)))]) [0, 1] d_J_numberOfTrailingZeros_73 rfl (by decide) rfl ?_
            refine ZO.iload_n (pc := 74) 1 d_J_numberOfTrailingZeros_74 rfl rfl ?_
            refine ZO.iload_n (pc := 75) 0 d_J_numberOfTrailingZeros_75 rfl rfl ?_
            refine ZO.iconst (pc := 76) (1 : Int32) d_J_numberOfTrailingZeros_76 (by decide) ?_
            refine ZO.iushr (pc := 77) d_J_numberOfTrailingZeros_77 ?_
            refine ZO.iadd (pc := 78) d_J_numberOfTrailingZeros_78 ?_
            exact ZO.iret (pc := 79)  d_J_numberOfTrailingZeros_79 rfl rfl rfl
    · refine ZO.iinc (pc := 26) (i := 1) ((1 : Int32) + (16 : Int32)) (L' := [(0, .int v1), (1, .int ((1 : Int32) + (16 : Int32)))]) [1, 0] d_J_numberOfTrailingZeros_26 rfl (by rfl) (by decide) rfl ?_
      refine ZO.iload_n (pc := 29) 0 d_J_numberOfTrailingZeros_29 rfl rfl ?_
      refine ZO.bipush (pc := 30) (16 : Int32) d_J_numberOfTrailingZeros_30 (by decide) ?_
      refine ZO.iushr (pc := 32) d_J_numberOfTrailingZeros_32 ?_
      refine ZO.eqT (lt_some _ _) ?_
      refine ZO.ltI (fun v18 => ?_)
      refine ZO.istore_n (pc := 33) (v := v18) (L' := [(0, .int v18), (1, .int ((1 : Int32) + (16 : Int32)))]) [0, 1] d_J_numberOfTrailingZeros_33 rfl (by decide) rfl ?_
      refine ZO.iload_n (pc := 34) 0 d_J_numberOfTrailingZeros_34 rfl rfl ?_
      refine ZO.sipush (pc := 35) (256 : Int32) d_J_numberOfTrailingZeros_35 (by decide) ?_
      refine ZO.icmp_le (pc := 38) 49 d_J_numberOfTrailingZeros_38 (by decide) z_some (fun h19 => ?_) (fun h19 => ?_)
      · refine ZO.iload_n (pc := 49) 0 d_J_numberOfTrailingZeros_49 rfl rfl ?_
        refine ZO.bipush (pc := 50) (16 : Int32) d_J_numberOfTrailingZeros_50 (by decide) ?_
        refine ZO.icmp_le (pc := 52) 62 d_J_numberOfTrailingZeros_52 (by decide) z_some (fun h20 => ?_) (fun h20 => ?_)
        · refine ZO.iload_n (pc := 62) 0 d_J_numberOfTrailingZeros_62 rfl rfl ?_
          refine ZO.iconst (pc := 63) (4 : Int32) d_J_numberOfTrailingZeros_63 (by decide) ?_
          refine ZO.icmp_le (pc := 64) 74 d_J_numberOfTrailingZeros_64 (by decide) z_some (fun h21 => ?_) (fun h21 => ?_)
          · refine ZO.iload_n (pc := 74) 1 d_J_numberOfTrailingZeros_74 rfl rfl ?_
            refine ZO.iload_n (pc := 75) 0 d_J_numberOfTrailingZeros_75 rfl rfl ?_
            refine ZO.iconst (pc := 76) (1 : Int32) d_J_numberOfTrailingZeros_76 (by decide) ?_
            refine ZO.iushr (pc := 77) d_J_numberOfTrailingZeros_77 ?_
            refine ZO.iadd (pc := 78) d_J_numberOfTrailingZeros_78 ?_
            exact ZO.iret (pc := 79)  d_J_numberOfTrailingZeros_79 rfl rfl rfl
          · refine ZO.iinc (pc := 67) (i := 1) (((1 : Int32) + (16 : Int32)) + (2 : Int32)) (L' := [(0, .int v18), (1, .int (((1 : Int32) + (16 : Int32)) + (2 : Int32)))]) [1, 0] d_J_numberOfTrailingZeros_67 rfl (by rfl) (by decide) rfl ?_
            refine ZO.iload_n (pc := 70) 0 d_J_numberOfTrailingZeros_70 rfl rfl ?_
            refine ZO.iconst (pc := 71) (2 : Int32) d_J_numberOfTrailingZeros_71 (by decide) ?_
            refine ZO.iushr (pc := 72) d_J_numberOfTrailingZeros_72 ?_
            refine ZO.eqT (lt_some _ _) ?_
            refine ZO.ltI (fun v22 => ?_)
            refine ZO.istore_n (pc := 73) (v := v22) (L' := [(0, .int v22), (1, .int (((1 : Int32) + (16 : Int32)) + (2 : Int32)))]) [0, 1] d_J_numberOfTrailingZeros_73 rfl (by decide) rfl ?_
            refine ZO.iload_n (pc := 74) 1 d_J_numberOfTrailingZeros_74 rfl rfl ?_
            refine ZO.iload_n (pc := 75) 0 d_J_numberOfTrailingZeros_75 rfl rfl ?_
            refine ZO.iconst (pc := 76) (1 : Int32) d_J_numberOfTrailingZeros_76 (by decide) ?_
            refine ZO.iushr (pc := 77) d_J_numberOfTrailingZeros_77 ?_
            refine ZO.iadd (pc := 78) d_J_numberOfTrailingZeros_78 ?_
            exact ZO.iret (pc := 79)  d_J_numberOfTrailingZeros_79 rfl rfl rfl
        · refine ZO.iinc (pc := 55) (i := 1) (((1 : Int32) + (16 : Int32)) + (4 : Int32)) (L' := [(0, .int v18), (1, .int (((1 : Int32) + (16 : Int32)) + (4 : Int32)))]) [1, 0] d_J_numberOfTrailingZeros_55 rfl (by rfl) (by decide) rfl ?_
          refine ZO.iload_n (pc := 58) 0 d_J_numberOfTrailingZeros_58 rfl rfl ?_
          refine ZO.iconst (pc := 59) (4 : Int32) d_J_numberOfTrailingZeros_59 (by decide) ?_
          refine ZO.iushr (pc := 60) d_J_numberOfTrailingZeros_60 ?_
          refine ZO.eqT (lt_some _ _) ?_
          refine ZO.ltI (fun v23 => ?_)
          refine ZO.istore_n (pc := 61) (v := v23) (L' := [(0, .int v23), (1, .int (((1 : Int32) + (16 : Int32)) + (4 : Int32)))]) [0, 1] d_J_numberOfTrailingZeros_61 rfl (by decide) rfl ?_
          refine ZO.iload_n (pc := 62) 0 d_J_numberOfTrailingZeros_62 rfl rfl ?_
          refine ZO.iconst (pc := 63) (4 : Int32) d_J_numberOfTrailingZeros_63 (by decide) ?_
          refine ZO.icmp_le (pc := 64) 74 d_J_numberOfTrailingZeros_64 (by decide) z_some (fun h24 => ?_) (fun h24 => ?_)
          · refine ZO.iload_n (pc := 74) 1 d_J_numberOfTrailingZeros_74 rfl rfl ?_
            refine ZO.iload_n (pc := 75) 0 d_J_numberOfTrailingZeros_75 rfl rfl ?_
            refine ZO.iconst (pc := 76) (1 : Int32) d_J_numberOfTrailingZeros_76 (by decide) ?_
            refine ZO.iushr (pc := 77) d_J_numberOfTrailingZeros_77 ?_
            refine ZO.iadd (pc := 78) d_J_numberOfTrailingZeros_78 ?_
            exact ZO.iret (pc := 79)  d_J_numberOfTrailingZeros_79 rfl rfl rfl
          · refine ZO.iinc (pc := 67) (i := 1) ((((1 : Int32) + (16 : Int32)) + (4 : Int32)) + (2 : Int32)) (L' := [(0, .int v23), (1, .int ((((1 : Int32) + (16 : Int32)) + (4 : Int32)) + (2 : Int32)))]) [1, 0] d_J_numberOfTrailingZeros_67 rfl (by rfl) (by decide) rfl ?_
            refine ZO.iload_n (pc := 70) 0 d_J_numberOfTrailingZeros_70 rfl rfl ?_
            refine ZO.iconst (pc := 71) (2 : Int32) d_J_numberOfTrailingZeros_71 (by decide) ?_
            refine ZO.iushr (pc := 72) d_J_numberOfTrailingZeros_72 ?_
            refine ZO.eqT (lt_some _ _) ?_
            refine ZO.ltI (fun v25 => ?_)
            refine ZO.istore_n (pc := 73) (v := v25) (L' := [(0, .int v25), (1, .int ((((1 : Int32) + (16 : Int32)) + (4 : Int32)) + (2 : Int32)))]) [0, 1] d_J_numberOfTrailingZeros_73 rfl (by decide) rfl ?_
            refine ZO.iload_n (pc := 74) 1 d_J_numberOfTrailingZeros_74 rfl rfl ?_
            refine ZO.iload_n (pc := 75) 0 d_J_numberOfTrailingZeros_75 rfl rfl ?_
            refine ZO.iconst (pc := 76) (1 : Int32) d_J_numberOfTrailingZeros_76 (by decide) ?_
            refine ZO.iushr (pc := 77) d_J_numberOfTrailingZeros_77 ?_
            refine ZO.iadd (pc := 78) d_J_numberOfTrailingZeros_78 ?_
            exact ZO.iret (pc := 79)  d_J_numberOfTrailingZeros_79 rfl rfl rfl
      · refine ZO.iinc (pc := 41) (i := 1) (((1 : Int32) + (16 : Int32)) + (8 : Int32)) (L' := [(0, .int v18), (1, .int (((1 : Int32) + (16 : Int32)) + (8 : Int32)))]) [1, 0] d_J_numberOfTrailingZeros_41 rfl (by rfl) (by decide) rfl ?_
        refine ZO.iload_n (pc := 44) 0 d_J_numberOfTrailingZeros_44 rfl rfl ?_
        refine ZO.bipush (pc := 45) (8 : Int32) d_J_numberOfTrailingZeros_45 (by decide) ?_
        refine ZO.iushr (pc := 47) d_J_numberOfTrailingZeros_47 ?_
        refine ZO.eqT (lt_some _ _) ?_
        refine ZO.ltI (fun v26 => ?_)
        refine ZO.istore_n (pc := 48) (v := v26) (L' := [(0, .int v26), (1, .int (((1 : Int32) + (16 : Int32)) + (8 : Int32)))]) [0, 1] d_J_numberOfTrailingZeros_48 rfl (by decide) rfl ?_
        refine ZO.iload_n (pc := 49) 0 d_J_numberOfTrailingZeros_49 rfl rfl ?_
        refine ZO.bipush (pc := 50) (16 : Int32) d_J_numberOfTrailingZeros_50 (by decide) ?_
        refine ZO.icmp_le (pc := 52) 62 d_J_numberOfTrailingZeros_52 (by decide) z_some (fun h27 => ?_) (fun h27 => ?_)
        · refine ZO.iload_n (pc := 62) 0 d_J_numberOfTrailingZeros_62 rfl rfl ?_
          refine ZO.iconst (pc := 63) (4 : Int32) d_J_numberOfTrailingZeros_63 (by decide) ?_
          refine ZO.icmp_le (pc := 64) 74 d_J_numberOfTrailingZeros_64 (by decide) z_some (fun h28 => ?_) (fun h28 => ?_)
          · refine ZO.iload_n (pc := 74) 1 d_J_numberOfTrailingZeros_74 rfl rfl ?_
            refine ZO.iload_n (pc := 75) 0 d_J_numberOfTrailingZeros_75 rfl rfl ?_
            refine ZO.iconst (pc := 76) (1 : Int32) d_J_numberOfTrailingZeros_76 (by decide) ?_
            refine ZO.iushr (pc := 77) d_J_numberOfTrailingZeros_77 ?_
            refine ZO.iadd (pc := 78) d_J_numberOfTrailingZeros_78 ?_
            exact ZO.iret (pc := 79)  d_J_numberOfTrailingZeros_79 rfl rfl rfl
          · refine ZO.iinc (pc := 67) (i := 1) ((((1 : Int32) + (16 : Int32)) + (8 : Int32)) + (2 : Int32)) (L' := [(0, .int v26), (1, .int ((((1 : Int32) + (16 : Int32)) + (8 : Int32)) + (2 : Int32)))]) [1, 0] d_J_numberOfTrailingZeros_67 rfl (by rfl) (by decide) rfl ?_
            refine ZO.iload_n (pc := 70) 0 d_J_numberOfTrailingZeros_70 rfl rfl ?_
            refine ZO.iconst (pc := 71) (2 : Int32) d_J_numberOfTrailingZeros_71 (by decide) ?_
            refine ZO.iushr (pc := 72) d_J_numberOfTrailingZeros_72 ?_
            refine ZO.eqT (lt_some _ _) ?_
            refine ZO.ltI (fun v29 => ?_)
            refine ZO.istore_n (pc := 73) (v := v29) (L' := [(0, .int v29), (1, .int ((((1 : Int32) + (16 : Int32)) + (8 : Int32)) + (2 : Int32)))]) [0, 1] d_J_numberOfTrailingZeros_73 rfl (by decide) rfl ?_
            refine ZO.iload_n (pc := 74) 1 d_J_numberOfTrailingZeros_74 rfl rfl ?_
            refine ZO.iload_n (pc := 75) 0 d_J_numberOfTrailingZeros_75 rfl rfl ?_
            refine ZO.iconst (pc := 76) (1 : Int32) d_J_numberOfTrailingZeros_76 (by decide) ?_
            refine ZO.iushr (pc := 77) d_J_numberOfTrailingZeros_77 ?_
            refine ZO.iadd (pc := 78) d_J_numberOfTrailingZeros_78 ?_
            exact ZO.iret (pc := 79)  d_J_numberOfTrailingZeros_79 rfl rfl rfl
        · refine ZO.iinc (pc := 55) (i := 1) ((((1 : Int32) + (16 : Int32)) + (8 : Int32)) + (4 : Int32)) (L' := [(0, .int v26), (1, .int ((((1 : Int32) + (16 : Int32)) + (8 : Int32)) + (4 : Int32)))]) [1, 0] d_J_numberOfTrailingZeros_55 rfl (by rfl) (by decide) rfl ?_
          refine ZO.iload_n (pc := 58) 0 d_J_numberOfTrailingZeros_58 rfl rfl ?_
          refine ZO.iconst (pc := 59) (4 : Int32) d_J_numberOfTrailingZeros_59 (by decide) ?_
          refine ZO.iushr (pc := 60) d_J_numberOfTrailingZeros_60 ?_
          refine ZO.eqT (lt_some _ _) ?_
          refine ZO.ltI (fun v30 => ?_)
          refine ZO.istore_n (pc := 61) (v := v30) (L' := [(0, .int v30), (1, .int ((((1 : Int32) + (16 : Int32)) + (8 : Int32)) + (4 : Int32)))]) [0, 1] d_J_numberOfTrailingZeros_61 rfl (by decide) rfl ?_
          refine ZO.iload_n (pc := 62) 0 d_J_numberOfTrailingZeros_62 rfl rfl ?_
          refine ZO.iconst (pc := 63) (4 : Int32) d_J_numberOfTrailingZeros_63 (by decide) ?_
          refine ZO.icmp_le (pc := 64) 74 d_J_numberOfTrailingZeros_64 (by decide) z_some (fun h31 => ?_) (fun h31 => ?_)
          · refine ZO.iload_n (pc := 74) 1 d_J_numberOfTrailingZeros_74 rfl rfl ?_
            refine ZO.iload_n (pc := 75) 0 d_J_numberOfTrailingZeros_75 rfl rfl ?_
            refine ZO.iconst (pc := 76) (1 : Int32) d_J_numberOfTrailingZeros_76 (by decide) ?_
            refine ZO.iushr (pc := 77) d_J_numberOfTrailingZeros_77 ?_
            refine ZO.iadd (pc := 78) d_J_numberOfTrailingZeros_78 ?_
            exact ZO.iret (pc := 79)  d_J_numberOfTrailingZeros_79 rfl rfl rfl
          · refine ZO.iinc (pc := 67) (i := 1) (((((1 : Int32) + (16 : Int32)) + (8 : Int32)) + (4 : Int32)) + (2 : Int32)) (L' := [(0, .int v30), (1, .int (((((1 : Int32) + (16 : Int32)) + (8 : Int32)) + (4 : Int32)) + (2 : Int32)))]) [1, 0] d_J_numberOfTrailingZeros_67 rfl (by rfl) (by decide) rfl ?_
            refine ZO.iload_n (pc := 70) 0 d_J_numberOfTrailingZeros_70 rfl rfl ?_
            refine ZO.iconst (pc := 71) (2 : Int32) d_J_numberOfTrailingZeros_71 (by decide) ?_
            refine ZO.iushr (pc := 72) d_J_numberOfTrailingZeros_72 ?_
            refine ZO.eqT (lt_some _ _) ?_
            refine ZO.ltI (fun v32 => ?_)
            refine ZO.istore_n (pc := 73) (v := v32) (L' := [(0, .int v32), (1, .int (((((1 : Int32) + (16 : Int32)) + (8 : Int32)) + (4 : Int32)) + (2 : Int32)))]) [0, 1] d_J_numberOfTrailingZeros_73 rfl (by decide) rfl ?_
            refine ZO.iload_n (pc := 74) 1 d_J_numberOfTrailingZeros_74 rfl rfl ?_
            refine ZO.iload_n (pc := 75) 0 d_J_numberOfTrailingZeros_75 rfl rfl ?_
            refine ZO.iconst (pc := 76) (1 : Int32) d_J_numberOfTrailingZeros_76 (by decide) ?_
            refine ZO.iushr (pc := 77) d_J_numberOfTrailingZeros_77 ?_
            refine ZO.iadd (pc := 78) d_J_numberOfTrailingZeros_78 ?_
            exact ZO.iret (pc := 79)  d_J_numberOfTrailingZeros_79 rfl rfl rfl
  · refine ZO.iload_n (pc := 12) 0 d_J_numberOfTrailingZeros_12 rfl rfl ?_
    refine ZO.bipush (pc := 13) (32 : Int32) d_J_numberOfTrailingZeros_13 (by decide) ?_
    refine ZO.iand (pc := 15) d_J_numberOfTrailingZeros_15 ?_
    exact ZO.iret (pc := 16)  d_J_numberOfTrailingZeros_16 rfl rfl rfl
def f_M_does (n : Nat) (a0 : Int32) (s : ZSt) : Option (Int32 × ZSt) :=
  gd (inb a0 6) (
  lt (ai s 110 a0) (fun v2 =>
  bn (f_M_leftOf a0 s) (fun p3 =>
  gd (inb v2 3) (
  lt (p3 &&& (ai s 108 v2)) (fun v5 =>
  (if v5 = 0 then
  bn (f_M_firstOpen n p3 v2 s) (fun p7 =>
    jn (fun (x8 : Int32 × ZSt) =>
    (if x8.1 < 0 then
      lpN (fun j11 (x10 : Int32 × ZSt) =>
        (if (gi x10.2 0 3) ≤ x10.1 then
          some ((0 : Int32), x10.2)
        else (jn (fun (x13 : ZSt) =>
              lt (x10.1 + (1 : Int32)) (fun v14 =>
                j11 (v14, x13))) (fun j15 =>
              if (f_M_has (ai x10.2 108 v2) x10.1) = true then
            bn (f_M_helps n ((60 : Int32) + x10.1) p3 v2 x10.2) (fun p17 =>
              (if p17.1 = true then
              bn (f_M_makes n ((60 : Int32) + x10.1) p17.2) (fun p19 =>
                some (((60 : Int32) + x10.1), p19.2))
            else j15 p17.2))
          else j15 x10.2)))) n ((0 : Int32), x8.2)
    else bn (f_M_makes n (((20 : Int32) * v2) + x8.1) x8.2) (fun p20 =>
        some (((40 : Int32) + x8.1), p20.2)))) (fun j21 =>
    lpN (fun j23 (x22 : Int32 × Int32 × ZSt) =>
    (if (gi x22.2.2 0 3) ≤ x22.2.1 then
      j21 (x22.1, x22.2.2)
    else (if 0 ≤ x22.1 then
        j21 (x22.1, x22.2.2)
      else bn (f_M_helps n (((20 : Int32) * v2) + x22.2.1) p3 v2 x22.2.2) (fun p26 =>
          (lt ((if p26.1 = true then
          x22.2.1
        else x22.1) : Int32) (fun x27 =>
            lt (x22.2.1 + (1 : Int32)) (fun v28 =>
              j23 (x27, v28, p26.2)))))))) n (p7.1, (0 : Int32), p7.2)))
else lt (f_J_numberOfTrailingZeros v5) (fun v31 =>
    bn (f_M_hasRead n a0 v31 s) (fun p32 =>
    some (((20 : Int32) + v31), p32.2)))))))))
set_option maxHeartbeats 4000000 in
set_option maxRecDepth 20000 in
theorem ok_M_does (g : ZG) (n : Nat) (a0 : Int32) (s : ZSt) : ZF g 9 y_M_does [.ref 0, .int a0] s (f_M_does n a0 s) (fun b => some (.int b.1)) (fun b => b.2) := by
  refine ZF.of (by decide +kernel) (Nat.le_of_ble_eq_true rfl) ?_
  unfold f_M_does
  show ZO g 9 y_M_does zu0 0 [(0, .ref 0), (1, .int a0)] [] s _ _
  refine ZO.aload_n (pc := 0) 0 d_M_does_0 rfl rfl ?_
  refine ZO.getA (pc := 1) 110 d_M_does_1 zo_0 zf_M_257 rfl rfl ?_
  refine ZO.iload_n (pc := 4) 1 d_M_does_4 rfl rfl ?_
  refine ZO.rgd (fun h1 => ?_)
  refine ZO.iald (pc := 5) d_M_does_5 za_110 h1 ?_
  refine ZO.ltI (fun v2 => ?_)
  refine ZO.istore_n (pc := 6) (v := v2) (L' := [(0, .ref 0), (1, .int a0), (2, .int v2)]) [1, 2, 0] d_M_does_6 rfl (by decide) rfl ?_
  refine ZO.aload_n (pc := 7) 0 d_M_does_7 rfl rfl ?_
  refine ZO.iload_n (pc := 8) 1 d_M_does_8 rfl rfl ?_
  refine ZO.cVI (pc := 9) (As := [.int a0]) (rest := []) d_M_does_9 zc_M_272 (by decide) zo_0 rfl rfl rfl (Nat.le_of_ble_eq_true rfl) (ok_M_leftOf g a0 s) (fun p3 ep3 => ?_)
  refine ZO.istore_n (pc := 12) (v := p3) (L' := [(0, .ref 0), (1, .int a0), (2, .int v2), (3, .int p3)]) [1, 2, 3, 0] d_M_does_12 rfl (by decide) rfl ?_
  refine ZO.iload_n (pc := 13) 3 d_M_does_13 rfl rfl ?_
  refine ZO.aload_n (pc := 14) 0 d_M_does_14 rfl rfl ?_
  refine ZO.getA (pc := 15) 108 d_M_does_15 zo_0 zf_M_154 rfl rfl ?_
  refine ZO.iload_n (pc := 18) 2 d_M_does_18 rfl rfl ?_
  refine ZO.rgd (fun h4 => ?_)
  refine ZO.iald (pc := 19) d_M_does_19 za_108 h4 ?_
  refine ZO.iand (pc := 20) d_M_does_20 ?_
  refine ZO.ltI (fun v5 => ?_)
  refine ZO.istore (pc := 21) (v := v5) (L' := [(0, .ref 0), (1, .int a0), (2, .int v2), (3, .int p3), (4, .int v5)]) [1, 2, 3, 4, 0] d_M_does_21 (by decide) rfl ?_
  refine ZO.iload (pc := 23) 4 d_M_does_23 rfl ?_
  refine ZO.if_eq (pc := 25) 49 d_M_does_25 (by decide) rfl (fun h6 => ?_) (fun h6 => ?_)
  · refine ZO.aload_n (pc := 49) 0 d_M_does_49 rfl rfl ?_
    refine ZO.iload_n (pc := 50) 3 d_M_does_50 rfl rfl ?_
    refine ZO.iload_n (pc := 51) 2 d_M_does_51 rfl rfl ?_
    refine ZO.cVI (pc := 52) (As := [.int p3, .int v2]) (rest := []) d_M_does_52 zc_M_290 (by decide) zo_0 rfl rfl rfl (Nat.le_of_ble_eq_true rfl) (ok_M_firstOpen g n p3 v2 s) (fun p7 ep7 => ?_)
    refine ZO.istore (pc := 55) (v := p7.1) (L' := [(0, .ref 0), (1, .int a0), (2, .int v2), (3, .int p3), (4, .int v5), (5, .int p7.1)]) [1, 2, 3, 4, 5, 0] d_M_does_55 (by decide) rfl ?_
    refine ZO.iconst (pc := 57) (0 : Int32) d_M_does_57 (by decide) ?_
    refine ZO.istore (pc := 58) (v := (0 : Int32)) (L' := [(0, .ref 0), (1, .int a0), (2, .int v2), (3, .int p3), (4, .int v5), (5, .int p7.1), (6, .int (0 : Int32))]) [1, 2, 3, 4, 5, 6, 0] d_M_does_58 (by decide) rfl ?_
    refine ZO.rjn (pcJ := 105) (LJ := fun (x8 : Int32 × ZSt) => ([(0, .ref 0), (2, .int v2), (3, .int p3), (5, .int x8.1)] : List (Nat × Value))) (SJ := fun (x8 : Int32 × ZSt) => ([] : List Value)) (σJ := fun (x8 : Int32 × ZSt) => x8.2) (fun x8 => ?_) (fun j21 hj21 => ?_)
    · refine ZO.iload (pc := 105) 3 d_M_does_105 rfl ?_
      refine ZO.if_lt (pc := 107) 128 d_M_does_107 (by decide) rfl (fun h9 => ?_) (fun h9 => ?_)
      · refine ZO.iconst (pc := 128) (0 : Int32) d_M_does_128 (by decide) ?_
        refine ZO.istore (pc := 129) (v := (0 : Int32)) (L' := [(0, .ref 0), (2, .int v2), (3, .int p3), (5, .int x8.1), (6, .int (0 : Int32))]) [1, 2, 3, 4, 0] d_M_does_129 (by decide) rfl ?_
        refine ZO.sub (L' := [(0, .ref 0), (2, .int v2), (3, .int p3), (6, .int (0 : Int32))]) [0, 1, 2, 4] rfl ?_
        refine ZO.loop (fun (x10 : Int32 × ZSt) => ([(0, .ref 0), (2, .int v2), (3, .int p3), (6, .int x10.1)] : List (Nat × Value))) (fun (x10 : Int32 × ZSt) => x10.2) [] (fun j11 x10 hj11 => ?_) rfl rfl rfl
        refine ZO.iload (pc := 131) 3 d_M_does_131 rfl ?_
        refine ZO.aload_n (pc := 133) 0 d_M_does_133 rfl rfl ?_
        refine ZO.getI (pc := 134) d_M_does_134 zo_0 zf_M_14 rfl ?_
        refine ZO.icmp_ge (pc := 137) 190 d_M_does_137 (by decide) rfl (fun h12 => ?_) (fun h12 => ?_)
        · refine ZO.iconst (pc := 190) (0 : Int32) d_M_does_190 (by decide) ?_
          exact ZO.iret (pc := 191)  d_M_does_191 rfl rfl rfl
        · refine ZO.aload_n (pc := 140) 0 d_M_does_140 rfl rfl ?_
          refine ZO.getA (pc := 141) 108 d_M_does_141 zo_0 zf_M_154 rfl rfl ?_
          refine ZO.iload_n (pc := 144) 1 d_M_does_144 rfl rfl ?_
          refine ZO.iald (pc := 145) d_M_does_145 za_108 h4 ?_
          refine ZO.iload (pc := 146) 3 d_M_does_146 rfl ?_
          refine ZO.tSB (pc := 148) (As := [.int (ai x10.2 108 v2), .int x10.1]) (rest := []) d_M_does_148 zc_M_29 (by decide) rfl rfl (Nat.le_of_ble_eq_true rfl) (ok_M_has g (ai x10.2 108 v2) x10.1 x10.2) ?_
          refine ZO.rjn (pcJ := 184) (LJ := fun (x13 : ZSt) => ([(0, .ref 0), (2, .int v2), (3, .int p3), (6, .int x10.1)] : List (Nat × Value))) (SJ := fun (x13 : ZSt) => ([] : List Value)) (σJ := fun (x13 : ZSt) => x13) (fun x13 => ?_) (fun j15 hj15 => ?_)
          · refine ZO.iincL (pc := 184) (i := 3) (x10.1 + (1 : Int32)) (L' := fun v14 => [(0, .ref 0), (2, .int v2), (3, .int p3), (6, .int v14)]) [1, 2, 3, 0] d_M_does_184 rfl (by rfl) (by decide) (fun _ => rfl) (fun v14 => ?_)
            refine ZO.goto (pc := 187) 131 d_M_does_187 (by decide) ?_
            exact hj11 (v14, x13)
          · refine ZO.ifb_eq (pc := 151) 184 d_M_does_151 (by decide) rfl (fun h16 => ?_) (fun h16 => ?_)
            · refine ZO.aload_n (pc := 154) 0 d_M_does_154 rfl rfl ?_
              refine ZO.bipush (pc := 155) (60 : Int32) d_M_does_155 (by decide) ?_
              refine ZO.iload (pc := 157) 3 d_M_does_157 rfl ?_
              refine ZO.iadd (pc := 159) d_M_does_159 ?_
              refine ZO.iload_n (pc := 160) 2 d_M_does_160 rfl rfl ?_
              refine ZO.iload_n (pc := 161) 1 d_M_does_161 rfl rfl ?_
              refine ZO.cVB (pc := 162) (As := [.int ((60 : Int32) + x10.1), .int p3, .int v2]) (rest := []) d_M_does_162 zc_M_296 (by decide) zo_0 rfl rfl rfl (Nat.le_of_ble_eq_true rfl) (ok_M_helps g n ((60 : Int32) + x10.1) p3 v2 x10.2) (fun p17 ep17 => ?_)
              refine ZO.ifb_eq (pc := 165) 184 d_M_does_165 (by decide) rfl (fun h18 => ?_) (fun h18 => ?_)
              · refine ZO.aload_n (pc := 168) 0 d_M_does_168 rfl rfl ?_
                refine ZO.bipush (pc := 169) (60 : Int32) d_M_does_169 (by decide) ?_
                refine ZO.iload (pc := 171) 3 d_M_does_171 rfl ?_
                refine ZO.iadd (pc := 173) d_M_does_173 ?_
                refine ZO.cVI (pc := 174) (As := [.int ((60 : Int32) + x10.1)]) (rest := []) d_M_does_174 zc_M_229 (by decide) zo_0 rfl rfl rfl (Nat.le_of_ble_eq_true rfl) (ok_M_makes g n ((60 : Int32) + x10.1) p17.2) (fun p19 ep19 => ?_)
                refine ZO.pop (pc := 177) d_M_does_177 rfl ?_
                refine ZO.bipush (pc := 178) (60 : Int32) d_M_does_178 (by decide) ?_
                refine ZO.iload (pc := 180) 3 d_M_does_180 rfl ?_
                refine ZO.iadd (pc := 182) d_M_does_182 ?_
                exact ZO.iret (pc := 183)  d_M_does_183 rfl rfl rfl
              · exact hj15 p17.2
            · exact hj15 x10.2
      · refine ZO.aload_n (pc := 110) 0 d_M_does_110 rfl rfl ?_
        refine ZO.bipush (pc := 111) (20 : Int32) d_M_does_111 (by decide) ?_
        refine ZO.iload_n (pc := 113) 1 d_M_does_113 rfl rfl ?_
        refine ZO.imul (pc := 114) d_M_does_114 ?_
        refine ZO.iload (pc := 115) 3 d_M_does_115 rfl ?_
        refine ZO.iadd (pc := 117) d_M_does_117 ?_
        refine ZO.cVI (pc := 118) (As := [.int (((20 : Int32) * v2) + x8.1)]) (rest := []) d_M_does_118 zc_M_229 (by decide) zo_0 rfl rfl rfl (Nat.le_of_ble_eq_true rfl) (ok_M_makes g n (((20 : Int32) * v2) + x8.1) x8.2) (fun p20 ep20 => ?_)
        refine ZO.pop (pc := 121) d_M_does_121 rfl ?_
        refine ZO.bipush (pc := 122) (40 : Int32) d_M_does_122 (by decide) ?_
        refine ZO.iload (pc := 124) 3 d_M_does_124 rfl ?_
        refine ZO.iadd (pc := 126) d_M_does_126 ?_
        exact ZO.iret (pc := 127)  d_M_does_127 rfl rfl rfl
    · refine ZO.sub (L' := [(0, .ref 0), (2, .int v2), (3, .int p3), (5, .int p7.1), (6, .int (0 : Int32))]) [0, 2, 3, 5, 6] rfl ?_
      refine ZO.loop (fun (x22 : Int32 × Int32 × ZSt) => ([(0, .ref 0), (2, .int v2), (3, .int p3), (5, .int x22.1), (6, .int x22.2.1)] : List (Nat × Value))) (fun (x22 : Int32 × Int32 × ZSt) => x22.2.2) [] (fun j23 x22 hj23 => ?_) rfl rfl rfl
      refine ZO.iload (pc := 60) 4 d_M_does_60 rfl ?_
      refine ZO.aload_n (pc := 62) 0 d_M_does_62 rfl rfl ?_
      refine ZO.getI (pc := 63) d_M_does_63 zo_0 zf_M_14 rfl ?_
      refine ZO.icmp_ge (pc := 66) 105 d_M_does_66 (by decide) rfl (fun h24 => ?_) (fun h24 => ?_)
      · exact ZO.sub [0, 1, 2, 3] rfl (hj21 (x22.1, x22.2.2))
      · refine ZO.iload (pc := 69) 3 d_M_does_69 rfl ?_
        refine ZO.if_ge (pc := 71) 105 d_M_does_71 (by decide) rfl (fun h25 => ?_) (fun h25 => ?_)
        · exact ZO.sub [0, 1, 2, 3] rfl (hj21 (x22.1, x22.2.2))
        · refine ZO.aload_n (pc := 74) 0 d_M_does_74 rfl rfl ?_
          refine ZO.bipush (pc := 75) (20 : Int32) d_M_does_75 (by decide) ?_
          refine ZO.iload_n (pc := 77) 1 d_M_does_77 rfl rfl ?_
          refine ZO.imul (pc := 78) d_M_does_78 ?_
          refine ZO.iload (pc := 79) 4 d_M_does_79 rfl ?_
          refine ZO.iadd (pc := 81) d_M_does_81 ?_
          refine ZO.iload_n (pc := 82) 2 d_M_does_82 rfl rfl ?_
          refine ZO.iload_n (pc := 83) 1 d_M_does_83 rfl rfl ?_
          refine ZO.cVB (pc := 84) (As := [.int (((20 : Int32) * v2) + x22.2.1), .int p3, .int v2]) (rest := []) d_M_does_84 zc_M_296 (by decide) zo_0 rfl rfl rfl (Nat.le_of_ble_eq_true rfl) (ok_M_helps g n (((20 : Int32) * v2) + x22.2.1) p3 v2 x22.2.2) (fun p26 ep26 => ?_)
          refine ZO.phi (pcJ := 97) (LJ := fun (x27 : Int32) => ([(0, .ref 0), (2, .int v2), (3, .int p3), (6, .int x22.2.1)] : List (Nat × Value))) (SJ := fun (x27 : Int32) => ([.int x27] : List Value)) (fun x27 => ?_) (fun t hj29 => ?_)
          · refine ZO.istore (pc := 97) (v := x27) (L' := [(0, .ref 0), (2, .int v2), (3, .int p3), (5, .int x27), (6, .int x22.2.1)]) [1, 2, 3, 0, 4] d_M_does_97 (by decide) rfl ?_
            refine ZO.iincL (pc := 99) (i := 4) (x22.2.1 + (1 : Int32)) (L' := fun v28 => [(0, .ref 0), (2, .int v2), (3, .int p3), (5, .int x27), (6, .int v28)]) [1, 2, 3, 4, 0] d_M_does_99 rfl (by rfl) (by decide) (fun _ => rfl) (fun v28 => ?_)
            refine ZO.goto (pc := 102) 60 d_M_does_102 (by decide) ?_
            exact hj23 (x27, v28, p26.2)
          · refine ZO.ifb_eq (pc := 87) 95 d_M_does_87 (by decide) z_ite (fun h30 => ?_) (fun h30 => ?_)
            · refine ZO.iload (pc := 90) 4 d_M_does_90 rfl ?_
              refine ZO.goto (pc := 92) 97 d_M_does_92 (by decide) ?_
              exact ZO.sub [0, 1, 2, 4] rfl (hj29 x22.2.1 (by rw [if_pos h30]))
            · refine ZO.iload (pc := 95) 3 d_M_does_95 rfl ?_
              exact ZO.sub [0, 1, 2, 4] rfl (hj29 x22.1 (by rw [if_neg (z_bf h30)]))
  · refine ZO.iload (pc := 28) 4 d_M_does_28 rfl ?_
    refine ZO.tSI (pc := 30) (As := [.int v5]) (rest := []) d_M_does_30 zc_M_293 (by decide) rfl rfl (Nat.le_of_ble_eq_true rfl) (ok_J_numberOfTrailingZeros g v5 s) ?_
    refine ZO.ltI (fun v31 => ?_)
    refine ZO.istore (pc := 33) (v := v31) (L' := [(0, .ref 0), (1, .int a0), (2, .int v2), (3, .int p3), (4, .int v5), (5, .int v31)]) [1, 2, 3, 4, 5, 0] d_M_does_33 (by decide) rfl ?_
    refine ZO.aload_n (pc := 35) 0 d_M_does_35 rfl rfl ?_
    refine ZO.iload_n (pc := 36) 1 d_M_does_36 rfl rfl ?_
    refine ZO.iload (pc := 37) 5 d_M_does_37 rfl ?_
    refine ZO.cVI (pc := 39) (As := [.int a0, .int v31]) (rest := []) d_M_does_39 zc_M_269 (by decide) zo_0 rfl rfl rfl (Nat.le_of_ble_eq_true rfl) (ok_M_hasRead g n a0 v31 s) (fun p32 ep32 => ?_)
    refine ZO.pop (pc := 42) d_M_does_42 rfl ?_
    refine ZO.bipush (pc := 43) (20 : Int32) d_M_does_43 (by decide) ?_
    refine ZO.iload (pc := 45) 5 d_M_does_45 rfl ?_
    refine ZO.iadd (pc := 47) d_M_does_47 ?_
    exact ZO.iret (pc := 48)  d_M_does_48 rfl rfl rfl
def f_M_goesHour (n : Nat) (s : ZSt) : Option (Bool × ZSt) :=
  bn (f_M_ranks n s) (fun p1 =>
  lpN (fun j3 (x2 : Bool × Int32 × ZSt) =>
  (if (gi x2.2.2 0 9) ≤ x2.2.1 then
    lt (si x2.2.2 0 29 ((gi x2.2.2 0 29) + (1 : Int32))) (fun s5 =>
      some (x2.1, s5))
  else gd (inb x2.2.1 6) (
      bn (f_M_does n (ai x2.2.2 125 x2.2.1) x2.2.2) (fun p7 =>
      bn (f_M_notes n (((100 : Int32) * (ai p7.2 125 x2.2.1)) + p7.1) p7.2) (fun p8 =>
      (lt ((if x2.1 = true then
      true
    else (if p7.1 ≤ 0 then
        false
      else true)) : Bool) (fun x9 =>
        lt (x2.2.1 + (1 : Int32)) (fun v10 =>
          j3 (x9, v10, p8))))))))) n (false, (0 : Int32), p1))
set_option maxHeartbeats 4000000 in
set_option maxRecDepth 20000 in
theorem ok_M_goesHour (g : ZG) (n : Nat) (s : ZSt) : ZF g 10 y_M_goesHour [.ref 0] s (f_M_goesHour n s) (fun b => some (.int (b2i b.1))) (fun b => b.2) := by
  refine ZF.of (by decide +kernel) (Nat.le_of_ble_eq_true rfl) ?_
  unfold f_M_goesHour
  show ZO g 10 y_M_goesHour zu0 0 [(0, .ref 0)] [] s _ _
  refine ZO.aload_n (pc := 0) 0 d_M_goesHour_0 rfl rfl ?_
  refine ZO.cVV (pc := 1) (As := []) (rest := []) d_M_goesHour_1 zc_M_299 (by decide) zo_0 rfl rfl rfl (Nat.le_of_ble_eq_true rfl) (ok_M_ranks g n s) (fun p1 ep1 => ?_)
  refine ZO.iconst (pc := 4) (0 : Int32) d_M_goesHour_4 (by decide) ?_
  refine ZO.istore_n (pc := 5) (v := (b2i false)) (L' := [(0, .ref 0), (1, .int (b2i false))]) [1, 0] d_M_goesHour_5 rfl (by decide) rfl ?_
  refine ZO.iconst (pc := 6) (0 : Int32) d_M_goesHour_6 (by decide) ?_
  refine ZO.istore_n (pc := 7) (v := (0 : Int32)) (L' := [(0, .ref 0), (1, .int (b2i false)), (2, .int (0 : Int32))]) [1, 2, 0] d_M_goesHour_7 rfl (by decide) rfl ?_
  refine ZO.loop (fun (x2 : Bool × Int32 × ZSt) => ([(0, .ref 0), (1, .int (b2i x2.1)), (2, .int x2.2.1)] : List (Nat × Value))) (fun (x2 : Bool × Int32 × ZSt) => x2.2.2) [] (fun j3 x2 hj3 => ?_) rfl rfl rfl
  refine ZO.iload_n (pc := 8) 2 d_M_goesHour_8 rfl rfl ?_
  refine ZO.aload_n (pc := 9) 0 d_M_goesHour_9 rfl rfl ?_
  refine ZO.getI (pc := 10) d_M_goesHour_10 zo_0 zf_M_23 rfl ?_
  refine ZO.icmp_ge (pc := 13) 62 d_M_goesHour_13 (by decide) rfl (fun h4 => ?_) (fun h4 => ?_)
  · refine ZO.aload_n (pc := 62) 0 d_M_goesHour_62 rfl rfl ?_
    refine ZO.dup (pc := 63) d_M_goesHour_63 rfl ?_
    refine ZO.getI (pc := 64) d_M_goesHour_64 zo_0 zf_M_308 rfl ?_
    refine ZO.iconst (pc := 67) (1 : Int32) d_M_goesHour_67 (by decide) ?_
    refine ZO.iadd (pc := 68) d_M_goesHour_68 ?_
    refine ZO.putI (pc := 69) d_M_goesHour_69 zo_0 zp_M_308 rfl ?_
    refine ZO.ltS (fun s5 => ?_)
    refine ZO.iload_n (pc := 72) 1 d_M_goesHour_72 rfl rfl ?_
    exact ZO.zret (pc := 73) (v := x2.1) d_M_goesHour_73 rfl rfl rfl
  · refine ZO.aload_n (pc := 16) 0 d_M_goesHour_16 rfl rfl ?_
    refine ZO.aload_n (pc := 17) 0 d_M_goesHour_17 rfl rfl ?_
    refine ZO.getA (pc := 18) 125 d_M_goesHour_18 zo_0 zf_M_281 rfl rfl ?_
    refine ZO.iload_n (pc := 21) 2 d_M_goesHour_21 rfl rfl ?_
    refine ZO.rgd (fun h6 => ?_)
    refine ZO.iald (pc := 22) d_M_goesHour_22 za_125 h6 ?_
    refine ZO.cVI (pc := 23) (As := [.int (ai x2.2.2 125 x2.2.1)]) (rest := []) d_M_goesHour_23 zc_M_302 (by decide) zo_0 rfl rfl rfl (Nat.le_of_ble_eq_true rfl) (ok_M_does g n (ai x2.2.2 125 x2.2.1) x2.2.2) (fun p7 ep7 => ?_)
    refine ZO.istore_n (pc := 26) (v := p7.1) (L' := [(0, .ref 0), (1, .int (b2i x2.1)), (2, .int x2.2.1), (3, .int p7.1)]) [1, 2, 3, 0] d_M_goesHour_26 rfl (by decide) rfl ?_
    refine ZO.aload_n (pc := 27) 0 d_M_goesHour_27 rfl rfl ?_
    refine ZO.bipush (pc := 28) (100 : Int32) d_M_goesHour_28 (by decide) ?_
    refine ZO.aload_n (pc := 30) 0 d_M_goesHour_30 rfl rfl ?_
    refine ZO.getA (pc := 31) 125 d_M_goesHour_31 zo_0 zf_M_281 rfl rfl ?_
    refine ZO.iload_n (pc := 34) 2 d_M_goesHour_34 rfl rfl ?_
    refine ZO.iald (pc := 35) d_M_goesHour_35 za_125 h6 ?_
    refine ZO.imul (pc := 36) d_M_goesHour_36 ?_
    refine ZO.iload_n (pc := 37) 3 d_M_goesHour_37 rfl rfl ?_
    refine ZO.iadd (pc := 38) d_M_goesHour_38 ?_
    refine ZO.cVV (pc := 39) (As := [.int (((100 : Int32) * (ai p7.2 125 x2.2.1)) + p7.1)]) (rest := []) d_M_goesHour_39 zc_M_305 (by decide) zo_0 rfl rfl rfl (Nat.le_of_ble_eq_true rfl) (ok_M_notes g n (((100 : Int32) * (ai p7.2 125 x2.2.1)) + p7.1) p7.2) (fun p8 ep8 => ?_)
    refine ZO.iload_n (pc := 42) 1 d_M_goesHour_42 rfl rfl ?_
    refine ZO.phi (pcJ := 55) (LJ := fun (x9 : Bool) => ([(0, .ref 0), (2, .int x2.2.1)] : List (Nat × Value))) (SJ := fun (x9 : Bool) => ([.int (b2i x9)] : List Value)) (fun x9 => ?_) (fun t hj11 => ?_)
    · refine ZO.istore_n (pc := 55) (v := (b2i x9)) (L' := [(0, .ref 0), (1, .int (b2i x9)), (2, .int x2.2.1)]) [1, 0, 2] d_M_goesHour_55 rfl (by decide) rfl ?_
      refine ZO.iincL (pc := 56) (i := 2) (x2.2.1 + (1 : Int32)) (L' := fun v10 => [(0, .ref 0), (1, .int (b2i x9)), (2, .int v10)]) [1, 2, 0] d_M_goesHour_56 rfl (by rfl) (by decide) (fun _ => rfl) (fun v10 => ?_)
      refine ZO.goto (pc := 59) 8 d_M_goesHour_59 (by decide) ?_
      exact hj3 (x9, v10, p8)
    · refine ZO.ifb_ne (pc := 43) 50 d_M_goesHour_43 (by decide) z_ite (fun h12 => ?_) (fun h12 => ?_)
      · refine ZO.iconst (pc := 50) (1 : Int32) d_M_goesHour_50 (by decide) ?_
        refine ZO.goto (pc := 51) 55 d_M_goesHour_51 (by decide) ?_
        exact ZO.sub [0, 2] rfl (hj11 true (by rw [if_pos h12]))
      · refine ZO.iload_n (pc := 46) 3 d_M_goesHour_46 rfl rfl ?_
        refine ZO.if_le (pc := 47) 54 d_M_goesHour_47 (by decide) z_ite (fun h13 => ?_) (fun h13 => ?_)
        · refine ZO.iconst (pc := 54) (0 : Int32) d_M_goesHour_54 (by decide) ?_
          exact ZO.sub [0, 2] rfl (hj11 false (by rw [if_neg (z_bf h12), if_pos h13]))
        · refine ZO.iconst (pc := 50) (1 : Int32) d_M_goesHour_50 (by decide) ?_
          refine ZO.goto (pc := 51) 55 d_M_goesHour_51 (by decide) ?_
          exact ZO.sub [0, 2] rfl (hj11 true (by rw [if_neg (z_bf h12), if_neg h13]))
def f_M_hours (n : Nat) (a0 : Int32) (s : ZSt) : Option (Int32 × ZSt) :=
  lt (si s 0 0 (0 : Int32)) (fun s1 =>
  (if (f_M_in a0.toInt64 (0 : Int64) (50 : Int64)) = true then
  jn (fun (x3 : Int32 × Bool × ZSt) =>
    lpN (fun j5 (x4 : Int32 × Int32) =>
      (if (gi x3.2.2 0 9) ≤ x4.2 then
        lt (si x3.2.2 0 1 (0 : Int32)) (fun s7 =>
          (lt ((if x3.2.1 = true then
          false
        else true) : Bool) (fun x8 =>
            bn (f_M_enters (f_M_flag x8) s7) (fun p9 =>
              bn (f_M_enters x4.1 p9) (fun p10 =>
              some (x3.1, p10))))))
      else bn (f_M_leftOf x4.2 x3.2.2) (fun p13 =>
          (lt ((if p13 = 0 then
          (shI (1 : Int32) x4.2)
        else (0 : Int32)) : Int32) (fun x14 =>
            lt (x4.1 ||| x14) (fun v15 =>
              lt (x4.2 + (1 : Int32)) (fun v16 =>
              j5 (v15, v16)))))))) n ((0 : Int32), (0 : Int32))) (fun j19 =>
    lpN (fun j21 (x20 : Int32 × Bool × ZSt) =>
    (if a0 ≤ x20.1 then
      j19 (x20.1, x20.2.1, x20.2.2)
    else (if x20.2.1 = true then
        bn (f_M_goesHour n x20.2.2) (fun p24 =>
          lt (x20.1 + (1 : Int32)) (fun v25 =>
          j21 (v25, p24.1, p24.2)))
      else j19 (x20.1, x20.2.1, x20.2.2)))) n ((0 : Int32), true, s1))
else some ((-1 : Int32), s1)))
set_option maxHeartbeats 4000000 in
set_option maxRecDepth 20000 in
theorem ok_M_hours (g : ZG) (n : Nat) (a0 : Int32) (s : ZSt) : ZF g 11 y_M_hours [.ref 0, .int a0] s (f_M_hours n a0 s) (fun b => some (.int b.1)) (fun b => b.2) := by
  refine ZF.of (by decide +kernel) (Nat.le_of_ble_eq_true rfl) ?_
  unfold f_M_hours
  show ZO g 11 y_M_hours zu0 0 [(0, .ref 0), (1, .int a0)] [] s _ _
  refine ZO.aload_n (pc := 0) 0 d_M_hours_0 rfl rfl ?_
  refine ZO.iconst (pc := 1) (0 : Int32) d_M_hours_1 (by decide) ?_
  refine ZO.putI (pc := 2) d_M_hours_2 zo_0 zp_M_3 rfl ?_
  refine ZO.ltS (fun s1 => ?_)
  refine ZO.iload_n (pc := 5) 1 d_M_hours_5 rfl rfl ?_
  refine ZO.i2l (pc := 6) d_M_hours_6 ?_
  refine ZO.lconst (pc := 7) (0 : Int64) d_M_hours_7 (by decide) ?_
  refine ZO.ldc2 (pc := 8) (50 : Int64) d_M_hours_8 zk_M_311 ?_
  refine ZO.tSB (pc := 11) (As := [.long a0.toInt64, .long (0 : Int64), .long (50 : Int64)]) (rest := []) d_M_hours_11 zc_M_17 (by decide) rfl rfl (Nat.le_of_ble_eq_true rfl) (ok_M_in g a0.toInt64 (0 : Int64) (50 : Int64) s1) ?_
  refine ZO.ifb_ne (pc := 14) 19 d_M_hours_14 (by decide) rfl (fun h2 => ?_) (fun h2 => ?_)
  · refine ZO.iconst (pc := 19) (0 : Int32) d_M_hours_19 (by decide) ?_
    refine ZO.istore_n (pc := 20) (v := (0 : Int32)) (L' := [(0, .ref 0), (1, .int a0), (2, .int (0 : Int32))]) [1, 2, 0] d_M_hours_20 rfl (by decide) rfl ?_
    refine ZO.iconst (pc := 21) (1 : Int32) d_M_hours_21 (by decide) ?_
    refine ZO.istore_n (pc := 22) (v := (b2i true)) (L' := [(0, .ref 0), (1, .int a0), (2, .int (0 : Int32)), (3, .int (b2i true))]) [1, 2, 3, 0] d_M_hours_22 rfl (by decide) rfl ?_
    refine ZO.rjn (pcJ := 43) (LJ := fun (x3 : Int32 × Bool × ZSt) => ([(0, .ref 0), (2, .int x3.1), (3, .int (b2i x3.2.1))] : List (Nat × Value))) (SJ := fun (x3 : Int32 × Bool × ZSt) => ([] : List Value)) (σJ := fun (x3 : Int32 × Bool × ZSt) => x3.2.2) (fun x3 => ?_) (fun j19 hj19 => ?_)
    · refine ZO.iconst (pc := 43) (0 : Int32) d_M_hours_43 (by decide) ?_
      refine ZO.istore (pc := 44) (v := (0 : Int32)) (L' := [(0, .ref 0), (2, .int x3.1), (3, .int (b2i x3.2.1)), (4, .int (0 : Int32))]) [1, 2, 3, 0] d_M_hours_44 (by decide) rfl ?_
      refine ZO.iconst (pc := 46) (0 : Int32) d_M_hours_46 (by decide) ?_
      refine ZO.istore (pc := 47) (v := (0 : Int32)) (L' := [(0, .ref 0), (2, .int x3.1), (3, .int (b2i x3.2.1)), (4, .int (0 : Int32)), (5, .int (0 : Int32))]) [1, 2, 3, 4, 0] d_M_hours_47 (by decide) rfl ?_
      refine ZO.loop (fun (x4 : Int32 × Int32) => ([(0, .ref 0), (2, .int x3.1), (3, .int (b2i x3.2.1)), (4, .int x4.1), (5, .int x4.2)] : List (Nat × Value))) (fun (x4 : Int32 × Int32) => x3.2.2) [] (fun j5 x4 hj5 => ?_) rfl rfl rfl
      refine ZO.iload (pc := 49) 4 d_M_hours_49 rfl ?_
      refine ZO.aload_n (pc := 51) 0 d_M_hours_51 rfl rfl ?_
      refine ZO.getI (pc := 52) d_M_hours_52 zo_0 zf_M_23 rfl ?_
      refine ZO.icmp_ge (pc := 55) 86 d_M_hours_55 (by decide) rfl (fun h6 => ?_) (fun h6 => ?_)
      · refine ZO.aload_n (pc := 86) 0 d_M_hours_86 rfl rfl ?_
        refine ZO.iconst (pc := 87) (0 : Int32) d_M_hours_87 (by decide) ?_
        refine ZO.putI (pc := 88) d_M_hours_88 zo_0 zp_M_11 rfl ?_
        refine ZO.ltS (fun s7 => ?_)
        refine ZO.aload_n (pc := 91) 0 d_M_hours_91 rfl rfl ?_
        refine ZO.iload_n (pc := 92) 2 d_M_hours_92 rfl rfl ?_
        refine ZO.phi (pcJ := 101) (LJ := fun (x8 : Bool) => ([(0, .ref 0), (2, .int x3.1), (4, .int x4.1)] : List (Nat × Value))) (SJ := fun (x8 : Bool) => ([.int (b2i x8), .ref 0] : List Value)) (fun x8 => ?_) (fun t hj11 => ?_)
        · refine ZO.tSI (pc := 101) (As := [.int (b2i x8)]) (rest := [.ref 0]) d_M_hours_101 zc_M_33 (by decide) rfl rfl (Nat.le_of_ble_eq_true rfl) (ok_M_flag g x8 s7) ?_
          refine ZO.cVV (pc := 104) (As := [.int (f_M_flag x8)]) (rest := []) d_M_hours_104 zc_M_236 (by decide) zo_0 rfl rfl rfl (Nat.le_of_ble_eq_true rfl) (ok_M_enters g (f_M_flag x8) s7) (fun p9 ep9 => ?_)
          refine ZO.aload_n (pc := 107) 0 d_M_hours_107 rfl rfl ?_
          refine ZO.iload (pc := 108) 2 d_M_hours_108 rfl ?_
          refine ZO.cVV (pc := 110) (As := [.int x4.1]) (rest := []) d_M_hours_110 zc_M_236 (by decide) zo_0 rfl rfl rfl (Nat.le_of_ble_eq_true rfl) (ok_M_enters g x4.1 p9) (fun p10 ep10 => ?_)
          refine ZO.iload_n (pc := 113) 1 d_M_hours_113 rfl rfl ?_
          exact ZO.iret (pc := 114)  d_M_hours_114 rfl rfl rfl
        · refine ZO.ifb_ne (pc := 93) 100 d_M_hours_93 (by decide) z_ite (fun h12 => ?_) (fun h12 => ?_)
          · refine ZO.iconst (pc := 100) (0 : Int32) d_M_hours_100 (by decide) ?_
            exact ZO.sub [0, 1, 3] rfl (hj11 false (by rw [if_pos h12]))
          · refine ZO.iconst (pc := 96) (1 : Int32) d_M_hours_96 (by decide) ?_
            refine ZO.goto (pc := 97) 101 d_M_hours_97 (by decide) ?_
            exact ZO.sub [0, 1, 3] rfl (hj11 true (by rw [if_neg (z_bf h12)]))
      · refine ZO.iload (pc := 58) 3 d_M_hours_58 rfl ?_
        refine ZO.aload_n (pc := 60) 0 d_M_hours_60 rfl rfl ?_
        refine ZO.iload (pc := 61) 4 d_M_hours_61 rfl ?_
        refine ZO.cVI (pc := 63) (As := [.int x4.2]) (rest := [.int x4.1]) d_M_hours_63 zc_M_272 (by decide) zo_0 rfl rfl rfl (Nat.le_of_ble_eq_true rfl) (ok_M_leftOf g x4.2 x3.2.2) (fun p13 ep13 => ?_)
        refine ZO.phi (pcJ := 77) (LJ := fun (x14 : Int32) => ([(0, .ref 0), (2, .int x3.1), (3, .int (b2i x3.2.1)), (5, .int x4.2)] : List (Nat × Value))) (SJ := fun (x14 : Int32) => ([.int x14, .int x4.1] : List Value)) (fun x14 => ?_) (fun t hj17 => ?_)
        · refine ZO.ior (pc := 77) d_M_hours_77 ?_
          refine ZO.ltI (fun v15 => ?_)
          refine ZO.istore (pc := 78) (v := v15) (L' := [(0, .ref 0), (2, .int x3.1), (3, .int (b2i x3.2.1)), (4, .int v15), (5, .int x4.2)]) [1, 2, 3, 0, 4] d_M_hours_78 (by decide) rfl ?_
          refine ZO.iincL (pc := 80) (i := 4) (x4.2 + (1 : Int32)) (L' := fun v16 => [(0, .ref 0), (2, .int x3.1), (3, .int (b2i x3.2.1)), (4, .int v15), (5, .int v16)]) [1, 2, 3, 4, 0] d_M_hours_80 rfl (by rfl) (by decide) (fun _ => rfl) (fun v16 => ?_)
          refine ZO.goto (pc := 83) 49 d_M_hours_83 (by decide) ?_
          exact hj5 (v15, v16)
        · refine ZO.if_ne (pc := 66) 76 d_M_hours_66 (by decide) z_ite (fun h18 => ?_) (fun h18 => ?_)
          · refine ZO.iconst (pc := 69) (1 : Int32) d_M_hours_69 (by decide) ?_
            refine ZO.iload (pc := 70) 4 d_M_hours_70 rfl ?_
            refine ZO.ishl (pc := 72) d_M_hours_72 ?_
            refine ZO.goto (pc := 73) 77 d_M_hours_73 (by decide) ?_
            exact ZO.sub [0, 1, 2, 4] rfl (hj17 (shI (1 : Int32) x4.2) (by rw [if_pos h18]))
          · refine ZO.iconst (pc := 76) (0 : Int32) d_M_hours_76 (by decide) ?_
            exact ZO.sub [0, 1, 2, 4] rfl (hj17 (0 : Int32) (by rw [if_neg h18]))
    · refine ZO.loop (fun (x20 : Int32 × Bool × ZSt) => ([(0, .ref 0), (1, .int a0), (2, .int x20.1), (3, .int (b2i x20.2.1))] : List (Nat × Value))) (fun (x20 : Int32 × Bool × ZSt) => x20.2.2) [] (fun j21 x20 hj21 => ?_) rfl rfl rfl
      refine ZO.iload_n (pc := 23) 2 d_M_hours_23 rfl rfl ?_
      refine ZO.iload_n (pc := 24) 1 d_M_hours_24 rfl rfl ?_
      refine ZO.icmp_ge (pc := 25) 43 d_M_hours_25 (by decide) rfl (fun h22 => ?_) (fun h22 => ?_)
      · exact ZO.sub [0, 2, 3] rfl (hj19 (x20.1, x20.2.1, x20.2.2))
      · refine ZO.iload_n (pc := 28) 3 d_M_hours_28 rfl rfl ?_
        refine ZO.ifb_eq (pc := 29) 43 d_M_hours_29 (by decide) rfl (fun h23 => ?_) (fun h23 => ?_)
        · refine ZO.aload_n (pc := 32) 0 d_M_hours_32 rfl rfl ?_
          refine ZO.cVB (pc := 33) (As := []) (rest := []) d_M_hours_33 zc_M_313 (by decide) zo_0 rfl rfl rfl (Nat.le_of_ble_eq_true rfl) (ok_M_goesHour g n x20.2.2) (fun p24 ep24 => ?_)
          refine ZO.istore_n (pc := 36) (v := (b2i p24.1)) (L' := [(0, .ref 0), (1, .int a0), (2, .int x20.1), (3, .int (b2i p24.1))]) [1, 2, 3, 0] d_M_hours_36 rfl (by decide) rfl ?_
          refine ZO.iincL (pc := 37) (i := 2) (x20.1 + (1 : Int32)) (L' := fun v25 => [(0, .ref 0), (1, .int a0), (2, .int v25), (3, .int (b2i p24.1))]) [1, 2, 0, 3] d_M_hours_37 rfl (by rfl) (by decide) (fun _ => rfl) (fun v25 => ?_)
          refine ZO.goto (pc := 40) 23 d_M_hours_40 (by decide) ?_
          exact hj21 (v25, p24.1, p24.2)
        · exact ZO.sub [0, 2, 3] rfl (hj19 (x20.1, x20.2.1, x20.2.2))
  · refine ZO.iconst (pc := 17) (-1 : Int32) d_M_hours_17 (by decide) ?_
    exact ZO.iret (pc := 18)  d_M_hours_18 rfl rfl rfl
def f_M_log (a0 : Int32) (s : ZSt) : Option (Int32 × ZSt) :=
  lt (si s 0 0 (0 : Int32)) (fun s1 =>
  (if 0 ≤ a0 then
  (if (gi s1 0 27) ≤ a0 then
    some ((-2 : Int32), s1)
  else gd (inb (((gi s1 0 27) - (1 : Int32)) - a0) 60) (
      some ((ai s1 128 (((gi s1 0 27) - (1 : Int32)) - a0)), s1)))
else some ((-1 : Int32), s1)))
set_option maxHeartbeats 4000000 in
set_option maxRecDepth 20000 in
theorem ok_M_log (g : ZG) (a0 : Int32) (s : ZSt) : ZF g 0 y_M_log [.ref 0, .int a0] s (f_M_log a0 s) (fun b => some (.int b.1)) (fun b => b.2) := by
  refine ZF.of (by decide +kernel) (Nat.le_of_ble_eq_true rfl) ?_
  unfold f_M_log
  show ZO g 0 y_M_log zu0 0 [(0, .ref 0), (1, .int a0)] [] s _ _
  refine ZO.aload_n (pc := 0) 0 d_M_log_0 rfl rfl ?_
  refine ZO.iconst (pc := 1) (0 : Int32) d_M_log_1 (by decide) ?_
  refine ZO.putI (pc := 2) d_M_log_2 zo_0 zp_M_3 rfl ?_
  refine ZO.ltS (fun s1 => ?_)
  refine ZO.iload_n (pc := 5) 1 d_M_log_5 rfl rfl ?_
  refine ZO.if_ge (pc := 6) 11 d_M_log_6 (by decide) rfl (fun h2 => ?_) (fun h2 => ?_)
  · refine ZO.iload_n (pc := 11) 1 d_M_log_11 rfl rfl ?_
    refine ZO.aload_n (pc := 12) 0 d_M_log_12 rfl rfl ?_
    refine ZO.getI (pc := 13) d_M_log_13 zo_0 zf_M_284 rfl ?_
    refine ZO.icmp_ge (pc := 16) 35 d_M_log_16 (by decide) rfl (fun h3 => ?_) (fun h3 => ?_)
    · refine ZO.bipush (pc := 35) (-2 : Int32) d_M_log_35 (by decide) ?_
      exact ZO.iret (pc := 37)  d_M_log_37 rfl rfl rfl
    · refine ZO.aload_n (pc := 19) 0 d_M_log_19 rfl rfl ?_
      refine ZO.getA (pc := 20) 128 d_M_log_20 zo_0 zf_M_287 rfl rfl ?_
      refine ZO.aload_n (pc := 23) 0 d_M_log_23 rfl rfl ?_
      refine ZO.getI (pc := 24) d_M_log_24 zo_0 zf_M_284 rfl ?_
      refine ZO.iconst (pc := 27) (1 : Int32) d_M_log_27 (by decide) ?_
      refine ZO.isub (pc := 28) d_M_log_28 ?_
      refine ZO.iload_n (pc := 29) 1 d_M_log_29 rfl rfl ?_
      refine ZO.isub (pc := 30) d_M_log_30 ?_
      refine ZO.rgd (fun h4 => ?_)
      refine ZO.iald (pc := 31) d_M_log_31 za_128 h4 ?_
      refine ZO.goto (pc := 32) 37 d_M_log_32 (by decide) ?_
      exact ZO.iret (pc := 37)  d_M_log_37 rfl rfl rfl
  · refine ZO.iconst (pc := 9) (-1 : Int32) d_M_log_9 (by decide) ?_
    exact ZO.iret (pc := 10)  d_M_log_10 rfl rfl rfl
def f_M_order (n : Nat) (s : ZSt) : Option (Int32 × ZSt) :=
  lt (si s 0 0 (0 : Int32)) (fun s1 =>
  bn (f_M_ranks n s1) (fun p2 =>
  lt (si p2 0 1 (0 : Int32)) (fun s3 =>
  lpN (fun j5 (x4 : Int32 × ZSt) =>
  (if (gi x4.2 0 9) ≤ x4.1 then
    some ((gi x4.2 0 9), x4.2)
  else gd (inb x4.1 6) (
      bn (f_M_enters (ai x4.2 125 x4.1) x4.2) (fun p8 =>
      lt (x4.1 + (1 : Int32)) (fun v9 =>
      j5 (v9, p8)))))) n ((0 : Int32), s3))))
set_option maxHeartbeats 4000000 in
set_option maxRecDepth 20000 in
theorem ok_M_order (g : ZG) (n : Nat) (s : ZSt) : ZF g 5 y_M_order [.ref 0] s (f_M_order n s) (fun b => some (.int b.1)) (fun b => b.2) := by
  refine ZF.of (by decide +kernel) (Nat.le_of_ble_eq_true rfl) ?_
  unfold f_M_order
  show ZO g 5 y_M_order zu0 0 [(0, .ref 0)] [] s _ _
  refine ZO.aload_n (pc := 0) 0 d_M_order_0 rfl rfl ?_
  refine ZO.iconst (pc := 1) (0 : Int32) d_M_order_1 (by decide) ?_
  refine ZO.putI (pc := 2) d_M_order_2 zo_0 zp_M_3 rfl ?_
  refine ZO.ltS (fun s1 => ?_)
  refine ZO.aload_n (pc := 5) 0 d_M_order_5 rfl rfl ?_
  refine ZO.cVV (pc := 6) (As := []) (rest := []) d_M_order_6 zc_M_299 (by decide) zo_0 rfl rfl rfl (Nat.le_of_ble_eq_true rfl) (ok_M_ranks g n s1) (fun p2 ep2 => ?_)
  refine ZO.aload_n (pc := 9) 0 d_M_order_9 rfl rfl ?_
  refine ZO.iconst (pc := 10) (0 : Int32) d_M_order_10 (by decide) ?_
  refine ZO.putI (pc := 11) d_M_order_11 zo_0 zp_M_11 rfl ?_
  refine ZO.ltS (fun s3 => ?_)
  refine ZO.iconst (pc := 14) (0 : Int32) d_M_order_14 (by decide) ?_
  refine ZO.istore_n (pc := 15) (v := (0 : Int32)) (L' := [(0, .ref 0), (1, .int (0 : Int32))]) [1, 0] d_M_order_15 rfl (by decide) rfl ?_
  refine ZO.loop (fun (x4 : Int32 × ZSt) => ([(0, .ref 0), (1, .int x4.1)] : List (Nat × Value))) (fun (x4 : Int32 × ZSt) => x4.2) [] (fun j5 x4 hj5 => ?_) rfl rfl rfl
  refine ZO.iload_n (pc := 16) 1 d_M_order_16 rfl rfl ?_
  refine ZO.aload_n (pc := 17) 0 d_M_order_17 rfl rfl ?_
  refine ZO.getI (pc := 18) d_M_order_18 zo_0 zf_M_23 rfl ?_
  refine ZO.icmp_ge (pc := 21) 40 d_M_order_21 (by decide) rfl (fun h6 => ?_) (fun h6 => ?_)
  · refine ZO.aload_n (pc := 40) 0 d_M_order_40 rfl rfl ?_
    refine ZO.getI (pc := 41) d_M_order_41 zo_0 zf_M_23 rfl ?_
    exact ZO.iret (pc := 44)  d_M_order_44 rfl rfl rfl
  · refine ZO.aload_n (pc := 24) 0 d_M_order_24 rfl rfl ?_
    refine ZO.aload_n (pc := 25) 0 d_M_order_25 rfl rfl ?_
    refine ZO.getA (pc := 26) 125 d_M_order_26 zo_0 zf_M_281 rfl rfl ?_
    refine ZO.iload_n (pc := 29) 1 d_M_order_29 rfl rfl ?_
    refine ZO.rgd (fun h7 => ?_)
    refine ZO.iald (pc := 30) d_M_order_30 za_125 h7 ?_
    refine ZO.cVV (pc := 31) (As := [.int (ai x4.2 125 x4.1)]) (rest := []) d_M_order_31 zc_M_236 (by decide) zo_0 rfl rfl rfl (Nat.le_of_ble_eq_true rfl) (ok_M_enters g (ai x4.2 125 x4.1) x4.2) (fun p8 ep8 => ?_)
    refine ZO.iincL (pc := 34) (i := 1) (x4.1 + (1 : Int32)) (L' := fun v9 => [(0, .ref 0), (1, .int v9)]) [1, 0] d_M_order_34 rfl (by rfl) (by decide) (fun _ => rfl) (fun v9 => ?_)
    refine ZO.goto (pc := 37) 16 d_M_order_37 (by decide) ?_
    exact hj5 (v9, p8)
def f_M_looks (n : Nat) (a0 : Int32) (a1 : Int32) (s : ZSt) : Option (Bool × ZSt) :=
  lt (si s 0 32 (((shI (1 : Int32) (gi s 0 3)) - (1 : Int32)) &&& ((shI (1 : Int32) a0) ^^^ (-1 : Int32)))) (fun s1 =>
  lt (si s1 0 33 (0 : Int32)) (fun s2 =>
  lt (si s2 0 34 (-1 : Int32)) (fun s3 =>
  lt (si s3 0 35 (0 : Int32)) (fun s4 =>
  lpN (fun j6 (x5 : Int32 × ZSt) =>
  (if (shI (1 : Int32) (gi x5.2 0 3)) ≤ x5.1 then
    (if (gi x5.2 0 34) < 0 then
      some (false, x5.2)
    else some (true, x5.2))
  else (jn (fun (x9 : ZSt) =>
        lt (x5.1 + (1 : Int32)) (fun v10 =>
          j6 (v10, x9))) (fun j11 =>
        if (f_M_has x5.1 a0) = true then
      j11 x5.2
    else gd (inb a1 3) (
        (if (ai x5.2 107 a1) ≤ (f_J_bitCount x5.1) then
        j11 x5.2
      else bn (f_M_may n a0 a1 x5.1 x5.2) (fun p15 =>
          (if p15.1 = true then
          lt (si p15.2 0 32 ((gi p15.2 0 32) &&& x5.1)) (fun s17 =>
            lt (si s17 0 33 ((gi s17 0 33) ||| x5.1)) (fun s18 =>
            (lt ((if 0 ≤ (gi s18 0 34) then
            ((f_J_bitCount x5.1) - (f_J_bitCount (gi s18 0 34)))
          else (-1 : Int32)) : Int32) (fun x19 =>
              (lt ((if 0 ≤ x19 then
                (if x19 = 0 then
                  ((gi s18 0 35) + (f_M_flag true))
                else ((gi s18 0 35) + (f_M_flag false)))
              else (1 : Int32)) : Int32) (fun x20 =>
                  lt (si s18 0 35 x20) (fun s21 =>
                    (lt ((if 0 ≤ x19 then
                    (gi s21 0 34)
                  else x5.1) : Int32) (fun x22 =>
                      lt (si s21 0 34 x22) (fun s23 =>
                        j11 s23))))))))))
        else j11 p15.2)))))))) n ((0 : Int32), s4)))))
set_option maxHeartbeats 4000000 in
set_option maxRecDepth 20000 in
theorem ok_M_looks (g : ZG) (n : Nat) (a0 : Int32) (a1 : Int32) (s : ZSt) : ZF g 5 y_M_looks [.ref 0, .int a0, .int a1] s (f_M_looks n a0 a1 s) (fun b => some (.int (b2i b.1))) (fun b => b.2) := by
  refine ZF.of (by decide +kernel) (Nat.le_of_ble_eq_true rfl) ?_
  unfold f_M_looks
  show ZO g 5 y_M_looks zu0 0 [(0, .ref 0), (1, .int a0), (2, .int a1)] [] s _ _
  refine ZO.aload_n (pc := 0) 0 d_M_looks_0 rfl rfl ?_
  refine ZO.iconst (pc := 1) (1 : Int32) d_M_looks_1 (by decide) ?_
  refine ZO.aload_n (pc := 2) 0 d_M_looks_2 rfl rfl ?_
  refine ZO.getI (pc := 3) d_M_looks_3 zo_0 zf_M_14 rfl ?_
  refine ZO.ishl (pc := 6) d_M_looks_6 ?_
  refine ZO.iconst (pc := 7) (1 : Int32) d_M_looks_7 (by decide) ?_
  refine ZO.isub (pc := 8) d_M_looks_8 ?_
  refine ZO.iconst (pc := 9) (1 : Int32) d_M_looks_9 (by decide) ?_
  refine ZO.iload_n (pc := 10) 1 d_M_looks_10 rfl rfl ?_
  refine ZO.ishl (pc := 11) d_M_looks_11 ?_
  refine ZO.iconst (pc := 12) (-1 : Int32) d_M_looks_12 (by decide) ?_
  refine ZO.ixor (pc := 13) d_M_looks_13 ?_
  refine ZO.iand (pc := 14) d_M_looks_14 ?_
  refine ZO.putI (pc := 15) d_M_looks_15 zo_0 zp_M_328 rfl ?_
  refine ZO.ltS (fun s1 => ?_)
  refine ZO.aload_n (pc := 18) 0 d_M_looks_18 rfl rfl ?_
  refine ZO.iconst (pc := 19) (0 : Int32) d_M_looks_19 (by decide) ?_
  refine ZO.putI (pc := 20) d_M_looks_20 zo_0 zp_M_331 rfl ?_
  refine ZO.ltS (fun s2 => ?_)
  refine ZO.aload_n (pc := 23) 0 d_M_looks_23 rfl rfl ?_
  refine ZO.iconst (pc := 24) (-1 : Int32) d_M_looks_24 (by decide) ?_
  refine ZO.putI (pc := 25) d_M_looks_25 zo_0 zp_M_334 rfl ?_
  refine ZO.ltS (fun s3 => ?_)
  refine ZO.aload_n (pc := 28) 0 d_M_looks_28 rfl rfl ?_
  refine ZO.iconst (pc := 29) (0 : Int32) d_M_looks_29 (by decide) ?_
  refine ZO.putI (pc := 30) d_M_looks_30 zo_0 zp_M_337 rfl ?_
  refine ZO.ltS (fun s4 => ?_)
  refine ZO.iconst (pc := 33) (0 : Int32) d_M_looks_33 (by decide) ?_
  refine ZO.istore_n (pc := 34) (v := (0 : Int32)) (L' := [(0, .ref 0), (1, .int a0), (2, .int a1), (3, .int (0 : Int32))]) [1, 2, 3, 0] d_M_looks_34 rfl (by decide) rfl ?_
  refine ZO.loop (fun (x5 : Int32 × ZSt) => ([(0, .ref 0), (1, .int a0), (2, .int a1), (3, .int x5.1)] : List (Nat × Value))) (fun (x5 : Int32 × ZSt) => x5.2) [] (fun j6 x5 hj6 => ?_) rfl rfl rfl
  refine ZO.iload_n (pc := 35) 3 d_M_looks_35 rfl rfl ?_
  refine ZO.iconst (pc := 36) (1 : Int32) d_M_looks_36 (by decide) ?_
  refine ZO.aload_n (pc := 37) 0 d_M_looks_37 rfl rfl ?_
  refine ZO.getI (pc := 38) d_M_looks_38 zo_0 zf_M_14 rfl ?_
  refine ZO.ishl (pc := 41) d_M_looks_41 ?_
  refine ZO.icmp_ge (pc := 42) 178 d_M_looks_42 (by decide) rfl (fun h7 => ?_) (fun h7 => ?_)
  · refine ZO.aload_n (pc := 178) 0 d_M_looks_178 rfl rfl ?_
    refine ZO.getI (pc := 179) d_M_looks_179 zo_0 zf_M_334 rfl ?_
    refine ZO.if_lt (pc := 182) 189 d_M_looks_182 (by decide) rfl (fun h8 => ?_) (fun h8 => ?_)
    · refine ZO.iconst (pc := 189) (0 : Int32) d_M_looks_189 (by decide) ?_
      exact ZO.zret (pc := 190) (v := false) d_M_looks_190 rfl rfl rfl
    · refine ZO.iconst (pc := 185) (1 : Int32) d_M_looks_185 (by decide) ?_
      refine ZO.goto (pc := 186) 190 d_M_looks_186 (by decide) ?_
      exact ZO.zret (pc := 190) (v := true) d_M_looks_190 rfl rfl rfl
  · refine ZO.iload_n (pc := 45) 3 d_M_looks_45 rfl rfl ?_
    refine ZO.iload_n (pc := 46) 1 d_M_looks_46 rfl rfl ?_
    refine ZO.tSB (pc := 47) (As := [.int x5.1, .int a0]) (rest := []) d_M_looks_47 zc_M_29 (by decide) rfl rfl (Nat.le_of_ble_eq_true rfl) (ok_M_has g x5.1 a0 x5.2) ?_
    refine ZO.rjn (pcJ := 172) (LJ := fun (x9 : ZSt) => ([(0, .ref 0), (1, .int a0), (2, .int a1), (3, .int x5.1)] : List (Nat × Value))) (SJ := fun (x9 : ZSt) => ([] : List Value)) (σJ := fun (x9 : ZSt) => x9) (fun x9 => ?_) (fun j11 hj11 => ?_)
    · refine ZO.iincL (pc := 172) (i := 3) (x5.1 + (1 : Int32)) (L' := fun v10 => [(0, .ref 0), (1, .int a0), (2, .int a1), (3, .int v10)]) [1, 2, 3, 0] d_M_looks_172 rfl (by rfl) (by decide) (fun _ => rfl) (fun v10 => ?_)
      refine ZO.goto (pc := 175) 35 d_M_looks_175 (by decide) ?_
      exact hj6 (v10, x9)
    · refine ZO.ifb_ne (pc := 50) 172 d_M_looks_50 (by decide) rfl (fun h12 => ?_) (fun h12 => ?_)
      · exact hj11 x5.2
      · refine ZO.iload_n (pc := 53) 3 d_M_looks_53 rfl rfl ?_
        refine ZO.tSI (pc := 54) (As := [.int x5.1]) (rest := []) d_M_looks_54 zc_M_118 (by decide) rfl rfl (Nat.le_of_ble_eq_true rfl) (ok_J_bitCount g x5.1 x5.2) ?_
        refine ZO.aload_n (pc := 57) 0 d_M_looks_57 rfl rfl ?_
        refine ZO.getA (pc := 58) 107 d_M_looks_58 zo_0 zf_M_199 rfl rfl ?_
        refine ZO.iload_n (pc := 61) 2 d_M_looks_61 rfl rfl ?_
        refine ZO.rgd (fun h13 => ?_)
        refine ZO.iald (pc := 62) d_M_looks_62 za_107 h13 ?_
        refine ZO.icmp_ge (pc := 63) 172 d_M_looks_63 (by decide) rfl (fun h14 => ?_) (fun h14 => ?_)
        · exact hj11 x5.2
        · refine ZO.aload_n (pc := 66) 0 d_M_looks_66 rfl rfl ?_
          refine ZO.iload_n (pc := 67) 1 d_M_looks_67 rfl rfl ?_
          refine ZO.iload_n (pc := 68) 2 d_M_looks_68 rfl rfl ?_
          refine ZO.iload_n (pc := 69) 3 d_M_looks_69 rfl rfl ?_
          refine ZO.cVB (pc := 70) (As := [.int a0, .int a1, .int x5.1]) (rest := []) d_M_looks_70 zc_M_150 (by decide) zo_0 rfl rfl rfl (Nat.le_of_ble_eq_true rfl) (ok_M_may g n a0 a1 x5.1 x5.2) (fun p15 ep15 => ?_)
          refine ZO.ifb_ne (pc := 73) 79 d_M_looks_73 (by decide) rfl (fun h16 => ?_) (fun h16 => ?_)
          · refine ZO.aload_n (pc := 79) 0 d_M_looks_79 rfl rfl ?_
            refine ZO.dup (pc := 80) d_M_looks_80 rfl ?_
            refine ZO.getI (pc := 81) d_M_looks_81 zo_0 zf_M_328 rfl ?_
            refine ZO.iload_n (pc := 84) 3 d_M_looks_84 rfl rfl ?_
            refine ZO.iand (pc := 85) d_M_looks_85 ?_
            refine ZO.putI (pc := 86) d_M_looks_86 zo_0 zp_M_328 rfl ?_
            refine ZO.ltS (fun s17 => ?_)
            refine ZO.aload_n (pc := 89) 0 d_M_looks_89 rfl rfl ?_
            refine ZO.dup (pc := 90) d_M_looks_90 rfl ?_
            refine ZO.getI (pc := 91) d_M_looks_91 zo_0 zf_M_331 rfl ?_
            refine ZO.iload_n (pc := 94) 3 d_M_looks_94 rfl rfl ?_
            refine ZO.ior (pc := 95) d_M_looks_95 ?_
            refine ZO.putI (pc := 96) d_M_looks_96 zo_0 zp_M_331 rfl ?_
            refine ZO.ltS (fun s18 => ?_)
            refine ZO.aload_n (pc := 99) 0 d_M_looks_99 rfl rfl ?_
            refine ZO.getI (pc := 100) d_M_looks_100 zo_0 zf_M_334 rfl ?_
            refine ZO.phi (pcJ := 122) (LJ := fun (x19 : Int32) => ([(0, .ref 0), (1, .int a0), (2, .int a1), (3, .int x5.1)] : List (Nat × Value))) (SJ := fun (x19 : Int32) => ([.int x19] : List Value)) (fun x19 => ?_) (fun t hj29 => ?_)
            · refine ZO.istore (pc := 122) (v := x19) (L' := [(0, .ref 0), (1, .int a0), (2, .int a1), (3, .int x5.1), (4, .int x19)]) [1, 2, 3, 4, 0] d_M_looks_122 (by decide) rfl ?_
              refine ZO.aload_n (pc := 124) 0 d_M_looks_124 rfl rfl ?_
              refine ZO.iload (pc := 125) 4 d_M_looks_125 rfl ?_
              refine ZO.phi (pcJ := 152) (LJ := fun (x20 : Int32) => ([(0, .ref 0), (1, .int a0), (2, .int a1), (3, .int x5.1), (4, .int x19)] : List (Nat × Value))) (SJ := fun (x20 : Int32) => ([.int x20, .ref 0] : List Value)) (fun x20 => ?_) (fun t hj26 => ?_)
              · refine ZO.putI (pc := 152) d_M_looks_152 zo_0 zp_M_337 rfl ?_
                refine ZO.ltS (fun s21 => ?_)
                refine ZO.aload_n (pc := 155) 0 d_M_looks_155 rfl rfl ?_
                refine ZO.iload (pc := 156) 4 d_M_looks_156 rfl ?_
                refine ZO.phi (pcJ := 169) (LJ := fun (x22 : Int32) => ([(0, .ref 0), (1, .int a0), (2, .int a1), (3, .int x5.1)] : List (Nat × Value))) (SJ := fun (x22 : Int32) => ([.int x22, .ref 0] : List Value)) (fun x22 => ?_) (fun t hj24 => ?_)
                · refine ZO.putI (pc := 169) d_M_looks_169 zo_0 zp_M_334 rfl ?_
                  refine ZO.ltS (fun s23 => ?_)
                  exact hj11 s23
                · refine ZO.if_ge (pc := 158) 165 d_M_looks_158 (by decide) z_ite (fun h25 => ?_) (fun h25 => ?_)
                  · refine ZO.aload_n (pc := 165) 0 d_M_looks_165 rfl rfl ?_
                    refine ZO.getI (pc := 166) d_M_looks_166 zo_0 zf_M_334 rfl ?_
                    exact ZO.sub [0, 1, 2, 3] rfl (hj24 (gi s21 0 34) (by rw [if_pos h25]))
                  · refine ZO.iload_n (pc := 161) 3 d_M_looks_161 rfl rfl ?_
                    refine ZO.goto (pc := 162) 169 d_M_looks_162 (by decide) ?_
                    exact ZO.sub [0, 1, 2, 3] rfl (hj24 x5.1 (by rw [if_neg h25]))
              · refine ZO.if_ge (pc := 127) 134 d_M_looks_127 (by decide) z_ite (fun h27 => ?_) (fun h27 => ?_)
                · refine ZO.aload_n (pc := 134) 0 d_M_looks_134 rfl rfl ?_
                  refine ZO.getI (pc := 135) d_M_looks_135 zo_0 zf_M_337 rfl ?_
                  refine ZO.iload (pc := 138) 4 d_M_looks_138 rfl ?_
                  refine ZO.if_ne (pc := 140) 147 d_M_looks_140 (by decide) z_ite (fun h28 => ?_) (fun h28 => ?_)
                  · refine ZO.iconst (pc := 143) (1 : Int32) d_M_looks_143 (by decide) ?_
                    refine ZO.goto (pc := 144) 148 d_M_looks_144 (by decide) ?_
                    refine ZO.tSI (pc := 148) (As := [.int (b2i true)]) (rest := [.int (gi s18 0 35), .ref 0]) d_M_looks_148 zc_M_33 (by decide) rfl rfl (Nat.le_of_ble_eq_true rfl) (ok_M_flag g true s18) ?_
                    refine ZO.iadd (pc := 151) d_M_looks_151 ?_
                    exact hj26 ((gi s18 0 35) + (f_M_flag true)) (by rw [if_pos h27, if_pos h28])
                  · refine ZO.iconst (pc := 147) (0 : Int32) d_M_looks_147 (by decide) ?_
                    refine ZO.tSI (pc := 148) (As := [.int (b2i false)]) (rest := [.int (gi s18 0 35), .ref 0]) d_M_looks_148 zc_M_33 (by decide) rfl rfl (Nat.le_of_ble_eq_true rfl) (ok_M_flag g false s18) ?_
                    refine ZO.iadd (pc := 151) d_M_looks_151 ?_
                    exact hj26 ((gi s18 0 35) + (f_M_flag false)) (by rw [if_pos h27, if_neg h28])
                · refine ZO.iconst (pc := 130) (1 : Int32) d_M_looks_130 (by decide) ?_
                  refine ZO.goto (pc := 131) 152 d_M_looks_131 (by decide) ?_
                  exact hj26 (1 : Int32) (by rw [if_neg h27])
            · refine ZO.if_ge (pc := 103) 110 d_M_looks_103 (by decide) z_ite (fun h30 => ?_) (fun h30 => ?_)
              · refine ZO.iload_n (pc := 110) 3 d_M_looks_110 rfl rfl ?_
                refine ZO.tSI (pc := 111) (As := [.int x5.1]) (rest := []) d_M_looks_111 zc_M_118 (by decide) rfl rfl (Nat.le_of_ble_eq_true rfl) (ok_J_bitCount g x5.1 s18) ?_
                refine ZO.aload_n (pc := 114) 0 d_M_looks_114 rfl rfl ?_
                refine ZO.getI (pc := 115) d_M_looks_115 zo_0 zf_M_334 rfl ?_
                refine ZO.tSI (pc := 118) (As := [.int (gi s18 0 34)]) (rest := [.int (f_J_bitCount x5.1)]) d_M_looks_118 zc_M_118 (by decide) rfl rfl (Nat.le_of_ble_eq_true rfl) (ok_J_bitCount g (gi s18 0 34) s18) ?_
                refine ZO.isub (pc := 121) d_M_looks_121 ?_
                exact hj29 ((f_J_bitCount x5.1) - (f_J_bitCount (gi s18 0 34))) (by rw [if_pos h30])
              · refine ZO.iconst (pc := 106) (-1 : Int32) d_M_looks_106 (by decide) ?_
                refine ZO.goto (pc := 107) 122 d_M_looks_107 (by decide) ?_
                exact hj29 (-1 : Int32) (by rw [if_neg h30])
          · refine ZO.goto (pc := 76) 172 d_M_looks_76 (by decide) ?_
            exact hj11 p15.2
def f_M_needs (n : Nat) (a0 : Int32) (a1 : Int32) (s : ZSt) : Option (Int32 × ZSt) :=
  lt (si s 0 0 (0 : Int32)) (fun s1 =>
  (if (f_M_isBook a0 s1) = true then
  (if (f_M_isTable a1) = true then
    bn (f_M_looks n a0 a1 s1) (fun p4 =>
      some ((gi p4.2 0 32), p4.2))
  else some ((-1 : Int32), s1))
else some ((-1 : Int32), s1)))
set_option maxHeartbeats 4000000 in
set_option maxRecDepth 20000 in
theorem ok_M_needs (g : ZG) (n : Nat) (a0 : Int32) (a1 : Int32) (s : ZSt) : ZF g 6 y_M_needs [.ref 0, .int a0, .int a1] s (f_M_needs n a0 a1 s) (fun b => some (.int b.1)) (fun b => b.2) := by
  refine ZF.of (by decide +kernel) (Nat.le_of_ble_eq_true rfl) ?_
  unfold f_M_needs
  show ZO g 6 y_M_needs zu0 0 [(0, .ref 0), (1, .int a0), (2, .int a1)] [] s _ _
  refine ZO.aload_n (pc := 0) 0 d_M_needs_0 rfl rfl ?_
  refine ZO.iconst (pc := 1) (0 : Int32) d_M_needs_1 (by decide) ?_
  refine ZO.putI (pc := 2) d_M_needs_2 zo_0 zp_M_3 rfl ?_
  refine ZO.ltS (fun s1 => ?_)
  refine ZO.aload_n (pc := 5) 0 d_M_needs_5 rfl rfl ?_
  refine ZO.iload_n (pc := 6) 1 d_M_needs_6 rfl rfl ?_
  refine ZO.tVB (pc := 7) (As := [.int a0]) (rest := []) d_M_needs_7 zc_M_189 (by decide) zo_0 rfl rfl rfl (Nat.le_of_ble_eq_true rfl) (ok_M_isBook g a0 s1) ?_
  refine ZO.ifb_eq (pc := 10) 20 d_M_needs_10 (by decide) rfl (fun h2 => ?_) (fun h2 => ?_)
  · refine ZO.iload_n (pc := 13) 2 d_M_needs_13 rfl rfl ?_
    refine ZO.tSB (pc := 14) (As := [.int a1]) (rest := []) d_M_needs_14 zc_M_194 (by decide) rfl rfl (Nat.le_of_ble_eq_true rfl) (ok_M_isTable g a1 s1) ?_
    refine ZO.ifb_ne (pc := 17) 22 d_M_needs_17 (by decide) rfl (fun h3 => ?_) (fun h3 => ?_)
    · refine ZO.aload_n (pc := 22) 0 d_M_needs_22 rfl rfl ?_
      refine ZO.iload_n (pc := 23) 1 d_M_needs_23 rfl rfl ?_
      refine ZO.iload_n (pc := 24) 2 d_M_needs_24 rfl rfl ?_
      refine ZO.cVB (pc := 25) (As := [.int a0, .int a1]) (rest := []) d_M_needs_25 zc_M_340 (by decide) zo_0 rfl rfl rfl (Nat.le_of_ble_eq_true rfl) (ok_M_looks g n a0 a1 s1) (fun p4 ep4 => ?_)
      refine ZO.pop (pc := 28) d_M_needs_28 rfl ?_
      refine ZO.aload_n (pc := 29) 0 d_M_needs_29 rfl rfl ?_
      refine ZO.getI (pc := 30) d_M_needs_30 zo_0 zf_M_328 rfl ?_
      exact ZO.iret (pc := 33)  d_M_needs_33 rfl rfl rfl
    · refine ZO.iconst (pc := 20) (-1 : Int32) d_M_needs_20 (by decide) ?_
      exact ZO.iret (pc := 21)  d_M_needs_21 rfl rfl rfl
  · refine ZO.iconst (pc := 20) (-1 : Int32) d_M_needs_20 (by decide) ?_
    exact ZO.iret (pc := 21)  d_M_needs_21 rfl rfl rfl
def f_M_bars (n : Nat) (a0 : Int32) (a1 : Int32) (s : ZSt) : Option (Int32 × ZSt) :=
  lt (si s 0 0 (0 : Int32)) (fun s1 =>
  (if (f_M_isBook a0 s1) = true then
  (if (f_M_isTable a1) = true then
    bn (f_M_looks n a0 a1 s1) (fun p4 =>
      some (((((shI (1 : Int32) (gi p4.2 0 3)) - (1 : Int32)) &&& ((shI (1 : Int32) a0) ^^^ (-1 : Int32))) &&& ((gi p4.2 0 33) ^^^ (-1 : Int32))), p4.2))
  else some ((-1 : Int32), s1))
else some ((-1 : Int32), s1)))
set_option maxHeartbeats 4000000 in
set_option maxRecDepth 20000 in
theorem ok_M_bars (g : ZG) (n : Nat) (a0 : Int32) (a1 : Int32) (s : ZSt) : ZF g 6 y_M_bars [.ref 0, .int a0, .int a1] s (f_M_bars n a0 a1 s) (fun b => some (.int b.1)) (fun b => b.2) := by
  refine ZF.of (by decide +kernel) (Nat.le_of_ble_eq_true rfl) ?_
  unfold f_M_bars
  show ZO g 6 y_M_bars zu0 0 [(0, .ref 0), (1, .int a0), (2, .int a1)] [] s _ _
  refine ZO.aload_n (pc := 0) 0 d_M_bars_0 rfl rfl ?_
  refine ZO.iconst (pc := 1) (0 : Int32) d_M_bars_1 (by decide) ?_
  refine ZO.putI (pc := 2) d_M_bars_2 zo_0 zp_M_3 rfl ?_
  refine ZO.ltS (fun s1 => ?_)
  refine ZO.aload_n (pc := 5) 0 d_M_bars_5 rfl rfl ?_
  refine ZO.iload_n (pc := 6) 1 d_M_bars_6 rfl rfl ?_
  refine ZO.tVB (pc := 7) (As := [.int a0]) (rest := []) d_M_bars_7 zc_M_189 (by decide) zo_0 rfl rfl rfl (Nat.le_of_ble_eq_true rfl) (ok_M_isBook g a0 s1) ?_
  refine ZO.ifb_eq (pc := 10) 20 d_M_bars_10 (by decide) rfl (fun h2 => ?_) (fun h2 => ?_)
  · refine ZO.iload_n (pc := 13) 2 d_M_bars_13 rfl rfl ?_
    refine ZO.tSB (pc := 14) (As := [.int a1]) (rest := []) d_M_bars_14 zc_M_194 (by decide) rfl rfl (Nat.le_of_ble_eq_true rfl) (ok_M_isTable g a1 s1) ?_
    refine ZO.ifb_ne (pc := 17) 22 d_M_bars_17 (by decide) rfl (fun h3 => ?_) (fun h3 => ?_)
    · refine ZO.aload_n (pc := 22) 0 d_M_bars_22 rfl rfl ?_
      refine ZO.iload_n (pc := 23) 1 d_M_bars_23 rfl rfl ?_
      refine ZO.iload_n (pc := 24) 2 d_M_bars_24 rfl rfl ?_
      refine ZO.cVB (pc := 25) (As := [.int a0, .int a1]) (rest := []) d_M_bars_25 zc_M_340 (by decide) zo_0 rfl rfl rfl (Nat.le_of_ble_eq_true rfl) (ok_M_looks g n a0 a1 s1) (fun p4 ep4 => ?_)
      refine ZO.pop (pc := 28) d_M_bars_28 rfl ?_
      refine ZO.iconst (pc := 29) (1 : Int32) d_M_bars_29 (by decide) ?_
      refine ZO.aload_n (pc := 30) 0 d_M_bars_30 rfl rfl ?_
      refine ZO.getI (pc := 31) d_M_bars_31 zo_0 zf_M_14 rfl ?_
      refine ZO.ishl (pc := 34) d_M_bars_34 ?_
      refine ZO.iconst (pc := 35) (1 : Int32) d_M_bars_35 (by decide) ?_
      refine ZO.isub (pc := 36) d_M_bars_36 ?_
      refine ZO.iconst (pc := 37) (1 : Int32) d_M_bars_37 (by decide) ?_
      refine ZO.iload_n (pc := 38) 1 d_M_bars_38 rfl rfl ?_
      refine ZO.ishl (pc := 39) d_M_bars_39 ?_
      refine ZO.iconst (pc := 40) (-1 : Int32) d_M_bars_40 (by decide) ?_
      refine ZO.ixor (pc := 41) d_M_bars_41 ?_
      refine ZO.iand (pc := 42) d_M_bars_42 ?_
      refine ZO.aload_n (pc := 43) 0 d_M_bars_43 rfl rfl ?_
      refine ZO.getI (pc := 44) d_M_bars_44 zo_0 zf_M_331 rfl ?_
      refine ZO.iconst (pc := 47) (-1 : Int32) d_M_bars_47 (by decide) ?_
      refine ZO.ixor (pc := 48) d_M_bars_48 ?_
      refine ZO.iand (pc := 49) d_M_bars_49 ?_
      exact ZO.iret (pc := 50)  d_M_bars_50 rfl rfl rfl
    · refine ZO.iconst (pc := 20) (-1 : Int32) d_M_bars_20 (by decide) ?_
      exact ZO.iret (pc := 21)  d_M_bars_21 rfl rfl rfl
  · refine ZO.iconst (pc := 20) (-1 : Int32) d_M_bars_20 (by decide) ?_
    exact ZO.iret (pc := 21)  d_M_bars_21 rfl rfl rfl
def f_M_least (n : Nat) (a0 : Int32) (a1 : Int32) (s : ZSt) : Option (Int32 × ZSt) :=
  lt (si s 0 0 (0 : Int32)) (fun s1 =>
  (if (f_M_isBook a0 s1) = true then
  (if (f_M_isTable a1) = true then
    bn (f_M_looks n a0 a1 s1) (fun p4 =>
      (if p4.1 = true then
      lt (si p4.2 0 1 (0 : Int32)) (fun s6 =>
        bn (f_M_enters (gi s6 0 34) s6) (fun p7 =>
        bn (f_M_enters (gi p7 0 35) p7) (fun p8 =>
        some ((f_J_bitCount (gi p8 0 34)), p8))))
    else some ((-2 : Int32), p4.2)))
  else some ((-1 : Int32), s1))
else some ((-1 : Int32), s1)))
set_option maxHeartbeats 4000000 in
set_option maxRecDepth 20000 in
theorem ok_M_least (g : ZG) (n : Nat) (a0 : Int32) (a1 : Int32) (s : ZSt) : ZF g 6 y_M_least [.ref 0, .int a0, .int a1] s (f_M_least n a0 a1 s) (fun b => some (.int b.1)) (fun b => b.2) := by
  refine ZF.of (by decide +kernel) (Nat.le_of_ble_eq_true rfl) ?_
  unfold f_M_least
  show ZO g 6 y_M_least zu0 0 [(0, .ref 0), (1, .int a0), (2, .int a1)] [] s _ _
  refine ZO.aload_n (pc := 0) 0 d_M_least_0 rfl rfl ?_
  refine ZO.iconst (pc := 1) (0 : Int32) d_M_least_1 (by decide) ?_
  refine ZO.putI (pc := 2) d_M_least_2 zo_0 zp_M_3 rfl ?_
  refine ZO.ltS (fun s1 => ?_)
  refine ZO.aload_n (pc := 5) 0 d_M_least_5 rfl rfl ?_
  refine ZO.iload_n (pc := 6) 1 d_M_least_6 rfl rfl ?_
  refine ZO.tVB (pc := 7) (As := [.int a0]) (rest := []) d_M_least_7 zc_M_189 (by decide) zo_0 rfl rfl rfl (Nat.le_of_ble_eq_true rfl) (ok_M_isBook g a0 s1) ?_
  refine ZO.ifb_eq (pc := 10) 20 d_M_least_10 (by decide) rfl (fun h2 => ?_) (fun h2 => ?_)
  · refine ZO.iload_n (pc := 13) 2 d_M_least_13 rfl rfl ?_
    refine ZO.tSB (pc := 14) (As := [.int a1]) (rest := []) d_M_least_14 zc_M_194 (by decide) rfl rfl (Nat.le_of_ble_eq_true rfl) (ok_M_isTable g a1 s1) ?_
    refine ZO.ifb_ne (pc := 17) 22 d_M_least_17 (by decide) rfl (fun h3 => ?_) (fun h3 => ?_)
    · refine ZO.aload_n (pc := 22) 0 d_M_least_22 rfl rfl ?_
      refine ZO.iload_n (pc := 23) 1 d_M_least_23 rfl rfl ?_
      refine ZO.iload_n (pc := 24) 2 d_M_least_24 rfl rfl ?_
      refine ZO.cVB (pc := 25) (As := [.int a0, .int a1]) (rest := []) d_M_least_25 zc_M_340 (by decide) zo_0 rfl rfl rfl (Nat.le_of_ble_eq_true rfl) (ok_M_looks g n a0 a1 s1) (fun p4 ep4 => ?_)
      refine ZO.ifb_ne (pc := 28) 34 d_M_least_28 (by decide) rfl (fun h5 => ?_) (fun h5 => ?_)
      · refine ZO.aload_n (pc := 34) 0 d_M_least_34 rfl rfl ?_
        refine ZO.iconst (pc := 35) (0 : Int32) d_M_least_35 (by decide) ?_
        refine ZO.putI (pc := 36) d_M_least_36 zo_0 zp_M_11 rfl ?_
        refine ZO.ltS (fun s6 => ?_)
        refine ZO.aload_n (pc := 39) 0 d_M_least_39 rfl rfl ?_
        refine ZO.aload_n (pc := 40) 0 d_M_least_40 rfl rfl ?_
        refine ZO.getI (pc := 41) d_M_least_41 zo_0 zf_M_334 rfl ?_
        refine ZO.cVV (pc := 44) (As := [.int (gi s6 0 34)]) (rest := []) d_M_least_44 zc_M_236 (by decide) zo_0 rfl rfl rfl (Nat.le_of_ble_eq_true rfl) (ok_M_enters g (gi s6 0 34) s6) (fun p7 ep7 => ?_)
        refine ZO.aload_n (pc := 47) 0 d_M_least_47 rfl rfl ?_
        refine ZO.aload_n (pc := 48) 0 d_M_least_48 rfl rfl ?_
        refine ZO.getI (pc := 49) d_M_least_49 zo_0 zf_M_337 rfl ?_
        refine ZO.cVV (pc := 52) (As := [.int (gi p7 0 35)]) (rest := []) d_M_least_52 zc_M_236 (by decide) zo_0 rfl rfl rfl (Nat.le_of_ble_eq_true rfl) (ok_M_enters g (gi p7 0 35) p7) (fun p8 ep8 => ?_)
        refine ZO.aload_n (pc := 55) 0 d_M_least_55 rfl rfl ?_
        refine ZO.getI (pc := 56) d_M_least_56 zo_0 zf_M_334 rfl ?_
        refine ZO.tSI (pc := 59) (As := [.int (gi p8 0 34)]) (rest := []) d_M_least_59 zc_M_118 (by decide) rfl rfl (Nat.le_of_ble_eq_true rfl) (ok_J_bitCount g (gi p8 0 34) p8) ?_
        exact ZO.iret (pc := 62)  d_M_least_62 rfl rfl rfl
      · refine ZO.bipush (pc := 31) (-2 : Int32) d_M_least_31 (by decide) ?_
        exact ZO.iret (pc := 33)  d_M_least_33 rfl rfl rfl
    · refine ZO.iconst (pc := 20) (-1 : Int32) d_M_least_20 (by decide) ?_
      exact ZO.iret (pc := 21)  d_M_least_21 rfl rfl rfl
  · refine ZO.iconst (pc := 20) (-1 : Int32) d_M_least_20 (by decide) ?_
    exact ZO.iret (pc := 21)  d_M_least_21 rfl rfl rfl
def f_M_nextOf (a0 : Int32) (a1 : Int32) (s : ZSt) : Option Int32 :=
  gd (inb (((24 : Int32) * a0) + a1) 98304) (
  some (ai s 136 (((24 : Int32) * a0) + a1)))
set_option maxHeartbeats 4000000 in
set_option maxRecDepth 20000 in
theorem ok_M_nextOf (g : ZG) (a0 : Int32) (a1 : Int32) (s : ZSt) : ZF g 0 y_M_nextOf [.ref 0, .int a0, .int a1] s (f_M_nextOf a0 a1 s) (fun b => some (.int b)) (fun _ => s) := by
  refine ZF.of (by decide +kernel) (Nat.le_of_ble_eq_true rfl) ?_
  unfold f_M_nextOf
  show ZO g 0 y_M_nextOf zu0 0 [(0, .ref 0), (1, .int a0), (2, .int a1)] [] s _ _
  refine ZO.aload_n (pc := 0) 0 d_M_nextOf_0 rfl rfl ?_
  refine ZO.getA (pc := 1) 136 d_M_nextOf_1 zo_0 zf_M_343 rfl rfl ?_
  refine ZO.bipush (pc := 4) (24 : Int32) d_M_nextOf_4 (by decide) ?_
  refine ZO.iload_n (pc := 6) 1 d_M_nextOf_6 rfl rfl ?_
  refine ZO.imul (pc := 7) d_M_nextOf_7 ?_
  refine ZO.iload_n (pc := 8) 2 d_M_nextOf_8 rfl rfl ?_
  refine ZO.iadd (pc := 9) d_M_nextOf_9 ?_
  refine ZO.rgd (fun h1 => ?_)
  refine ZO.iald (pc := 10) d_M_nextOf_10 za_136 h1 ?_
  exact ZO.iret (pc := 11)  d_M_nextOf_11 rfl rfl rfl
def f_M_laysOut (n : Nat) (a0 : Int32) (s : ZSt) : Option ZSt :=
  lpN (fun j2 (x1 : Int32 × ZSt) =>
  (if (shI (1 : Int32) (gi x1.2 0 3)) ≤ x1.1 then
    some x1.2
  else lpN (fun j5 (x4 : Int32 × ZSt) =>
      (if (gi x4.2 0 3) ≤ x4.1 then
        lt (x1.1 + (1 : Int32)) (fun v7 =>
          j2 (v7, x4.2))
      else (jn (fun (x8 : Int32 × ZSt) =>
            (jn (fun (x9 : Int32 × ZSt) =>
                gd (inb (((24 : Int32) * x1.1) + x4.1) 98304) (
                  lt (sai x9.2 136 (((24 : Int32) * x1.1) + x4.1) x9.1) (fun s11 =>
                  (jn (fun (x12 : Int32 × ZSt) =>
                    gd (inb ((((24 : Int32) * x1.1) + (12 : Int32)) + x4.1) 98304) (
                      lt (sai x12.2 136 ((((24 : Int32) * x1.1) + (12 : Int32)) + x4.1) x12.1) (fun s14 =>
                      lt (x4.1 + (1 : Int32)) (fun v15 =>
                      j5 (v15, s14))))) (fun j16 =>
                    if (f_M_has x1.1 x4.1) = true then
                  bn (f_M_settled n a0 (x1.1 &&& ((shI (1 : Int32) x4.1) ^^^ (-1 : Int32))) s11) (fun p18 =>
                    j16 (p18.1, p18.2))
                else j16 ((-1 : Int32), s11)))))) (fun j19 =>
                if x8.1 = 0 then
              j19 ((-1 : Int32), x8.2)
            else bn (f_M_settled n a0 (x1.1 ||| (shI (1 : Int32) x4.1)) x8.2) (fun p21 =>
                j19 (p21.1, p21.2))))) (fun j22 =>
            jn (fun (x23 : ZSt) =>
            j22 ((0 : Int32), x23)) (fun j24 =>
            if (f_M_has x1.1 x4.1) = true then
          j24 x4.2
        else gd (inb x4.1 12) (
            (if (ai x4.2 104 x4.1) ≤ (ai x4.2 105 x4.1) then
            j24 x4.2
          else gd (inb a0 3) (
              (if (ai x4.2 107 a0) ≤ (f_J_bitCount x1.1) then
              j24 x4.2
            else bn (f_M_may n x4.1 a0 x1.1 x4.2) (fun p30 =>
                (if p30.1 = true then
                j22 ((1 : Int32), p30.2)
              else j24 p30.2))))))))))) n ((0 : Int32), x1.2))) n ((0 : Int32), s)
set_option maxHeartbeats 4000000 in
set_option maxRecDepth 20000 in
theorem ok_M_laysOut (g : ZG) (n : Nat) (a0 : Int32) (s : ZSt) : ZF g 6 y_M_laysOut [.ref 0, .int a0] s (f_M_laysOut n a0 s) (fun _ => none) (fun b => b) := by
  refine ZF.of (by decide +kernel) (Nat.le_of_ble_eq_true rfl) ?_
  unfold f_M_laysOut
  show ZO g 6 y_M_laysOut zu0 0 [(0, .ref 0), (1, .int a0)] [] s _ _
  refine ZO.iconst (pc := 0) (0 : Int32) d_M_laysOut_0 (by decide) ?_
  refine ZO.istore_n (pc := 1) (v := (0 : Int32)) (L' := [(0, .ref 0), (1, .int a0), (2, .int (0 : Int32))]) [1, 2, 0] d_M_laysOut_1 rfl (by decide) rfl ?_
  refine ZO.loop (fun (x1 : Int32 × ZSt) => ([(0, .ref 0), (1, .int a0), (2, .int x1.1)] : List (Nat × Value))) (fun (x1 : Int32 × ZSt) => x1.2) [] (fun j2 x1 hj2 => ?_) rfl rfl rfl
  refine ZO.iload_n (pc := 2) 2 d_M_laysOut_2 rfl rfl ?_
  refine ZO.iconst (pc := 3) (1 : Int32) d_M_laysOut_3 (by decide) ?_
  refine ZO.aload_n (pc := 4) 0 d_M_laysOut_4 rfl rfl ?_
  refine ZO.getI (pc := 5) d_M_laysOut_5 zo_0 zf_M_14 rfl ?_
  refine ZO.ishl (pc := 8) d_M_laysOut_8 ?_
  refine ZO.icmp_ge (pc := 9) 155 d_M_laysOut_9 (by decide) rfl (fun h3 => ?_) (fun h3 => ?_)
  · exact ZO.vret (pc := 155) d_M_laysOut_155 rfl rfl rfl
  · refine ZO.iconst (pc := 12) (0 : Int32) d_M_laysOut_12 (by decide) ?_
    refine ZO.istore_n (pc := 13) (v := (0 : Int32)) (L' := [(0, .ref 0), (1, .int a0), (2, .int x1.1), (3, .int (0 : Int32))]) [1, 2, 3, 0] d_M_laysOut_13 rfl (by decide) rfl ?_
    refine ZO.loop (fun (x4 : Int32 × ZSt) => ([(0, .ref 0), (1, .int a0), (2, .int x1.1), (3, .int x4.1)] : List (Nat × Value))) (fun (x4 : Int32 × ZSt) => x4.2) [] (fun j5 x4 hj5 => ?_) rfl rfl rfl
    refine ZO.iload_n (pc := 14) 3 d_M_laysOut_14 rfl rfl ?_
    refine ZO.aload_n (pc := 15) 0 d_M_laysOut_15 rfl rfl ?_
    refine ZO.getI (pc := 16) d_M_laysOut_16 zo_0 zf_M_14 rfl ?_
    refine ZO.icmp_ge (pc := 19) 149 d_M_laysOut_19 (by decide) rfl (fun h6 => ?_) (fun h6 => ?_)
    · refine ZO.iincL (pc := 149) (i := 2) (x1.1 + (1 : Int32)) (L' := fun v7 => [(0, .ref 0), (1, .int a0), (2, .int v7), (3, .int x4.1)]) [1, 2, 0, 3] d_M_laysOut_149 rfl (by rfl) (by decide) (fun _ => rfl) (fun v7 => ?_)
      refine ZO.goto (pc := 152) 2 d_M_laysOut_152 (by decide) ?_
      exact ZO.sub [0, 1, 2] rfl (hj2 (v7, x4.2))
    · refine ZO.iload_n (pc := 22) 2 d_M_laysOut_22 rfl rfl ?_
      refine ZO.iload_n (pc := 23) 3 d_M_laysOut_23 rfl rfl ?_
      refine ZO.tSB (pc := 24) (As := [.int x1.1, .int x4.1]) (rest := []) d_M_laysOut_24 zc_M_29 (by decide) rfl rfl (Nat.le_of_ble_eq_true rfl) (ok_M_has g x1.1 x4.1 x4.2) ?_
      refine ZO.rjn (pcJ := 73) (LJ := fun (x8 : Int32 × ZSt) => ([(0, .ref 0), (1, .int a0), (2, .int x1.1), (3, .int x4.1)] : List (Nat × Value))) (SJ := fun (x8 : Int32 × ZSt) => ([.int x8.1] : List Value)) (σJ := fun (x8 : Int32 × ZSt) => x8.2) (fun x8 => ?_) (fun j22 hj22 => ?_)
      · refine ZO.istore (pc := 73) (v := x8.1) (L' := [(0, .ref 0), (1, .int a0), (2, .int x1.1), (3, .int x4.1), (4, .int x8.1)]) [1, 2, 3, 4, 0] d_M_laysOut_73 (by decide) rfl ?_
        refine ZO.aload_n (pc := 75) 0 d_M_laysOut_75 rfl rfl ?_
        refine ZO.getA (pc := 76) 136 d_M_laysOut_76 zo_0 zf_M_343 rfl rfl ?_
        refine ZO.bipush (pc := 79) (24 : Int32) d_M_laysOut_79 (by decide) ?_
        refine ZO.iload_n (pc := 81) 2 d_M_laysOut_81 rfl rfl ?_
        refine ZO.imul (pc := 82) d_M_laysOut_82 ?_
        refine ZO.iload_n (pc := 83) 3 d_M_laysOut_83 rfl rfl ?_
        refine ZO.iadd (pc := 84) d_M_laysOut_84 ?_
        refine ZO.iload (pc := 85) 4 d_M_laysOut_85 rfl ?_
        refine ZO.rjn (pcJ := 104) (LJ := fun (x9 : Int32 × ZSt) => ([(0, .ref 0), (1, .int a0), (2, .int x1.1), (3, .int x4.1)] : List (Nat × Value))) (SJ := fun (x9 : Int32 × ZSt) => ([.int x9.1, .int (((24 : Int32) * x1.1) + x4.1), .ref 136] : List Value)) (σJ := fun (x9 : Int32 × ZSt) => x9.2) (fun x9 => ?_) (fun j19 hj19 => ?_)
        · refine ZO.rgd (fun h10 => ?_)
          refine ZO.iast (pc := 104) d_M_laysOut_104 za_136 h10 ?_
          refine ZO.ltS (fun s11 => ?_)
          refine ZO.aload_n (pc := 105) 0 d_M_laysOut_105 rfl rfl ?_
          refine ZO.getA (pc := 106) 136 d_M_laysOut_106 zo_0 zf_M_343 rfl rfl ?_
          refine ZO.bipush (pc := 109) (24 : Int32) d_M_laysOut_109 (by decide) ?_
          refine ZO.iload_n (pc := 111) 2 d_M_laysOut_111 rfl rfl ?_
          refine ZO.imul (pc := 112) d_M_laysOut_112 ?_
          refine ZO.bipush (pc := 113) (12 : Int32) d_M_laysOut_113 (by decide) ?_
          refine ZO.iadd (pc := 115) d_M_laysOut_115 ?_
          refine ZO.iload_n (pc := 116) 3 d_M_laysOut_116 rfl rfl ?_
          refine ZO.iadd (pc := 117) d_M_laysOut_117 ?_
          refine ZO.iload_n (pc := 118) 2 d_M_laysOut_118 rfl rfl ?_
          refine ZO.iload_n (pc := 119) 3 d_M_laysOut_119 rfl rfl ?_
          refine ZO.tSB (pc := 120) (As := [.int x1.1, .int x4.1]) (rest := [.int ((((24 : Int32) * x1.1) + (12 : Int32)) + x4.1), .ref 136]) d_M_laysOut_120 zc_M_29 (by decide) rfl rfl (Nat.le_of_ble_eq_true rfl) (ok_M_has g x1.1 x4.1 s11) ?_
          refine ZO.rjn (pcJ := 142) (LJ := fun (x12 : Int32 × ZSt) => ([(0, .ref 0), (1, .int a0), (2, .int x1.1), (3, .int x4.1)] : List (Nat × Value))) (SJ := fun (x12 : Int32 × ZSt) => ([.int x12.1, .int ((((24 : Int32) * x1.1) + (12 : Int32)) + x4.1), .ref 136] : List Value)) (σJ := fun (x12 : Int32 × ZSt) => x12.2) (fun x12 => ?_) (fun j16 hj16 => ?_)
          · refine ZO.rgd (fun h13 => ?_)
            refine ZO.iast (pc := 142) d_M_laysOut_142 za_136 h13 ?_
            refine ZO.ltS (fun s14 => ?_)
            refine ZO.iincL (pc := 143) (i := 3) (x4.1 + (1 : Int32)) (L' := fun v15 => [(0, .ref 0), (1, .int a0), (2, .int x1.1), (3, .int v15)]) [1, 2, 3, 0] d_M_laysOut_143 rfl (by rfl) (by decide) (fun _ => rfl) (fun v15 => ?_)
            refine ZO.goto (pc := 146) 14 d_M_laysOut_146 (by decide) ?_
            exact hj5 (v15, s14)
          · refine ZO.ifb_eq (pc := 123) 141 d_M_laysOut_123 (by decide) rfl (fun h17 => ?_) (fun h17 => ?_)
            · refine ZO.aload_n (pc := 126) 0 d_M_laysOut_126 rfl rfl ?_
              refine ZO.iload_n (pc := 127) 1 d_M_laysOut_127 rfl rfl ?_
              refine ZO.iload_n (pc := 128) 2 d_M_laysOut_128 rfl rfl ?_
              refine ZO.iconst (pc := 129) (1 : Int32) d_M_laysOut_129 (by decide) ?_
              refine ZO.iload_n (pc := 130) 3 d_M_laysOut_130 rfl rfl ?_
              refine ZO.ishl (pc := 131) d_M_laysOut_131 ?_
              refine ZO.iconst (pc := 132) (-1 : Int32) d_M_laysOut_132 (by decide) ?_
              refine ZO.ixor (pc := 133) d_M_laysOut_133 ?_
              refine ZO.iand (pc := 134) d_M_laysOut_134 ?_
              refine ZO.cVI (pc := 135) (As := [.int a0, .int (x1.1 &&& ((shI (1 : Int32) x4.1) ^^^ (-1 : Int32)))]) (rest := [.int ((((24 : Int32) * x1.1) + (12 : Int32)) + x4.1), .ref 136]) d_M_laysOut_135 zc_M_186 (by decide) zo_0 rfl rfl rfl (Nat.le_of_ble_eq_true rfl) (ok_M_settled g n a0 (x1.1 &&& ((shI (1 : Int32) x4.1) ^^^ (-1 : Int32))) s11) (fun p18 ep18 => ?_)
              refine ZO.goto (pc := 138) 142 d_M_laysOut_138 (by decide) ?_
              exact hj16 (p18.1, p18.2)
            · refine ZO.iconst (pc := 141) (-1 : Int32) d_M_laysOut_141 (by decide) ?_
              exact hj16 ((-1 : Int32), s11)
        · refine ZO.if_eq (pc := 87) 103 d_M_laysOut_87 (by decide) rfl (fun h20 => ?_) (fun h20 => ?_)
          · refine ZO.iconst (pc := 103) (-1 : Int32) d_M_laysOut_103 (by decide) ?_
            exact ZO.sub [0, 1, 2, 3] rfl (hj19 ((-1 : Int32), x8.2))
          · refine ZO.aload_n (pc := 90) 0 d_M_laysOut_90 rfl rfl ?_
            refine ZO.iload_n (pc := 91) 1 d_M_laysOut_91 rfl rfl ?_
            refine ZO.iload_n (pc := 92) 2 d_M_laysOut_92 rfl rfl ?_
            refine ZO.iconst (pc := 93) (1 : Int32) d_M_laysOut_93 (by decide) ?_
            refine ZO.iload_n (pc := 94) 3 d_M_laysOut_94 rfl rfl ?_
            refine ZO.ishl (pc := 95) d_M_laysOut_95 ?_
            refine ZO.ior (pc := 96) d_M_laysOut_96 ?_
            refine ZO.cVI (pc := 97) (As := [.int a0, .int (x1.1 ||| (shI (1 : Int32) x4.1))]) (rest := [.int (((24 : Int32) * x1.1) + x4.1), .ref 136]) d_M_laysOut_97 zc_M_186 (by decide) zo_0 rfl rfl rfl (Nat.le_of_ble_eq_true rfl) (ok_M_settled g n a0 (x1.1 ||| (shI (1 : Int32) x4.1)) x8.2) (fun p21 ep21 => ?_)
            refine ZO.goto (pc := 100) 104 d_M_laysOut_100 (by decide) ?_
            exact ZO.sub [0, 1, 2, 3] rfl (hj19 (p21.1, p21.2))
      · refine ZO.rjn (pcJ := 72) (LJ := fun (x23 : ZSt) => ([(0, .ref 0), (1, .int a0), (2, .int x1.1), (3, .int x4.1)] : List (Nat × Value))) (SJ := fun (x23 : ZSt) => ([] : List Value)) (σJ := fun (x23 : ZSt) => x23) (fun x23 => ?_) (fun j24 hj24 => ?_)
        · refine ZO.iconst (pc := 72) (0 : Int32) d_M_laysOut_72 (by decide) ?_
          exact hj22 ((0 : Int32), x23)
        · refine ZO.ifb_ne (pc := 27) 72 d_M_laysOut_27 (by decide) rfl (fun h25 => ?_) (fun h25 => ?_)
          · exact hj24 x4.2
          · refine ZO.aload_n (pc := 30) 0 d_M_laysOut_30 rfl rfl ?_
            refine ZO.getA (pc := 31) 105 d_M_laysOut_31 zo_0 zf_M_176 rfl rfl ?_
            refine ZO.iload_n (pc := 34) 3 d_M_laysOut_34 rfl rfl ?_
            refine ZO.rgd (fun h26 => ?_)
            refine ZO.iald (pc := 35) d_M_laysOut_35 za_105 h26 ?_
            refine ZO.aload_n (pc := 36) 0 d_M_laysOut_36 rfl rfl ?_
            refine ZO.getA (pc := 37) 104 d_M_laysOut_37 zo_0 zf_M_173 rfl rfl ?_
            refine ZO.iload_n (pc := 40) 3 d_M_laysOut_40 rfl rfl ?_
            refine ZO.iald (pc := 41) d_M_laysOut_41 za_104 h26 ?_
            refine ZO.icmp_ge (pc := 42) 72 d_M_laysOut_42 (by decide) rfl (fun h27 => ?_) (fun h27 => ?_)
            · exact hj24 x4.2
            · refine ZO.iload_n (pc := 45) 2 d_M_laysOut_45 rfl rfl ?_
              refine ZO.tSI (pc := 46) (As := [.int x1.1]) (rest := []) d_M_laysOut_46 zc_M_118 (by decide) rfl rfl (Nat.le_of_ble_eq_true rfl) (ok_J_bitCount g x1.1 x4.2) ?_
              refine ZO.aload_n (pc := 49) 0 d_M_laysOut_49 rfl rfl ?_
              refine ZO.getA (pc := 50) 107 d_M_laysOut_50 zo_0 zf_M_199 rfl rfl ?_
              refine ZO.iload_n (pc := 53) 1 d_M_laysOut_53 rfl rfl ?_
              refine ZO.rgd (fun h28 => ?_)
              refine ZO.iald (pc := 54) d_M_laysOut_54 za_107 h28 ?_
              refine ZO.icmp_ge (pc := 55) 72 d_M_laysOut_55 (by decide) rfl (fun h29 => ?_) (fun h29 => ?_)
              · exact hj24 x4.2
              · refine ZO.aload_n (pc := 58) 0 d_M_laysOut_58 rfl rfl ?_
                refine ZO.iload_n (pc := 59) 3 d_M_laysOut_59 rfl rfl ?_
                refine ZO.iload_n (pc := 60) 1 d_M_laysOut_60 rfl rfl ?_
                refine ZO.iload_n (pc := 61) 2 d_M_laysOut_61 rfl rfl ?_
                refine ZO.cVB (pc := 62) (As := [.int x4.1, .int a0, .int x1.1]) (rest := []) d_M_laysOut_62 zc_M_150 (by decide) zo_0 rfl rfl rfl (Nat.le_of_ble_eq_true rfl) (ok_M_may g n x4.1 a0 x1.1 x4.2) (fun p30 ep30 => ?_)
                refine ZO.ifb_eq (pc := 65) 72 d_M_laysOut_65 (by decide) rfl (fun h31 => ?_) (fun h31 => ?_)
                · refine ZO.iconst (pc := 68) (1 : Int32) d_M_laysOut_68 (by decide) ?_
                  refine ZO.goto (pc := 69) 73 d_M_laysOut_69 (by decide) ?_
                  exact hj22 ((1 : Int32), p30.2)
                · exact hj24 p30.2
def f_M_spreads (n : Nat) (a0 : Int32) (s : ZSt) : Option ZSt :=
  lpN (fun j2 (x1 : Int32 × ZSt) =>
  (if (shI (1 : Int32) (gi x1.2 0 3)) ≤ x1.1 then
    lt (sai x1.2 139 (0 : Int32) a0) (fun s4 =>
      lt (si s4 0 40 (1 : Int32)) (fun s5 =>
      gd (inb a0 4096) (
      lt (sai s5 137 a0 (0 : Int32)) (fun s7 =>
      lt (sai s7 138 a0 (-1 : Int32)) (fun s8 =>
      lpN (fun j10 (x9 : Int32 × ZSt) =>
      (if (gi x9.2 0 40) ≤ x9.1 then
        some x9.2
      else gd (inb x9.1 4096) (
          lt (ai x9.2 139 x9.1) (fun v13 =>
          lpN (fun j15 (x14 : Int32 × ZSt) =>
          (if (24 : Int32) ≤ x14.1 then
            lt (x9.1 + (1 : Int32)) (fun v17 =>
              j10 (v17, x14.2))
          else (jn (fun (x18 : Int32) =>
                (jn (fun (x19 : ZSt) =>
                    lt (x14.1 + (1 : Int32)) (fun v20 =>
                      j15 (v20, x19))) (fun j21 =>
                    if x18 < 0 then
                  j21 x14.2
                else gd (inb x18 4096) (
                    (if 0 ≤ (ai x14.2 137 x18) then
                    j21 x14.2
                  else gd (inb v13 4096) (
                      lt (sai x14.2 137 x18 ((ai x14.2 137 v13) + (1 : Int32))) (fun s26 =>
                      lt (sai s26 138 x18 (((24 : Int32) * v13) + x14.1)) (fun s27 =>
                      gd (inb (gi s27 0 40) 4096) (
                      lt (sai s27 139 (gi s27 0 40) x18) (fun s29 =>
                      lt (si s29 0 40 ((gi s29 0 40) + (1 : Int32))) (fun s30 =>
                      j21 s30))))))))))) (fun j31 =>
                if (gi x14.2 0 3) ≤ (remI x14.1 (12 : Int32)) then
              j31 (-1 : Int32)
            else bn (f_M_nextOf v13 x14.1 x14.2) (fun p33 =>
                j31 p33))))) n ((0 : Int32), x9.2))))) n ((0 : Int32), s8))))))
  else gd (inb x1.1 4096) (
      lt (sai x1.2 137 x1.1 (-1 : Int32)) (fun s35 =>
      lt (x1.1 + (1 : Int32)) (fun v36 =>
      j2 (v36, s35)))))) n ((0 : Int32), s)
set_option maxHeartbeats 4000000 in
set_option maxRecDepth 20000 in
theorem ok_M_spreads (g : ZG) (n : Nat) (a0 : Int32) (s : ZSt) : ZF g 1 y_M_spreads [.ref 0, .int a0] s (f_M_spreads n a0 s) (fun _ => none) (fun b => b) := by
  refine ZF.of (by decide +kernel) (Nat.le_of_ble_eq_true rfl) ?_
  unfold f_M_spreads
  show ZO g 1 y_M_spreads zu0 0 [(0, .ref 0), (1, .int a0)] [] s _ _
  refine ZO.iconst (pc := 0) (0 : Int32) d_M_spreads_0 (by decide) ?_
  refine ZO.istore_n (pc := 1) (v := (0 : Int32)) (L' := [(0, .ref 0), (1, .int a0), (2, .int (0 : Int32))]) [1, 2, 0] d_M_spreads_1 rfl (by decide) rfl ?_
  refine ZO.loop (fun (x1 : Int32 × ZSt) => ([(0, .ref 0), (1, .int a0), (2, .int x1.1)] : List (Nat × Value))) (fun (x1 : Int32 × ZSt) => x1.2) [] (fun j2 x1 hj2 => ?_) rfl rfl rfl
  refine ZO.iload_n (pc := 2) 2 d_M_spreads_2 rfl rfl ?_
  refine ZO.iconst (pc := 3) (1 : Int32) d_M_spreads_3 (by decide) ?_
  refine ZO.aload_n (pc := 4) 0 d_M_spreads_4 rfl rfl ?_
  refine ZO.getI (pc := 5) d_M_spreads_5 zo_0 zf_M_14 rfl ?_
  refine ZO.ishl (pc := 8) d_M_spreads_8 ?_
  refine ZO.icmp_ge (pc := 9) 25 d_M_spreads_9 (by decide) rfl (fun h3 => ?_) (fun h3 => ?_)
  · refine ZO.aload_n (pc := 25) 0 d_M_spreads_25 rfl rfl ?_
    refine ZO.getA (pc := 26) 139 d_M_spreads_26 zo_0 zf_M_349 rfl rfl ?_
    refine ZO.iconst (pc := 29) (0 : Int32) d_M_spreads_29 (by decide) ?_
    refine ZO.iload_n (pc := 30) 1 d_M_spreads_30 rfl rfl ?_
    refine ZO.iast (pc := 31) d_M_spreads_31 za_139 (by decide) ?_
    refine ZO.ltS (fun s4 => ?_)
    refine ZO.aload_n (pc := 32) 0 d_M_spreads_32 rfl rfl ?_
    refine ZO.iconst (pc := 33) (1 : Int32) d_M_spreads_33 (by decide) ?_
    refine ZO.putI (pc := 34) d_M_spreads_34 zo_0 zp_M_352 rfl ?_
    refine ZO.ltS (fun s5 => ?_)
    refine ZO.aload_n (pc := 37) 0 d_M_spreads_37 rfl rfl ?_
    refine ZO.getA (pc := 38) 137 d_M_spreads_38 zo_0 zf_M_346 rfl rfl ?_
    refine ZO.iload_n (pc := 41) 1 d_M_spreads_41 rfl rfl ?_
    refine ZO.iconst (pc := 42) (0 : Int32) d_M_spreads_42 (by decide) ?_
    refine ZO.rgd (fun h6 => ?_)
    refine ZO.iast (pc := 43) d_M_spreads_43 za_137 h6 ?_
    refine ZO.ltS (fun s7 => ?_)
    refine ZO.aload_n (pc := 44) 0 d_M_spreads_44 rfl rfl ?_
    refine ZO.getA (pc := 45) 138 d_M_spreads_45 zo_0 zf_M_355 rfl rfl ?_
    refine ZO.iload_n (pc := 48) 1 d_M_spreads_48 rfl rfl ?_
    refine ZO.iconst (pc := 49) (-1 : Int32) d_M_spreads_49 (by decide) ?_
    refine ZO.iast (pc := 50) d_M_spreads_50 za_138 h6 ?_
    refine ZO.ltS (fun s8 => ?_)
    refine ZO.iconst (pc := 51) (0 : Int32) d_M_spreads_51 (by decide) ?_
    refine ZO.istore_n (pc := 52) (v := (0 : Int32)) (L' := [(0, .ref 0), (1, .int a0), (2, .int (0 : Int32))]) [1, 2, 0] d_M_spreads_52 rfl (by decide) rfl ?_
    refine ZO.sub (L' := [(0, .ref 0), (2, .int (0 : Int32))]) [0, 2] rfl ?_
    refine ZO.loop (fun (x9 : Int32 × ZSt) => ([(0, .ref 0), (2, .int x9.1)] : List (Nat × Value))) (fun (x9 : Int32 × ZSt) => x9.2) [] (fun j10 x9 hj10 => ?_) rfl rfl rfl
    refine ZO.iload_n (pc := 53) 1 d_M_spreads_53 rfl rfl ?_
    refine ZO.aload_n (pc := 54) 0 d_M_spreads_54 rfl rfl ?_
    refine ZO.getI (pc := 55) d_M_spreads_55 zo_0 zf_M_352 rfl ?_
    refine ZO.icmp_ge (pc := 58) 180 d_M_spreads_58 (by decide) rfl (fun h11 => ?_) (fun h11 => ?_)
    · exact ZO.vret (pc := 180) d_M_spreads_180 rfl rfl rfl
    · refine ZO.aload_n (pc := 61) 0 d_M_spreads_61 rfl rfl ?_
      refine ZO.getA (pc := 62) 139 d_M_spreads_62 zo_0 zf_M_349 rfl rfl ?_
      refine ZO.iload_n (pc := 65) 1 d_M_spreads_65 rfl rfl ?_
      refine ZO.rgd (fun h12 => ?_)
      refine ZO.iald (pc := 66) d_M_spreads_66 za_139 h12 ?_
      refine ZO.ltI (fun v13 => ?_)
      refine ZO.istore_n (pc := 67) (v := v13) (L' := [(0, .ref 0), (2, .int x9.1), (3, .int v13)]) [1, 2, 0] d_M_spreads_67 rfl (by decide) rfl ?_
      refine ZO.iconst (pc := 68) (0 : Int32) d_M_spreads_68 (by decide) ?_
      refine ZO.istore (pc := 69) (v := (0 : Int32)) (L' := [(0, .ref 0), (2, .int x9.1), (3, .int v13), (4, .int (0 : Int32))]) [1, 2, 3, 0] d_M_spreads_69 (by decide) rfl ?_
      refine ZO.loop (fun (x14 : Int32 × ZSt) => ([(0, .ref 0), (2, .int x9.1), (3, .int v13), (4, .int x14.1)] : List (Nat × Value))) (fun (x14 : Int32 × ZSt) => x14.2) [] (fun j15 x14 hj15 => ?_) rfl rfl rfl
      refine ZO.iload (pc := 71) 3 d_M_spreads_71 rfl ?_
      refine ZO.bipush (pc := 73) (24 : Int32) d_M_spreads_73 (by decide) ?_
      refine ZO.icmp_ge (pc := 75) 174 d_M_spreads_75 (by decide) rfl (fun h16 => ?_) (fun h16 => ?_)
      · refine ZO.iincL (pc := 174) (i := 1) (x9.1 + (1 : Int32)) (L' := fun v17 => [(0, .ref 0), (2, .int v17), (3, .int v13), (4, .int x14.1)]) [1, 0, 2, 3] d_M_spreads_174 rfl (by rfl) (by decide) (fun _ => rfl) (fun v17 => ?_)
        refine ZO.goto (pc := 177) 53 d_M_spreads_177 (by decide) ?_
        exact ZO.sub [0, 1] rfl (hj10 (v17, x14.2))
      · refine ZO.iload (pc := 78) 3 d_M_spreads_78 rfl ?_
        refine ZO.bipush (pc := 80) (12 : Int32) d_M_spreads_80 (by decide) ?_
        refine ZO.irem (pc := 82) d_M_spreads_82 (by decide) ?_
        refine ZO.aload_n (pc := 83) 0 d_M_spreads_83 rfl rfl ?_
        refine ZO.getI (pc := 84) d_M_spreads_84 zo_0 zf_M_14 rfl ?_
        refine ZO.rjn (pcJ := 101) (LJ := fun (x18 : Int32) => ([(0, .ref 0), (2, .int x9.1), (3, .int v13), (4, .int x14.1)] : List (Nat × Value))) (SJ := fun (x18 : Int32) => ([.int x18] : List Value)) (σJ := fun (x18 : Int32) => x14.2) (fun x18 => ?_) (fun j31 hj31 => ?_)
        · refine ZO.istore (pc := 101) (v := x18) (L' := [(0, .ref 0), (2, .int x9.1), (3, .int v13), (4, .int x14.1), (5, .int x18)]) [1, 2, 3, 4, 0] d_M_spreads_101 (by decide) rfl ?_
          refine ZO.iload (pc := 103) 4 d_M_spreads_103 rfl ?_
          refine ZO.rjn (pcJ := 168) (LJ := fun (x19 : ZSt) => ([(0, .ref 0), (2, .int x9.1), (3, .int v13), (4, .int x14.1)] : List (Nat × Value))) (SJ := fun (x19 : ZSt) => ([] : List Value)) (σJ := fun (x19 : ZSt) => x19) (fun x19 => ?_) (fun j21 hj21 => ?_)
          · refine ZO.iincL (pc := 168) (i := 3) (x14.1 + (1 : Int32)) (L' := fun v20 => [(0, .ref 0), (2, .int x9.1), (3, .int v13), (4, .int v20)]) [1, 2, 3, 0] d_M_spreads_168 rfl (by rfl) (by decide) (fun _ => rfl) (fun v20 => ?_)
            refine ZO.goto (pc := 171) 71 d_M_spreads_171 (by decide) ?_
            exact hj15 (v20, x19)
          · refine ZO.if_lt (pc := 105) 168 d_M_spreads_105 (by decide) rfl (fun h22 => ?_) (fun h22 => ?_)
            · exact ZO.sub [0, 1, 2, 3] rfl (hj21 x14.2)
            · refine ZO.aload_n (pc := 108) 0 d_M_spreads_108 rfl rfl ?_
              refine ZO.getA (pc := 109) 137 d_M_spreads_109 zo_0 zf_M_346 rfl rfl ?_
              refine ZO.iload (pc := 112) 4 d_M_spreads_112 rfl ?_
              refine ZO.rgd (fun h23 => ?_)
              refine ZO.iald (pc := 114) d_M_spreads_114 za_137 h23 ?_
              refine ZO.if_ge (pc := 115) 168 d_M_spreads_115 (by decide) rfl (fun h24 => ?_) (fun h24 => ?_)
              · exact ZO.sub [0, 1, 2, 3] rfl (hj21 x14.2)
              · refine ZO.aload_n (pc := 118) 0 d_M_spreads_118 rfl rfl ?_
                refine ZO.getA (pc := 119) 137 d_M_spreads_119 zo_0 zf_M_346 rfl rfl ?_
                refine ZO.iload (pc := 122) 4 d_M_spreads_122 rfl ?_
                refine ZO.aload_n (pc := 124) 0 d_M_spreads_124 rfl rfl ?_
                refine ZO.getA (pc := 125) 137 d_M_spreads_125 zo_0 zf_M_346 rfl rfl ?_
                refine ZO.iload_n (pc := 128) 2 d_M_spreads_128 rfl rfl ?_
                refine ZO.rgd (fun h25 => ?_)
                refine ZO.iald (pc := 129) d_M_spreads_129 za_137 h25 ?_
                refine ZO.iconst (pc := 130) (1 : Int32) d_M_spreads_130 (by decide) ?_
                refine ZO.iadd (pc := 131) d_M_spreads_131 ?_
                refine ZO.iast (pc := 132) d_M_spreads_132 za_137 h23 ?_
                refine ZO.ltS (fun s26 => ?_)
                refine ZO.aload_n (pc := 133) 0 d_M_spreads_133 rfl rfl ?_
                refine ZO.getA (pc := 134) 138 d_M_spreads_134 zo_0 zf_M_355 rfl rfl ?_
                refine ZO.iload (pc := 137) 4 d_M_spreads_137 rfl ?_
                refine ZO.bipush (pc := 139) (24 : Int32) d_M_spreads_139 (by decide) ?_
                refine ZO.iload_n (pc := 141) 2 d_M_spreads_141 rfl rfl ?_
                refine ZO.imul (pc := 142) d_M_spreads_142 ?_
                refine ZO.iload (pc := 143) 3 d_M_spreads_143 rfl ?_
                refine ZO.iadd (pc := 145) d_M_spreads_145 ?_
                refine ZO.iast (pc := 146) d_M_spreads_146 za_138 h23 ?_
                refine ZO.ltS (fun s27 => ?_)
                refine ZO.aload_n (pc := 147) 0 d_M_spreads_147 rfl rfl ?_
                refine ZO.getA (pc := 148) 139 d_M_spreads_148 zo_0 zf_M_349 rfl rfl ?_
                refine ZO.aload_n (pc := 151) 0 d_M_spreads_151 rfl rfl ?_
                refine ZO.getI (pc := 152) d_M_spreads_152 zo_0 zf_M_352 rfl ?_
                refine ZO.iload (pc := 155) 4 d_M_spreads_155 rfl ?_
                refine ZO.rgd (fun h28 => ?_)
                refine ZO.iast (pc := 157) d_M_spreads_157 za_139 h28 ?_
                refine ZO.ltS (fun s29 => ?_)
                refine ZO.aload_n (pc := 158) 0 d_M_spreads_158 rfl rfl ?_
                refine ZO.dup (pc := 159) d_M_spreads_159 rfl ?_
                refine ZO.getI (pc := 160) d_M_spreads_160 zo_0 zf_M_352 rfl ?_
                refine ZO.iconst (pc := 163) (1 : Int32) d_M_spreads_163 (by decide) ?_
                refine ZO.iadd (pc := 164) d_M_spreads_164 ?_
                refine ZO.putI (pc := 165) d_M_spreads_165 zo_0 zp_M_352 rfl ?_
                refine ZO.ltS (fun s30 => ?_)
                exact ZO.sub [0, 1, 2, 3] rfl (hj21 s30)
        · refine ZO.icmp_ge (pc := 87) 100 d_M_spreads_87 (by decide) rfl (fun h32 => ?_) (fun h32 => ?_)
          · refine ZO.iconst (pc := 100) (-1 : Int32) d_M_spreads_100 (by decide) ?_
            exact hj31 (-1 : Int32)
          · refine ZO.aload_n (pc := 90) 0 d_M_spreads_90 rfl rfl ?_
            refine ZO.iload_n (pc := 91) 2 d_M_spreads_91 rfl rfl ?_
            refine ZO.iload (pc := 92) 3 d_M_spreads_92 rfl ?_
            refine ZO.cVI (pc := 94) (As := [.int v13, .int x14.1]) (rest := []) d_M_spreads_94 zc_M_358 (by decide) zo_0 rfl rfl rfl (Nat.le_of_ble_eq_true rfl) (ok_M_nextOf g v13 x14.1 x14.2) (fun p33 ep33 => ?_)
            refine ZO.goto (pc := 97) 101 d_M_spreads_97 (by decide) ?_
            exact hj31 p33
  · refine ZO.aload_n (pc := 12) 0 d_M_spreads_12 rfl rfl ?_
    refine ZO.getA (pc := 13) 137 d_M_spreads_13 zo_0 zf_M_346 rfl rfl ?_
    refine ZO.iload_n (pc := 16) 2 d_M_spreads_16 rfl rfl ?_
    refine ZO.iconst (pc := 17) (-1 : Int32) d_M_spreads_17 (by decide) ?_
    refine ZO.rgd (fun h34 => ?_)
    refine ZO.iast (pc := 18) d_M_spreads_18 za_137 h34 ?_
    refine ZO.ltS (fun s35 => ?_)
    refine ZO.iincL (pc := 19) (i := 2) (x1.1 + (1 : Int32)) (L' := fun v36 => [(0, .ref 0), (1, .int a0), (2, .int v36)]) [1, 2, 0] d_M_spreads_19 rfl (by rfl) (by decide) (fun _ => rfl) (fun v36 => ?_)
    refine ZO.goto (pc := 22) 2 d_M_spreads_22 (by decide) ?_
    exact hj2 (v36, s35)
def f_M_everOpen (n : Nat) (s : ZSt) : Option Int32 :=
  lpN (fun j2 (x1 : Int32 × Int32) =>
  (if (gi s 0 40) ≤ x1.2 then
    some x1.1
  else gd (inb x1.2 4096) (
      lt (x1.1 ||| (ai s 139 x1.2)) (fun v5 =>
      lt (x1.2 + (1 : Int32)) (fun v6 =>
      j2 (v5, v6)))))) n ((0 : Int32), (0 : Int32))
set_option maxHeartbeats 4000000 in
set_option maxRecDepth 20000 in
theorem ok_M_everOpen (g : ZG) (n : Nat) (s : ZSt) : ZF g 0 y_M_everOpen [.ref 0] s (f_M_everOpen n s) (fun b => some (.int b)) (fun _ => s) := by
  refine ZF.of (by decide +kernel) (Nat.le_of_ble_eq_true rfl) ?_
  unfold f_M_everOpen
  show ZO g 0 y_M_everOpen zu0 0 [(0, .ref 0)] [] s _ _
  refine ZO.iconst (pc := 0) (0 : Int32) d_M_everOpen_0 (by decide) ?_
  refine ZO.istore_n (pc := 1) (v := (0 : Int32)) (L' := [(0, .ref 0), (1, .int (0 : Int32))]) [1, 0] d_M_everOpen_1 rfl (by decide) rfl ?_
  refine ZO.iconst (pc := 2) (0 : Int32) d_M_everOpen_2 (by decide) ?_
  refine ZO.istore_n (pc := 3) (v := (0 : Int32)) (L' := [(0, .ref 0), (1, .int (0 : Int32)), (2, .int (0 : Int32))]) [1, 2, 0] d_M_everOpen_3 rfl (by decide) rfl ?_
  refine ZO.loop (fun (x1 : Int32 × Int32) => ([(0, .ref 0), (1, .int x1.1), (2, .int x1.2)] : List (Nat × Value))) (fun (x1 : Int32 × Int32) => s) [] (fun j2 x1 hj2 => ?_) rfl rfl rfl
  refine ZO.iload_n (pc := 4) 2 d_M_everOpen_4 rfl rfl ?_
  refine ZO.aload_n (pc := 5) 0 d_M_everOpen_5 rfl rfl ?_
  refine ZO.getI (pc := 6) d_M_everOpen_6 zo_0 zf_M_352 rfl ?_
  refine ZO.icmp_ge (pc := 9) 27 d_M_everOpen_9 (by decide) rfl (fun h3 => ?_) (fun h3 => ?_)
  · refine ZO.iload_n (pc := 27) 1 d_M_everOpen_27 rfl rfl ?_
    exact ZO.iret (pc := 28)  d_M_everOpen_28 rfl rfl rfl
  · refine ZO.iload_n (pc := 12) 1 d_M_everOpen_12 rfl rfl ?_
    refine ZO.aload_n (pc := 13) 0 d_M_everOpen_13 rfl rfl ?_
    refine ZO.getA (pc := 14) 139 d_M_everOpen_14 zo_0 zf_M_349 rfl rfl ?_
    refine ZO.iload_n (pc := 17) 2 d_M_everOpen_17 rfl rfl ?_
    refine ZO.rgd (fun h4 => ?_)
    refine ZO.iald (pc := 18) d_M_everOpen_18 za_139 h4 ?_
    refine ZO.ior (pc := 19) d_M_everOpen_19 ?_
    refine ZO.ltI (fun v5 => ?_)
    refine ZO.istore_n (pc := 20) (v := v5) (L' := [(0, .ref 0), (1, .int v5), (2, .int x1.2)]) [1, 0, 2] d_M_everOpen_20 rfl (by decide) rfl ?_
    refine ZO.iincL (pc := 21) (i := 2) (x1.2 + (1 : Int32)) (L' := fun v6 => [(0, .ref 0), (1, .int v5), (2, .int v6)]) [1, 2, 0] d_M_everOpen_21 rfl (by rfl) (by decide) (fun _ => rfl) (fun v6 => ?_)
    refine ZO.goto (pc := 24) 4 d_M_everOpen_24 (by decide) ?_
    exact hj2 (v5, v6)
def f_M_hold (n : Nat) (a0 : Int32) (s : ZSt) : Option (Int32 × ZSt) :=
  lt (si s 0 0 (0 : Int32)) (fun s1 =>
  (if (f_M_isTable a0) = true then
  lpN (fun j4 (x3 : Int32 × Int32 × Int32 × ZSt) =>
    (if (shI (1 : Int32) (gi x3.2.2.2 0 3)) ≤ x3.2.2.1 then
      lt (si x3.2.2.2 0 1 (0 : Int32)) (fun s6 =>
        bn (f_M_enters x3.2.1 s6) (fun p7 =>
        some (x3.1, p7)))
    else gd (inb a0 3) (
        (jn (fun (x9 : Int32 × Int32 × ZSt) =>
          lt (x3.2.2.1 + (1 : Int32)) (fun v10 =>
            j4 (x9.1, x9.2.1, v10, x9.2.2))) (fun j11 =>
          if (ai x3.2.2.2 107 a0) < (f_J_bitCount x3.2.2.1) then
        j11 (x3.1, x3.2.1, x3.2.2.2)
      else bn (f_M_settled n a0 x3.2.2.1 x3.2.2.2) (fun p13 =>
          (if p13.1 = x3.2.2.1 then
          lt (x3.1 + (1 : Int32)) (fun v15 =>
            (lt ((if (f_J_bitCount x3.2.2.1) ≤ (f_J_bitCount x3.2.1) then
            x3.2.1
          else x3.2.2.1) : Int32) (fun x16 =>
              j11 (v15, x16, p13.2))))
        else j11 (x3.1, x3.2.1, p13.2)))))))) n ((0 : Int32), (0 : Int32), (0 : Int32), s1)
else some ((-1 : Int32), s1)))
set_option maxHeartbeats 4000000 in
set_option maxRecDepth 20000 in
theorem ok_M_hold (g : ZG) (n : Nat) (a0 : Int32) (s : ZSt) : ZF g 6 y_M_hold [.ref 0, .int a0] s (f_M_hold n a0 s) (fun b => some (.int b.1)) (fun b => b.2) := by
  refine ZF.of (by decide +kernel) (Nat.le_of_ble_eq_true rfl) ?_
  unfold f_M_hold
  show ZO g 6 y_M_hold zu0 0 [(0, .ref 0), (1, .int a0)] [] s _ _
  refine ZO.aload_n (pc := 0) 0 d_M_hold_0 rfl rfl ?_
  refine ZO.iconst (pc := 1) (0 : Int32) d_M_hold_1 (by decide) ?_
  refine ZO.putI (pc := 2) d_M_hold_2 zo_0 zp_M_3 rfl ?_
  refine ZO.ltS (fun s1 => ?_)
  refine ZO.iload_n (pc := 5) 1 d_M_hold_5 rfl rfl ?_
  refine ZO.tSB (pc := 6) (As := [.int a0]) (rest := []) d_M_hold_6 zc_M_194 (by decide) rfl rfl (Nat.le_of_ble_eq_true rfl) (ok_M_isTable g a0 s1) ?_
  refine ZO.ifb_ne (pc := 9) 14 d_M_hold_9 (by decide) rfl (fun h2 => ?_) (fun h2 => ?_)
  · refine ZO.iconst (pc := 14) (0 : Int32) d_M_hold_14 (by decide) ?_
    refine ZO.istore_n (pc := 15) (v := (0 : Int32)) (L' := [(0, .ref 0), (1, .int a0), (2, .int (0 : Int32))]) [1, 2, 0] d_M_hold_15 rfl (by decide) rfl ?_
    refine ZO.iconst (pc := 16) (0 : Int32) d_M_hold_16 (by decide) ?_
    refine ZO.istore_n (pc := 17) (v := (0 : Int32)) (L' := [(0, .ref 0), (1, .int a0), (2, .int (0 : Int32)), (3, .int (0 : Int32))]) [1, 2, 3, 0] d_M_hold_17 rfl (by decide) rfl ?_
    refine ZO.iconst (pc := 18) (0 : Int32) d_M_hold_18 (by decide) ?_
    refine ZO.istore (pc := 19) (v := (0 : Int32)) (L' := [(0, .ref 0), (1, .int a0), (2, .int (0 : Int32)), (3, .int (0 : Int32)), (4, .int (0 : Int32))]) [1, 2, 3, 4, 0] d_M_hold_19 (by decide) rfl ?_
    refine ZO.loop (fun (x3 : Int32 × Int32 × Int32 × ZSt) => ([(0, .ref 0), (1, .int a0), (2, .int x3.1), (3, .int x3.2.1), (4, .int x3.2.2.1)] : List (Nat × Value))) (fun (x3 : Int32 × Int32 × Int32 × ZSt) => x3.2.2.2) [] (fun j4 x3 hj4 => ?_) rfl rfl rfl
    refine ZO.iload (pc := 21) 4 d_M_hold_21 rfl ?_
    refine ZO.iconst (pc := 23) (1 : Int32) d_M_hold_23 (by decide) ?_
    refine ZO.aload_n (pc := 24) 0 d_M_hold_24 rfl rfl ?_
    refine ZO.getI (pc := 25) d_M_hold_25 zo_0 zf_M_14 rfl ?_
    refine ZO.ishl (pc := 28) d_M_hold_28 ?_
    refine ZO.icmp_ge (pc := 29) 86 d_M_hold_29 (by decide) rfl (fun h5 => ?_) (fun h5 => ?_)
    · refine ZO.aload_n (pc := 86) 0 d_M_hold_86 rfl rfl ?_
      refine ZO.iconst (pc := 87) (0 : Int32) d_M_hold_87 (by decide) ?_
      refine ZO.putI (pc := 88) d_M_hold_88 zo_0 zp_M_11 rfl ?_
      refine ZO.ltS (fun s6 => ?_)
      refine ZO.aload_n (pc := 91) 0 d_M_hold_91 rfl rfl ?_
      refine ZO.iload_n (pc := 92) 3 d_M_hold_92 rfl rfl ?_
      refine ZO.cVV (pc := 93) (As := [.int x3.2.1]) (rest := []) d_M_hold_93 zc_M_236 (by decide) zo_0 rfl rfl rfl (Nat.le_of_ble_eq_true rfl) (ok_M_enters g x3.2.1 s6) (fun p7 ep7 => ?_)
      refine ZO.iload_n (pc := 96) 2 d_M_hold_96 rfl rfl ?_
      exact ZO.iret (pc := 97)  d_M_hold_97 rfl rfl rfl
    · refine ZO.iload (pc := 32) 4 d_M_hold_32 rfl ?_
      refine ZO.tSI (pc := 34) (As := [.int x3.2.2.1]) (rest := []) d_M_hold_34 zc_M_118 (by decide) rfl rfl (Nat.le_of_ble_eq_true rfl) (ok_J_bitCount g x3.2.2.1 x3.2.2.2) ?_
      refine ZO.aload_n (pc := 37) 0 d_M_hold_37 rfl rfl ?_
      refine ZO.getA (pc := 38) 107 d_M_hold_38 zo_0 zf_M_199 rfl rfl ?_
      refine ZO.iload_n (pc := 41) 1 d_M_hold_41 rfl rfl ?_
      refine ZO.rgd (fun h8 => ?_)
      refine ZO.iald (pc := 42) d_M_hold_42 za_107 h8 ?_
      refine ZO.rjn (pcJ := 80) (LJ := fun (x9 : Int32 × Int32 × ZSt) => ([(0, .ref 0), (1, .int a0), (2, .int x9.1), (3, .int x9.2.1), (4, .int x3.2.2.1)] : List (Nat × Value))) (SJ := fun (x9 : Int32 × Int32 × ZSt) => ([] : List Value)) (σJ := fun (x9 : Int32 × Int32 × ZSt) => x9.2.2) (fun x9 => ?_) (fun j11 hj11 => ?_)
      · refine ZO.iincL (pc := 80) (i := 4) (x3.2.2.1 + (1 : Int32)) (L' := fun v10 => [(0, .ref 0), (1, .int a0), (2, .int x9.1), (3, .int x9.2.1), (4, .int v10)]) [1, 2, 3, 4, 0] d_M_hold_80 rfl (by rfl) (by decide) (fun _ => rfl) (fun v10 => ?_)
        refine ZO.goto (pc := 83) 21 d_M_hold_83 (by decide) ?_
        exact hj4 (x9.1, x9.2.1, v10, x9.2.2)
      · refine ZO.icmp_gt (pc := 43) 80 d_M_hold_43 (by decide) rfl (fun h12 => ?_) (fun h12 => ?_)
        · exact hj11 (x3.1, x3.2.1, x3.2.2.2)
        · refine ZO.aload_n (pc := 46) 0 d_M_hold_46 rfl rfl ?_
          refine ZO.iload_n (pc := 47) 1 d_M_hold_47 rfl rfl ?_
          refine ZO.iload (pc := 48) 4 d_M_hold_48 rfl ?_
          refine ZO.cVI (pc := 50) (As := [.int a0, .int x3.2.2.1]) (rest := []) d_M_hold_50 zc_M_186 (by decide) zo_0 rfl rfl rfl (Nat.le_of_ble_eq_true rfl) (ok_M_settled g n a0 x3.2.2.1 x3.2.2.2) (fun p13 ep13 => ?_)
          refine ZO.iload (pc := 53) 4 d_M_hold_53 rfl ?_
          refine ZO.icmp_ne (pc := 55) 80 d_M_hold_55 (by decide) rfl (fun h14 => ?_) (fun h14 => ?_)
          · refine ZO.iincL (pc := 58) (i := 2) (x3.1 + (1 : Int32)) (L' := fun v15 => [(0, .ref 0), (1, .int a0), (2, .int v15), (3, .int x3.2.1), (4, .int x3.2.2.1)]) [1, 2, 0, 3, 4] d_M_hold_58 rfl (by rfl) (by decide) (fun _ => rfl) (fun v15 => ?_)
            refine ZO.iload (pc := 61) 4 d_M_hold_61 rfl ?_
            refine ZO.tSI (pc := 63) (As := [.int x3.2.2.1]) (rest := []) d_M_hold_63 zc_M_118 (by decide) rfl rfl (Nat.le_of_ble_eq_true rfl) (ok_J_bitCount g x3.2.2.1 p13.2) ?_
            refine ZO.iload_n (pc := 66) 3 d_M_hold_66 rfl rfl ?_
            refine ZO.tSI (pc := 67) (As := [.int x3.2.1]) (rest := [.int (f_J_bitCount x3.2.2.1)]) d_M_hold_67 zc_M_118 (by decide) rfl rfl (Nat.le_of_ble_eq_true rfl) (ok_J_bitCount g x3.2.1 p13.2) ?_
            refine ZO.phi (pcJ := 79) (LJ := fun (x16 : Int32) => ([(0, .ref 0), (1, .int a0), (2, .int v15), (4, .int x3.2.2.1)] : List (Nat × Value))) (SJ := fun (x16 : Int32) => ([.int x16] : List Value)) (fun x16 => ?_) (fun t hj17 => ?_)
            · refine ZO.istore_n (pc := 79) (v := x16) (L' := [(0, .ref 0), (1, .int a0), (2, .int v15), (3, .int x16), (4, .int x3.2.2.1)]) [1, 2, 3, 0, 4] d_M_hold_79 rfl (by decide) rfl ?_
              exact hj11 (v15, x16, p13.2)
            · refine ZO.icmp_le (pc := 70) 78 d_M_hold_70 (by decide) z_ite (fun h18 => ?_) (fun h18 => ?_)
              · refine ZO.iload_n (pc := 78) 3 d_M_hold_78 rfl rfl ?_
                exact ZO.sub [0, 1, 2, 4] rfl (hj17 x3.2.1 (by rw [if_pos h18]))
              · refine ZO.iload (pc := 73) 4 d_M_hold_73 rfl ?_
                refine ZO.goto (pc := 75) 79 d_M_hold_75 (by decide) ?_
                exact ZO.sub [0, 1, 2, 4] rfl (hj17 x3.2.2.1 (by rw [if_neg h18]))
          · exact hj11 (x3.1, x3.2.1, p13.2)
  · refine ZO.iconst (pc := 12) (-1 : Int32) d_M_hold_12 (by decide) ?_
    exact ZO.iret (pc := 13)  d_M_hold_13 rfl rfl rfl
def f_M_comes (n : Nat) (a0 : Int32) (s : ZSt) : Option (Int32 × ZSt) :=
  lt (si s 0 0 (0 : Int32)) (fun s1 =>
  (if (f_M_isTable a0) = true then
  bn (f_M_laysOut n a0 s1) (fun p3 =>
    bn (f_M_spreads n (0 : Int32) p3) (fun p4 =>
    lt (si p4 0 1 (0 : Int32)) (fun s5 =>
    bn (f_M_everOpen n s5) (fun p6 =>
    bn (f_M_enters p6 s5) (fun p7 =>
    gd (inb ((gi p7 0 40) - (1 : Int32)) 4096) (
    gd (inb (ai p7 139 ((gi p7 0 40) - (1 : Int32))) 4096) (
    bn (f_M_enters (ai p7 137 (ai p7 139 ((gi p7 0 40) - (1 : Int32)))) p7) (fun p10 =>
    some ((gi p10 0 40), p10)))))))))
else some ((-1 : Int32), s1)))
set_option maxHeartbeats 4000000 in
set_option maxRecDepth 20000 in
theorem ok_M_comes (g : ZG) (n : Nat) (a0 : Int32) (s : ZSt) : ZF g 7 y_M_comes [.ref 0, .int a0] s (f_M_comes n a0 s) (fun b => some (.int b.1)) (fun b => b.2) := by
  refine ZF.of (by decide +kernel) (Nat.le_of_ble_eq_true rfl) ?_
  unfold f_M_comes
  show ZO g 7 y_M_comes zu0 0 [(0, .ref 0), (1, .int a0)] [] s _ _
  refine ZO.aload_n (pc := 0) 0 d_M_comes_0 rfl rfl ?_
  refine ZO.iconst (pc := 1) (0 : Int32) d_M_comes_1 (by decide) ?_
  refine ZO.putI (pc := 2) d_M_comes_2 zo_0 zp_M_3 rfl ?_
  refine ZO.ltS (fun s1 => ?_)
  refine ZO.iload_n (pc := 5) 1 d_M_comes_5 rfl rfl ?_
  refine ZO.tSB (pc := 6) (As := [.int a0]) (rest := []) d_M_comes_6 zc_M_194 (by decide) rfl rfl (Nat.le_of_ble_eq_true rfl) (ok_M_isTable g a0 s1) ?_
  refine ZO.ifb_ne (pc := 9) 14 d_M_comes_9 (by decide) rfl (fun h2 => ?_) (fun h2 => ?_)
  · refine ZO.aload_n (pc := 14) 0 d_M_comes_14 rfl rfl ?_
    refine ZO.iload_n (pc := 15) 1 d_M_comes_15 rfl rfl ?_
    refine ZO.cVV (pc := 16) (As := [.int a0]) (rest := []) d_M_comes_16 zc_M_361 (by decide) zo_0 rfl rfl rfl (Nat.le_of_ble_eq_true rfl) (ok_M_laysOut g n a0 s1) (fun p3 ep3 => ?_)
    refine ZO.aload_n (pc := 19) 0 d_M_comes_19 rfl rfl ?_
    refine ZO.iconst (pc := 20) (0 : Int32) d_M_comes_20 (by decide) ?_
    refine ZO.cVV (pc := 21) (As := [.int (0 : Int32)]) (rest := []) d_M_comes_21 zc_M_364 (by decide) zo_0 rfl rfl rfl (Nat.le_of_ble_eq_true rfl) (ok_M_spreads g n (0 : Int32) p3) (fun p4 ep4 => ?_)
    refine ZO.aload_n (pc := 24) 0 d_M_comes_24 rfl rfl ?_
    refine ZO.iconst (pc := 25) (0 : Int32) d_M_comes_25 (by decide) ?_
    refine ZO.putI (pc := 26) d_M_comes_26 zo_0 zp_M_11 rfl ?_
    refine ZO.ltS (fun s5 => ?_)
    refine ZO.aload_n (pc := 29) 0 d_M_comes_29 rfl rfl ?_
    refine ZO.aload_n (pc := 30) 0 d_M_comes_30 rfl rfl ?_
    refine ZO.cVI (pc := 31) (As := []) (rest := [.ref 0]) d_M_comes_31 zc_M_367 (by decide) zo_0 rfl rfl rfl (Nat.le_of_ble_eq_true rfl) (ok_M_everOpen g n s5) (fun p6 ep6 => ?_)
    refine ZO.cVV (pc := 34) (As := [.int p6]) (rest := []) d_M_comes_34 zc_M_236 (by decide) zo_0 rfl rfl rfl (Nat.le_of_ble_eq_true rfl) (ok_M_enters g p6 s5) (fun p7 ep7 => ?_)
    refine ZO.aload_n (pc := 37) 0 d_M_comes_37 rfl rfl ?_
    refine ZO.aload_n (pc := 38) 0 d_M_comes_38 rfl rfl ?_
    refine ZO.getA (pc := 39) 137 d_M_comes_39 zo_0 zf_M_346 rfl rfl ?_
    refine ZO.aload_n (pc := 42) 0 d_M_comes_42 rfl rfl ?_
    refine ZO.getA (pc := 43) 139 d_M_comes_43 zo_0 zf_M_349 rfl rfl ?_
    refine ZO.aload_n (pc := 46) 0 d_M_comes_46 rfl rfl ?_
    refine ZO.getI (pc := 47) d_M_comes_47 zo_0 zf_M_352 rfl ?_
    refine ZO.iconst (pc := 50) (1 : Int32) d_M_comes_50 (by decide) ?_
    refine ZO.isub (pc := 51) d_M_comes_51 ?_
    refine ZO.rgd (fun h8 => ?_)
    refine ZO.iald (pc := 52) d_M_comes_52 za_139 h8 ?_
    refine ZO.rgd (fun h9 => ?_)
    refine ZO.iald (pc := 53) d_M_comes_53 za_137 h9 ?_
    refine ZO.cVV (pc := 54) (As := [.int (ai p7 137 (ai p7 139 ((gi p7 0 40) - (1 : Int32))))]) (rest := []) d_M_comes_54 zc_M_236 (by decide) zo_0 rfl rfl rfl (Nat.le_of_ble_eq_true rfl) (ok_M_enters g (ai p7 137 (ai p7 139 ((gi p7 0 40) - (1 : Int32)))) p7) (fun p10 ep10 => ?_)
    refine ZO.aload_n (pc := 57) 0 d_M_comes_57 rfl rfl ?_
    refine ZO.getI (pc := 58) d_M_comes_58 zo_0 zf_M_352 rfl ?_
    exact ZO.iret (pc := 61)  d_M_comes_61 rfl rfl rfl
  · refine ZO.iconst (pc := 12) (-1 : Int32) d_M_comes_12 (by decide) ?_
    exact ZO.iret (pc := 13)  d_M_comes_13 rfl rfl rfl
def f_M_tellsWay (n : Nat) (a0 : Int32) (a1 : Int32) (s : ZSt) : Option ZSt :=
  gd (inb a0 4096) (
  lt (ai s 137 a0) (fun v2 =>
  lt (v2 - (1 : Int32)) (fun v3 =>
  lpN (fun j5 (x4 : Int32 × Int32 × ZSt) =>
  (if x4.2.1 < 0 then
    lt (si x4.2.2 0 1 (0 : Int32)) (fun s7 =>
      lpN (fun j9 (x8 : Int32 × ZSt) =>
      (if v2 ≤ x8.1 then
        some x8.2
      else (if (10 : Int32) ≤ x8.1 then
          some x8.2
        else gd (inb x8.1 5000) (
            bn (f_M_enters (ai x8.2 141 x8.1) x8.2) (fun p13 =>
            lt (x8.1 + (1 : Int32)) (fun v14 =>
            j9 (v14, p13))))))) n ((0 : Int32), s7))
  else gd (inb x4.1 4096) (
      lt (remI (ai x4.2.2 138 x4.1) (24 : Int32)) (fun v16 =>
      (lt ((if (12 : Int32) ≤ v16 then
      (((60 : Int32) + v16) - (12 : Int32))
    else (((20 : Int32) * a1) + v16)) : Int32) (fun x17 =>
        gd (inb x4.2.1 5000) (
          lt (sai x4.2.2 141 x4.2.1 x17) (fun s19 =>
          lt ((ai s19 138 x4.1) / (24 : Int32)) (fun v20 =>
          lt (x4.2.1 + (-1 : Int32)) (fun v21 =>
          j5 (v20, v21, s19))))))))))) n (a0, v3, s))))
set_option maxHeartbeats 4000000 in
set_option maxRecDepth 20000 in
theorem ok_M_tellsWay (g : ZG) (n : Nat) (a0 : Int32) (a1 : Int32) (s : ZSt) : ZF g 1 y_M_tellsWay [.ref 0, .int a0, .int a1] s (f_M_tellsWay n a0 a1 s) (fun _ => none) (fun b => b) := by
  refine ZF.of (by decide +kernel) (Nat.le_of_ble_eq_true rfl) ?_
  unfold f_M_tellsWay
  show ZO g 1 y_M_tellsWay zu0 0 [(0, .ref 0), (1, .int a0), (2, .int a1)] [] s _ _
  refine ZO.aload_n (pc := 0) 0 d_M_tellsWay_0 rfl rfl ?_
  refine ZO.getA (pc := 1) 137 d_M_tellsWay_1 zo_0 zf_M_346 rfl rfl ?_
  refine ZO.iload_n (pc := 4) 1 d_M_tellsWay_4 rfl rfl ?_
  refine ZO.rgd (fun h1 => ?_)
  refine ZO.iald (pc := 5) d_M_tellsWay_5 za_137 h1 ?_
  refine ZO.ltI (fun v2 => ?_)
  refine ZO.istore_n (pc := 6) (v := v2) (L' := [(0, .ref 0), (1, .int a0), (2, .int a1), (3, .int v2)]) [1, 2, 3, 0] d_M_tellsWay_6 rfl (by decide) rfl ?_
  refine ZO.iload_n (pc := 7) 1 d_M_tellsWay_7 rfl rfl ?_
  refine ZO.istore (pc := 8) (v := a0) (L' := [(0, .ref 0), (1, .int a0), (2, .int a1), (3, .int v2), (4, .int a0)]) [1, 2, 3, 4, 0] d_M_tellsWay_8 (by decide) rfl ?_
  refine ZO.iload_n (pc := 10) 3 d_M_tellsWay_10 rfl rfl ?_
  refine ZO.iconst (pc := 11) (1 : Int32) d_M_tellsWay_11 (by decide) ?_
  refine ZO.isub (pc := 12) d_M_tellsWay_12 ?_
  refine ZO.ltI (fun v3 => ?_)
  refine ZO.istore (pc := 13) (v := v3) (L' := [(0, .ref 0), (1, .int a0), (2, .int a1), (3, .int v2), (4, .int a0), (5, .int v3)]) [1, 2, 3, 4, 5, 0] d_M_tellsWay_13 (by decide) rfl ?_
  refine ZO.sub (L' := [(0, .ref 0), (2, .int a1), (3, .int v2), (4, .int a0), (5, .int v3)]) [0, 2, 3, 4, 5] rfl ?_
  refine ZO.loop (fun (x4 : Int32 × Int32 × ZSt) => ([(0, .ref 0), (2, .int a1), (3, .int v2), (4, .int x4.1), (5, .int x4.2.1)] : List (Nat × Value))) (fun (x4 : Int32 × Int32 × ZSt) => x4.2.2) [] (fun j5 x4 hj5 => ?_) rfl rfl rfl
  refine ZO.iload (pc := 15) 4 d_M_tellsWay_15 rfl ?_
  refine ZO.if_lt (pc := 17) 82 d_M_tellsWay_17 (by decide) rfl (fun h6 => ?_) (fun h6 => ?_)
  · refine ZO.aload_n (pc := 82) 0 d_M_tellsWay_82 rfl rfl ?_
    refine ZO.iconst (pc := 83) (0 : Int32) d_M_tellsWay_83 (by decide) ?_
    refine ZO.putI (pc := 84) d_M_tellsWay_84 zo_0 zp_M_11 rfl ?_
    refine ZO.ltS (fun s7 => ?_)
    refine ZO.iconst (pc := 87) (0 : Int32) d_M_tellsWay_87 (by decide) ?_
    refine ZO.istore (pc := 88) (v := (0 : Int32)) (L' := [(0, .ref 0), (2, .int a1), (3, .int v2), (4, .int x4.1), (5, .int (0 : Int32))]) [1, 2, 3, 4, 0] d_M_tellsWay_88 (by decide) rfl ?_
    refine ZO.sub (L' := [(0, .ref 0), (3, .int v2), (5, .int (0 : Int32))]) [0, 2, 4] rfl ?_
    refine ZO.loop (fun (x8 : Int32 × ZSt) => ([(0, .ref 0), (3, .int v2), (5, .int x8.1)] : List (Nat × Value))) (fun (x8 : Int32 × ZSt) => x8.2) [] (fun j9 x8 hj9 => ?_) rfl rfl rfl
    refine ZO.iload (pc := 90) 2 d_M_tellsWay_90 rfl ?_
    refine ZO.iload_n (pc := 92) 1 d_M_tellsWay_92 rfl rfl ?_
    refine ZO.icmp_ge (pc := 93) 120 d_M_tellsWay_93 (by decide) rfl (fun h10 => ?_) (fun h10 => ?_)
    · exact ZO.vret (pc := 120) d_M_tellsWay_120 rfl rfl rfl
    · refine ZO.iload (pc := 96) 2 d_M_tellsWay_96 rfl ?_
      refine ZO.bipush (pc := 98) (10 : Int32) d_M_tellsWay_98 (by decide) ?_
      refine ZO.icmp_ge (pc := 100) 120 d_M_tellsWay_100 (by decide) rfl (fun h11 => ?_) (fun h11 => ?_)
      · exact ZO.vret (pc := 120) d_M_tellsWay_120 rfl rfl rfl
      · refine ZO.aload_n (pc := 103) 0 d_M_tellsWay_103 rfl rfl ?_
        refine ZO.aload_n (pc := 104) 0 d_M_tellsWay_104 rfl rfl ?_
        refine ZO.getA (pc := 105) 141 d_M_tellsWay_105 zo_0 zf_M_370 rfl rfl ?_
        refine ZO.iload (pc := 108) 2 d_M_tellsWay_108 rfl ?_
        refine ZO.rgd (fun h12 => ?_)
        refine ZO.iald (pc := 110) d_M_tellsWay_110 za_141 h12 ?_
        refine ZO.cVV (pc := 111) (As := [.int (ai x8.2 141 x8.1)]) (rest := []) d_M_tellsWay_111 zc_M_236 (by decide) zo_0 rfl rfl rfl (Nat.le_of_ble_eq_true rfl) (ok_M_enters g (ai x8.2 141 x8.1) x8.2) (fun p13 ep13 => ?_)
        refine ZO.iincL (pc := 114) (i := 2) (x8.1 + (1 : Int32)) (L' := fun v14 => [(0, .ref 0), (3, .int v2), (5, .int v14)]) [1, 2, 0] d_M_tellsWay_114 rfl (by rfl) (by decide) (fun _ => rfl) (fun v14 => ?_)
        refine ZO.goto (pc := 117) 90 d_M_tellsWay_117 (by decide) ?_
        exact hj9 (v14, p13)
  · refine ZO.aload_n (pc := 20) 0 d_M_tellsWay_20 rfl rfl ?_
    refine ZO.getA (pc := 21) 138 d_M_tellsWay_21 zo_0 zf_M_355 rfl rfl ?_
    refine ZO.iload (pc := 24) 3 d_M_tellsWay_24 rfl ?_
    refine ZO.rgd (fun h15 => ?_)
    refine ZO.iald (pc := 26) d_M_tellsWay_26 za_138 h15 ?_
    refine ZO.bipush (pc := 27) (24 : Int32) d_M_tellsWay_27 (by decide) ?_
    refine ZO.irem (pc := 29) d_M_tellsWay_29 (by decide) ?_
    refine ZO.ltI (fun v16 => ?_)
    refine ZO.istore (pc := 30) (v := v16) (L' := [(0, .ref 0), (2, .int a1), (3, .int v2), (4, .int x4.1), (5, .int x4.2.1), (6, .int v16)]) [1, 2, 3, 4, 5, 0] d_M_tellsWay_30 (by decide) rfl ?_
    refine ZO.aload_n (pc := 32) 0 d_M_tellsWay_32 rfl rfl ?_
    refine ZO.getA (pc := 33) 141 d_M_tellsWay_33 zo_0 zf_M_370 rfl rfl ?_
    refine ZO.iload (pc := 36) 4 d_M_tellsWay_36 rfl ?_
    refine ZO.iload (pc := 38) 5 d_M_tellsWay_38 rfl ?_
    refine ZO.bipush (pc := 40) (12 : Int32) d_M_tellsWay_40 (by decide) ?_
    refine ZO.phi (pcJ := 63) (LJ := fun (x17 : Int32) => ([(0, .ref 0), (2, .int a1), (3, .int v2), (4, .int x4.1), (5, .int x4.2.1)] : List (Nat × Value))) (SJ := fun (x17 : Int32) => ([.int x17, .int x4.2.1, .ref 141] : List Value)) (fun x17 => ?_) (fun t hj22 => ?_)
    · refine ZO.rgd (fun h18 => ?_)
      refine ZO.iast (pc := 63) d_M_tellsWay_63 za_141 h18 ?_
      refine ZO.ltS (fun s19 => ?_)
      refine ZO.aload_n (pc := 64) 0 d_M_tellsWay_64 rfl rfl ?_
      refine ZO.getA (pc := 65) 138 d_M_tellsWay_65 zo_0 zf_M_355 rfl rfl ?_
      refine ZO.iload (pc := 68) 3 d_M_tellsWay_68 rfl ?_
      refine ZO.iald (pc := 70) d_M_tellsWay_70 za_138 h15 ?_
      refine ZO.bipush (pc := 71) (24 : Int32) d_M_tellsWay_71 (by decide) ?_
      refine ZO.idiv (pc := 73) d_M_tellsWay_73 (by decide) ?_
      refine ZO.ltI (fun v20 => ?_)
      refine ZO.istore (pc := 74) (v := v20) (L' := [(0, .ref 0), (2, .int a1), (3, .int v2), (4, .int v20), (5, .int x4.2.1)]) [1, 2, 3, 0, 4] d_M_tellsWay_74 (by decide) rfl ?_
      refine ZO.iincL (pc := 76) (i := 4) (x4.2.1 + (-1 : Int32)) (L' := fun v21 => [(0, .ref 0), (2, .int a1), (3, .int v2), (4, .int v20), (5, .int v21)]) [1, 2, 3, 4, 0] d_M_tellsWay_76 rfl (by rfl) (by decide) (fun _ => rfl) (fun v21 => ?_)
      refine ZO.goto (pc := 79) 15 d_M_tellsWay_79 (by decide) ?_
      exact hj5 (v20, v21, s19)
    · refine ZO.icmp_ge (pc := 42) 55 d_M_tellsWay_42 (by decide) z_ite (fun h23 => ?_) (fun h23 => ?_)
      · refine ZO.bipush (pc := 55) (60 : Int32) d_M_tellsWay_55 (by decide) ?_
        refine ZO.iload (pc := 57) 5 d_M_tellsWay_57 rfl ?_
        refine ZO.iadd (pc := 59) d_M_tellsWay_59 ?_
        refine ZO.bipush (pc := 60) (12 : Int32) d_M_tellsWay_60 (by decide) ?_
        refine ZO.isub (pc := 62) d_M_tellsWay_62 ?_
        exact ZO.sub [0, 1, 2, 3, 4] rfl (hj22 (((60 : Int32) + v16) - (12 : Int32)) (by rw [if_pos h23]))
      · refine ZO.bipush (pc := 45) (20 : Int32) d_M_tellsWay_45 (by decide) ?_
        refine ZO.iload_n (pc := 47) 1 d_M_tellsWay_47 rfl rfl ?_
        refine ZO.imul (pc := 48) d_M_tellsWay_48 ?_
        refine ZO.iload (pc := 49) 5 d_M_tellsWay_49 rfl ?_
        refine ZO.iadd (pc := 51) d_M_tellsWay_51 ?_
        refine ZO.goto (pc := 52) 63 d_M_tellsWay_52 (by decide) ?_
        exact ZO.sub [0, 1, 2, 3, 4] rfl (hj22 (((20 : Int32) * a1) + v16) (by rw [if_neg h23]))
def f_M_together (n : Nat) (a0 : Int32) (a1 : Int32) (s : ZSt) : Option (Int32 × ZSt) :=
  lt (si s 0 0 (0 : Int32)) (fun s1 =>
  (if (f_M_isTable a0) = true then
  (if (f_M_areBooks a1 s1) = true then
    bn (f_M_laysOut n a0 s1) (fun p4 =>
      bn (f_M_spreads n (0 : Int32) p4) (fun p5 =>
      lpN (fun j7 (x6 : Int32) =>
      (if (gi p5 0 40) ≤ x6 then
        some ((-2 : Int32), p5)
      else gd (inb x6 4096) (
          (if (a1 &&& ((ai p5 139 x6) ^^^ (-1 : Int32))) = 0 then
          bn (f_M_tellsWay n (ai p5 139 x6) a0 p5) (fun p11 =>
            gd (inb (ai p11 139 x6) 4096) (
            some ((ai p11 137 (ai p11 139 x6)), p11)))
        else lt (x6 + (1 : Int32)) (fun v13 =>
            j7 v13))))) n (0 : Int32)))
  else some ((-1 : Int32), s1))
else some ((-1 : Int32), s1)))
set_option maxHeartbeats 4000000 in
set_option maxRecDepth 20000 in
theorem ok_M_together (g : ZG) (n : Nat) (a0 : Int32) (a1 : Int32) (s : ZSt) : ZF g 7 y_M_together [.ref 0, .int a0, .int a1] s (f_M_together n a0 a1 s) (fun b => some (.int b.1)) (fun b => b.2) := by
  refine ZF.of (by decide +kernel) (Nat.le_of_ble_eq_true rfl) ?_
  unfold f_M_together
  show ZO g 7 y_M_together zu0 0 [(0, .ref 0), (1, .int a0), (2, .int a1)] [] s _ _
  refine ZO.aload_n (pc := 0) 0 d_M_together_0 rfl rfl ?_
  refine ZO.iconst (pc := 1) (0 : Int32) d_M_together_1 (by decide) ?_
  refine ZO.putI (pc := 2) d_M_together_2 zo_0 zp_M_3 rfl ?_
  refine ZO.ltS (fun s1 => ?_)
  refine ZO.iload_n (pc := 5) 1 d_M_together_5 rfl rfl ?_
  refine ZO.tSB (pc := 6) (As := [.int a0]) (rest := []) d_M_together_6 zc_M_194 (by decide) rfl rfl (Nat.le_of_ble_eq_true rfl) (ok_M_isTable g a0 s1) ?_
  refine ZO.ifb_eq (pc := 9) 20 d_M_together_9 (by decide) rfl (fun h2 => ?_) (fun h2 => ?_)
  · refine ZO.aload_n (pc := 12) 0 d_M_together_12 rfl rfl ?_
    refine ZO.iload_n (pc := 13) 2 d_M_together_13 rfl rfl ?_
    refine ZO.tVB (pc := 14) (As := [.int a1]) (rest := []) d_M_together_14 zc_M_239 (by decide) zo_0 rfl rfl rfl (Nat.le_of_ble_eq_true rfl) (ok_M_areBooks g a1 s1) ?_
    refine ZO.ifb_ne (pc := 17) 22 d_M_together_17 (by decide) rfl (fun h3 => ?_) (fun h3 => ?_)
    · refine ZO.aload_n (pc := 22) 0 d_M_together_22 rfl rfl ?_
      refine ZO.iload_n (pc := 23) 1 d_M_together_23 rfl rfl ?_
      refine ZO.cVV (pc := 24) (As := [.int a0]) (rest := []) d_M_together_24 zc_M_361 (by decide) zo_0 rfl rfl rfl (Nat.le_of_ble_eq_true rfl) (ok_M_laysOut g n a0 s1) (fun p4 ep4 => ?_)
      refine ZO.aload_n (pc := 27) 0 d_M_together_27 rfl rfl ?_
      refine ZO.iconst (pc := 28) (0 : Int32) d_M_together_28 (by decide) ?_
      refine ZO.cVV (pc := 29) (As := [.int (0 : Int32)]) (rest := []) d_M_together_29 zc_M_364 (by decide) zo_0 rfl rfl rfl (Nat.le_of_ble_eq_true rfl) (ok_M_spreads g n (0 : Int32) p4) (fun p5 ep5 => ?_)
      refine ZO.iconst (pc := 32) (0 : Int32) d_M_together_32 (by decide) ?_
      refine ZO.istore_n (pc := 33) (v := (0 : Int32)) (L' := [(0, .ref 0), (1, .int a0), (2, .int a1), (3, .int (0 : Int32))]) [1, 2, 3, 0] d_M_together_33 rfl (by decide) rfl ?_
      refine ZO.loop (fun (x6 : Int32) => ([(0, .ref 0), (1, .int a0), (2, .int a1), (3, .int x6)] : List (Nat × Value))) (fun (x6 : Int32) => p5) [] (fun j7 x6 hj7 => ?_) rfl rfl rfl
      refine ZO.iload_n (pc := 34) 3 d_M_together_34 rfl rfl ?_
      refine ZO.aload_n (pc := 35) 0 d_M_together_35 rfl rfl ?_
      refine ZO.getI (pc := 36) d_M_together_36 zo_0 zf_M_352 rfl ?_
      refine ZO.icmp_ge (pc := 39) 84 d_M_together_39 (by decide) rfl (fun h8 => ?_) (fun h8 => ?_)
      · refine ZO.bipush (pc := 84) (-2 : Int32) d_M_together_84 (by decide) ?_
        exact ZO.iret (pc := 86)  d_M_together_86 rfl rfl rfl
      · refine ZO.iload_n (pc := 42) 2 d_M_together_42 rfl rfl ?_
        refine ZO.aload_n (pc := 43) 0 d_M_together_43 rfl rfl ?_
        refine ZO.getA (pc := 44) 139 d_M_together_44 zo_0 zf_M_349 rfl rfl ?_
        refine ZO.iload_n (pc := 47) 3 d_M_together_47 rfl rfl ?_
        refine ZO.rgd (fun h9 => ?_)
        refine ZO.iald (pc := 48) d_M_together_48 za_139 h9 ?_
        refine ZO.iconst (pc := 49) (-1 : Int32) d_M_together_49 (by decide) ?_
        refine ZO.ixor (pc := 50) d_M_together_50 ?_
        refine ZO.iand (pc := 51) d_M_together_51 ?_
        refine ZO.if_ne (pc := 52) 78 d_M_together_52 (by decide) rfl (fun h10 => ?_) (fun h10 => ?_)
        · refine ZO.aload_n (pc := 55) 0 d_M_together_55 rfl rfl ?_
          refine ZO.aload_n (pc := 56) 0 d_M_together_56 rfl rfl ?_
          refine ZO.getA (pc := 57) 139 d_M_together_57 zo_0 zf_M_349 rfl rfl ?_
          refine ZO.iload_n (pc := 60) 3 d_M_together_60 rfl rfl ?_
          refine ZO.iald (pc := 61) d_M_together_61 za_139 h9 ?_
          refine ZO.iload_n (pc := 62) 1 d_M_together_62 rfl rfl ?_
          refine ZO.cVV (pc := 63) (As := [.int (ai p5 139 x6), .int a0]) (rest := []) d_M_together_63 zc_M_373 (by decide) zo_0 rfl rfl rfl (Nat.le_of_ble_eq_true rfl) (ok_M_tellsWay g n (ai p5 139 x6) a0 p5) (fun p11 ep11 => ?_)
          refine ZO.aload_n (pc := 66) 0 d_M_together_66 rfl rfl ?_
          refine ZO.getA (pc := 67) 137 d_M_together_67 zo_0 zf_M_346 rfl rfl ?_
          refine ZO.aload_n (pc := 70) 0 d_M_together_70 rfl rfl ?_
          refine ZO.getA (pc := 71) 139 d_M_together_71 zo_0 zf_M_349 rfl rfl ?_
          refine ZO.iload_n (pc := 74) 3 d_M_together_74 rfl rfl ?_
          refine ZO.iald (pc := 75) d_M_together_75 za_139 h9 ?_
          refine ZO.rgd (fun h12 => ?_)
          refine ZO.iald (pc := 76) d_M_together_76 za_137 h12 ?_
          exact ZO.iret (pc := 77)  d_M_together_77 rfl rfl rfl
        · refine ZO.iincL (pc := 78) (i := 3) (x6 + (1 : Int32)) (L' := fun v13 => [(0, .ref 0), (1, .int a0), (2, .int a1), (3, .int v13)]) [1, 2, 3, 0] d_M_together_78 rfl (by rfl) (by decide) (fun _ => rfl) (fun v13 => ?_)
          refine ZO.goto (pc := 81) 34 d_M_together_81 (by decide) ?_
          exact hj7 v13
    · refine ZO.iconst (pc := 20) (-1 : Int32) d_M_together_20 (by decide) ?_
      exact ZO.iret (pc := 21)  d_M_together_21 rfl rfl rfl
  · refine ZO.iconst (pc := 20) (-1 : Int32) d_M_together_20 (by decide) ?_
    exact ZO.iret (pc := 21)  d_M_together_21 rfl rfl rfl
def f_M_frees (n : Nat) (a0 : Int32) (s : ZSt) : Option (Int32 × ZSt) :=
  lt (si s 0 0 (0 : Int32)) (fun s1 =>
  (if (f_M_isTable a0) = true then
  lpN (fun j4 (x3 : Int32 × Int32 × Int32 × ZSt) =>
    (if (gi x3.2.2.2 0 3) ≤ x3.2.2.1 then
      (if 0 ≤ x3.1 then
        lt (si x3.2.2.2 0 1 (0 : Int32)) (fun s7 =>
          bn (f_M_enters (f_J_bitCount x3.2.1) s7) (fun p8 =>
          bn (f_M_enters x3.2.1 p8) (fun p9 =>
          some (x3.1, p9))))
      else some ((-2 : Int32), x3.2.2.2))
    else lpN (fun j11 (x10 : Int32 × Int32 × ZSt) =>
        (if (gi x10.2.2 0 3) ≤ x10.2.1 then
          (lt ((if x3.1 < 0 then
            (x3.2.2.1, x10.1)
          else (if (f_J_bitCount x10.1) ≤ (f_J_bitCount x3.2.1) then
              (x3.1, x3.2.1)
            else (x3.2.2.1, x10.1))) : Int32 × Int32) (fun x13 =>
              lt (x3.2.2.1 + (1 : Int32)) (fun v14 =>
                j4 (x13.1, x13.2, v14, x10.2.2))))
        else (jn (fun (x18 : Int32 × ZSt) =>
              (lt ((if x18.1 = 0 then
                (0 : Int32)
              else (shI (1 : Int32) x10.2.1)) : Int32) (fun x19 =>
                  lt (x10.1 ||| x19) (fun v20 =>
                    lt (x10.2.1 + (1 : Int32)) (fun v21 =>
                    j11 (v20, v21, x18.2)))))) (fun j24 =>
              jn (fun (x25 : ZSt) =>
              j24 ((0 : Int32), x25)) (fun j26 =>
              if x10.2.1 = x3.2.2.1 then
            j26 x10.2.2
          else gd (inb a0 3) (
              (if (ai x10.2.2 107 a0) ≤ (1 : Int32) then
              j26 x10.2.2
            else gd (inb x10.2.1 12) (
                (if (ai x10.2.2 104 x10.2.1) ≤ (ai x10.2.2 105 x10.2.1) then
                j26 x10.2.2
              else bn (f_M_may n x10.2.1 a0 (shI (1 : Int32) x3.2.2.1) x10.2.2) (fun p32 =>
                  (if p32.1 = true then
                  j24 ((1 : Int32), p32.2)
                else j26 p32.2))))))))))) n ((0 : Int32), (0 : Int32), x3.2.2.2))) n ((-2 : Int32), (0 : Int32), (0 : Int32), s1)
else some ((-1 : Int32), s1)))
set_option maxHeartbeats 4000000 in
set_option maxRecDepth 20000 in
theorem ok_M_frees (g : ZG) (n : Nat) (a0 : Int32) (s : ZSt) : ZF g 5 y_M_frees [.ref 0, .int a0] s (f_M_frees n a0 s) (fun b => some (.int b.1)) (fun b => b.2) := by
  refine ZF.of (by decide +kernel) (Nat.le_of_ble_eq_true rfl) ?_
  unfold f_M_frees
  show ZO g 5 y_M_frees zu0 0 [(0, .ref 0), (1, .int a0)] [] s _ _
  refine ZO.aload_n (pc := 0) 0 d_M_frees_0 rfl rfl ?_
  refine ZO.iconst (pc := 1) (0 : Int32) d_M_frees_1 (by decide) ?_
  refine ZO.putI (pc := 2) d_M_frees_2 zo_0 zp_M_3 rfl ?_
  refine ZO.ltS (fun s1 => ?_)
  refine ZO.iload_n (pc := 5) 1 d_M_frees_5 rfl rfl ?_
  refine ZO.tSB (pc := 6) (As := [.int a0]) (rest := []) d_M_frees_6 zc_M_194 (by decide) rfl rfl (Nat.le_of_ble_eq_true rfl) (ok_M_isTable g a0 s1) ?_
  refine ZO.ifb_ne (pc := 9) 14 d_M_frees_9 (by decide) rfl (fun h2 => ?_) (fun h2 => ?_)
  · refine ZO.bipush (pc := 14) (-2 : Int32) d_M_frees_14 (by decide) ?_
    refine ZO.istore_n (pc := 16) (v := (-2 : Int32)) (L' := [(0, .ref 0), (1, .int a0), (2, .int (-2 : Int32))]) [1, 2, 0] d_M_frees_16 rfl (by decide) rfl ?_
    refine ZO.iconst (pc := 17) (0 : Int32) d_M_frees_17 (by decide) ?_
    refine ZO.istore_n (pc := 18) (v := (0 : Int32)) (L' := [(0, .ref 0), (1, .int a0), (2, .int (-2 : Int32)), (3, .int (0 : Int32))]) [1, 2, 3, 0] d_M_frees_18 rfl (by decide) rfl ?_
    refine ZO.iconst (pc := 19) (0 : Int32) d_M_frees_19 (by decide) ?_
    refine ZO.istore (pc := 20) (v := (0 : Int32)) (L' := [(0, .ref 0), (1, .int a0), (2, .int (-2 : Int32)), (3, .int (0 : Int32)), (4, .int (0 : Int32))]) [1, 2, 3, 4, 0] d_M_frees_20 (by decide) rfl ?_
    refine ZO.loop (fun (x3 : Int32 × Int32 × Int32 × ZSt) => ([(0, .ref 0), (1, .int a0), (2, .int x3.1), (3, .int x3.2.1), (4, .int x3.2.2.1)] : List (Nat × Value))) (fun (x3 : Int32 × Int32 × Int32 × ZSt) => x3.2.2.2) [] (fun j4 x3 hj4 => ?_) rfl rfl rfl
    refine ZO.iload (pc := 22) 4 d_M_frees_22 rfl ?_
    refine ZO.aload_n (pc := 24) 0 d_M_frees_24 rfl rfl ?_
    refine ZO.getI (pc := 25) d_M_frees_25 zo_0 zf_M_14 rfl ?_
    refine ZO.icmp_ge (pc := 28) 153 d_M_frees_28 (by decide) rfl (fun h5 => ?_) (fun h5 => ?_)
    · refine ZO.iload_n (pc := 153) 2 d_M_frees_153 rfl rfl ?_
      refine ZO.if_ge (pc := 154) 160 d_M_frees_154 (by decide) rfl (fun h6 => ?_) (fun h6 => ?_)
      · refine ZO.aload_n (pc := 160) 0 d_M_frees_160 rfl rfl ?_
        refine ZO.iconst (pc := 161) (0 : Int32) d_M_frees_161 (by decide) ?_
        refine ZO.putI (pc := 162) d_M_frees_162 zo_0 zp_M_11 rfl ?_
        refine ZO.ltS (fun s7 => ?_)
        refine ZO.aload_n (pc := 165) 0 d_M_frees_165 rfl rfl ?_
        refine ZO.iload_n (pc := 166) 3 d_M_frees_166 rfl rfl ?_
        refine ZO.tSI (pc := 167) (As := [.int x3.2.1]) (rest := [.ref 0]) d_M_frees_167 zc_M_118 (by decide) rfl rfl (Nat.le_of_ble_eq_true rfl) (ok_J_bitCount g x3.2.1 s7) ?_
        refine ZO.cVV (pc := 170) (As := [.int (f_J_bitCount x3.2.1)]) (rest := []) d_M_frees_170 zc_M_236 (by decide) zo_0 rfl rfl rfl (Nat.le_of_ble_eq_true rfl) (ok_M_enters g (f_J_bitCount x3.2.1) s7) (fun p8 ep8 => ?_)
        refine ZO.aload_n (pc := 173) 0 d_M_frees_173 rfl rfl ?_
        refine ZO.iload_n (pc := 174) 3 d_M_frees_174 rfl rfl ?_
        refine ZO.cVV (pc := 175) (As := [.int x3.2.1]) (rest := []) d_M_frees_175 zc_M_236 (by decide) zo_0 rfl rfl rfl (Nat.le_of_ble_eq_true rfl) (ok_M_enters g x3.2.1 p8) (fun p9 ep9 => ?_)
        refine ZO.iload_n (pc := 178) 2 d_M_frees_178 rfl rfl ?_
        exact ZO.iret (pc := 179)  d_M_frees_179 rfl rfl rfl
      · refine ZO.bipush (pc := 157) (-2 : Int32) d_M_frees_157 (by decide) ?_
        exact ZO.iret (pc := 159)  d_M_frees_159 rfl rfl rfl
    · refine ZO.iconst (pc := 31) (0 : Int32) d_M_frees_31 (by decide) ?_
      refine ZO.istore (pc := 32) (v := (0 : Int32)) (L' := [(0, .ref 0), (1, .int a0), (2, .int x3.1), (3, .int x3.2.1), (4, .int x3.2.2.1), (5, .int (0 : Int32))]) [1, 2, 3, 4, 5, 0] d_M_frees_32 (by decide) rfl ?_
      refine ZO.iconst (pc := 34) (0 : Int32) d_M_frees_34 (by decide) ?_
      refine ZO.istore (pc := 35) (v := (0 : Int32)) (L' := [(0, .ref 0), (1, .int a0), (2, .int x3.1), (3, .int x3.2.1), (4, .int x3.2.2.1), (5, .int (0 : Int32)), (6, .int (0 : Int32))]) [1, 2, 3, 4, 5, 6, 0] d_M_frees_35 (by decide) rfl ?_
      refine ZO.loop (fun (x10 : Int32 × Int32 × ZSt) => ([(0, .ref 0), (1, .int a0), (2, .int x3.1), (3, .int x3.2.1), (4, .int x3.2.2.1), (5, .int x10.1), (6, .int x10.2.1)] : List (Nat × Value))) (fun (x10 : Int32 × Int32 × ZSt) => x10.2.2) [] (fun j11 x10 hj11 => ?_) rfl rfl rfl
      refine ZO.iload (pc := 37) 6 d_M_frees_37 rfl ?_
      refine ZO.aload_n (pc := 39) 0 d_M_frees_39 rfl rfl ?_
      refine ZO.getI (pc := 40) d_M_frees_40 zo_0 zf_M_14 rfl ?_
      refine ZO.icmp_ge (pc := 43) 125 d_M_frees_43 (by decide) rfl (fun h12 => ?_) (fun h12 => ?_)
      · refine ZO.iload_n (pc := 125) 2 d_M_frees_125 rfl rfl ?_
        refine ZO.phi (pcJ := 147) (LJ := fun (x13 : Int32 × Int32) => ([(0, .ref 0), (1, .int a0), (2, .int x13.1), (3, .int x13.2), (4, .int x3.2.2.1)] : List (Nat × Value))) (SJ := fun (x13 : Int32 × Int32) => ([] : List Value)) (fun x13 => ?_) (fun t hj15 => ?_)
        · refine ZO.iincL (pc := 147) (i := 4) (x3.2.2.1 + (1 : Int32)) (L' := fun v14 => [(0, .ref 0), (1, .int a0), (2, .int x13.1), (3, .int x13.2), (4, .int v14)]) [1, 2, 3, 4, 0] d_M_frees_147 rfl (by rfl) (by decide) (fun _ => rfl) (fun v14 => ?_)
          refine ZO.goto (pc := 150) 22 d_M_frees_150 (by decide) ?_
          exact hj4 (x13.1, x13.2, v14, x10.2.2)
        · refine ZO.if_lt (pc := 126) 141 d_M_frees_126 (by decide) z_ite (fun h16 => ?_) (fun h16 => ?_)
          · refine ZO.iload (pc := 141) 4 d_M_frees_141 rfl ?_
            refine ZO.istore_n (pc := 143) (v := x3.2.2.1) (L' := [(0, .ref 0), (1, .int a0), (2, .int x3.2.2.1), (3, .int x3.2.1), (4, .int x3.2.2.1), (5, .int x10.1), (6, .int x10.2.1)]) [1, 2, 0, 3, 4, 5, 6] d_M_frees_143 rfl (by decide) rfl ?_
            refine ZO.iload (pc := 144) 5 d_M_frees_144 rfl ?_
            refine ZO.istore_n (pc := 146) (v := x10.1) (L' := [(0, .ref 0), (1, .int a0), (2, .int x3.2.2.1), (3, .int x10.1), (4, .int x3.2.2.1), (5, .int x10.1), (6, .int x10.2.1)]) [1, 2, 3, 0, 4, 5, 6] d_M_frees_146 rfl (by decide) rfl ?_
            exact ZO.sub [0, 1, 2, 3, 4] rfl (hj15 (x3.2.2.1, x10.1) (by rw [if_pos h16]))
          · refine ZO.iload (pc := 129) 5 d_M_frees_129 rfl ?_
            refine ZO.tSI (pc := 131) (As := [.int x10.1]) (rest := []) d_M_frees_131 zc_M_118 (by decide) rfl rfl (Nat.le_of_ble_eq_true rfl) (ok_J_bitCount g x10.1 x10.2.2) ?_
            refine ZO.iload_n (pc := 134) 3 d_M_frees_134 rfl rfl ?_
            refine ZO.tSI (pc := 135) (As := [.int x3.2.1]) (rest := [.int (f_J_bitCount x10.1)]) d_M_frees_135 zc_M_118 (by decide) rfl rfl (Nat.le_of_ble_eq_true rfl) (ok_J_bitCount g x3.2.1 x10.2.2) ?_
            refine ZO.icmp_le (pc := 138) 147 d_M_frees_138 (by decide) z_ite (fun h17 => ?_) (fun h17 => ?_)
            · exact ZO.sub [0, 1, 2, 3, 4] rfl (hj15 (x3.1, x3.2.1) (by rw [if_neg h16, if_pos h17]))
            · refine ZO.iload (pc := 141) 4 d_M_frees_141 rfl ?_
              refine ZO.istore_n (pc := 143) (v := x3.2.2.1) (L' := [(0, .ref 0), (1, .int a0), (2, .int x3.2.2.1), (3, .int x3.2.1), (4, .int x3.2.2.1), (5, .int x10.1), (6, .int x10.2.1)]) [1, 2, 0, 3, 4, 5, 6] d_M_frees_143 rfl (by decide) rfl ?_
              refine ZO.iload (pc := 144) 5 d_M_frees_144 rfl ?_
              refine ZO.istore_n (pc := 146) (v := x10.1) (L' := [(0, .ref 0), (1, .int a0), (2, .int x3.2.2.1), (3, .int x10.1), (4, .int x3.2.2.1), (5, .int x10.1), (6, .int x10.2.1)]) [1, 2, 3, 0, 4, 5, 6] d_M_frees_146 rfl (by decide) rfl ?_
              exact ZO.sub [0, 1, 2, 3, 4] rfl (hj15 (x3.2.2.1, x10.1) (by rw [if_neg h16, if_neg h17]))
      · refine ZO.iload (pc := 46) 6 d_M_frees_46 rfl ?_
        refine ZO.iload (pc := 48) 4 d_M_frees_48 rfl ?_
        refine ZO.rjn (pcJ := 99) (LJ := fun (x18 : Int32 × ZSt) => ([(0, .ref 0), (1, .int a0), (2, .int x3.1), (3, .int x3.2.1), (4, .int x3.2.2.1), (5, .int x10.1), (6, .int x10.2.1)] : List (Nat × Value))) (SJ := fun (x18 : Int32 × ZSt) => ([.int x18.1] : List Value)) (σJ := fun (x18 : Int32 × ZSt) => x18.2) (fun x18 => ?_) (fun j24 hj24 => ?_)
        · refine ZO.istore (pc := 99) (v := x18.1) (L' := [(0, .ref 0), (1, .int a0), (2, .int x3.1), (3, .int x3.2.1), (4, .int x3.2.2.1), (5, .int x10.1), (6, .int x10.2.1), (7, .int x18.1)]) [1, 2, 3, 4, 5, 6, 7, 0] d_M_frees_99 (by decide) rfl ?_
          refine ZO.iload (pc := 101) 5 d_M_frees_101 rfl ?_
          refine ZO.iload (pc := 103) 7 d_M_frees_103 rfl ?_
          refine ZO.phi (pcJ := 116) (LJ := fun (x19 : Int32) => ([(0, .ref 0), (1, .int a0), (2, .int x3.1), (3, .int x3.2.1), (4, .int x3.2.2.1), (6, .int x10.2.1)] : List (Nat × Value))) (SJ := fun (x19 : Int32) => ([.int x19, .int x10.1] : List Value)) (fun x19 => ?_) (fun t hj22 => ?_)
          · refine ZO.ior (pc := 116) d_M_frees_116 ?_
            refine ZO.ltI (fun v20 => ?_)
            refine ZO.istore (pc := 117) (v := v20) (L' := [(0, .ref 0), (1, .int a0), (2, .int x3.1), (3, .int x3.2.1), (4, .int x3.2.2.1), (5, .int v20), (6, .int x10.2.1)]) [1, 2, 3, 4, 5, 0, 6] d_M_frees_117 (by decide) rfl ?_
            refine ZO.iincL (pc := 119) (i := 6) (x10.2.1 + (1 : Int32)) (L' := fun v21 => [(0, .ref 0), (1, .int a0), (2, .int x3.1), (3, .int x3.2.1), (4, .int x3.2.2.1), (5, .int v20), (6, .int v21)]) [1, 2, 3, 4, 5, 6, 0] d_M_frees_119 rfl (by rfl) (by decide) (fun _ => rfl) (fun v21 => ?_)
            refine ZO.goto (pc := 122) 37 d_M_frees_122 (by decide) ?_
            exact hj11 (v20, v21, x18.2)
          · refine ZO.if_eq (pc := 105) 115 d_M_frees_105 (by decide) z_ite (fun h23 => ?_) (fun h23 => ?_)
            · refine ZO.iconst (pc := 115) (0 : Int32) d_M_frees_115 (by decide) ?_
              exact ZO.sub [0, 1, 2, 3, 4, 6] rfl (hj22 (0 : Int32) (by rw [if_pos h23]))
            · refine ZO.iconst (pc := 108) (1 : Int32) d_M_frees_108 (by decide) ?_
              refine ZO.iload (pc := 109) 6 d_M_frees_109 rfl ?_
              refine ZO.ishl (pc := 111) d_M_frees_111 ?_
              refine ZO.goto (pc := 112) 116 d_M_frees_112 (by decide) ?_
              exact ZO.sub [0, 1, 2, 3, 4, 6] rfl (hj22 (shI (1 : Int32) x10.2.1) (by rw [if_neg h23]))
        · refine ZO.rjn (pcJ := 98) (LJ := fun (x25 : ZSt) => ([(0, .ref 0), (1, .int a0), (2, .int x3.1), (3, .int x3.2.1), (4, .int x3.2.2.1), (5, .int x10.1), (6, .int x10.2.1)] : List (Nat × Value))) (SJ := fun (x25 : ZSt) => ([] : List Value)) (σJ := fun (x25 : ZSt) => x25) (fun x25 => ?_) (fun j26 hj26 => ?_)
          · refine ZO.iconst (pc := 98) (0 : Int32) d_M_frees_98 (by decide) ?_
            exact hj24 ((0 : Int32), x25)
          · refine ZO.icmp_eq (pc := 50) 98 d_M_frees_50 (by decide) rfl (fun h27 => ?_) (fun h27 => ?_)
            · exact hj26 x10.2.2
            · refine ZO.aload_n (pc := 53) 0 d_M_frees_53 rfl rfl ?_
              refine ZO.getA (pc := 54) 107 d_M_frees_54 zo_0 zf_M_199 rfl rfl ?_
              refine ZO.iload_n (pc := 57) 1 d_M_frees_57 rfl rfl ?_
              refine ZO.rgd (fun h28 => ?_)
              refine ZO.iald (pc := 58) d_M_frees_58 za_107 h28 ?_
              refine ZO.iconst (pc := 59) (1 : Int32) d_M_frees_59 (by decide) ?_
              refine ZO.icmp_le (pc := 60) 98 d_M_frees_60 (by decide) rfl (fun h29 => ?_) (fun h29 => ?_)
              · exact hj26 x10.2.2
              · refine ZO.aload_n (pc := 63) 0 d_M_frees_63 rfl rfl ?_
                refine ZO.getA (pc := 64) 105 d_M_frees_64 zo_0 zf_M_176 rfl rfl ?_
                refine ZO.iload (pc := 67) 6 d_M_frees_67 rfl ?_
                refine ZO.rgd (fun h30 => ?_)
                refine ZO.iald (pc := 69) d_M_frees_69 za_105 h30 ?_
                refine ZO.aload_n (pc := 70) 0 d_M_frees_70 rfl rfl ?_
                refine ZO.getA (pc := 71) 104 d_M_frees_71 zo_0 zf_M_173 rfl rfl ?_
                refine ZO.iload (pc := 74) 6 d_M_frees_74 rfl ?_
                refine ZO.iald (pc := 76) d_M_frees_76 za_104 h30 ?_
                refine ZO.icmp_ge (pc := 77) 98 d_M_frees_77 (by decide) rfl (fun h31 => ?_) (fun h31 => ?_)
                · exact hj26 x10.2.2
                · refine ZO.aload_n (pc := 80) 0 d_M_frees_80 rfl rfl ?_
                  refine ZO.iload (pc := 81) 6 d_M_frees_81 rfl ?_
                  refine ZO.iload_n (pc := 83) 1 d_M_frees_83 rfl rfl ?_
                  refine ZO.iconst (pc := 84) (1 : Int32) d_M_frees_84 (by decide) ?_
                  refine ZO.iload (pc := 85) 4 d_M_frees_85 rfl ?_
                  refine ZO.ishl (pc := 87) d_M_frees_87 ?_
                  refine ZO.cVB (pc := 88) (As := [.int x10.2.1, .int a0, .int (shI (1 : Int32) x3.2.2.1)]) (rest := []) d_M_frees_88 zc_M_150 (by decide) zo_0 rfl rfl rfl (Nat.le_of_ble_eq_true rfl) (ok_M_may g n x10.2.1 a0 (shI (1 : Int32) x3.2.2.1) x10.2.2) (fun p32 ep32 => ?_)
                  refine ZO.ifb_eq (pc := 91) 98 d_M_frees_91 (by decide) rfl (fun h33 => ?_) (fun h33 => ?_)
                  · refine ZO.iconst (pc := 94) (1 : Int32) d_M_frees_94 (by decide) ?_
                    refine ZO.goto (pc := 95) 99 d_M_frees_95 (by decide) ?_
                    exact hj24 ((1 : Int32), p32.2)
                  · exact hj26 p32.2
  · refine ZO.iconst (pc := 12) (-1 : Int32) d_M_frees_12 (by decide) ?_
    exact ZO.iret (pc := 13)  d_M_frees_13 rfl rfl rfl
def f_M_everAll (n : Nat) (s : ZSt) : Option ZSt :=
  lpN (fun j2 (x1 : Int32 × ZSt) =>
  (if (shI (1 : Int32) (gi x1.2 0 3)) ≤ x1.1 then
    lpN (fun j5 (x4 : Int32 × ZSt) =>
      (if x4.1 = 0 then
        some x4.2
      else lpN (fun j8 (x7 : Int32 × Int32 × ZSt) =>
          (if (shI (1 : Int32) (gi x7.2.2 0 3)) ≤ x7.2.1 then
            j5 (x7.1, x7.2.2)
          else gd (inb x7.2.1 4096) (
              lt (ai x7.2.2 142 x7.2.1) (fun v11 =>
              lpN (fun j13 (x12 : Int32 × Int32) =>
              (if (24 : Int32) ≤ x12.2 then
                (jn (fun (x15 : Int32) =>
                    lt (sai x7.2.2 142 x7.2.1 x12.1) (fun s16 =>
                      lt (x7.2.1 + (1 : Int32)) (fun v17 =>
                      j8 (x15, v17, s16)))) (fun j18 =>
                    jn (fun (x19 : Unit) =>
                    j18 (1 : Int32)) (fun j20 =>
                    if x7.1 = 0 then
                  (if x12.1 = (ai x7.2.2 142 x7.2.1) then
                    j18 (0 : Int32)
                  else j20 ())
                else j20 ())))
              else (jn (fun (x23 : Int32) =>
                    (jn (fun (x24 : Int32) =>
                        lt (x12.1 ||| x24) (fun v25 =>
                          lt (x12.2 + (1 : Int32)) (fun v26 =>
                          j13 (v25, v26)))) (fun j27 =>
                        if x23 < 0 then
                      j27 (0 : Int32)
                    else gd (inb x23 4096) (
                        j27 (ai x7.2.2 142 x23))))) (fun j30 =>
                    if (gi x7.2.2 0 3) ≤ (remI x12.2 (12 : Int32)) then
                  j30 (-1 : Int32)
                else bn (f_M_nextOf x7.2.1 x12.2 x7.2.2) (fun p32 =>
                    j30 p32))))) n (v11, (0 : Int32)))))) n ((0 : Int32), (0 : Int32), x4.2))) n ((1 : Int32), x1.2)
  else gd (inb x1.1 4096) (
      lt (sai x1.2 142 x1.1 x1.1) (fun s34 =>
      lt (x1.1 + (1 : Int32)) (fun v35 =>
      j2 (v35, s34)))))) n ((0 : Int32), s)
set_option maxHeartbeats 4000000 in
set_option maxRecDepth 20000 in
theorem ok_M_everAll (g : ZG) (n : Nat) (s : ZSt) : ZF g 1 y_M_everAll [.ref 0] s (f_M_everAll n s) (fun _ => none) (fun b => b) := by
  refine ZF.of (by decide +kernel) (Nat.le_of_ble_eq_true rfl) ?_
  unfold f_M_everAll
  show ZO g 1 y_M_everAll zu0 0 [(0, .ref 0)] [] s _ _
  refine ZO.iconst (pc := 0) (0 : Int32) d_M_everAll_0 (by decide) ?_
  refine ZO.istore_n (pc := 1) (v := (0 : Int32)) (L' := [(0, .ref 0), (1, .int (0 : Int32))]) [1, 0] d_M_everAll_1 rfl (by decide) rfl ?_
  refine ZO.loop (fun (x1 : Int32 × ZSt) => ([(0, .ref 0), (1, .int x1.1)] : List (Nat × Value))) (fun (x1 : Int32 × ZSt) => x1.2) [] (fun j2 x1 hj2 => ?_) rfl rfl rfl
  refine ZO.iload_n (pc := 2) 1 d_M_everAll_2 rfl rfl ?_
  refine ZO.iconst (pc := 3) (1 : Int32) d_M_everAll_3 (by decide) ?_
  refine ZO.aload_n (pc := 4) 0 d_M_everAll_4 rfl rfl ?_
  refine ZO.getI (pc := 5) d_M_everAll_5 zo_0 zf_M_14 rfl ?_
  refine ZO.ishl (pc := 8) d_M_everAll_8 ?_
  refine ZO.icmp_ge (pc := 9) 25 d_M_everAll_9 (by decide) rfl (fun h3 => ?_) (fun h3 => ?_)
  · refine ZO.iconst (pc := 25) (1 : Int32) d_M_everAll_25 (by decide) ?_
    refine ZO.istore_n (pc := 26) (v := (1 : Int32)) (L' := [(0, .ref 0), (1, .int (1 : Int32))]) [1, 0] d_M_everAll_26 rfl (by decide) rfl ?_
    refine ZO.loop (fun (x4 : Int32 × ZSt) => ([(0, .ref 0), (1, .int x4.1)] : List (Nat × Value))) (fun (x4 : Int32 × ZSt) => x4.2) [] (fun j5 x4 hj5 => ?_) rfl rfl rfl
    refine ZO.iload_n (pc := 27) 1 d_M_everAll_27 rfl rfl ?_
    refine ZO.if_eq (pc := 28) 148 d_M_everAll_28 (by decide) rfl (fun h6 => ?_) (fun h6 => ?_)
    · exact ZO.vret (pc := 148) d_M_everAll_148 rfl rfl rfl
    · refine ZO.iconst (pc := 31) (0 : Int32) d_M_everAll_31 (by decide) ?_
      refine ZO.istore_n (pc := 32) (v := (0 : Int32)) (L' := [(0, .ref 0), (1, .int (0 : Int32))]) [1, 0] d_M_everAll_32 rfl (by decide) rfl ?_
      refine ZO.iconst (pc := 33) (0 : Int32) d_M_everAll_33 (by decide) ?_
      refine ZO.istore_n (pc := 34) (v := (0 : Int32)) (L' := [(0, .ref 0), (1, .int (0 : Int32)), (2, .int (0 : Int32))]) [1, 2, 0] d_M_everAll_34 rfl (by decide) rfl ?_
      refine ZO.loop (fun (x7 : Int32 × Int32 × ZSt) => ([(0, .ref 0), (1, .int x7.1), (2, .int x7.2.1)] : List (Nat × Value))) (fun (x7 : Int32 × Int32 × ZSt) => x7.2.2) [] (fun j8 x7 hj8 => ?_) rfl rfl rfl
      refine ZO.iload_n (pc := 35) 2 d_M_everAll_35 rfl rfl ?_
      refine ZO.iconst (pc := 36) (1 : Int32) d_M_everAll_36 (by decide) ?_
      refine ZO.aload_n (pc := 37) 0 d_M_everAll_37 rfl rfl ?_
      refine ZO.getI (pc := 38) d_M_everAll_38 zo_0 zf_M_14 rfl ?_
      refine ZO.ishl (pc := 41) d_M_everAll_41 ?_
      refine ZO.icmp_ge (pc := 42) 145 d_M_everAll_42 (by decide) rfl (fun h9 => ?_) (fun h9 => ?_)
      · refine ZO.goto (pc := 145) 27 d_M_everAll_145 (by decide) ?_
        exact ZO.sub [0, 1] rfl (hj5 (x7.1, x7.2.2))
      · refine ZO.aload_n (pc := 45) 0 d_M_everAll_45 rfl rfl ?_
        refine ZO.getA (pc := 46) 142 d_M_everAll_46 zo_0 zf_M_376 rfl rfl ?_
        refine ZO.iload_n (pc := 49) 2 d_M_everAll_49 rfl rfl ?_
        refine ZO.rgd (fun h10 => ?_)
        refine ZO.iald (pc := 50) d_M_everAll_50 za_142 h10 ?_
        refine ZO.ltI (fun v11 => ?_)
        refine ZO.istore_n (pc := 51) (v := v11) (L' := [(0, .ref 0), (1, .int x7.1), (2, .int x7.2.1), (3, .int v11)]) [1, 2, 3, 0] d_M_everAll_51 rfl (by decide) rfl ?_
        refine ZO.iconst (pc := 52) (0 : Int32) d_M_everAll_52 (by decide) ?_
        refine ZO.istore (pc := 53) (v := (0 : Int32)) (L' := [(0, .ref 0), (1, .int x7.1), (2, .int x7.2.1), (3, .int v11), (4, .int (0 : Int32))]) [1, 2, 3, 4, 0] d_M_everAll_53 (by decide) rfl ?_
        refine ZO.loop (fun (x12 : Int32 × Int32) => ([(0, .ref 0), (1, .int x7.1), (2, .int x7.2.1), (3, .int x12.1), (4, .int x12.2)] : List (Nat × Value))) (fun (x12 : Int32 × Int32) => x7.2.2) [] (fun j13 x12 hj13 => ?_) rfl rfl rfl
        refine ZO.iload (pc := 55) 4 d_M_everAll_55 rfl ?_
        refine ZO.bipush (pc := 57) (24 : Int32) d_M_everAll_57 (by decide) ?_
        refine ZO.icmp_ge (pc := 59) 112 d_M_everAll_59 (by decide) rfl (fun h14 => ?_) (fun h14 => ?_)
        · refine ZO.iload_n (pc := 112) 1 d_M_everAll_112 rfl rfl ?_
          refine ZO.rjn (pcJ := 131) (LJ := fun (x15 : Int32) => ([(0, .ref 0), (2, .int x7.2.1), (3, .int x12.1)] : List (Nat × Value))) (SJ := fun (x15 : Int32) => ([.int x15] : List Value)) (σJ := fun (x15 : Int32) => x7.2.2) (fun x15 => ?_) (fun j18 hj18 => ?_)
          · refine ZO.istore_n (pc := 131) (v := x15) (L' := [(0, .ref 0), (1, .int x15), (2, .int x7.2.1), (3, .int x12.1)]) [1, 0, 2, 3] d_M_everAll_131 rfl (by decide) rfl ?_
            refine ZO.aload_n (pc := 132) 0 d_M_everAll_132 rfl rfl ?_
            refine ZO.getA (pc := 133) 142 d_M_everAll_133 zo_0 zf_M_376 rfl rfl ?_
            refine ZO.iload_n (pc := 136) 2 d_M_everAll_136 rfl rfl ?_
            refine ZO.iload_n (pc := 137) 3 d_M_everAll_137 rfl rfl ?_
            refine ZO.iast (pc := 138) d_M_everAll_138 za_142 h10 ?_
            refine ZO.ltS (fun s16 => ?_)
            refine ZO.iincL (pc := 139) (i := 2) (x7.2.1 + (1 : Int32)) (L' := fun v17 => [(0, .ref 0), (1, .int x15), (2, .int v17), (3, .int x12.1)]) [1, 2, 0, 3] d_M_everAll_139 rfl (by rfl) (by decide) (fun _ => rfl) (fun v17 => ?_)
            refine ZO.goto (pc := 142) 35 d_M_everAll_142 (by decide) ?_
            exact ZO.sub [0, 1, 2] rfl (hj8 (x15, v17, s16))
          · refine ZO.rjn (pcJ := 126) (LJ := fun (x19 : Unit) => ([(0, .ref 0), (2, .int x7.2.1), (3, .int x12.1)] : List (Nat × Value))) (SJ := fun (x19 : Unit) => ([] : List Value)) (σJ := fun (x19 : Unit) => x7.2.2) (fun x19 => ?_) (fun j20 hj20 => ?_)
            · refine ZO.iconst (pc := 126) (1 : Int32) d_M_everAll_126 (by decide) ?_
              refine ZO.goto (pc := 127) 131 d_M_everAll_127 (by decide) ?_
              exact hj18 (1 : Int32)
            · refine ZO.if_ne (pc := 113) 126 d_M_everAll_113 (by decide) rfl (fun h21 => ?_) (fun h21 => ?_)
              · refine ZO.iload_n (pc := 116) 3 d_M_everAll_116 rfl rfl ?_
                refine ZO.aload_n (pc := 117) 0 d_M_everAll_117 rfl rfl ?_
                refine ZO.getA (pc := 118) 142 d_M_everAll_118 zo_0 zf_M_376 rfl rfl ?_
                refine ZO.iload_n (pc := 121) 2 d_M_everAll_121 rfl rfl ?_
                refine ZO.iald (pc := 122) d_M_everAll_122 za_142 h10 ?_
                refine ZO.icmp_eq (pc := 123) 130 d_M_everAll_123 (by decide) rfl (fun h22 => ?_) (fun h22 => ?_)
                · refine ZO.iconst (pc := 130) (0 : Int32) d_M_everAll_130 (by decide) ?_
                  exact ZO.sub [0, 2, 3] rfl (hj18 (0 : Int32))
                · exact ZO.sub [0, 2, 3] rfl (hj20 ())
              · exact ZO.sub [0, 2, 3] rfl (hj20 ())
        · refine ZO.iload (pc := 62) 4 d_M_everAll_62 rfl ?_
          refine ZO.bipush (pc := 64) (12 : Int32) d_M_everAll_64 (by decide) ?_
          refine ZO.irem (pc := 66) d_M_everAll_66 (by decide) ?_
          refine ZO.aload_n (pc := 67) 0 d_M_everAll_67 rfl rfl ?_
          refine ZO.getI (pc := 68) d_M_everAll_68 zo_0 zf_M_14 rfl ?_
          refine ZO.rjn (pcJ := 85) (LJ := fun (x23 : Int32) => ([(0, .ref 0), (1, .int x7.1), (2, .int x7.2.1), (3, .int x12.1), (4, .int x12.2)] : List (Nat × Value))) (SJ := fun (x23 : Int32) => ([.int x23] : List Value)) (σJ := fun (x23 : Int32) => x7.2.2) (fun x23 => ?_) (fun j30 hj30 => ?_)
          · refine ZO.istore (pc := 85) (v := x23) (L' := [(0, .ref 0), (1, .int x7.1), (2, .int x7.2.1), (3, .int x12.1), (4, .int x12.2), (5, .int x23)]) [1, 2, 3, 4, 5, 0] d_M_everAll_85 (by decide) rfl ?_
            refine ZO.iload_n (pc := 87) 3 d_M_everAll_87 rfl rfl ?_
            refine ZO.iload (pc := 88) 5 d_M_everAll_88 rfl ?_
            refine ZO.rjn (pcJ := 104) (LJ := fun (x24 : Int32) => ([(0, .ref 0), (1, .int x7.1), (2, .int x7.2.1), (4, .int x12.2)] : List (Nat × Value))) (SJ := fun (x24 : Int32) => ([.int x24, .int x12.1] : List Value)) (σJ := fun (x24 : Int32) => x7.2.2) (fun x24 => ?_) (fun j27 hj27 => ?_)
            · refine ZO.ior (pc := 104) d_M_everAll_104 ?_
              refine ZO.ltI (fun v25 => ?_)
              refine ZO.istore_n (pc := 105) (v := v25) (L' := [(0, .ref 0), (1, .int x7.1), (2, .int x7.2.1), (3, .int v25), (4, .int x12.2)]) [1, 2, 3, 0, 4] d_M_everAll_105 rfl (by decide) rfl ?_
              refine ZO.iincL (pc := 106) (i := 4) (x12.2 + (1 : Int32)) (L' := fun v26 => [(0, .ref 0), (1, .int x7.1), (2, .int x7.2.1), (3, .int v25), (4, .int v26)]) [1, 2, 3, 4, 0] d_M_everAll_106 rfl (by rfl) (by decide) (fun _ => rfl) (fun v26 => ?_)
              refine ZO.goto (pc := 109) 55 d_M_everAll_109 (by decide) ?_
              exact hj13 (v25, v26)
            · refine ZO.if_lt (pc := 90) 103 d_M_everAll_90 (by decide) rfl (fun h28 => ?_) (fun h28 => ?_)
              · refine ZO.iconst (pc := 103) (0 : Int32) d_M_everAll_103 (by decide) ?_
                exact ZO.sub [0, 1, 2, 4] rfl (hj27 (0 : Int32))
              · refine ZO.aload_n (pc := 93) 0 d_M_everAll_93 rfl rfl ?_
                refine ZO.getA (pc := 94) 142 d_M_everAll_94 zo_0 zf_M_376 rfl rfl ?_
                refine ZO.iload (pc := 97) 5 d_M_everAll_97 rfl ?_
                refine ZO.rgd (fun h29 => ?_)
                refine ZO.iald (pc := 99) d_M_everAll_99 za_142 h29 ?_
                refine ZO.goto (pc := 100) 104 d_M_everAll_100 (by decide) ?_
                exact ZO.sub [0, 1, 2, 4] rfl (hj27 (ai x7.2.2 142 x23))
          · refine ZO.icmp_ge (pc := 71) 84 d_M_everAll_71 (by decide) rfl (fun h31 => ?_) (fun h31 => ?_)
            · refine ZO.iconst (pc := 84) (-1 : Int32) d_M_everAll_84 (by decide) ?_
              exact hj30 (-1 : Int32)
            · refine ZO.aload_n (pc := 74) 0 d_M_everAll_74 rfl rfl ?_
              refine ZO.iload_n (pc := 75) 2 d_M_everAll_75 rfl rfl ?_
              refine ZO.iload (pc := 76) 4 d_M_everAll_76 rfl ?_
              refine ZO.cVI (pc := 78) (As := [.int x7.2.1, .int x12.2]) (rest := []) d_M_everAll_78 zc_M_358 (by decide) zo_0 rfl rfl rfl (Nat.le_of_ble_eq_true rfl) (ok_M_nextOf g x7.2.1 x12.2 x7.2.2) (fun p32 ep32 => ?_)
              refine ZO.goto (pc := 81) 85 d_M_everAll_81 (by decide) ?_
              exact hj30 p32
  · refine ZO.aload_n (pc := 12) 0 d_M_everAll_12 rfl rfl ?_
    refine ZO.getA (pc := 13) 142 d_M_everAll_13 zo_0 zf_M_376 rfl rfl ?_
    refine ZO.iload_n (pc := 16) 1 d_M_everAll_16 rfl rfl ?_
    refine ZO.iload_n (pc := 17) 1 d_M_everAll_17 rfl rfl ?_
    refine ZO.rgd (fun h33 => ?_)
    refine ZO.iast (pc := 18) d_M_everAll_18 za_142 h33 ?_
    refine ZO.ltS (fun s34 => ?_)
    refine ZO.iincL (pc := 19) (i := 1) (x1.1 + (1 : Int32)) (L' := fun v35 => [(0, .ref 0), (1, .int v35)]) [1, 0] d_M_everAll_19 rfl (by rfl) (by decide) (fun _ => rfl) (fun v35 => ?_)
    refine ZO.goto (pc := 22) 2 d_M_everAll_22 (by decide) ?_
    exact hj2 (v35, s34)
def f_M_keeps (n : Nat) (a0 : Int32) (a1 : Int32) (s : ZSt) : Option (Int32 × ZSt) :=
  lt (si s 0 0 (0 : Int32)) (fun s1 =>
  (if (f_M_isTable a0) = true then
  (if (f_M_areBooks a1 s1) = true then
    bn (f_M_laysOut n a0 s1) (fun p4 =>
      bn (f_M_everAll n p4) (fun p5 =>
      lpN (fun j7 (x6 : Int32 × Int32 × ZSt) =>
      (if (shI (1 : Int32) (gi x6.2.2 0 3)) ≤ x6.2.1 then
        (if 0 ≤ x6.1 then
          lt (si x6.2.2 0 1 (0 : Int32)) (fun s10 =>
            bn (f_M_enters x6.1 s10) (fun p11 =>
            some ((f_J_bitCount x6.1), p11)))
        else some ((-2 : Int32), x6.2.2))
      else lt (f_J_bitCount x6.2.1) (fun v12 =>
          gd (inb a0 3) (
          (jn (fun (x14 : Int32 × ZSt) =>
            lt (x6.2.1 + (1 : Int32)) (fun v15 =>
              j7 (x14.1, v15, x14.2))) (fun j16 =>
            if (ai x6.2.2 107 a0) < v12 then
          j16 (x6.1, x6.2.2)
        else (jn (fun (x18 : Unit) =>
              bn (f_M_settled n a0 x6.2.1 x6.2.2) (fun p19 =>
                gd (inb p19.1 4096) (
                (if (a1 &&& ((ai p19.2 142 p19.1) ^^^ (-1 : Int32))) = 0 then
                j16 (x6.2.1, p19.2)
              else j16 (x6.1, p19.2))))) (fun j22 =>
              if x6.1 < 0 then
            j22 ()
          else (if (f_J_bitCount x6.1) ≤ v12 then
              j16 (x6.1, x6.2.2)
            else j22 ()))))))))) n ((-1 : Int32), (0 : Int32), p5)))
  else some ((-1 : Int32), s1))
else some ((-1 : Int32), s1)))
set_option maxHeartbeats 4000000 in
set_option maxRecDepth 20000 in
theorem ok_M_keeps (g : ZG) (n : Nat) (a0 : Int32) (a1 : Int32) (s : ZSt) : ZF g 7 y_M_keeps [.ref 0, .int a0, .int a1] s (f_M_keeps n a0 a1 s) (fun b => some (.int b.1)) (fun b => b.2) := by
  refine ZF.of (by decide +kernel) (Nat.le_of_ble_eq_true rfl) ?_
  unfold f_M_keeps
  show ZO g 7 y_M_keeps zu0 0 [(0, .ref 0), (1, .int a0), (2, .int a1)] [] s _ _
  refine ZO.aload_n (pc := 0) 0 d_M_keeps_0 rfl rfl ?_
  refine ZO.iconst (pc := 1) (0 : Int32) d_M_keeps_1 (by decide) ?_
  refine ZO.putI (pc := 2) d_M_keeps_2 zo_0 zp_M_3 rfl ?_
  refine ZO.ltS (fun s1 => ?_)
  refine ZO.iload_n (pc := 5) 1 d_M_keeps_5 rfl rfl ?_
  refine ZO.tSB (pc := 6) (As := [.int a0]) (rest := []) d_M_keeps_6 zc_M_194 (by decide) rfl rfl (Nat.le_of_ble_eq_true rfl) (ok_M_isTable g a0 s1) ?_
  refine ZO.ifb_eq (pc := 9) 20 d_M_keeps_9 (by decide) rfl (fun h2 => ?_) (fun h2 => ?_)
  · refine ZO.aload_n (pc := 12) 0 d_M_keeps_12 rfl rfl ?_
    refine ZO.iload_n (pc := 13) 2 d_M_keeps_13 rfl rfl ?_
    refine ZO.tVB (pc := 14) (As := [.int a1]) (rest := []) d_M_keeps_14 zc_M_239 (by decide) zo_0 rfl rfl rfl (Nat.le_of_ble_eq_true rfl) (ok_M_areBooks g a1 s1) ?_
    refine ZO.ifb_ne (pc := 17) 22 d_M_keeps_17 (by decide) rfl (fun h3 => ?_) (fun h3 => ?_)
    · refine ZO.aload_n (pc := 22) 0 d_M_keeps_22 rfl rfl ?_
      refine ZO.iload_n (pc := 23) 1 d_M_keeps_23 rfl rfl ?_
      refine ZO.cVV (pc := 24) (As := [.int a0]) (rest := []) d_M_keeps_24 zc_M_361 (by decide) zo_0 rfl rfl rfl (Nat.le_of_ble_eq_true rfl) (ok_M_laysOut g n a0 s1) (fun p4 ep4 => ?_)
      refine ZO.aload_n (pc := 27) 0 d_M_keeps_27 rfl rfl ?_
      refine ZO.cVV (pc := 28) (As := []) (rest := []) d_M_keeps_28 zc_M_379 (by decide) zo_0 rfl rfl rfl (Nat.le_of_ble_eq_true rfl) (ok_M_everAll g n p4) (fun p5 ep5 => ?_)
      refine ZO.iconst (pc := 31) (-1 : Int32) d_M_keeps_31 (by decide) ?_
      refine ZO.istore_n (pc := 32) (v := (-1 : Int32)) (L' := [(0, .ref 0), (1, .int a0), (2, .int a1), (3, .int (-1 : Int32))]) [1, 2, 3, 0] d_M_keeps_32 rfl (by decide) rfl ?_
      refine ZO.iconst (pc := 33) (0 : Int32) d_M_keeps_33 (by decide) ?_
      refine ZO.istore (pc := 34) (v := (0 : Int32)) (L' := [(0, .ref 0), (1, .int a0), (2, .int a1), (3, .int (-1 : Int32)), (4, .int (0 : Int32))]) [1, 2, 3, 4, 0] d_M_keeps_34 (by decide) rfl ?_
      refine ZO.loop (fun (x6 : Int32 × Int32 × ZSt) => ([(0, .ref 0), (1, .int a0), (2, .int a1), (3, .int x6.1), (4, .int x6.2.1)] : List (Nat × Value))) (fun (x6 : Int32 × Int32 × ZSt) => x6.2.2) [] (fun j7 x6 hj7 => ?_) rfl rfl rfl
      refine ZO.iload (pc := 36) 4 d_M_keeps_36 rfl ?_
      refine ZO.iconst (pc := 38) (1 : Int32) d_M_keeps_38 (by decide) ?_
      refine ZO.aload_n (pc := 39) 0 d_M_keeps_39 rfl rfl ?_
      refine ZO.getI (pc := 40) d_M_keeps_40 zo_0 zf_M_14 rfl ?_
      refine ZO.ishl (pc := 43) d_M_keeps_43 ?_
      refine ZO.icmp_ge (pc := 44) 106 d_M_keeps_44 (by decide) rfl (fun h8 => ?_) (fun h8 => ?_)
      · refine ZO.iload_n (pc := 106) 3 d_M_keeps_106 rfl rfl ?_
        refine ZO.if_ge (pc := 107) 113 d_M_keeps_107 (by decide) rfl (fun h9 => ?_) (fun h9 => ?_)
        · refine ZO.aload_n (pc := 113) 0 d_M_keeps_113 rfl rfl ?_
          refine ZO.iconst (pc := 114) (0 : Int32) d_M_keeps_114 (by decide) ?_
          refine ZO.putI (pc := 115) d_M_keeps_115 zo_0 zp_M_11 rfl ?_
          refine ZO.ltS (fun s10 => ?_)
          refine ZO.aload_n (pc := 118) 0 d_M_keeps_118 rfl rfl ?_
          refine ZO.iload_n (pc := 119) 3 d_M_keeps_119 rfl rfl ?_
          refine ZO.cVV (pc := 120) (As := [.int x6.1]) (rest := []) d_M_keeps_120 zc_M_236 (by decide) zo_0 rfl rfl rfl (Nat.le_of_ble_eq_true rfl) (ok_M_enters g x6.1 s10) (fun p11 ep11 => ?_)
          refine ZO.iload_n (pc := 123) 3 d_M_keeps_123 rfl rfl ?_
          refine ZO.tSI (pc := 124) (As := [.int x6.1]) (rest := []) d_M_keeps_124 zc_M_118 (by decide) rfl rfl (Nat.le_of_ble_eq_true rfl) (ok_J_bitCount g x6.1 p11) ?_
          exact ZO.iret (pc := 127)  d_M_keeps_127 rfl rfl rfl
        · refine ZO.bipush (pc := 110) (-2 : Int32) d_M_keeps_110 (by decide) ?_
          exact ZO.iret (pc := 112)  d_M_keeps_112 rfl rfl rfl
      · refine ZO.iload (pc := 47) 4 d_M_keeps_47 rfl ?_
        refine ZO.tSI (pc := 49) (As := [.int x6.2.1]) (rest := []) d_M_keeps_49 zc_M_118 (by decide) rfl rfl (Nat.le_of_ble_eq_true rfl) (ok_J_bitCount g x6.2.1 x6.2.2) ?_
        refine ZO.ltI (fun v12 => ?_)
        refine ZO.istore (pc := 52) (v := v12) (L' := [(0, .ref 0), (1, .int a0), (2, .int a1), (3, .int x6.1), (4, .int x6.2.1), (5, .int v12)]) [1, 2, 3, 4, 5, 0] d_M_keeps_52 (by decide) rfl ?_
        refine ZO.iload (pc := 54) 5 d_M_keeps_54 rfl ?_
        refine ZO.aload_n (pc := 56) 0 d_M_keeps_56 rfl rfl ?_
        refine ZO.getA (pc := 57) 107 d_M_keeps_57 zo_0 zf_M_199 rfl rfl ?_
        refine ZO.iload_n (pc := 60) 1 d_M_keeps_60 rfl rfl ?_
        refine ZO.rgd (fun h13 => ?_)
        refine ZO.iald (pc := 61) d_M_keeps_61 za_107 h13 ?_
        refine ZO.rjn (pcJ := 100) (LJ := fun (x14 : Int32 × ZSt) => ([(0, .ref 0), (1, .int a0), (2, .int a1), (3, .int x14.1), (4, .int x6.2.1)] : List (Nat × Value))) (SJ := fun (x14 : Int32 × ZSt) => ([] : List Value)) (σJ := fun (x14 : Int32 × ZSt) => x14.2) (fun x14 => ?_) (fun j16 hj16 => ?_)
        · refine ZO.iincL (pc := 100) (i := 4) (x6.2.1 + (1 : Int32)) (L' := fun v15 => [(0, .ref 0), (1, .int a0), (2, .int a1), (3, .int x14.1), (4, .int v15)]) [1, 2, 3, 4, 0] d_M_keeps_100 rfl (by rfl) (by decide) (fun _ => rfl) (fun v15 => ?_)
          refine ZO.goto (pc := 103) 36 d_M_keeps_103 (by decide) ?_
          exact hj7 (x14.1, v15, x14.2)
        · refine ZO.icmp_gt (pc := 62) 100 d_M_keeps_62 (by decide) rfl (fun h17 => ?_) (fun h17 => ?_)
          · exact ZO.sub [0, 1, 2, 3, 4] rfl (hj16 (x6.1, x6.2.2))
          · refine ZO.iload_n (pc := 65) 3 d_M_keeps_65 rfl rfl ?_
            refine ZO.rjn (pcJ := 78) (LJ := fun (x18 : Unit) => ([(0, .ref 0), (1, .int a0), (2, .int a1), (3, .int x6.1), (4, .int x6.2.1)] : List (Nat × Value))) (SJ := fun (x18 : Unit) => ([] : List Value)) (σJ := fun (x18 : Unit) => x6.2.2) (fun x18 => ?_) (fun j22 hj22 => ?_)
            · refine ZO.iload_n (pc := 78) 2 d_M_keeps_78 rfl rfl ?_
              refine ZO.aload_n (pc := 79) 0 d_M_keeps_79 rfl rfl ?_
              refine ZO.getA (pc := 80) 142 d_M_keeps_80 zo_0 zf_M_376 rfl rfl ?_
              refine ZO.aload_n (pc := 83) 0 d_M_keeps_83 rfl rfl ?_
              refine ZO.iload_n (pc := 84) 1 d_M_keeps_84 rfl rfl ?_
              refine ZO.iload (pc := 85) 4 d_M_keeps_85 rfl ?_
              refine ZO.cVI (pc := 87) (As := [.int a0, .int x6.2.1]) (rest := [.ref 142, .int a1]) d_M_keeps_87 zc_M_186 (by decide) zo_0 rfl rfl rfl (Nat.le_of_ble_eq_true rfl) (ok_M_settled g n a0 x6.2.1 x6.2.2) (fun p19 ep19 => ?_)
              refine ZO.rgd (fun h20 => ?_)
              refine ZO.iald (pc := 90) d_M_keeps_90 za_142 h20 ?_
              refine ZO.iconst (pc := 91) (-1 : Int32) d_M_keeps_91 (by decide) ?_
              refine ZO.ixor (pc := 92) d_M_keeps_92 ?_
              refine ZO.iand (pc := 93) d_M_keeps_93 ?_
              refine ZO.if_ne (pc := 94) 100 d_M_keeps_94 (by decide) rfl (fun h21 => ?_) (fun h21 => ?_)
              · refine ZO.iload (pc := 97) 4 d_M_keeps_97 rfl ?_
                refine ZO.istore_n (pc := 99) (v := x6.2.1) (L' := [(0, .ref 0), (1, .int a0), (2, .int a1), (3, .int x6.2.1), (4, .int x6.2.1)]) [1, 2, 3, 0, 4] d_M_keeps_99 rfl (by decide) rfl ?_
                exact hj16 (x6.2.1, p19.2)
              · exact hj16 (x6.1, p19.2)
            · refine ZO.if_lt (pc := 66) 78 d_M_keeps_66 (by decide) rfl (fun h23 => ?_) (fun h23 => ?_)
              · exact ZO.sub [0, 1, 2, 3, 4] rfl (hj22 ())
              · refine ZO.iload (pc := 69) 5 d_M_keeps_69 rfl ?_
                refine ZO.iload_n (pc := 71) 3 d_M_keeps_71 rfl rfl ?_
                refine ZO.tSI (pc := 72) (As := [.int x6.1]) (rest := [.int v12]) d_M_keeps_72 zc_M_118 (by decide) rfl rfl (Nat.le_of_ble_eq_true rfl) (ok_J_bitCount g x6.1 x6.2.2) ?_
                refine ZO.icmp_ge (pc := 75) 100 d_M_keeps_75 (by decide) rfl (fun h24 => ?_) (fun h24 => ?_)
                · exact ZO.sub [0, 1, 2, 3, 4] rfl (hj16 (x6.1, x6.2.2))
                · exact ZO.sub [0, 1, 2, 3, 4] rfl (hj22 ())
    · refine ZO.iconst (pc := 20) (-1 : Int32) d_M_keeps_20 (by decide) ?_
      exact ZO.iret (pc := 21)  d_M_keeps_21 rfl rfl rfl
  · refine ZO.iconst (pc := 20) (-1 : Int32) d_M_keeps_20 (by decide) ?_
    exact ZO.iret (pc := 21)  d_M_keeps_21 rfl rfl rfl
def f_M_finish (n : Nat) (a0 : Int32) (a1 : Int32) (s : ZSt) : Option (Int32 × ZSt) :=
  lt (si s 0 0 (0 : Int32)) (fun s1 =>
  (if (f_M_isTable a0) = true then
  (if (f_M_in a1.toInt64 (0 : Int64) (((shI (1 : Int32) (gi s1 0 9)) - (1 : Int32)).toInt64)) = true then
    lpN (fun j5 (x4 : Int32 × Int32) =>
      (if (gi s1 0 9) ≤ x4.2 then
        bn (f_M_laysOut n a0 s1) (fun p7 =>
          bn (f_M_spreads n (0 : Int32) p7) (fun p8 =>
          bn (f_M_everOpen n p8) (fun p9 =>
          lt (x4.1 &&& (p9 ^^^ (-1 : Int32))) (fun v10 =>
          lt (si p8 0 1 (0 : Int32)) (fun s11 =>
          (jn (fun (x12 : ZSt) =>
            (lt ((if v10 = 0 then
              true
            else false) : Bool) (fun x13 =>
                some ((f_M_flag x13), x12)))) (fun j16 =>
            if v10 = 0 then
          j16 s11
        else bn (f_M_enters v10 s11) (fun p18 =>
            j16 p18))))))))
      else (jn (fun (x19 : Int32) =>
            lt (x4.1 ||| x19) (fun v20 =>
              lt (x4.2 + (1 : Int32)) (fun v21 =>
              j5 (v20, v21)))) (fun j22 =>
            if (f_M_has a1 x4.2) = true then
          bn (f_M_leftOf x4.2 s1) (fun p24 =>
            j22 p24)
        else j22 (0 : Int32))))) n ((0 : Int32), (0 : Int32))
  else some ((-1 : Int32), s1))
else some ((-1 : Int32), s1)))
set_option maxHeartbeats 4000000 in
set_option maxRecDepth 20000 in
theorem ok_M_finish (g : ZG) (n : Nat) (a0 : Int32) (a1 : Int32) (s : ZSt) : ZF g 7 y_M_finish [.ref 0, .int a0, .int a1] s (f_M_finish n a0 a1 s) (fun b => some (.int b.1)) (fun b => b.2) := by
  refine ZF.of (by decide +kernel) (Nat.le_of_ble_eq_true rfl) ?_
  unfold f_M_finish
  show ZO g 7 y_M_finish zu0 0 [(0, .ref 0), (1, .int a0), (2, .int a1)] [] s _ _
  refine ZO.aload_n (pc := 0) 0 d_M_finish_0 rfl rfl ?_
  refine ZO.iconst (pc := 1) (0 : Int32) d_M_finish_1 (by decide) ?_
  refine ZO.putI (pc := 2) d_M_finish_2 zo_0 zp_M_3 rfl ?_
  refine ZO.ltS (fun s1 => ?_)
  refine ZO.iload_n (pc := 5) 1 d_M_finish_5 rfl rfl ?_
  refine ZO.tSB (pc := 6) (As := [.int a0]) (rest := []) d_M_finish_6 zc_M_194 (by decide) rfl rfl (Nat.le_of_ble_eq_true rfl) (ok_M_isTable g a0 s1) ?_
  refine ZO.ifb_eq (pc := 9) 30 d_M_finish_9 (by decide) rfl (fun h2 => ?_) (fun h2 => ?_)
  · refine ZO.iload_n (pc := 12) 2 d_M_finish_12 rfl rfl ?_
    refine ZO.i2l (pc := 13) d_M_finish_13 ?_
    refine ZO.lconst (pc := 14) (0 : Int64) d_M_finish_14 (by decide) ?_
    refine ZO.iconst (pc := 15) (1 : Int32) d_M_finish_15 (by decide) ?_
    refine ZO.aload_n (pc := 16) 0 d_M_finish_16 rfl rfl ?_
    refine ZO.getI (pc := 17) d_M_finish_17 zo_0 zf_M_23 rfl ?_
    refine ZO.ishl (pc := 20) d_M_finish_20 ?_
    refine ZO.iconst (pc := 21) (1 : Int32) d_M_finish_21 (by decide) ?_
    refine ZO.isub (pc := 22) d_M_finish_22 ?_
    refine ZO.i2l (pc := 23) d_M_finish_23 ?_
    refine ZO.tSB (pc := 24) (As := [.long a1.toInt64, .long (0 : Int64), .long ((shI (1 : Int32) (gi s1 0 9)) - (1 : Int32)).toInt64]) (rest := []) d_M_finish_24 zc_M_17 (by decide) rfl rfl (Nat.le_of_ble_eq_true rfl) (ok_M_in g a1.toInt64 (0 : Int64) (((shI (1 : Int32) (gi s1 0 9)) - (1 : Int32)).toInt64) s1) ?_
    refine ZO.ifb_ne (pc := 27) 32 d_M_finish_27 (by decide) rfl (fun h3 => ?_) (fun h3 => ?_)
    · refine ZO.iconst (pc := 32) (0 : Int32) d_M_finish_32 (by decide) ?_
      refine ZO.istore_n (pc := 33) (v := (0 : Int32)) (L' := [(0, .ref 0), (1, .int a0), (2, .int a1), (3, .int (0 : Int32))]) [1, 2, 3, 0] d_M_finish_33 rfl (by decide) rfl ?_
      refine ZO.iconst (pc := 34) (0 : Int32) d_M_finish_34 (by decide) ?_
      refine ZO.istore (pc := 35) (v := (0 : Int32)) (L' := [(0, .ref 0), (1, .int a0), (2, .int a1), (3, .int (0 : Int32)), (4, .int (0 : Int32))]) [1, 2, 3, 4, 0] d_M_finish_35 (by decide) rfl ?_
      refine ZO.loop (fun (x4 : Int32 × Int32) => ([(0, .ref 0), (1, .int a0), (2, .int a1), (3, .int x4.1), (4, .int x4.2)] : List (Nat × Value))) (fun (x4 : Int32 × Int32) => s1) [] (fun j5 x4 hj5 => ?_) rfl rfl rfl
      refine ZO.iload (pc := 37) 4 d_M_finish_37 rfl ?_
      refine ZO.aload_n (pc := 39) 0 d_M_finish_39 rfl rfl ?_
      refine ZO.getI (pc := 40) d_M_finish_40 zo_0 zf_M_23 rfl ?_
      refine ZO.icmp_ge (pc := 43) 74 d_M_finish_43 (by decide) rfl (fun h6 => ?_) (fun h6 => ?_)
      · refine ZO.aload_n (pc := 74) 0 d_M_finish_74 rfl rfl ?_
        refine ZO.iload_n (pc := 75) 1 d_M_finish_75 rfl rfl ?_
        refine ZO.cVV (pc := 76) (As := [.int a0]) (rest := []) d_M_finish_76 zc_M_361 (by decide) zo_0 rfl rfl rfl (Nat.le_of_ble_eq_true rfl) (ok_M_laysOut g n a0 s1) (fun p7 ep7 => ?_)
        refine ZO.aload_n (pc := 79) 0 d_M_finish_79 rfl rfl ?_
        refine ZO.iconst (pc := 80) (0 : Int32) d_M_finish_80 (by decide) ?_
        refine ZO.cVV (pc := 81) (As := [.int (0 : Int32)]) (rest := []) d_M_finish_81 zc_M_364 (by decide) zo_0 rfl rfl rfl (Nat.le_of_ble_eq_true rfl) (ok_M_spreads g n (0 : Int32) p7) (fun p8 ep8 => ?_)
        refine ZO.iload_n (pc := 84) 3 d_M_finish_84 rfl rfl ?_
        refine ZO.aload_n (pc := 85) 0 d_M_finish_85 rfl rfl ?_
        refine ZO.cVI (pc := 86) (As := []) (rest := [.int x4.1]) d_M_finish_86 zc_M_367 (by decide) zo_0 rfl rfl rfl (Nat.le_of_ble_eq_true rfl) (ok_M_everOpen g n p8) (fun p9 ep9 => ?_)
        refine ZO.iconst (pc := 89) (-1 : Int32) d_M_finish_89 (by decide) ?_
        refine ZO.ixor (pc := 90) d_M_finish_90 ?_
        refine ZO.iand (pc := 91) d_M_finish_91 ?_
        refine ZO.ltI (fun v10 => ?_)
        refine ZO.istore (pc := 92) (v := v10) (L' := [(0, .ref 0), (1, .int a0), (2, .int a1), (3, .int x4.1), (4, .int v10)]) [1, 2, 3, 4, 0] d_M_finish_92 (by decide) rfl ?_
        refine ZO.aload_n (pc := 94) 0 d_M_finish_94 rfl rfl ?_
        refine ZO.iconst (pc := 95) (0 : Int32) d_M_finish_95 (by decide) ?_
        refine ZO.putI (pc := 96) d_M_finish_96 zo_0 zp_M_11 rfl ?_
        refine ZO.ltS (fun s11 => ?_)
        refine ZO.iload (pc := 99) 4 d_M_finish_99 rfl ?_
        refine ZO.rjn (pcJ := 110) (LJ := fun (x12 : ZSt) => ([(4, .int v10)] : List (Nat × Value))) (SJ := fun (x12 : ZSt) => ([] : List Value)) (σJ := fun (x12 : ZSt) => x12) (fun x12 => ?_) (fun j16 hj16 => ?_)
        · refine ZO.iload (pc := 110) 0 d_M_finish_110 rfl ?_
          refine ZO.phi (pcJ := 120) (LJ := fun (x13 : Bool) => ([] : List (Nat × Value))) (SJ := fun (x13 : Bool) => ([.int (b2i x13)] : List Value)) (fun x13 => ?_) (fun t hj14 => ?_)
          · refine ZO.tSI (pc := 120) (As := [.int (b2i x13)]) (rest := []) d_M_finish_120 zc_M_33 (by decide) rfl rfl (Nat.le_of_ble_eq_true rfl) (ok_M_flag g x13 x12) ?_
            exact ZO.iret (pc := 123)  d_M_finish_123 rfl rfl rfl
          · refine ZO.if_ne (pc := 112) 119 d_M_finish_112 (by decide) z_ite (fun h15 => ?_) (fun h15 => ?_)
            · refine ZO.iconst (pc := 115) (1 : Int32) d_M_finish_115 (by decide) ?_
              refine ZO.goto (pc := 116) 120 d_M_finish_116 (by decide) ?_
              exact ZO.sub [] rfl (hj14 true (by rw [if_pos h15]))
            · refine ZO.iconst (pc := 119) (0 : Int32) d_M_finish_119 (by decide) ?_
              exact ZO.sub [] rfl (hj14 false (by rw [if_neg h15]))
        · refine ZO.if_eq (pc := 101) 110 d_M_finish_101 (by decide) rfl (fun h17 => ?_) (fun h17 => ?_)
          · exact ZO.sub [4] rfl (hj16 s11)
          · refine ZO.aload_n (pc := 104) 0 d_M_finish_104 rfl rfl ?_
            refine ZO.iload (pc := 105) 4 d_M_finish_105 rfl ?_
            refine ZO.cVV (pc := 107) (As := [.int v10]) (rest := []) d_M_finish_107 zc_M_236 (by decide) zo_0 rfl rfl rfl (Nat.le_of_ble_eq_true rfl) (ok_M_enters g v10 s11) (fun p18 ep18 => ?_)
            exact ZO.sub [4] rfl (hj16 p18)
      · refine ZO.iload_n (pc := 46) 3 d_M_finish_46 rfl rfl ?_
        refine ZO.iload_n (pc := 47) 2 d_M_finish_47 rfl rfl ?_
        refine ZO.iload (pc := 48) 4 d_M_finish_48 rfl ?_
        refine ZO.tSB (pc := 50) (As := [.int a1, .int x4.2]) (rest := [.int x4.1]) d_M_finish_50 zc_M_29 (by decide) rfl rfl (Nat.le_of_ble_eq_true rfl) (ok_M_has g a1 x4.2 s1) ?_
        refine ZO.rjn (pcJ := 66) (LJ := fun (x19 : Int32) => ([(0, .ref 0), (1, .int a0), (2, .int a1), (4, .int x4.2)] : List (Nat × Value))) (SJ := fun (x19 : Int32) => ([.int x19, .int x4.1] : List Value)) (σJ := fun (x19 : Int32) => s1) (fun x19 => ?_) (fun j22 hj22 => ?_)
        · refine ZO.ior (pc := 66) d_M_finish_66 ?_
          refine ZO.ltI (fun v20 => ?_)
          refine ZO.istore_n (pc := 67) (v := v20) (L' := [(0, .ref 0), (1, .int a0), (2, .int a1), (3, .int v20), (4, .int x4.2)]) [1, 2, 3, 0, 4] d_M_finish_67 rfl (by decide) rfl ?_
          refine ZO.iincL (pc := 68) (i := 4) (x4.2 + (1 : Int32)) (L' := fun v21 => [(0, .ref 0), (1, .int a0), (2, .int a1), (3, .int v20), (4, .int v21)]) [1, 2, 3, 4, 0] d_M_finish_68 rfl (by rfl) (by decide) (fun _ => rfl) (fun v21 => ?_)
          refine ZO.goto (pc := 71) 37 d_M_finish_71 (by decide) ?_
          exact hj5 (v20, v21)
        · refine ZO.ifb_eq (pc := 53) 65 d_M_finish_53 (by decide) rfl (fun h23 => ?_) (fun h23 => ?_)
          · refine ZO.aload_n (pc := 56) 0 d_M_finish_56 rfl rfl ?_
            refine ZO.iload (pc := 57) 4 d_M_finish_57 rfl ?_
            refine ZO.cVI (pc := 59) (As := [.int x4.2]) (rest := [.int x4.1]) d_M_finish_59 zc_M_272 (by decide) zo_0 rfl rfl rfl (Nat.le_of_ble_eq_true rfl) (ok_M_leftOf g x4.2 s1) (fun p24 ep24 => ?_)
            refine ZO.goto (pc := 62) 66 d_M_finish_62 (by decide) ?_
            exact ZO.sub [0, 1, 2, 4] rfl (hj22 p24)
          · refine ZO.iconst (pc := 65) (0 : Int32) d_M_finish_65 (by decide) ?_
            exact ZO.sub [0, 1, 2, 4] rfl (hj22 (0 : Int32))
    · refine ZO.iconst (pc := 30) (-1 : Int32) d_M_finish_30 (by decide) ?_
      exact ZO.iret (pc := 31)  d_M_finish_31 rfl rfl rfl
  · refine ZO.iconst (pc := 30) (-1 : Int32) d_M_finish_30 (by decide) ?_
    exact ZO.iret (pc := 31)  d_M_finish_31 rfl rfl rfl
def f_M_stateNow (s : ZSt) : Option Int64 :=
  some (((ai s 108 (0 : Int32)).toInt64 ||| (shL (ai s 108 (1 : Int32)).toInt64 (12 : Int32))) ||| (shL (ai s 108 (2 : Int32)).toInt64 (24 : Int32)))
set_option maxHeartbeats 4000000 in
set_option maxRecDepth 20000 in
theorem ok_M_stateNow (g : ZG) (s : ZSt) : ZF g 0 y_M_stateNow [.ref 0] s (f_M_stateNow s) (fun b => some (.long b)) (fun _ => s) := by
  refine ZF.of (by decide +kernel) (Nat.le_of_ble_eq_true rfl) ?_
  unfold f_M_stateNow
  show ZO g 0 y_M_stateNow zu0 0 [(0, .ref 0)] [] s _ _
  refine ZO.aload_n (pc := 0) 0 d_M_stateNow_0 rfl rfl ?_
  refine ZO.getA (pc := 1) 108 d_M_stateNow_1 zo_0 zf_M_154 rfl rfl ?_
  refine ZO.iconst (pc := 4) (0 : Int32) d_M_stateNow_4 (by decide) ?_
  refine ZO.iald (pc := 5) d_M_stateNow_5 za_108 (by decide) ?_
  refine ZO.i2l (pc := 6) d_M_stateNow_6 ?_
  refine ZO.aload_n (pc := 7) 0 d_M_stateNow_7 rfl rfl ?_
  refine ZO.getA (pc := 8) 108 d_M_stateNow_8 zo_0 zf_M_154 rfl rfl ?_
  refine ZO.iconst (pc := 11) (1 : Int32) d_M_stateNow_11 (by decide) ?_
  refine ZO.iald (pc := 12) d_M_stateNow_12 za_108 (by decide) ?_
  refine ZO.i2l (pc := 13) d_M_stateNow_13 ?_
  refine ZO.bipush (pc := 14) (12 : Int32) d_M_stateNow_14 (by decide) ?_
  refine ZO.lshl (pc := 16) d_M_stateNow_16 ?_
  refine ZO.lor (pc := 17) d_M_stateNow_17 ?_
  refine ZO.aload_n (pc := 18) 0 d_M_stateNow_18 rfl rfl ?_
  refine ZO.getA (pc := 19) 108 d_M_stateNow_19 zo_0 zf_M_154 rfl rfl ?_
  refine ZO.iconst (pc := 22) (2 : Int32) d_M_stateNow_22 (by decide) ?_
  refine ZO.iald (pc := 23) d_M_stateNow_23 za_108 (by decide) ?_
  refine ZO.i2l (pc := 24) d_M_stateNow_24 ?_
  refine ZO.bipush (pc := 25) (24 : Int32) d_M_stateNow_25 (by decide) ?_
  refine ZO.lshl (pc := 27) d_M_stateNow_27 ?_
  refine ZO.lor (pc := 28) d_M_stateNow_28 ?_
  exact ZO.lret (pc := 29)  d_M_stateNow_29 rfl rfl rfl
def f_M_setOf (a0 : Int64) (a1 : Int32) : Int32 :=
  ((srL a0 ((12 : Int32) * a1)).toInt32 &&& (4095 : Int32))
set_option maxHeartbeats 4000000 in
set_option maxRecDepth 20000 in
theorem ok_M_setOf (g : ZG) (a0 : Int64) (a1 : Int32) (s : ZSt) : ZF g 0 y_M_setOf [.long a0, .int a1] s (some (f_M_setOf a0 a1)) (fun b => some (.int b)) (fun _ => s) := by
  refine ZF.of (by decide +kernel) (Nat.le_of_ble_eq_true rfl) ?_
  unfold f_M_setOf
  show ZO g 0 y_M_setOf zu0 0 [(0, .long a0), (2, .int a1)] [] s _ _
  refine ZO.lload_n (pc := 0) 0 d_M_setOf_0 rfl rfl ?_
  refine ZO.bipush (pc := 1) (12 : Int32) d_M_setOf_1 (by decide) ?_
  refine ZO.iload_n (pc := 3) 1 d_M_setOf_3 rfl rfl ?_
  refine ZO.imul (pc := 4) d_M_setOf_4 ?_
  refine ZO.lshr (pc := 5) d_M_setOf_5 ?_
  refine ZO.l2i (pc := 6) d_M_setOf_6 ?_
  refine ZO.sipush (pc := 7) (4095 : Int32) d_M_setOf_7 (by decide) ?_
  refine ZO.iand (pc := 10) d_M_setOf_10 ?_
  exact ZO.iret (pc := 11)  d_M_setOf_11 rfl rfl rfl
def f_M_everyOf (a0 : Int64) : Int32 :=
  (((f_M_setOf a0 (0 : Int32)) ||| (f_M_setOf a0 (1 : Int32))) ||| (f_M_setOf a0 (2 : Int32)))
set_option maxHeartbeats 4000000 in
set_option maxRecDepth 20000 in
theorem ok_M_everyOf (g : ZG) (a0 : Int64) (s : ZSt) : ZF g 1 y_M_everyOf [.long a0] s (some (f_M_everyOf a0)) (fun b => some (.int b)) (fun _ => s) := by
  refine ZF.of (by decide +kernel) (Nat.le_of_ble_eq_true rfl) ?_
  unfold f_M_everyOf
  show ZO g 1 y_M_everyOf zu0 0 [(0, .long a0)] [] s _ _
  refine ZO.lload_n (pc := 0) 0 d_M_everyOf_0 rfl rfl ?_
  refine ZO.iconst (pc := 1) (0 : Int32) d_M_everyOf_1 (by decide) ?_
  refine ZO.tSI (pc := 2) (As := [.long a0, .int (0 : Int32)]) (rest := []) d_M_everyOf_2 zc_M_382 (by decide) rfl rfl (Nat.le_of_ble_eq_true rfl) (ok_M_setOf g a0 (0 : Int32) s) ?_
  refine ZO.lload_n (pc := 5) 0 d_M_everyOf_5 rfl rfl ?_
  refine ZO.iconst (pc := 6) (1 : Int32) d_M_everyOf_6 (by decide) ?_
  refine ZO.tSI (pc := 7) (As := [.long a0, .int (1 : Int32)]) (rest := [.int (f_M_setOf a0 (0 : Int32))]) d_M_everyOf_7 zc_M_382 (by decide) rfl rfl (Nat.le_of_ble_eq_true rfl) (ok_M_setOf g a0 (1 : Int32) s) ?_
  refine ZO.ior (pc := 10) d_M_everyOf_10 ?_
  refine ZO.lload_n (pc := 11) 0 d_M_everyOf_11 rfl rfl ?_
  refine ZO.iconst (pc := 12) (2 : Int32) d_M_everyOf_12 (by decide) ?_
  refine ZO.tSI (pc := 13) (As := [.long a0, .int (2 : Int32)]) (rest := [.int ((f_M_setOf a0 (0 : Int32)) ||| (f_M_setOf a0 (1 : Int32)))]) d_M_everyOf_13 zc_M_382 (by decide) rfl rfl (Nat.le_of_ble_eq_true rfl) (ok_M_setOf g a0 (2 : Int32) s) ?_
  refine ZO.ior (pc := 16) d_M_everyOf_16 ?_
  exact ZO.iret (pc := 17)  d_M_everyOf_17 rfl rfl rfl
def f_M_stands (n : Nat) (a0 : Int64) (s : ZSt) : Option ZSt :=
  lpN (fun j2 (x1 : Int32 × ZSt) =>
  (if (3 : Int32) ≤ x1.1 then
    some x1.2
  else gd (inb x1.1 3) (
      lt (sai x1.2 108 x1.1 (f_M_setOf a0 x1.1)) (fun s5 =>
      lt (x1.1 + (1 : Int32)) (fun v6 =>
      j2 (v6, s5)))))) n ((0 : Int32), s)
set_option maxHeartbeats 4000000 in
set_option maxRecDepth 20000 in
theorem ok_M_stands (g : ZG) (n : Nat) (a0 : Int64) (s : ZSt) : ZF g 1 y_M_stands [.ref 0, .long a0] s (f_M_stands n a0 s) (fun _ => none) (fun b => b) := by
  refine ZF.of (by decide +kernel) (Nat.le_of_ble_eq_true rfl) ?_
  unfold f_M_stands
  show ZO g 1 y_M_stands zu0 0 [(0, .ref 0), (1, .long a0)] [] s _ _
  refine ZO.iconst (pc := 0) (0 : Int32) d_M_stands_0 (by decide) ?_
  refine ZO.istore_n (pc := 1) (v := (0 : Int32)) (L' := [(0, .ref 0), (1, .long a0), (3, .int (0 : Int32))]) [1, 2, 0] d_M_stands_1 rfl (by decide) rfl ?_
  refine ZO.loop (fun (x1 : Int32 × ZSt) => ([(0, .ref 0), (1, .long a0), (3, .int x1.1)] : List (Nat × Value))) (fun (x1 : Int32 × ZSt) => x1.2) [] (fun j2 x1 hj2 => ?_) rfl rfl rfl
  refine ZO.iload_n (pc := 2) 2 d_M_stands_2 rfl rfl ?_
  refine ZO.iconst (pc := 3) (3 : Int32) d_M_stands_3 (by decide) ?_
  refine ZO.icmp_ge (pc := 4) 24 d_M_stands_4 (by decide) rfl (fun h3 => ?_) (fun h3 => ?_)
  · exact ZO.vret (pc := 24) d_M_stands_24 rfl rfl rfl
  · refine ZO.aload_n (pc := 7) 0 d_M_stands_7 rfl rfl ?_
    refine ZO.getA (pc := 8) 108 d_M_stands_8 zo_0 zf_M_154 rfl rfl ?_
    refine ZO.iload_n (pc := 11) 2 d_M_stands_11 rfl rfl ?_
    refine ZO.lload_n (pc := 12) 1 d_M_stands_12 rfl rfl ?_
    refine ZO.iload_n (pc := 13) 2 d_M_stands_13 rfl rfl ?_
    refine ZO.tSI (pc := 14) (As := [.long a0, .int x1.1]) (rest := [.int x1.1, .ref 108]) d_M_stands_14 zc_M_382 (by decide) rfl rfl (Nat.le_of_ble_eq_true rfl) (ok_M_setOf g a0 x1.1 x1.2) ?_
    refine ZO.rgd (fun h4 => ?_)
    refine ZO.iast (pc := 17) d_M_stands_17 za_108 h4 ?_
    refine ZO.ltS (fun s5 => ?_)
    refine ZO.iincL (pc := 18) (i := 2) (x1.1 + (1 : Int32)) (L' := fun v6 => [(0, .ref 0), (1, .long a0), (3, .int v6)]) [1, 2, 0] d_M_stands_18 rfl (by rfl) (by decide) (fun _ => rfl) (fun v6 => ?_)
    refine ZO.goto (pc := 21) 2 d_M_stands_21 (by decide) ?_
    exact hj2 (v6, s5)
def f_M_slotOf (n : Nat) (a0 : Int64) (s : ZSt) : Option Int32 :=
  lt ((remL (a0 * (31 : Int64)) (16384 : Int64)).toInt32) (fun v1 =>
  lpN (fun j3 (x2 : Int32) =>
  gd (inb x2 16384) (
    (if (ai s 148 x2) < 0 then
    some x2
  else gd (inb (ai s 148 x2) 5000) (
      (if (lg_cmp (al s 143 (ai s 148 x2)) a0) = 0 then
      some x2
    else lt (remI (x2 + (1 : Int32)) (16384 : Int32)) (fun v8 =>
        j3 v8)))))) n v1)
set_option maxHeartbeats 4000000 in
set_option maxRecDepth 20000 in
theorem ok_M_slotOf (g : ZG) (n : Nat) (a0 : Int64) (s : ZSt) : ZF g 0 y_M_slotOf [.ref 0, .long a0] s (f_M_slotOf n a0 s) (fun b => some (.int b)) (fun _ => s) := by
  refine ZF.of (by decide +kernel) (Nat.le_of_ble_eq_true rfl) ?_
  unfold f_M_slotOf
  show ZO g 0 y_M_slotOf zu0 0 [(0, .ref 0), (1, .long a0)] [] s _ _
  refine ZO.lload_n (pc := 0) 1 d_M_slotOf_0 rfl rfl ?_
  refine ZO.ldc2 (pc := 1) (31 : Int64) d_M_slotOf_1 zk_M_386 ?_
  refine ZO.lmul (pc := 4) d_M_slotOf_4 ?_
  refine ZO.ldc2 (pc := 5) (16384 : Int64) d_M_slotOf_5 zk_M_388 ?_
  refine ZO.lrem (pc := 8) d_M_slotOf_8 (by decide) ?_
  refine ZO.l2i (pc := 9) d_M_slotOf_9 ?_
  refine ZO.ltI (fun v1 => ?_)
  refine ZO.istore_n (pc := 10) (v := v1) (L' := [(0, .ref 0), (1, .long a0), (3, .int v1)]) [1, 2, 0] d_M_slotOf_10 rfl (by decide) rfl ?_
  refine ZO.loop (fun (x2 : Int32) => ([(0, .ref 0), (1, .long a0), (3, .int x2)] : List (Nat × Value))) (fun (x2 : Int32) => s) [] (fun j3 x2 hj3 => ?_) rfl rfl rfl
  refine ZO.aload_n (pc := 11) 0 d_M_slotOf_11 rfl rfl ?_
  refine ZO.getA (pc := 12) 148 d_M_slotOf_12 zo_0 zf_M_390 rfl rfl ?_
  refine ZO.iload_n (pc := 15) 2 d_M_slotOf_15 rfl rfl ?_
  refine ZO.rgd (fun h4 => ?_)
  refine ZO.iald (pc := 16) d_M_slotOf_16 za_148 h4 ?_
  refine ZO.if_lt (pc := 17) 47 d_M_slotOf_17 (by decide) rfl (fun h5 => ?_) (fun h5 => ?_)
  · refine ZO.iload_n (pc := 47) 2 d_M_slotOf_47 rfl rfl ?_
    exact ZO.iret (pc := 48)  d_M_slotOf_48 rfl rfl rfl
  · refine ZO.aload_n (pc := 20) 0 d_M_slotOf_20 rfl rfl ?_
    refine ZO.getA (pc := 21) 143 d_M_slotOf_21 zo_0 zf_M_393 rfl rfl ?_
    refine ZO.aload_n (pc := 24) 0 d_M_slotOf_24 rfl rfl ?_
    refine ZO.getA (pc := 25) 148 d_M_slotOf_25 zo_0 zf_M_390 rfl rfl ?_
    refine ZO.iload_n (pc := 28) 2 d_M_slotOf_28 rfl rfl ?_
    refine ZO.iald (pc := 29) d_M_slotOf_29 za_148 h4 ?_
    refine ZO.rgd (fun h6 => ?_)
    refine ZO.lald (pc := 30) d_M_slotOf_30 za_143 h6 ?_
    refine ZO.lload_n (pc := 31) 1 d_M_slotOf_31 rfl rfl ?_
    refine ZO.lcmp (pc := 32) d_M_slotOf_32 ?_
    refine ZO.if_eq (pc := 33) 47 d_M_slotOf_33 (by decide) rfl (fun h7 => ?_) (fun h7 => ?_)
    · refine ZO.iload_n (pc := 47) 2 d_M_slotOf_47 rfl rfl ?_
      exact ZO.iret (pc := 48)  d_M_slotOf_48 rfl rfl rfl
    · refine ZO.iload_n (pc := 36) 2 d_M_slotOf_36 rfl rfl ?_
      refine ZO.iconst (pc := 37) (1 : Int32) d_M_slotOf_37 (by decide) ?_
      refine ZO.iadd (pc := 38) d_M_slotOf_38 ?_
      refine ZO.sipush (pc := 39) (16384 : Int32) d_M_slotOf_39 (by decide) ?_
      refine ZO.irem (pc := 42) d_M_slotOf_42 (by decide) ?_
      refine ZO.ltI (fun v8 => ?_)
      refine ZO.istore_n (pc := 43) (v := v8) (L' := [(0, .ref 0), (1, .long a0), (3, .int v8)]) [1, 2, 0] d_M_slotOf_43 rfl (by decide) rfl ?_
      refine ZO.goto (pc := 44) 11 d_M_slotOf_44 (by decide) ?_
      exact hj3 v8
def f_M_numberOf (n : Nat) (a0 : Int64) (a1 : Int32) (a2 : Int32) (s : ZSt) : Option (Int32 × ZSt) :=
  bn (f_M_slotOf n a0 s) (fun p1 =>
  gd (inb p1 16384) (
  (if (ai s 148 p1) < 0 then
  (if (gi s 0 49) = (5000 : Int32) then
    some ((-1 : Int32), s)
  else gd (inb (gi s 0 49) 5000) (
      lt (sal s 143 (gi s 0 49) a0) (fun s6 =>
      (jn (fun (x7 : Int32) =>
        gd (inb (gi s6 0 49) 5000) (
          lt (sai s6 144 (gi s6 0 49) x7) (fun s9 =>
          gd (inb (gi s9 0 49) 5000) (
          lt (sai s9 145 (gi s9 0 49) a1) (fun s11 =>
          gd (inb (gi s11 0 49) 5000) (
          lt (sai s11 146 (gi s11 0 49) a2) (fun s13 =>
          lt (sai s13 148 p1 (gi s13 0 49)) (fun s14 =>
          lt (si s14 0 49 ((gi s14 0 49) + (1 : Int32))) (fun s15 =>
          some ((ai s15 148 p1), s15)))))))))) (fun j16 =>
        if 0 ≤ a1 then
      gd (inb a1 5000) (
        j16 ((ai s6 144 a1) + (1 : Int32)))
    else j16 (0 : Int32))))))
else some ((ai s 148 p1), s))))
set_option maxHeartbeats 4000000 in
set_option maxRecDepth 20000 in
theorem ok_M_numberOf (g : ZG) (n : Nat) (a0 : Int64) (a1 : Int32) (a2 : Int32) (s : ZSt) : ZF g 1 y_M_numberOf [.ref 0, .long a0, .int a1, .int a2] s (f_M_numberOf n a0 a1 a2 s) (fun b => some (.int b.1)) (fun b => b.2) := by
  refine ZF.of (by decide +kernel) (Nat.le_of_ble_eq_true rfl) ?_
  unfold f_M_numberOf
  show ZO g 1 y_M_numberOf zu0 0 [(0, .ref 0), (1, .long a0), (3, .int a1), (4, .int a2)] [] s _ _
  refine ZO.aload_n (pc := 0) 0 d_M_numberOf_0 rfl rfl ?_
  refine ZO.lload_n (pc := 1) 1 d_M_numberOf_1 rfl rfl ?_
  refine ZO.cVI (pc := 2) (As := [.long a0]) (rest := []) d_M_numberOf_2 zc_M_397 (by decide) zo_0 rfl rfl rfl (Nat.le_of_ble_eq_true rfl) (ok_M_slotOf g n a0 s) (fun p1 ep1 => ?_)
  refine ZO.istore (pc := 5) (v := p1) (L' := [(0, .ref 0), (1, .long a0), (3, .int a1), (4, .int a2), (5, .int p1)]) [1, 2, 3, 4, 0] d_M_numberOf_5 (by decide) rfl ?_
  refine ZO.aload_n (pc := 7) 0 d_M_numberOf_7 rfl rfl ?_
  refine ZO.getA (pc := 8) 148 d_M_numberOf_8 zo_0 zf_M_390 rfl rfl ?_
  refine ZO.iload (pc := 11) 4 d_M_numberOf_11 rfl ?_
  refine ZO.rgd (fun h2 => ?_)
  refine ZO.iald (pc := 13) d_M_numberOf_13 za_148 h2 ?_
  refine ZO.if_lt (pc := 14) 25 d_M_numberOf_14 (by decide) rfl (fun h3 => ?_) (fun h3 => ?_)
  · refine ZO.aload_n (pc := 25) 0 d_M_numberOf_25 rfl rfl ?_
    refine ZO.getI (pc := 26) d_M_numberOf_26 zo_0 zf_M_401 rfl ?_
    refine ZO.sipush (pc := 29) (5000 : Int32) d_M_numberOf_29 (by decide) ?_
    refine ZO.icmp_ne (pc := 32) 37 d_M_numberOf_32 (by decide) rfl (fun h4 => ?_) (fun h4 => ?_)
    · refine ZO.iconst (pc := 35) (-1 : Int32) d_M_numberOf_35 (by decide) ?_
      exact ZO.iret (pc := 36)  d_M_numberOf_36 rfl rfl rfl
    · refine ZO.aload_n (pc := 37) 0 d_M_numberOf_37 rfl rfl ?_
      refine ZO.getA (pc := 38) 143 d_M_numberOf_38 zo_0 zf_M_393 rfl rfl ?_
      refine ZO.aload_n (pc := 41) 0 d_M_numberOf_41 rfl rfl ?_
      refine ZO.getI (pc := 42) d_M_numberOf_42 zo_0 zf_M_401 rfl ?_
      refine ZO.lload_n (pc := 45) 1 d_M_numberOf_45 rfl rfl ?_
      refine ZO.rgd (fun h5 => ?_)
      refine ZO.last (pc := 46) d_M_numberOf_46 za_143 h5 ?_
      refine ZO.ltS (fun s6 => ?_)
      refine ZO.aload_n (pc := 47) 0 d_M_numberOf_47 rfl rfl ?_
      refine ZO.getA (pc := 48) 144 d_M_numberOf_48 zo_0 zf_M_404 rfl rfl ?_
      refine ZO.aload_n (pc := 51) 0 d_M_numberOf_51 rfl rfl ?_
      refine ZO.getI (pc := 52) d_M_numberOf_52 zo_0 zf_M_401 rfl ?_
      refine ZO.iload_n (pc := 55) 2 d_M_numberOf_55 rfl rfl ?_
      refine ZO.rjn (pcJ := 71) (LJ := fun (x7 : Int32) => ([(0, .ref 0), (3, .int a1), (4, .int a2), (5, .int p1)] : List (Nat × Value))) (SJ := fun (x7 : Int32) => ([.int x7, .int (gi s6 0 49), .ref 144] : List Value)) (σJ := fun (x7 : Int32) => s6) (fun x7 => ?_) (fun j16 hj16 => ?_)
      · refine ZO.rgd (fun h8 => ?_)
        refine ZO.iast (pc := 71) d_M_numberOf_71 za_144 h8 ?_
        refine ZO.ltS (fun s9 => ?_)
        refine ZO.aload_n (pc := 72) 0 d_M_numberOf_72 rfl rfl ?_
        refine ZO.getA (pc := 73) 145 d_M_numberOf_73 zo_0 zf_M_407 rfl rfl ?_
        refine ZO.aload_n (pc := 76) 0 d_M_numberOf_76 rfl rfl ?_
        refine ZO.getI (pc := 77) d_M_numberOf_77 zo_0 zf_M_401 rfl ?_
        refine ZO.iload_n (pc := 80) 1 d_M_numberOf_80 rfl rfl ?_
        refine ZO.rgd (fun h10 => ?_)
        refine ZO.iast (pc := 81) d_M_numberOf_81 za_145 h10 ?_
        refine ZO.ltS (fun s11 => ?_)
        refine ZO.aload_n (pc := 82) 0 d_M_numberOf_82 rfl rfl ?_
        refine ZO.getA (pc := 83) 146 d_M_numberOf_83 zo_0 zf_M_410 rfl rfl ?_
        refine ZO.aload_n (pc := 86) 0 d_M_numberOf_86 rfl rfl ?_
        refine ZO.getI (pc := 87) d_M_numberOf_87 zo_0 zf_M_401 rfl ?_
        refine ZO.iload (pc := 90) 2 d_M_numberOf_90 rfl ?_
        refine ZO.rgd (fun h12 => ?_)
        refine ZO.iast (pc := 92) d_M_numberOf_92 za_146 h12 ?_
        refine ZO.ltS (fun s13 => ?_)
        refine ZO.aload_n (pc := 93) 0 d_M_numberOf_93 rfl rfl ?_
        refine ZO.getA (pc := 94) 148 d_M_numberOf_94 zo_0 zf_M_390 rfl rfl ?_
        refine ZO.iload (pc := 97) 3 d_M_numberOf_97 rfl ?_
        refine ZO.aload_n (pc := 99) 0 d_M_numberOf_99 rfl rfl ?_
        refine ZO.getI (pc := 100) d_M_numberOf_100 zo_0 zf_M_401 rfl ?_
        refine ZO.iast (pc := 103) d_M_numberOf_103 za_148 h2 ?_
        refine ZO.ltS (fun s14 => ?_)
        refine ZO.aload_n (pc := 104) 0 d_M_numberOf_104 rfl rfl ?_
        refine ZO.dup (pc := 105) d_M_numberOf_105 rfl ?_
        refine ZO.getI (pc := 106) d_M_numberOf_106 zo_0 zf_M_401 rfl ?_
        refine ZO.iconst (pc := 109) (1 : Int32) d_M_numberOf_109 (by decide) ?_
        refine ZO.iadd (pc := 110) d_M_numberOf_110 ?_
        refine ZO.putI (pc := 111) d_M_numberOf_111 zo_0 zp_M_401 rfl ?_
        refine ZO.ltS (fun s15 => ?_)
        refine ZO.aload_n (pc := 114) 0 d_M_numberOf_114 rfl rfl ?_
        refine ZO.getA (pc := 115) 148 d_M_numberOf_115 zo_0 zf_M_390 rfl rfl ?_
        refine ZO.iload (pc := 118) 3 d_M_numberOf_118 rfl ?_
        refine ZO.iald (pc := 120) d_M_numberOf_120 za_148 h2 ?_
        exact ZO.iret (pc := 121)  d_M_numberOf_121 rfl rfl rfl
      · refine ZO.if_ge (pc := 56) 63 d_M_numberOf_56 (by decide) rfl (fun h17 => ?_) (fun h17 => ?_)
        · refine ZO.aload_n (pc := 63) 0 d_M_numberOf_63 rfl rfl ?_
          refine ZO.getA (pc := 64) 144 d_M_numberOf_64 zo_0 zf_M_404 rfl rfl ?_
          refine ZO.iload_n (pc := 67) 2 d_M_numberOf_67 rfl rfl ?_
          refine ZO.rgd (fun h18 => ?_)
          refine ZO.iald (pc := 68) d_M_numberOf_68 za_144 h18 ?_
          refine ZO.iconst (pc := 69) (1 : Int32) d_M_numberOf_69 (by decide) ?_
          refine ZO.iadd (pc := 70) d_M_numberOf_70 ?_
          exact ZO.sub [0, 2, 3, 4] rfl (hj16 ((ai s6 144 a1) + (1 : Int32)))
        · refine ZO.iconst (pc := 59) (0 : Int32) d_M_numberOf_59 (by decide) ?_
          refine ZO.goto (pc := 60) 71 d_M_numberOf_60 (by decide) ?_
          exact ZO.sub [0, 2, 3, 4] rfl (hj16 (0 : Int32))
  · refine ZO.aload_n (pc := 17) 0 d_M_numberOf_17 rfl rfl ?_
    refine ZO.getA (pc := 18) 148 d_M_numberOf_18 zo_0 zf_M_390 rfl rfl ?_
    refine ZO.iload (pc := 21) 4 d_M_numberOf_21 rfl ?_
    refine ZO.iald (pc := 23) d_M_numberOf_23 za_148 h2 ?_
    exact ZO.iret (pc := 24)  d_M_numberOf_24 rfl rfl rfl
def f_M_explores (n : Nat) (a0 : Int64) (s : ZSt) : Option (Bool × ZSt) :=
  lpN (fun j2 (x1 : Int32 × ZSt) =>
  (if (16384 : Int32) ≤ x1.1 then
    lt (si x1.2 0 49 (0 : Int32)) (fun s4 =>
      bn (f_M_numberOf n a0 (-1 : Int32) (-1 : Int32) s4) (fun p5 =>
      bn (f_M_putsBy n p5.2) (fun p6 =>
      jn (fun (x7 : Bool × ZSt) =>
      bn (f_M_putsBack n x7.2) (fun p8 =>
        some (x7.1, p8))) (fun j9 =>
      lpN (fun j11 (x10 : Bool × Int32 × ZSt) =>
      (if (gi x10.2.2 0 49) ≤ x10.2.1 then
        j9 (x10.1, x10.2.2)
      else (if x10.1 = true then
          jn (fun (x14 : Bool × Int32 × ZSt) =>
            lpN (fun j16 (x15 : Int32 × ZSt) =>
              (if (36 : Int32) ≤ x15.1 then
                lt (x10.2.1 + (1 : Int32)) (fun v18 =>
                  j11 (x14.1, v18, x15.2))
              else gd (inb (((36 : Int32) * x10.2.1) + x15.1) 180000) (
                  lt (sai x15.2 147 (((36 : Int32) * x10.2.1) + x15.1) (-1 : Int32)) (fun s20 =>
                  lt (x15.1 + (1 : Int32)) (fun v21 =>
                  j16 (v21, s20)))))) n (x14.2.1, x14.2.2)) (fun j22 =>
            lpN (fun j24 (x23 : Bool × Int32 × Int32 × ZSt) =>
            (if (140 : Int32) ≤ x23.2.2.1 then
              j22 (x23.1, x23.2.1, x23.2.2.2)
            else (if x23.1 = true then
                gd (inb x10.2.1 5000) (
                  bn (f_M_stands n (al x23.2.2.2 143 x10.2.1) x23.2.2.2) (fun p28 =>
                  (jn (fun (x29 : Bool × Int32 × ZSt) =>
                    lt (x23.2.2.1 + (1 : Int32)) (fun v30 =>
                      j24 (x29.1, x29.2.1, v30, x29.2.2))) (fun j31 =>
                    if (f_M_isAct x23.2.2.1 p28) = true then
                  bn (f_M_whyNot n x23.2.2.1 p28) (fun p33 =>
                    (if 0 ≤ p33.1 then
                    bn (f_M_makes n x23.2.2.1 p33.2) (fun p35 =>
                      gd (inb (remI x23.2.2.1 (20 : Int32)) 12) (
                      lt (sai p35.2 105 (remI x23.2.2.1 (20 : Int32)) (ai p35.2 124 (remI x23.2.2.1 (20 : Int32)))) (fun s37 =>
                      bn (f_M_stateNow s37) (fun p38 =>
                      bn (f_M_numberOf n p38 x10.2.1 x23.2.2.1 s37) (fun p39 =>
                      (lt ((if p39.1 < 0 then
                      false
                    else true) : Bool) (fun x40 =>
                        gd (inb (((36 : Int32) * x10.2.1) + x23.2.1) 180000) (
                          lt (sai p39.2 147 (((36 : Int32) * x10.2.1) + x23.2.1) p39.1) (fun s42 =>
                          lt (x23.2.1 + (1 : Int32)) (fun v43 =>
                          j31 (x40, v43, s42)))))))))))
                  else j31 (x23.1, x23.2.1, p33.2)))
                else j31 (x23.1, x23.2.1, p28)))))
              else j22 (x23.1, x23.2.1, x23.2.2.2)))) n (x10.1, (0 : Int32), (0 : Int32), x10.2.2))
        else j9 (x10.1, x10.2.2)))) n (true, (0 : Int32), p6)))))
  else gd (inb x1.1 16384) (
      lt (sai x1.2 148 x1.1 (-1 : Int32)) (fun s47 =>
      lt (x1.1 + (1 : Int32)) (fun v48 =>
      j2 (v48, s47)))))) n ((0 : Int32), s)
set_option maxHeartbeats 4000000 in
set_option maxRecDepth 20000 in
theorem ok_M_explores (g : ZG) (n : Nat) (a0 : Int64) (s : ZSt) : ZF g 8 y_M_explores [.ref 0, .long a0] s (f_M_explores n a0 s) (fun b => some (.int (b2i b.1))) (fun b => b.2) := by
  refine ZF.of (by decide +kernel) (Nat.le_of_ble_eq_true rfl) ?_
  unfold f_M_explores
  show ZO g 8 y_M_explores zu0 0 [(0, .ref 0), (1, .long a0)] [] s _ _
  refine ZO.iconst (pc := 0) (0 : Int32) d_M_explores_0 (by decide) ?_
  refine ZO.istore_n (pc := 1) (v := (0 : Int32)) (L' := [(0, .ref 0), (1, .long a0), (3, .int (0 : Int32))]) [1, 2, 0] d_M_explores_1 rfl (by decide) rfl ?_
  refine ZO.loop (fun (x1 : Int32 × ZSt) => ([(0, .ref 0), (1, .long a0), (3, .int x1.1)] : List (Nat × Value))) (fun (x1 : Int32 × ZSt) => x1.2) [] (fun j2 x1 hj2 => ?_) rfl rfl rfl
  refine ZO.iload_n (pc := 2) 2 d_M_explores_2 rfl rfl ?_
  refine ZO.sipush (pc := 3) (16384 : Int32) d_M_explores_3 (by decide) ?_
  refine ZO.icmp_ge (pc := 6) 22 d_M_explores_6 (by decide) rfl (fun h3 => ?_) (fun h3 => ?_)
  · refine ZO.aload_n (pc := 22) 0 d_M_explores_22 rfl rfl ?_
    refine ZO.iconst (pc := 23) (0 : Int32) d_M_explores_23 (by decide) ?_
    refine ZO.putI (pc := 24) d_M_explores_24 zo_0 zp_M_401 rfl ?_
    refine ZO.ltS (fun s4 => ?_)
    refine ZO.aload_n (pc := 27) 0 d_M_explores_27 rfl rfl ?_
    refine ZO.lload_n (pc := 28) 1 d_M_explores_28 rfl rfl ?_
    refine ZO.iconst (pc := 29) (-1 : Int32) d_M_explores_29 (by decide) ?_
    refine ZO.iconst (pc := 30) (-1 : Int32) d_M_explores_30 (by decide) ?_
    refine ZO.cVI (pc := 31) (As := [.long a0, .int (-1 : Int32), .int (-1 : Int32)]) (rest := []) d_M_explores_31 zc_M_413 (by decide) zo_0 rfl rfl rfl (Nat.le_of_ble_eq_true rfl) (ok_M_numberOf g n a0 (-1 : Int32) (-1 : Int32) s4) (fun p5 ep5 => ?_)
    refine ZO.pop (pc := 34) d_M_explores_34 rfl ?_
    refine ZO.aload_n (pc := 35) 0 d_M_explores_35 rfl rfl ?_
    refine ZO.cVV (pc := 36) (As := []) (rest := []) d_M_explores_36 zc_M_250 (by decide) zo_0 rfl rfl rfl (Nat.le_of_ble_eq_true rfl) (ok_M_putsBy g n p5.2) (fun p6 ep6 => ?_)
    refine ZO.iconst (pc := 39) (1 : Int32) d_M_explores_39 (by decide) ?_
    refine ZO.istore_n (pc := 40) (v := (b2i true)) (L' := [(0, .ref 0), (1, .long a0), (3, .int (b2i true))]) [1, 2, 0] d_M_explores_40 rfl (by decide) rfl ?_
    refine ZO.iconst (pc := 41) (0 : Int32) d_M_explores_41 (by decide) ?_
    refine ZO.istore (pc := 42) (v := (0 : Int32)) (L' := [(0, .ref 0), (1, .long a0), (3, .int (b2i true)), (4, .int (0 : Int32))]) [1, 2, 3, 0] d_M_explores_42 (by decide) rfl ?_
    refine ZO.rjn (pcJ := 220) (LJ := fun (x7 : Bool × ZSt) => ([(0, .ref 0), (3, .int (b2i x7.1))] : List (Nat × Value))) (SJ := fun (x7 : Bool × ZSt) => ([] : List Value)) (σJ := fun (x7 : Bool × ZSt) => x7.2) (fun x7 => ?_) (fun j9 hj9 => ?_)
    · refine ZO.aload_n (pc := 220) 0 d_M_explores_220 rfl rfl ?_
      refine ZO.cVV (pc := 221) (As := []) (rest := []) d_M_explores_221 zc_M_254 (by decide) zo_0 rfl rfl rfl (Nat.le_of_ble_eq_true rfl) (ok_M_putsBack g n x7.2) (fun p8 ep8 => ?_)
      refine ZO.iload_n (pc := 224) 1 d_M_explores_224 rfl rfl ?_
      exact ZO.zret (pc := 225) (v := x7.1) d_M_explores_225 rfl rfl rfl
    · refine ZO.sub (L' := [(0, .ref 0), (3, .int (b2i true)), (4, .int (0 : Int32))]) [0, 2, 3] rfl ?_
      refine ZO.loop (fun (x10 : Bool × Int32 × ZSt) => ([(0, .ref 0), (3, .int (b2i x10.1)), (4, .int x10.2.1)] : List (Nat × Value))) (fun (x10 : Bool × Int32 × ZSt) => x10.2.2) [] (fun j11 x10 hj11 => ?_) rfl rfl rfl
      refine ZO.iload (pc := 44) 2 d_M_explores_44 rfl ?_
      refine ZO.aload_n (pc := 46) 0 d_M_explores_46 rfl rfl ?_
      refine ZO.getI (pc := 47) d_M_explores_47 zo_0 zf_M_401 rfl ?_
      refine ZO.icmp_ge (pc := 50) 220 d_M_explores_50 (by decide) rfl (fun h12 => ?_) (fun h12 => ?_)
      · exact ZO.sub [0, 1] rfl (hj9 (x10.1, x10.2.2))
      · refine ZO.iload_n (pc := 53) 1 d_M_explores_53 rfl rfl ?_
        refine ZO.ifb_eq (pc := 54) 220 d_M_explores_54 (by decide) rfl (fun h13 => ?_) (fun h13 => ?_)
        · refine ZO.iconst (pc := 57) (0 : Int32) d_M_explores_57 (by decide) ?_
          refine ZO.istore (pc := 58) (v := (0 : Int32)) (L' := [(0, .ref 0), (3, .int (b2i x10.1)), (4, .int x10.2.1), (5, .int (0 : Int32))]) [1, 2, 3, 0] d_M_explores_58 (by decide) rfl ?_
          refine ZO.iconst (pc := 60) (0 : Int32) d_M_explores_60 (by decide) ?_
          refine ZO.istore (pc := 61) (v := (0 : Int32)) (L' := [(0, .ref 0), (3, .int (b2i x10.1)), (4, .int x10.2.1), (5, .int (0 : Int32)), (6, .int (0 : Int32))]) [1, 2, 3, 4, 0] d_M_explores_61 (by decide) rfl ?_
          refine ZO.rjn (pcJ := 183) (LJ := fun (x14 : Bool × Int32 × ZSt) => ([(0, .ref 0), (3, .int (b2i x14.1)), (4, .int x10.2.1), (5, .int x14.2.1)] : List (Nat × Value))) (SJ := fun (x14 : Bool × Int32 × ZSt) => ([] : List Value)) (σJ := fun (x14 : Bool × Int32 × ZSt) => x14.2.2) (fun x14 => ?_) (fun j22 hj22 => ?_)
          · refine ZO.iload (pc := 183) 3 d_M_explores_183 rfl ?_
            refine ZO.istore (pc := 185) (v := x14.2.1) (L' := [(0, .ref 0), (3, .int (b2i x14.1)), (4, .int x10.2.1), (5, .int x14.2.1), (6, .int x14.2.1)]) [1, 2, 3, 4, 0] d_M_explores_185 (by decide) rfl ?_
            refine ZO.sub (L' := [(0, .ref 0), (3, .int (b2i x14.1)), (4, .int x10.2.1), (6, .int x14.2.1)]) [0, 1, 2, 4] rfl ?_
            refine ZO.loop (fun (x15 : Int32 × ZSt) => ([(0, .ref 0), (3, .int (b2i x14.1)), (4, .int x10.2.1), (6, .int x15.1)] : List (Nat × Value))) (fun (x15 : Int32 × ZSt) => x15.2) [] (fun j16 x15 hj16 => ?_) rfl rfl rfl
            refine ZO.iload (pc := 187) 3 d_M_explores_187 rfl ?_
            refine ZO.bipush (pc := 189) (36 : Int32) d_M_explores_189 (by decide) ?_
            refine ZO.icmp_ge (pc := 191) 214 d_M_explores_191 (by decide) rfl (fun h17 => ?_) (fun h17 => ?_)
            · refine ZO.iincL (pc := 214) (i := 2) (x10.2.1 + (1 : Int32)) (L' := fun v18 => [(0, .ref 0), (3, .int (b2i x14.1)), (4, .int v18), (6, .int x15.1)]) [1, 2, 0, 3] d_M_explores_214 rfl (by rfl) (by decide) (fun _ => rfl) (fun v18 => ?_)
              refine ZO.goto (pc := 217) 44 d_M_explores_217 (by decide) ?_
              exact ZO.sub [0, 1, 2] rfl (hj11 (x14.1, v18, x15.2))
            · refine ZO.aload_n (pc := 194) 0 d_M_explores_194 rfl rfl ?_
              refine ZO.getA (pc := 195) 147 d_M_explores_195 zo_0 zf_M_425 rfl rfl ?_
              refine ZO.bipush (pc := 198) (36 : Int32) d_M_explores_198 (by decide) ?_
              refine ZO.iload (pc := 200) 2 d_M_explores_200 rfl ?_
              refine ZO.imul (pc := 202) d_M_explores_202 ?_
              refine ZO.iload (pc := 203) 3 d_M_explores_203 rfl ?_
              refine ZO.iadd (pc := 205) d_M_explores_205 ?_
              refine ZO.iconst (pc := 206) (-1 : Int32) d_M_explores_206 (by decide) ?_
              refine ZO.rgd (fun h19 => ?_)
              refine ZO.iast (pc := 207) d_M_explores_207 za_147 h19 ?_
              refine ZO.ltS (fun s20 => ?_)
              refine ZO.iincL (pc := 208) (i := 3) (x15.1 + (1 : Int32)) (L' := fun v21 => [(0, .ref 0), (3, .int (b2i x14.1)), (4, .int x10.2.1), (6, .int v21)]) [1, 2, 3, 0] d_M_explores_208 rfl (by rfl) (by decide) (fun _ => rfl) (fun v21 => ?_)
              refine ZO.goto (pc := 211) 187 d_M_explores_211 (by decide) ?_
              exact hj16 (v21, s20)
          · refine ZO.loop (fun (x23 : Bool × Int32 × Int32 × ZSt) => ([(0, .ref 0), (3, .int (b2i x23.1)), (4, .int x10.2.1), (5, .int x23.2.1), (6, .int x23.2.2.1)] : List (Nat × Value))) (fun (x23 : Bool × Int32 × Int32 × ZSt) => x23.2.2.2) [] (fun j24 x23 hj24 => ?_) rfl rfl rfl
            refine ZO.iload (pc := 63) 4 d_M_explores_63 rfl ?_
            refine ZO.sipush (pc := 65) (140 : Int32) d_M_explores_65 (by decide) ?_
            refine ZO.icmp_ge (pc := 68) 183 d_M_explores_68 (by decide) rfl (fun h25 => ?_) (fun h25 => ?_)
            · exact ZO.sub [0, 1, 2, 3] rfl (hj22 (x23.1, x23.2.1, x23.2.2.2))
            · refine ZO.iload_n (pc := 71) 1 d_M_explores_71 rfl rfl ?_
              refine ZO.ifb_eq (pc := 72) 183 d_M_explores_72 (by decide) rfl (fun h26 => ?_) (fun h26 => ?_)
              · refine ZO.aload_n (pc := 75) 0 d_M_explores_75 rfl rfl ?_
                refine ZO.aload_n (pc := 76) 0 d_M_explores_76 rfl rfl ?_
                refine ZO.getA (pc := 77) 143 d_M_explores_77 zo_0 zf_M_393 rfl rfl ?_
                refine ZO.iload (pc := 80) 2 d_M_explores_80 rfl ?_
                refine ZO.rgd (fun h27 => ?_)
                refine ZO.lald (pc := 82) d_M_explores_82 za_143 h27 ?_
                refine ZO.cVV (pc := 83) (As := [.long (al x23.2.2.2 143 x10.2.1)]) (rest := []) d_M_explores_83 zc_M_417 (by decide) zo_0 rfl rfl rfl (Nat.le_of_ble_eq_true rfl) (ok_M_stands g n (al x23.2.2.2 143 x10.2.1) x23.2.2.2) (fun p28 ep28 => ?_)
                refine ZO.aload_n (pc := 86) 0 d_M_explores_86 rfl rfl ?_
                refine ZO.iload (pc := 87) 4 d_M_explores_87 rfl ?_
                refine ZO.tVB (pc := 89) (As := [.int x23.2.2.1]) (rest := []) d_M_explores_89 zc_M_223 (by decide) zo_0 rfl rfl rfl (Nat.le_of_ble_eq_true rfl) (ok_M_isAct g x23.2.2.1 p28) ?_
                refine ZO.rjn (pcJ := 177) (LJ := fun (x29 : Bool × Int32 × ZSt) => ([(0, .ref 0), (3, .int (b2i x29.1)), (4, .int x10.2.1), (5, .int x29.2.1), (6, .int x23.2.2.1)] : List (Nat × Value))) (SJ := fun (x29 : Bool × Int32 × ZSt) => ([] : List Value)) (σJ := fun (x29 : Bool × Int32 × ZSt) => x29.2.2) (fun x29 => ?_) (fun j31 hj31 => ?_)
                · refine ZO.iincL (pc := 177) (i := 4) (x23.2.2.1 + (1 : Int32)) (L' := fun v30 => [(0, .ref 0), (3, .int (b2i x29.1)), (4, .int x10.2.1), (5, .int x29.2.1), (6, .int v30)]) [1, 2, 3, 4, 0] d_M_explores_177 rfl (by rfl) (by decide) (fun _ => rfl) (fun v30 => ?_)
                  refine ZO.goto (pc := 180) 63 d_M_explores_180 (by decide) ?_
                  exact hj24 (x29.1, x29.2.1, v30, x29.2.2)
                · refine ZO.ifb_eq (pc := 92) 177 d_M_explores_92 (by decide) rfl (fun h32 => ?_) (fun h32 => ?_)
                  · refine ZO.aload_n (pc := 95) 0 d_M_explores_95 rfl rfl ?_
                    refine ZO.iload (pc := 96) 4 d_M_explores_96 rfl ?_
                    refine ZO.cVI (pc := 98) (As := [.int x23.2.2.1]) (rest := []) d_M_explores_98 zc_M_226 (by decide) zo_0 rfl rfl rfl (Nat.le_of_ble_eq_true rfl) (ok_M_whyNot g n x23.2.2.1 p28) (fun p33 ep33 => ?_)
                    refine ZO.if_ge (pc := 101) 107 d_M_explores_101 (by decide) rfl (fun h34 => ?_) (fun h34 => ?_)
                    · refine ZO.aload_n (pc := 107) 0 d_M_explores_107 rfl rfl ?_
                      refine ZO.iload (pc := 108) 4 d_M_explores_108 rfl ?_
                      refine ZO.cVI (pc := 110) (As := [.int x23.2.2.1]) (rest := []) d_M_explores_110 zc_M_229 (by decide) zo_0 rfl rfl rfl (Nat.le_of_ble_eq_true rfl) (ok_M_makes g n x23.2.2.1 p33.2) (fun p35 ep35 => ?_)
                      refine ZO.pop (pc := 113) d_M_explores_113 rfl ?_
                      refine ZO.aload_n (pc := 114) 0 d_M_explores_114 rfl rfl ?_
                      refine ZO.getA (pc := 115) 105 d_M_explores_115 zo_0 zf_M_176 rfl rfl ?_
                      refine ZO.iload (pc := 118) 4 d_M_explores_118 rfl ?_
                      refine ZO.bipush (pc := 120) (20 : Int32) d_M_explores_120 (by decide) ?_
                      refine ZO.irem (pc := 122) d_M_explores_122 (by decide) ?_
                      refine ZO.aload_n (pc := 123) 0 d_M_explores_123 rfl rfl ?_
                      refine ZO.getA (pc := 124) 124 d_M_explores_124 zo_0 zf_M_245 rfl rfl ?_
                      refine ZO.iload (pc := 127) 4 d_M_explores_127 rfl ?_
                      refine ZO.bipush (pc := 129) (20 : Int32) d_M_explores_129 (by decide) ?_
                      refine ZO.irem (pc := 131) d_M_explores_131 (by decide) ?_
                      refine ZO.rgd (fun h36 => ?_)
                      refine ZO.iald (pc := 132) d_M_explores_132 za_124 h36 ?_
                      refine ZO.iast (pc := 133) d_M_explores_133 za_105 h36 ?_
                      refine ZO.ltS (fun s37 => ?_)
                      refine ZO.aload_n (pc := 134) 0 d_M_explores_134 rfl rfl ?_
                      refine ZO.aload_n (pc := 135) 0 d_M_explores_135 rfl rfl ?_
                      refine ZO.cVJ (pc := 136) (As := []) (rest := [.ref 0]) d_M_explores_136 zc_M_421 (by decide) zo_0 rfl rfl rfl (Nat.le_of_ble_eq_true rfl) (ok_M_stateNow g s37) (fun p38 ep38 => ?_)
                      refine ZO.iload (pc := 139) 2 d_M_explores_139 rfl ?_
                      refine ZO.iload (pc := 141) 4 d_M_explores_141 rfl ?_
                      refine ZO.cVI (pc := 143) (As := [.long p38, .int x10.2.1, .int x23.2.2.1]) (rest := []) d_M_explores_143 zc_M_413 (by decide) zo_0 rfl rfl rfl (Nat.le_of_ble_eq_true rfl) (ok_M_numberOf g n p38 x10.2.1 x23.2.2.1 s37) (fun p39 ep39 => ?_)
                      refine ZO.istore (pc := 146) (v := p39.1) (L' := [(0, .ref 0), (3, .int (b2i x23.1)), (4, .int x10.2.1), (5, .int x23.2.1), (6, .int x23.2.2.1), (7, .int p39.1)]) [1, 2, 3, 4, 5, 0] d_M_explores_146 (by decide) rfl ?_
                      refine ZO.iload (pc := 148) 5 d_M_explores_148 rfl ?_
                      refine ZO.phi (pcJ := 158) (LJ := fun (x40 : Bool) => ([(0, .ref 0), (4, .int x10.2.1), (5, .int x23.2.1), (6, .int x23.2.2.1), (7, .int p39.1)] : List (Nat × Value))) (SJ := fun (x40 : Bool) => ([.int (b2i x40)] : List Value)) (fun x40 => ?_) (fun t hj44 => ?_)
                      · refine ZO.istore_n (pc := 158) (v := (b2i x40)) (L' := [(0, .ref 0), (3, .int (b2i x40)), (4, .int x10.2.1), (5, .int x23.2.1), (6, .int x23.2.2.1), (7, .int p39.1)]) [1, 0, 2, 3, 4, 5] d_M_explores_158 rfl (by decide) rfl ?_
                        refine ZO.aload_n (pc := 159) 0 d_M_explores_159 rfl rfl ?_
                        refine ZO.getA (pc := 160) 147 d_M_explores_160 zo_0 zf_M_425 rfl rfl ?_
                        refine ZO.bipush (pc := 163) (36 : Int32) d_M_explores_163 (by decide) ?_
                        refine ZO.iload (pc := 165) 2 d_M_explores_165 rfl ?_
                        refine ZO.imul (pc := 167) d_M_explores_167 ?_
                        refine ZO.iload (pc := 168) 3 d_M_explores_168 rfl ?_
                        refine ZO.iadd (pc := 170) d_M_explores_170 ?_
                        refine ZO.iload (pc := 171) 5 d_M_explores_171 rfl ?_
                        refine ZO.rgd (fun h41 => ?_)
                        refine ZO.iast (pc := 173) d_M_explores_173 za_147 h41 ?_
                        refine ZO.ltS (fun s42 => ?_)
                        refine ZO.iincL (pc := 174) (i := 3) (x23.2.1 + (1 : Int32)) (L' := fun v43 => [(0, .ref 0), (3, .int (b2i x40)), (4, .int x10.2.1), (5, .int v43), (6, .int x23.2.2.1), (7, .int p39.1)]) [1, 2, 3, 0, 4, 5] d_M_explores_174 rfl (by rfl) (by decide) (fun _ => rfl) (fun v43 => ?_)
                        exact ZO.sub [0, 1, 2, 3, 4] rfl (hj31 (x40, v43, s42))
                      · refine ZO.if_lt (pc := 150) 157 d_M_explores_150 (by decide) z_ite (fun h45 => ?_) (fun h45 => ?_)
                        · refine ZO.iconst (pc := 157) (0 : Int32) d_M_explores_157 (by decide) ?_
                          exact ZO.sub [0, 2, 3, 4, 5] rfl (hj44 false (by rw [if_pos h45]))
                        · refine ZO.iconst (pc := 153) (1 : Int32) d_M_explores_153 (by decide) ?_
                          refine ZO.goto (pc := 154) 158 d_M_explores_154 (by decide) ?_
                          exact ZO.sub [0, 2, 3, 4, 5] rfl (hj44 true (by rw [if_neg h45]))
                    · refine ZO.goto (pc := 104) 177 d_M_explores_104 (by decide) ?_
                      exact hj31 (x23.1, x23.2.1, p33.2)
                  · exact hj31 (x23.1, x23.2.1, p28)
              · exact ZO.sub [0, 1, 2, 3] rfl (hj22 (x23.1, x23.2.1, x23.2.2.2))
        · exact ZO.sub [0, 1] rfl (hj9 (x10.1, x10.2.2))
  · refine ZO.aload_n (pc := 9) 0 d_M_explores_9 rfl rfl ?_
    refine ZO.getA (pc := 10) 148 d_M_explores_10 zo_0 zf_M_390 rfl rfl ?_
    refine ZO.iload_n (pc := 13) 2 d_M_explores_13 rfl rfl ?_
    refine ZO.iconst (pc := 14) (-1 : Int32) d_M_explores_14 (by decide) ?_
    refine ZO.rgd (fun h46 => ?_)
    refine ZO.iast (pc := 15) d_M_explores_15 za_148 h46 ?_
    refine ZO.ltS (fun s47 => ?_)
    refine ZO.iincL (pc := 16) (i := 2) (x1.1 + (1 : Int32)) (L' := fun v48 => [(0, .ref 0), (1, .long a0), (3, .int v48)]) [1, 2, 0] d_M_explores_16 rfl (by rfl) (by decide) (fun _ => rfl) (fun v48 => ?_)
    refine ZO.goto (pc := 19) 2 d_M_explores_19 (by decide) ?_
    exact hj2 (v48, s47)
def f_M_everFound (n : Nat) (s : ZSt) : Option Int32 :=
  lpN (fun j2 (x1 : Int32 × Int32) =>
  (if (gi s 0 49) ≤ x1.2 then
    some x1.1
  else gd (inb x1.2 5000) (
      lt (x1.1 ||| (f_M_everyOf (al s 143 x1.2))) (fun v5 =>
      lt (x1.2 + (1 : Int32)) (fun v6 =>
      j2 (v5, v6)))))) n ((0 : Int32), (0 : Int32))
set_option maxHeartbeats 4000000 in
set_option maxRecDepth 20000 in
theorem ok_M_everFound (g : ZG) (n : Nat) (s : ZSt) : ZF g 2 y_M_everFound [.ref 0] s (f_M_everFound n s) (fun b => some (.int b)) (fun _ => s) := by
  refine ZF.of (by decide +kernel) (Nat.le_of_ble_eq_true rfl) ?_
  unfold f_M_everFound
  show ZO g 2 y_M_everFound zu0 0 [(0, .ref 0)] [] s _ _
  refine ZO.iconst (pc := 0) (0 : Int32) d_M_everFound_0 (by decide) ?_
  refine ZO.istore_n (pc := 1) (v := (0 : Int32)) (L' := [(0, .ref 0), (1, .int (0 : Int32))]) [1, 0] d_M_everFound_1 rfl (by decide) rfl ?_
  refine ZO.iconst (pc := 2) (0 : Int32) d_M_everFound_2 (by decide) ?_
  refine ZO.istore_n (pc := 3) (v := (0 : Int32)) (L' := [(0, .ref 0), (1, .int (0 : Int32)), (2, .int (0 : Int32))]) [1, 2, 0] d_M_everFound_3 rfl (by decide) rfl ?_
  refine ZO.loop (fun (x1 : Int32 × Int32) => ([(0, .ref 0), (1, .int x1.1), (2, .int x1.2)] : List (Nat × Value))) (fun (x1 : Int32 × Int32) => s) [] (fun j2 x1 hj2 => ?_) rfl rfl rfl
  refine ZO.iload_n (pc := 4) 2 d_M_everFound_4 rfl rfl ?_
  refine ZO.aload_n (pc := 5) 0 d_M_everFound_5 rfl rfl ?_
  refine ZO.getI (pc := 6) d_M_everFound_6 zo_0 zf_M_401 rfl ?_
  refine ZO.icmp_ge (pc := 9) 30 d_M_everFound_9 (by decide) rfl (fun h3 => ?_) (fun h3 => ?_)
  · refine ZO.iload_n (pc := 30) 1 d_M_everFound_30 rfl rfl ?_
    exact ZO.iret (pc := 31)  d_M_everFound_31 rfl rfl rfl
  · refine ZO.iload_n (pc := 12) 1 d_M_everFound_12 rfl rfl ?_
    refine ZO.aload_n (pc := 13) 0 d_M_everFound_13 rfl rfl ?_
    refine ZO.getA (pc := 14) 143 d_M_everFound_14 zo_0 zf_M_393 rfl rfl ?_
    refine ZO.iload_n (pc := 17) 2 d_M_everFound_17 rfl rfl ?_
    refine ZO.rgd (fun h4 => ?_)
    refine ZO.lald (pc := 18) d_M_everFound_18 za_143 h4 ?_
    refine ZO.tSI (pc := 19) (As := [.long (al s 143 x1.2)]) (rest := [.int x1.1]) d_M_everFound_19 zc_M_428 (by decide) rfl rfl (Nat.le_of_ble_eq_true rfl) (ok_M_everyOf g (al s 143 x1.2) s) ?_
    refine ZO.ior (pc := 22) d_M_everFound_22 ?_
    refine ZO.ltI (fun v5 => ?_)
    refine ZO.istore_n (pc := 23) (v := v5) (L' := [(0, .ref 0), (1, .int v5), (2, .int x1.2)]) [1, 0, 2] d_M_everFound_23 rfl (by decide) rfl ?_
    refine ZO.iincL (pc := 24) (i := 2) (x1.2 + (1 : Int32)) (L' := fun v6 => [(0, .ref 0), (1, .int v5), (2, .int v6)]) [1, 2, 0] d_M_everFound_24 rfl (by rfl) (by decide) (fun _ => rfl) (fun v6 => ?_)
    refine ZO.goto (pc := 27) 4 d_M_everFound_27 (by decide) ?_
    exact hj2 (v5, v6)
def f_M_reach (n : Nat) (s : ZSt) : Option (Int32 × ZSt) :=
  lt (si s 0 0 (0 : Int32)) (fun s1 =>
  bn (f_M_stateNow s1) (fun p2 =>
  bn (f_M_explores n p2 s1) (fun p3 =>
  (if p3.1 = true then
  lt (si p3.2 0 1 (0 : Int32)) (fun s5 =>
    bn (f_M_everFound n s5) (fun p6 =>
    bn (f_M_enters p6 s5) (fun p7 =>
    gd (inb ((gi p7 0 49) - (1 : Int32)) 5000) (
    bn (f_M_enters (ai p7 144 ((gi p7 0 49) - (1 : Int32))) p7) (fun p9 =>
    some ((gi p9 0 49), p9))))))
else some ((-3 : Int32), p3.2)))))
set_option maxHeartbeats 4000000 in
set_option maxRecDepth 20000 in
theorem ok_M_reach (g : ZG) (n : Nat) (s : ZSt) : ZF g 9 y_M_reach [.ref 0] s (f_M_reach n s) (fun b => some (.int b.1)) (fun b => b.2) := by
  refine ZF.of (by decide +kernel) (Nat.le_of_ble_eq_true rfl) ?_
  unfold f_M_reach
  show ZO g 9 y_M_reach zu0 0 [(0, .ref 0)] [] s _ _
  refine ZO.aload_n (pc := 0) 0 d_M_reach_0 rfl rfl ?_
  refine ZO.iconst (pc := 1) (0 : Int32) d_M_reach_1 (by decide) ?_
  refine ZO.putI (pc := 2) d_M_reach_2 zo_0 zp_M_3 rfl ?_
  refine ZO.ltS (fun s1 => ?_)
  refine ZO.aload_n (pc := 5) 0 d_M_reach_5 rfl rfl ?_
  refine ZO.aload_n (pc := 6) 0 d_M_reach_6 rfl rfl ?_
  refine ZO.cVJ (pc := 7) (As := []) (rest := [.ref 0]) d_M_reach_7 zc_M_421 (by decide) zo_0 rfl rfl rfl (Nat.le_of_ble_eq_true rfl) (ok_M_stateNow g s1) (fun p2 ep2 => ?_)
  refine ZO.cVB (pc := 10) (As := [.long p2]) (rest := []) d_M_reach_10 zc_M_431 (by decide) zo_0 rfl rfl rfl (Nat.le_of_ble_eq_true rfl) (ok_M_explores g n p2 s1) (fun p3 ep3 => ?_)
  refine ZO.ifb_ne (pc := 13) 19 d_M_reach_13 (by decide) rfl (fun h4 => ?_) (fun h4 => ?_)
  · refine ZO.aload_n (pc := 19) 0 d_M_reach_19 rfl rfl ?_
    refine ZO.iconst (pc := 20) (0 : Int32) d_M_reach_20 (by decide) ?_
    refine ZO.putI (pc := 21) d_M_reach_21 zo_0 zp_M_11 rfl ?_
    refine ZO.ltS (fun s5 => ?_)
    refine ZO.aload_n (pc := 24) 0 d_M_reach_24 rfl rfl ?_
    refine ZO.aload_n (pc := 25) 0 d_M_reach_25 rfl rfl ?_
    refine ZO.cVI (pc := 26) (As := []) (rest := [.ref 0]) d_M_reach_26 zc_M_435 (by decide) zo_0 rfl rfl rfl (Nat.le_of_ble_eq_true rfl) (ok_M_everFound g n s5) (fun p6 ep6 => ?_)
    refine ZO.cVV (pc := 29) (As := [.int p6]) (rest := []) d_M_reach_29 zc_M_236 (by decide) zo_0 rfl rfl rfl (Nat.le_of_ble_eq_true rfl) (ok_M_enters g p6 s5) (fun p7 ep7 => ?_)
    refine ZO.aload_n (pc := 32) 0 d_M_reach_32 rfl rfl ?_
    refine ZO.aload_n (pc := 33) 0 d_M_reach_33 rfl rfl ?_
    refine ZO.getA (pc := 34) 144 d_M_reach_34 zo_0 zf_M_404 rfl rfl ?_
    refine ZO.aload_n (pc := 37) 0 d_M_reach_37 rfl rfl ?_
    refine ZO.getI (pc := 38) d_M_reach_38 zo_0 zf_M_401 rfl ?_
    refine ZO.iconst (pc := 41) (1 : Int32) d_M_reach_41 (by decide) ?_
    refine ZO.isub (pc := 42) d_M_reach_42 ?_
    refine ZO.rgd (fun h8 => ?_)
    refine ZO.iald (pc := 43) d_M_reach_43 za_144 h8 ?_
    refine ZO.cVV (pc := 44) (As := [.int (ai p7 144 ((gi p7 0 49) - (1 : Int32)))]) (rest := []) d_M_reach_44 zc_M_236 (by decide) zo_0 rfl rfl rfl (Nat.le_of_ble_eq_true rfl) (ok_M_enters g (ai p7 144 ((gi p7 0 49) - (1 : Int32))) p7) (fun p9 ep9 => ?_)
    refine ZO.aload_n (pc := 47) 0 d_M_reach_47 rfl rfl ?_
    refine ZO.getI (pc := 48) d_M_reach_48 zo_0 zf_M_401 rfl ?_
    exact ZO.iret (pc := 51)  d_M_reach_51 rfl rfl rfl
  · refine ZO.bipush (pc := 16) (-3 : Int32) d_M_reach_16 (by decide) ?_
    exact ZO.iret (pc := 18)  d_M_reach_18 rfl rfl rfl
def f_M_tellsTo (n : Nat) (a0 : Int32) (s : ZSt) : Option (Int32 × ZSt) :=
  gd (inb a0 5000) (
  lt ((ai s 144 a0) - (1 : Int32)) (fun v2 =>
  lpN (fun j4 (x3 : Int32 × Int32 × ZSt) =>
  (if x3.2.1 < 0 then
    lt (si x3.2.2 0 1 (0 : Int32)) (fun s6 =>
      jn (fun (x7 : ZSt) =>
      some ((ai x7 144 a0), x7)) (fun j8 =>
      lpN (fun j10 (x9 : Int32 × ZSt) =>
      (if (ai x9.2 144 a0) ≤ x9.1 then
        j8 x9.2
      else (if (10 : Int32) ≤ x9.1 then
          j8 x9.2
        else gd (inb x9.1 5000) (
            bn (f_M_enters (ai x9.2 141 x9.1) x9.2) (fun p14 =>
            lt (x9.1 + (1 : Int32)) (fun v15 =>
            j10 (v15, p14))))))) n ((0 : Int32), s6)))
  else gd (inb x3.1 5000) (
      gd (inb x3.2.1 5000) (
      lt (sai x3.2.2 141 x3.2.1 (ai x3.2.2 146 x3.1)) (fun s18 =>
      lt (ai s18 145 x3.1) (fun v19 =>
      lt (x3.2.1 + (-1 : Int32)) (fun v20 =>
      j4 (v19, v20, s18)))))))) n (a0, v2, s)))
set_option maxHeartbeats 4000000 in
set_option maxRecDepth 20000 in
theorem ok_M_tellsTo (g : ZG) (n : Nat) (a0 : Int32) (s : ZSt) : ZF g 1 y_M_tellsTo [.ref 0, .int a0] s (f_M_tellsTo n a0 s) (fun b => some (.int b.1)) (fun b => b.2) := by
  refine ZF.of (by decide +kernel) (Nat.le_of_ble_eq_true rfl) ?_
  unfold f_M_tellsTo
  show ZO g 1 y_M_tellsTo zu0 0 [(0, .ref 0), (1, .int a0)] [] s _ _
  refine ZO.iload_n (pc := 0) 1 d_M_tellsTo_0 rfl rfl ?_
  refine ZO.istore_n (pc := 1) (v := a0) (L' := [(0, .ref 0), (1, .int a0), (2, .int a0)]) [1, 2, 0] d_M_tellsTo_1 rfl (by decide) rfl ?_
  refine ZO.aload_n (pc := 2) 0 d_M_tellsTo_2 rfl rfl ?_
  refine ZO.getA (pc := 3) 144 d_M_tellsTo_3 zo_0 zf_M_404 rfl rfl ?_
  refine ZO.iload_n (pc := 6) 1 d_M_tellsTo_6 rfl rfl ?_
  refine ZO.rgd (fun h1 => ?_)
  refine ZO.iald (pc := 7) d_M_tellsTo_7 za_144 h1 ?_
  refine ZO.iconst (pc := 8) (1 : Int32) d_M_tellsTo_8 (by decide) ?_
  refine ZO.isub (pc := 9) d_M_tellsTo_9 ?_
  refine ZO.ltI (fun v2 => ?_)
  refine ZO.istore_n (pc := 10) (v := v2) (L' := [(0, .ref 0), (1, .int a0), (2, .int a0), (3, .int v2)]) [1, 2, 3, 0] d_M_tellsTo_10 rfl (by decide) rfl ?_
  refine ZO.loop (fun (x3 : Int32 × Int32 × ZSt) => ([(0, .ref 0), (1, .int a0), (2, .int x3.1), (3, .int x3.2.1)] : List (Nat × Value))) (fun (x3 : Int32 × Int32 × ZSt) => x3.2.2) [] (fun j4 x3 hj4 => ?_) rfl rfl rfl
  refine ZO.iload_n (pc := 11) 3 d_M_tellsTo_11 rfl rfl ?_
  refine ZO.if_lt (pc := 12) 40 d_M_tellsTo_12 (by decide) rfl (fun h5 => ?_) (fun h5 => ?_)
  · refine ZO.aload_n (pc := 40) 0 d_M_tellsTo_40 rfl rfl ?_
    refine ZO.iconst (pc := 41) (0 : Int32) d_M_tellsTo_41 (by decide) ?_
    refine ZO.putI (pc := 42) d_M_tellsTo_42 zo_0 zp_M_11 rfl ?_
    refine ZO.ltS (fun s6 => ?_)
    refine ZO.iconst (pc := 45) (0 : Int32) d_M_tellsTo_45 (by decide) ?_
    refine ZO.istore_n (pc := 46) (v := (0 : Int32)) (L' := [(0, .ref 0), (1, .int a0), (2, .int x3.1), (3, .int (0 : Int32))]) [1, 2, 3, 0] d_M_tellsTo_46 rfl (by decide) rfl ?_
    refine ZO.rjn (pcJ := 79) (LJ := fun (x7 : ZSt) => ([(0, .ref 0), (1, .int a0)] : List (Nat × Value))) (SJ := fun (x7 : ZSt) => ([] : List Value)) (σJ := fun (x7 : ZSt) => x7) (fun x7 => ?_) (fun j8 hj8 => ?_)
    · refine ZO.aload_n (pc := 79) 0 d_M_tellsTo_79 rfl rfl ?_
      refine ZO.getA (pc := 80) 144 d_M_tellsTo_80 zo_0 zf_M_404 rfl rfl ?_
      refine ZO.iload_n (pc := 83) 1 d_M_tellsTo_83 rfl rfl ?_
      refine ZO.iald (pc := 84) d_M_tellsTo_84 za_144 h1 ?_
      exact ZO.iret (pc := 85)  d_M_tellsTo_85 rfl rfl rfl
    · refine ZO.sub (L' := [(0, .ref 0), (1, .int a0), (3, .int (0 : Int32))]) [0, 1, 3] rfl ?_
      refine ZO.loop (fun (x9 : Int32 × ZSt) => ([(0, .ref 0), (1, .int a0), (3, .int x9.1)] : List (Nat × Value))) (fun (x9 : Int32 × ZSt) => x9.2) [] (fun j10 x9 hj10 => ?_) rfl rfl rfl
      refine ZO.iload_n (pc := 47) 2 d_M_tellsTo_47 rfl rfl ?_
      refine ZO.aload_n (pc := 48) 0 d_M_tellsTo_48 rfl rfl ?_
      refine ZO.getA (pc := 49) 144 d_M_tellsTo_49 zo_0 zf_M_404 rfl rfl ?_
      refine ZO.iload_n (pc := 52) 1 d_M_tellsTo_52 rfl rfl ?_
      refine ZO.iald (pc := 53) d_M_tellsTo_53 za_144 h1 ?_
      refine ZO.icmp_ge (pc := 54) 79 d_M_tellsTo_54 (by decide) rfl (fun h11 => ?_) (fun h11 => ?_)
      · exact ZO.sub [0, 1] rfl (hj8 x9.2)
      · refine ZO.iload_n (pc := 57) 2 d_M_tellsTo_57 rfl rfl ?_
        refine ZO.bipush (pc := 58) (10 : Int32) d_M_tellsTo_58 (by decide) ?_
        refine ZO.icmp_ge (pc := 60) 79 d_M_tellsTo_60 (by decide) rfl (fun h12 => ?_) (fun h12 => ?_)
        · exact ZO.sub [0, 1] rfl (hj8 x9.2)
        · refine ZO.aload_n (pc := 63) 0 d_M_tellsTo_63 rfl rfl ?_
          refine ZO.aload_n (pc := 64) 0 d_M_tellsTo_64 rfl rfl ?_
          refine ZO.getA (pc := 65) 141 d_M_tellsTo_65 zo_0 zf_M_370 rfl rfl ?_
          refine ZO.iload_n (pc := 68) 2 d_M_tellsTo_68 rfl rfl ?_
          refine ZO.rgd (fun h13 => ?_)
          refine ZO.iald (pc := 69) d_M_tellsTo_69 za_141 h13 ?_
          refine ZO.cVV (pc := 70) (As := [.int (ai x9.2 141 x9.1)]) (rest := []) d_M_tellsTo_70 zc_M_236 (by decide) zo_0 rfl rfl rfl (Nat.le_of_ble_eq_true rfl) (ok_M_enters g (ai x9.2 141 x9.1) x9.2) (fun p14 ep14 => ?_)
          refine ZO.iincL (pc := 73) (i := 2) (x9.1 + (1 : Int32)) (L' := fun v15 => [(0, .ref 0), (1, .int a0), (3, .int v15)]) [1, 2, 0] d_M_tellsTo_73 rfl (by rfl) (by decide) (fun _ => rfl) (fun v15 => ?_)
          refine ZO.goto (pc := 76) 47 d_M_tellsTo_76 (by decide) ?_
          exact hj10 (v15, p14)
  · refine ZO.aload_n (pc := 15) 0 d_M_tellsTo_15 rfl rfl ?_
    refine ZO.getA (pc := 16) 141 d_M_tellsTo_16 zo_0 zf_M_370 rfl rfl ?_
    refine ZO.iload_n (pc := 19) 3 d_M_tellsTo_19 rfl rfl ?_
    refine ZO.aload_n (pc := 20) 0 d_M_tellsTo_20 rfl rfl ?_
    refine ZO.getA (pc := 21) 146 d_M_tellsTo_21 zo_0 zf_M_410 rfl rfl ?_
    refine ZO.iload_n (pc := 24) 2 d_M_tellsTo_24 rfl rfl ?_
    refine ZO.rgd (fun h16 => ?_)
    refine ZO.iald (pc := 25) d_M_tellsTo_25 za_146 h16 ?_
    refine ZO.rgd (fun h17 => ?_)
    refine ZO.iast (pc := 26) d_M_tellsTo_26 za_141 h17 ?_
    refine ZO.ltS (fun s18 => ?_)
    refine ZO.aload_n (pc := 27) 0 d_M_tellsTo_27 rfl rfl ?_
    refine ZO.getA (pc := 28) 145 d_M_tellsTo_28 zo_0 zf_M_407 rfl rfl ?_
    refine ZO.iload_n (pc := 31) 2 d_M_tellsTo_31 rfl rfl ?_
    refine ZO.iald (pc := 32) d_M_tellsTo_32 za_145 h16 ?_
    refine ZO.ltI (fun v19 => ?_)
    refine ZO.istore_n (pc := 33) (v := v19) (L' := [(0, .ref 0), (1, .int a0), (2, .int v19), (3, .int x3.2.1)]) [1, 2, 0, 3] d_M_tellsTo_33 rfl (by decide) rfl ?_
    refine ZO.iincL (pc := 34) (i := 3) (x3.2.1 + (-1 : Int32)) (L' := fun v20 => [(0, .ref 0), (1, .int a0), (2, .int v19), (3, .int v20)]) [1, 2, 3, 0] d_M_tellsTo_34 rfl (by rfl) (by decide) (fun _ => rfl) (fun v20 => ?_)
    refine ZO.goto (pc := 37) 11 d_M_tellsTo_37 (by decide) ?_
    exact hj4 (v19, v20, s18)
def f_M_soonest (n : Nat) (a0 : Int32) (s : ZSt) : Option (Int32 × ZSt) :=
  lt (si s 0 0 (0 : Int32)) (fun s1 =>
  (if (f_M_isBook a0 s1) = true then
  bn (f_M_stateNow s1) (fun p3 =>
    bn (f_M_explores n p3 s1) (fun p4 =>
    (if p4.1 = true then
    lpN (fun j7 (x6 : Int32) =>
      (if (gi p4.2 0 49) ≤ x6 then
        some ((-2 : Int32), p4.2)
      else gd (inb x6 5000) (
          (if (f_M_has (f_M_everyOf (al p4.2 143 x6)) a0) = true then
          bn (f_M_tellsTo n x6 p4.2) (fun p11 =>
            some (p11.1, p11.2))
        else lt (x6 + (1 : Int32)) (fun v12 =>
            j7 v12))))) n (0 : Int32)
  else some ((-3 : Int32), p4.2))))
else some ((-1 : Int32), s1)))
set_option maxHeartbeats 4000000 in
set_option maxRecDepth 20000 in
theorem ok_M_soonest (g : ZG) (n : Nat) (a0 : Int32) (s : ZSt) : ZF g 9 y_M_soonest [.ref 0, .int a0] s (f_M_soonest n a0 s) (fun b => some (.int b.1)) (fun b => b.2) := by
  refine ZF.of (by decide +kernel) (Nat.le_of_ble_eq_true rfl) ?_
  unfold f_M_soonest
  show ZO g 9 y_M_soonest zu0 0 [(0, .ref 0), (1, .int a0)] [] s _ _
  refine ZO.aload_n (pc := 0) 0 d_M_soonest_0 rfl rfl ?_
  refine ZO.iconst (pc := 1) (0 : Int32) d_M_soonest_1 (by decide) ?_
  refine ZO.putI (pc := 2) d_M_soonest_2 zo_0 zp_M_3 rfl ?_
  refine ZO.ltS (fun s1 => ?_)
  refine ZO.aload_n (pc := 5) 0 d_M_soonest_5 rfl rfl ?_
  refine ZO.iload_n (pc := 6) 1 d_M_soonest_6 rfl rfl ?_
  refine ZO.tVB (pc := 7) (As := [.int a0]) (rest := []) d_M_soonest_7 zc_M_189 (by decide) zo_0 rfl rfl rfl (Nat.le_of_ble_eq_true rfl) (ok_M_isBook g a0 s1) ?_
  refine ZO.ifb_ne (pc := 10) 15 d_M_soonest_10 (by decide) rfl (fun h2 => ?_) (fun h2 => ?_)
  · refine ZO.aload_n (pc := 15) 0 d_M_soonest_15 rfl rfl ?_
    refine ZO.aload_n (pc := 16) 0 d_M_soonest_16 rfl rfl ?_
    refine ZO.cVJ (pc := 17) (As := []) (rest := [.ref 0]) d_M_soonest_17 zc_M_421 (by decide) zo_0 rfl rfl rfl (Nat.le_of_ble_eq_true rfl) (ok_M_stateNow g s1) (fun p3 ep3 => ?_)
    refine ZO.cVB (pc := 20) (As := [.long p3]) (rest := []) d_M_soonest_20 zc_M_431 (by decide) zo_0 rfl rfl rfl (Nat.le_of_ble_eq_true rfl) (ok_M_explores g n p3 s1) (fun p4 ep4 => ?_)
    refine ZO.ifb_ne (pc := 23) 29 d_M_soonest_23 (by decide) rfl (fun h5 => ?_) (fun h5 => ?_)
    · refine ZO.iconst (pc := 29) (0 : Int32) d_M_soonest_29 (by decide) ?_
      refine ZO.istore_n (pc := 30) (v := (0 : Int32)) (L' := [(0, .ref 0), (1, .int a0), (2, .int (0 : Int32))]) [1, 2, 0] d_M_soonest_30 rfl (by decide) rfl ?_
      refine ZO.loop (fun (x6 : Int32) => ([(0, .ref 0), (1, .int a0), (2, .int x6)] : List (Nat × Value))) (fun (x6 : Int32) => p4.2) [] (fun j7 x6 hj7 => ?_) rfl rfl rfl
      refine ZO.iload_n (pc := 31) 2 d_M_soonest_31 rfl rfl ?_
      refine ZO.aload_n (pc := 32) 0 d_M_soonest_32 rfl rfl ?_
      refine ZO.getI (pc := 33) d_M_soonest_33 zo_0 zf_M_401 rfl ?_
      refine ZO.icmp_ge (pc := 36) 67 d_M_soonest_36 (by decide) rfl (fun h8 => ?_) (fun h8 => ?_)
      · refine ZO.bipush (pc := 67) (-2 : Int32) d_M_soonest_67 (by decide) ?_
        exact ZO.iret (pc := 69)  d_M_soonest_69 rfl rfl rfl
      · refine ZO.aload_n (pc := 39) 0 d_M_soonest_39 rfl rfl ?_
        refine ZO.getA (pc := 40) 143 d_M_soonest_40 zo_0 zf_M_393 rfl rfl ?_
        refine ZO.iload_n (pc := 43) 2 d_M_soonest_43 rfl rfl ?_
        refine ZO.rgd (fun h9 => ?_)
        refine ZO.lald (pc := 44) d_M_soonest_44 za_143 h9 ?_
        refine ZO.tSI (pc := 45) (As := [.long (al p4.2 143 x6)]) (rest := []) d_M_soonest_45 zc_M_428 (by decide) rfl rfl (Nat.le_of_ble_eq_true rfl) (ok_M_everyOf g (al p4.2 143 x6) p4.2) ?_
        refine ZO.iload_n (pc := 48) 1 d_M_soonest_48 rfl rfl ?_
        refine ZO.tSB (pc := 49) (As := [.int (f_M_everyOf (al p4.2 143 x6)), .int a0]) (rest := []) d_M_soonest_49 zc_M_29 (by decide) rfl rfl (Nat.le_of_ble_eq_true rfl) (ok_M_has g (f_M_everyOf (al p4.2 143 x6)) a0 p4.2) ?_
        refine ZO.ifb_eq (pc := 52) 61 d_M_soonest_52 (by decide) rfl (fun h10 => ?_) (fun h10 => ?_)
        · refine ZO.aload_n (pc := 55) 0 d_M_soonest_55 rfl rfl ?_
          refine ZO.iload_n (pc := 56) 2 d_M_soonest_56 rfl rfl ?_
          refine ZO.cVI (pc := 57) (As := [.int x6]) (rest := []) d_M_soonest_57 zc_M_438 (by decide) zo_0 rfl rfl rfl (Nat.le_of_ble_eq_true rfl) (ok_M_tellsTo g n x6 p4.2) (fun p11 ep11 => ?_)
          exact ZO.iret (pc := 60)  d_M_soonest_60 rfl rfl rfl
        · refine ZO.iincL (pc := 61) (i := 2) (x6 + (1 : Int32)) (L' := fun v12 => [(0, .ref 0), (1, .int a0), (2, .int v12)]) [1, 2, 0] d_M_soonest_61 rfl (by rfl) (by decide) (fun _ => rfl) (fun v12 => ?_)
          refine ZO.goto (pc := 64) 31 d_M_soonest_64 (by decide) ?_
          exact hj7 v12
    · refine ZO.bipush (pc := 26) (-3 : Int32) d_M_soonest_26 (by decide) ?_
      exact ZO.iret (pc := 28)  d_M_soonest_28 rfl rfl rfl
  · refine ZO.iconst (pc := 13) (-1 : Int32) d_M_soonest_13 (by decide) ?_
    exact ZO.iret (pc := 14)  d_M_soonest_14 rfl rfl rfl
def f_M_till (n : Nat) (a0 : Int32) (a1 : Int32) (a2 : Int32) (s : ZSt) : Option (Int32 × ZSt) :=
  lt (si s 0 0 (0 : Int32)) (fun s1 =>
  (if (f_M_areBooks a0 s1) = true then
  (if (f_M_areBooks a1 s1) = true then
    (if (f_M_areBooks a2 s1) = true then
      (if (a0 &&& a1) = 0 then
        (if ((a0 ||| a1) &&& a2) = 0 then
          bn (f_M_stateNow s1) (fun p7 =>
            bn (f_M_explores n p7 s1) (fun p8 =>
            (if p8.1 = true then
            bn (f_M_slotOf n ((a0.toInt64 ||| (shL a1.toInt64 (12 : Int32))) ||| (shL a2.toInt64 (24 : Int32))) p8.2) (fun p10 =>
              gd (inb p10 16384) (
              lt (ai p8.2 148 p10) (fun v12 =>
              (if 0 ≤ v12 then
              bn (f_M_tellsTo n v12 p8.2) (fun p14 =>
                some (p14.1, p14.2))
            else some ((-2 : Int32), p8.2)))))
          else some ((-3 : Int32), p8.2))))
        else some ((-1 : Int32), s1))
      else some ((-1 : Int32), s1))
    else some ((-1 : Int32), s1))
  else some ((-1 : Int32), s1))
else some ((-1 : Int32), s1)))
set_option maxHeartbeats 4000000 in
set_option maxRecDepth 20000 in
theorem ok_M_till (g : ZG) (n : Nat) (a0 : Int32) (a1 : Int32) (a2 : Int32) (s : ZSt) : ZF g 9 y_M_till [.ref 0, .int a0, .int a1, .int a2] s (f_M_till n a0 a1 a2 s) (fun b => some (.int b.1)) (fun b => b.2) := by
  refine ZF.of (by decide +kernel) (Nat.le_of_ble_eq_true rfl) ?_
  unfold f_M_till
  show ZO g 9 y_M_till zu0 0 [(0, .ref 0), (1, .int a0), (2, .int a1), (3, .int a2)] [] s _ _
  refine ZO.aload_n (pc := 0) 0 d_M_till_0 rfl rfl ?_
  refine ZO.iconst (pc := 1) (0 : Int32) d_M_till_1 (by decide) ?_
  refine ZO.putI (pc := 2) d_M_till_2 zo_0 zp_M_3 rfl ?_
  refine ZO.ltS (fun s1 => ?_)
  refine ZO.aload_n (pc := 5) 0 d_M_till_5 rfl rfl ?_
  refine ZO.iload_n (pc := 6) 1 d_M_till_6 rfl rfl ?_
  refine ZO.tVB (pc := 7) (As := [.int a0]) (rest := []) d_M_till_7 zc_M_239 (by decide) zo_0 rfl rfl rfl (Nat.le_of_ble_eq_true rfl) (ok_M_areBooks g a0 s1) ?_
  refine ZO.ifb_eq (pc := 10) 43 d_M_till_10 (by decide) rfl (fun h2 => ?_) (fun h2 => ?_)
  · refine ZO.aload_n (pc := 13) 0 d_M_till_13 rfl rfl ?_
    refine ZO.iload_n (pc := 14) 2 d_M_till_14 rfl rfl ?_
    refine ZO.tVB (pc := 15) (As := [.int a1]) (rest := []) d_M_till_15 zc_M_239 (by decide) zo_0 rfl rfl rfl (Nat.le_of_ble_eq_true rfl) (ok_M_areBooks g a1 s1) ?_
    refine ZO.ifb_eq (pc := 18) 43 d_M_till_18 (by decide) rfl (fun h3 => ?_) (fun h3 => ?_)
    · refine ZO.aload_n (pc := 21) 0 d_M_till_21 rfl rfl ?_
      refine ZO.iload_n (pc := 22) 3 d_M_till_22 rfl rfl ?_
      refine ZO.tVB (pc := 23) (As := [.int a2]) (rest := []) d_M_till_23 zc_M_239 (by decide) zo_0 rfl rfl rfl (Nat.le_of_ble_eq_true rfl) (ok_M_areBooks g a2 s1) ?_
      refine ZO.ifb_eq (pc := 26) 43 d_M_till_26 (by decide) rfl (fun h4 => ?_) (fun h4 => ?_)
      · refine ZO.iload_n (pc := 29) 1 d_M_till_29 rfl rfl ?_
        refine ZO.iload_n (pc := 30) 2 d_M_till_30 rfl rfl ?_
        refine ZO.iand (pc := 31) d_M_till_31 ?_
        refine ZO.if_ne (pc := 32) 43 d_M_till_32 (by decide) rfl (fun h5 => ?_) (fun h5 => ?_)
        · refine ZO.iload_n (pc := 35) 1 d_M_till_35 rfl rfl ?_
          refine ZO.iload_n (pc := 36) 2 d_M_till_36 rfl rfl ?_
          refine ZO.ior (pc := 37) d_M_till_37 ?_
          refine ZO.iload_n (pc := 38) 3 d_M_till_38 rfl rfl ?_
          refine ZO.iand (pc := 39) d_M_till_39 ?_
          refine ZO.if_eq (pc := 40) 45 d_M_till_40 (by decide) rfl (fun h6 => ?_) (fun h6 => ?_)
          · refine ZO.aload_n (pc := 45) 0 d_M_till_45 rfl rfl ?_
            refine ZO.aload_n (pc := 46) 0 d_M_till_46 rfl rfl ?_
            refine ZO.cVJ (pc := 47) (As := []) (rest := [.ref 0]) d_M_till_47 zc_M_421 (by decide) zo_0 rfl rfl rfl (Nat.le_of_ble_eq_true rfl) (ok_M_stateNow g s1) (fun p7 ep7 => ?_)
            refine ZO.cVB (pc := 50) (As := [.long p7]) (rest := []) d_M_till_50 zc_M_431 (by decide) zo_0 rfl rfl rfl (Nat.le_of_ble_eq_true rfl) (ok_M_explores g n p7 s1) (fun p8 ep8 => ?_)
            refine ZO.ifb_ne (pc := 53) 59 d_M_till_53 (by decide) rfl (fun h9 => ?_) (fun h9 => ?_)
            · refine ZO.aload_n (pc := 59) 0 d_M_till_59 rfl rfl ?_
              refine ZO.getA (pc := 60) 148 d_M_till_60 zo_0 zf_M_390 rfl rfl ?_
              refine ZO.aload_n (pc := 63) 0 d_M_till_63 rfl rfl ?_
              refine ZO.iload_n (pc := 64) 1 d_M_till_64 rfl rfl ?_
              refine ZO.i2l (pc := 65) d_M_till_65 ?_
              refine ZO.iload_n (pc := 66) 2 d_M_till_66 rfl rfl ?_
              refine ZO.i2l (pc := 67) d_M_till_67 ?_
              refine ZO.bipush (pc := 68) (12 : Int32) d_M_till_68 (by decide) ?_
              refine ZO.lshl (pc := 70) d_M_till_70 ?_
              refine ZO.lor (pc := 71) d_M_till_71 ?_
              refine ZO.iload_n (pc := 72) 3 d_M_till_72 rfl rfl ?_
              refine ZO.i2l (pc := 73) d_M_till_73 ?_
              refine ZO.bipush (pc := 74) (24 : Int32) d_M_till_74 (by decide) ?_
              refine ZO.lshl (pc := 76) d_M_till_76 ?_
              refine ZO.lor (pc := 77) d_M_till_77 ?_
              refine ZO.cVI (pc := 78) (As := [.long ((a0.toInt64 ||| (shL a1.toInt64 (12 : Int32))) ||| (shL a2.toInt64 (24 : Int32)))]) (rest := [.ref 148]) d_M_till_78 zc_M_397 (by decide) zo_0 rfl rfl rfl (Nat.le_of_ble_eq_true rfl) (ok_M_slotOf g n ((a0.toInt64 ||| (shL a1.toInt64 (12 : Int32))) ||| (shL a2.toInt64 (24 : Int32))) p8.2) (fun p10 ep10 => ?_)
              refine ZO.rgd (fun h11 => ?_)
              refine ZO.iald (pc := 81) d_M_till_81 za_148 h11 ?_
              refine ZO.ltI (fun v12 => ?_)
              refine ZO.istore (pc := 82) (v := v12) (L' := [(0, .ref 0), (1, .int a0), (2, .int a1), (3, .int a2), (4, .int v12)]) [1, 2, 3, 4, 0] d_M_till_82 (by decide) rfl ?_
              refine ZO.iload (pc := 84) 4 d_M_till_84 rfl ?_
              refine ZO.if_ge (pc := 86) 94 d_M_till_86 (by decide) rfl (fun h13 => ?_) (fun h13 => ?_)
              · refine ZO.aload_n (pc := 94) 0 d_M_till_94 rfl rfl ?_
                refine ZO.iload (pc := 95) 4 d_M_till_95 rfl ?_
                refine ZO.cVI (pc := 97) (As := [.int v12]) (rest := []) d_M_till_97 zc_M_438 (by decide) zo_0 rfl rfl rfl (Nat.le_of_ble_eq_true rfl) (ok_M_tellsTo g n v12 p8.2) (fun p14 ep14 => ?_)
                exact ZO.iret (pc := 100)  d_M_till_100 rfl rfl rfl
              · refine ZO.bipush (pc := 89) (-2 : Int32) d_M_till_89 (by decide) ?_
                refine ZO.goto (pc := 91) 100 d_M_till_91 (by decide) ?_
                exact ZO.iret (pc := 100)  d_M_till_100 rfl rfl rfl
            · refine ZO.bipush (pc := 56) (-3 : Int32) d_M_till_56 (by decide) ?_
              exact ZO.iret (pc := 58)  d_M_till_58 rfl rfl rfl
          · refine ZO.iconst (pc := 43) (-1 : Int32) d_M_till_43 (by decide) ?_
            exact ZO.iret (pc := 44)  d_M_till_44 rfl rfl rfl
        · refine ZO.iconst (pc := 43) (-1 : Int32) d_M_till_43 (by decide) ?_
          exact ZO.iret (pc := 44)  d_M_till_44 rfl rfl rfl
      · refine ZO.iconst (pc := 43) (-1 : Int32) d_M_till_43 (by decide) ?_
        exact ZO.iret (pc := 44)  d_M_till_44 rfl rfl rfl
    · refine ZO.iconst (pc := 43) (-1 : Int32) d_M_till_43 (by decide) ?_
      exact ZO.iret (pc := 44)  d_M_till_44 rfl rfl rfl
  · refine ZO.iconst (pc := 43) (-1 : Int32) d_M_till_43 (by decide) ?_
    exact ZO.iret (pc := 44)  d_M_till_44 rfl rfl rfl
def f_M_lost (n : Nat) (s : ZSt) : Option (Int32 × ZSt) :=
  lt (si s 0 0 (0 : Int32)) (fun s1 =>
  bn (f_M_stateNow s1) (fun p2 =>
  lpN (fun j4 (x3 : Int32 × Int32 × ZSt) =>
  (if (gi x3.2.2 0 3) ≤ x3.2.1 then
    some (x3.1, x3.2.2)
  else bn (f_M_tableOf n x3.2.1 x3.2.2) (fun p6 =>
      (jn (fun (x7 : Int32 × ZSt) =>
        lt (x3.2.1 + (1 : Int32)) (fun v8 =>
          j4 (x7.1, v8, x7.2))) (fun j9 =>
        if 0 ≤ p6 then
      bn (f_M_shut n x3.2.1 x3.2.2) (fun p11 =>
        bn (f_M_stateNow p11.2) (fun p12 =>
        bn (f_M_stands n p2 p11.2) (fun p13 =>
        bn (f_M_explores n p12 p13) (fun p14 =>
        (if p14.1 = true then
        bn (f_M_stands n p2 p14.2) (fun p16 =>
          bn (f_M_everFound n p16) (fun p17 =>
          (lt ((if (f_M_has p17 x3.2.1) = true then
          (0 : Int32)
        else (shI (1 : Int32) x3.2.1)) : Int32) (fun x18 =>
            lt (x3.1 ||| x18) (fun v19 =>
              j9 (v19, p16))))))
      else bn (f_M_stands n p2 p14.2) (fun p22 =>
          some ((-3 : Int32), p22)))))))
    else j9 (x3.1, x3.2.2)))))) n ((0 : Int32), (0 : Int32), s1)))
set_option maxHeartbeats 4000000 in
set_option maxRecDepth 20000 in
theorem ok_M_lost (g : ZG) (n : Nat) (s : ZSt) : ZF g 9 y_M_lost [.ref 0] s (f_M_lost n s) (fun b => some (.int b.1)) (fun b => b.2) := by
  refine ZF.of (by decide +kernel) (Nat.le_of_ble_eq_true rfl) ?_
  unfold f_M_lost
  show ZO g 9 y_M_lost zu0 0 [(0, .ref 0)] [] s _ _
  refine ZO.aload_n (pc := 0) 0 d_M_lost_0 rfl rfl ?_
  refine ZO.iconst (pc := 1) (0 : Int32) d_M_lost_1 (by decide) ?_
  refine ZO.putI (pc := 2) d_M_lost_2 zo_0 zp_M_3 rfl ?_
  refine ZO.ltS (fun s1 => ?_)
  refine ZO.iconst (pc := 5) (0 : Int32) d_M_lost_5 (by decide) ?_
  refine ZO.istore_n (pc := 6) (v := (0 : Int32)) (L' := [(0, .ref 0), (1, .int (0 : Int32))]) [1, 0] d_M_lost_6 rfl (by decide) rfl ?_
  refine ZO.aload_n (pc := 7) 0 d_M_lost_7 rfl rfl ?_
  refine ZO.cVJ (pc := 8) (As := []) (rest := []) d_M_lost_8 zc_M_421 (by decide) zo_0 rfl rfl rfl (Nat.le_of_ble_eq_true rfl) (ok_M_stateNow g s1) (fun p2 ep2 => ?_)
  refine ZO.lstore_n (pc := 11) (v := p2) (L' := [(0, .ref 0), (1, .int (0 : Int32)), (2, .long p2)]) [1, 2, 0] d_M_lost_11 rfl (by decide) rfl ?_
  refine ZO.iconst (pc := 12) (0 : Int32) d_M_lost_12 (by decide) ?_
  refine ZO.istore (pc := 13) (v := (0 : Int32)) (L' := [(0, .ref 0), (1, .int (0 : Int32)), (2, .long p2), (4, .int (0 : Int32))]) [1, 2, 3, 0] d_M_lost_13 (by decide) rfl ?_
  refine ZO.loop (fun (x3 : Int32 × Int32 × ZSt) => ([(0, .ref 0), (1, .int x3.1), (2, .long p2), (4, .int x3.2.1)] : List (Nat × Value))) (fun (x3 : Int32 × Int32 × ZSt) => x3.2.2) [] (fun j4 x3 hj4 => ?_) rfl rfl rfl
  refine ZO.iload (pc := 15) 3 d_M_lost_15 rfl ?_
  refine ZO.aload_n (pc := 17) 0 d_M_lost_17 rfl rfl ?_
  refine ZO.getI (pc := 18) d_M_lost_18 zo_0 zf_M_14 rfl ?_
  refine ZO.icmp_ge (pc := 21) 109 d_M_lost_21 (by decide) rfl (fun h5 => ?_) (fun h5 => ?_)
  · refine ZO.iload_n (pc := 109) 1 d_M_lost_109 rfl rfl ?_
    exact ZO.iret (pc := 110)  d_M_lost_110 rfl rfl rfl
  · refine ZO.aload_n (pc := 24) 0 d_M_lost_24 rfl rfl ?_
    refine ZO.iload (pc := 25) 3 d_M_lost_25 rfl ?_
    refine ZO.cVI (pc := 27) (As := [.int x3.2.1]) (rest := []) d_M_lost_27 zc_M_183 (by decide) zo_0 rfl rfl rfl (Nat.le_of_ble_eq_true rfl) (ok_M_tableOf g n x3.2.1 x3.2.2) (fun p6 ep6 => ?_)
    refine ZO.istore (pc := 30) (v := p6) (L' := [(0, .ref 0), (1, .int x3.1), (2, .long p2), (4, .int x3.2.1), (5, .int p6)]) [1, 2, 3, 4, 0] d_M_lost_30 (by decide) rfl ?_
    refine ZO.iload (pc := 32) 4 d_M_lost_32 rfl ?_
    refine ZO.rjn (pcJ := 103) (LJ := fun (x7 : Int32 × ZSt) => ([(0, .ref 0), (1, .int x7.1), (2, .long p2), (4, .int x3.2.1)] : List (Nat × Value))) (SJ := fun (x7 : Int32 × ZSt) => ([] : List Value)) (σJ := fun (x7 : Int32 × ZSt) => x7.2) (fun x7 => ?_) (fun j9 hj9 => ?_)
    · refine ZO.iincL (pc := 103) (i := 3) (x3.2.1 + (1 : Int32)) (L' := fun v8 => [(0, .ref 0), (1, .int x7.1), (2, .long p2), (4, .int v8)]) [1, 2, 3, 0] d_M_lost_103 rfl (by rfl) (by decide) (fun _ => rfl) (fun v8 => ?_)
      refine ZO.goto (pc := 106) 15 d_M_lost_106 (by decide) ?_
      exact hj4 (x7.1, v8, x7.2)
    · refine ZO.if_ge (pc := 34) 40 d_M_lost_34 (by decide) rfl (fun h10 => ?_) (fun h10 => ?_)
      · refine ZO.aload_n (pc := 40) 0 d_M_lost_40 rfl rfl ?_
        refine ZO.iload (pc := 41) 3 d_M_lost_41 rfl ?_
        refine ZO.cVI (pc := 43) (As := [.int x3.2.1]) (rest := []) d_M_lost_43 zc_M_220 (by decide) zo_0 rfl rfl rfl (Nat.le_of_ble_eq_true rfl) (ok_M_shut g n x3.2.1 x3.2.2) (fun p11 ep11 => ?_)
        refine ZO.pop (pc := 46) d_M_lost_46 rfl ?_
        refine ZO.aload_n (pc := 47) 0 d_M_lost_47 rfl rfl ?_
        refine ZO.cVJ (pc := 48) (As := []) (rest := []) d_M_lost_48 zc_M_421 (by decide) zo_0 rfl rfl rfl (Nat.le_of_ble_eq_true rfl) (ok_M_stateNow g p11.2) (fun p12 ep12 => ?_)
        refine ZO.lstore (pc := 51) (v := p12) (L' := [(0, .ref 0), (1, .int x3.1), (2, .long p2), (4, .int x3.2.1), (5, .int p6), (6, .long p12)]) [1, 2, 3, 4, 5, 0] d_M_lost_51 (by decide) rfl ?_
        refine ZO.aload_n (pc := 53) 0 d_M_lost_53 rfl rfl ?_
        refine ZO.lload_n (pc := 54) 2 d_M_lost_54 rfl rfl ?_
        refine ZO.cVV (pc := 55) (As := [.long p2]) (rest := []) d_M_lost_55 zc_M_417 (by decide) zo_0 rfl rfl rfl (Nat.le_of_ble_eq_true rfl) (ok_M_stands g n p2 p11.2) (fun p13 ep13 => ?_)
        refine ZO.aload_n (pc := 58) 0 d_M_lost_58 rfl rfl ?_
        refine ZO.lload (pc := 59) 5 d_M_lost_59 rfl ?_
        refine ZO.cVB (pc := 61) (As := [.long p12]) (rest := []) d_M_lost_61 zc_M_431 (by decide) zo_0 rfl rfl rfl (Nat.le_of_ble_eq_true rfl) (ok_M_explores g n p12 p13) (fun p14 ep14 => ?_)
        refine ZO.ifb_ne (pc := 64) 75 d_M_lost_64 (by decide) rfl (fun h15 => ?_) (fun h15 => ?_)
        · refine ZO.aload_n (pc := 75) 0 d_M_lost_75 rfl rfl ?_
          refine ZO.lload_n (pc := 76) 2 d_M_lost_76 rfl rfl ?_
          refine ZO.cVV (pc := 77) (As := [.long p2]) (rest := []) d_M_lost_77 zc_M_417 (by decide) zo_0 rfl rfl rfl (Nat.le_of_ble_eq_true rfl) (ok_M_stands g n p2 p14.2) (fun p16 ep16 => ?_)
          refine ZO.iload_n (pc := 80) 1 d_M_lost_80 rfl rfl ?_
          refine ZO.aload_n (pc := 81) 0 d_M_lost_81 rfl rfl ?_
          refine ZO.cVI (pc := 82) (As := []) (rest := [.int x3.1]) d_M_lost_82 zc_M_435 (by decide) zo_0 rfl rfl rfl (Nat.le_of_ble_eq_true rfl) (ok_M_everFound g n p16) (fun p17 ep17 => ?_)
          refine ZO.iload (pc := 85) 3 d_M_lost_85 rfl ?_
          refine ZO.tSB (pc := 87) (As := [.int p17, .int x3.2.1]) (rest := [.int x3.1]) d_M_lost_87 zc_M_29 (by decide) rfl rfl (Nat.le_of_ble_eq_true rfl) (ok_M_has g p17 x3.2.1 p16) ?_
          refine ZO.phi (pcJ := 101) (LJ := fun (x18 : Int32) => ([(0, .ref 0), (2, .long p2), (4, .int x3.2.1)] : List (Nat × Value))) (SJ := fun (x18 : Int32) => ([.int x18, .int x3.1] : List Value)) (fun x18 => ?_) (fun t hj20 => ?_)
          · refine ZO.ior (pc := 101) d_M_lost_101 ?_
            refine ZO.ltI (fun v19 => ?_)
            refine ZO.istore_n (pc := 102) (v := v19) (L' := [(0, .ref 0), (1, .int v19), (2, .long p2), (4, .int x3.2.1)]) [1, 0, 2, 3] d_M_lost_102 rfl (by decide) rfl ?_
            exact hj9 (v19, p16)
          · refine ZO.ifb_eq (pc := 90) 97 d_M_lost_90 (by decide) z_ite (fun h21 => ?_) (fun h21 => ?_)
            · refine ZO.iconst (pc := 93) (0 : Int32) d_M_lost_93 (by decide) ?_
              refine ZO.goto (pc := 94) 101 d_M_lost_94 (by decide) ?_
              exact ZO.sub [0, 2, 3] rfl (hj20 (0 : Int32) (by rw [if_pos h21]))
            · refine ZO.iconst (pc := 97) (1 : Int32) d_M_lost_97 (by decide) ?_
              refine ZO.iload (pc := 98) 3 d_M_lost_98 rfl ?_
              refine ZO.ishl (pc := 100) d_M_lost_100 ?_
              exact ZO.sub [0, 2, 3] rfl (hj20 (shI (1 : Int32) x3.2.1) (by rw [if_neg (z_bf h21)]))
        · refine ZO.aload_n (pc := 67) 0 d_M_lost_67 rfl rfl ?_
          refine ZO.lload_n (pc := 68) 2 d_M_lost_68 rfl rfl ?_
          refine ZO.cVV (pc := 69) (As := [.long p2]) (rest := []) d_M_lost_69 zc_M_417 (by decide) zo_0 rfl rfl rfl (Nat.le_of_ble_eq_true rfl) (ok_M_stands g n p2 p14.2) (fun p22 ep22 => ?_)
          refine ZO.bipush (pc := 72) (-3 : Int32) d_M_lost_72 (by decide) ?_
          exact ZO.iret (pc := 74)  d_M_lost_74 rfl rfl rfl
      · refine ZO.goto (pc := 37) 103 d_M_lost_37 (by decide) ?_
        exact ZO.sub [0, 1, 2, 3] rfl (hj9 (x3.1, x3.2.2))
def f_M_free (n : Nat) (s : ZSt) : Option (Int32 × ZSt) :=
  lt (si s 0 0 (0 : Int32)) (fun s1 =>
  bn (f_M_stateNow s1) (fun p2 =>
  bn (f_M_explores n p2 s1) (fun p3 =>
  (if p3.1 = true then
  lpN (fun j6 (x5 : Int32 × ZSt) =>
    (if (gi x5.2 0 49) ≤ x5.1 then
      lpN (fun j9 (x8 : Int32 × ZSt) =>
        (if x8.1 = 0 then
          bn (f_M_everFound n x8.2) (fun p11 =>
            lt (si x8.2 0 1 (0 : Int32)) (fun s12 =>
            lpN (fun j14 (x13 : Int32) =>
            (if (gi s12 0 49) ≤ x13 then
              some ((1 : Int32), s12)
            else gd (inb x13 5000) (
                (if (ai s12 150 x13) = p11 then
                lt (x13 + (1 : Int32)) (fun v18 =>
                  j14 v18)
              else bn (f_M_enters (ai s12 144 x13) s12) (fun p19 =>
                  bn (f_M_enters (p11 &&& ((ai p19 150 x13) ^^^ (-1 : Int32))) p19) (fun p20 =>
                  some ((0 : Int32), p20))))))) n (0 : Int32)))
        else lt ((gi x8.2 0 49) - (1 : Int32)) (fun v21 =>
            lpN (fun j23 (x22 : Int32 × Int32 × ZSt) =>
            (if x22.2.1 < 0 then
              j9 (x22.1, x22.2.2)
            else gd (inb x22.2.1 5000) (
                lt (ai x22.2.2 150 x22.2.1) (fun v26 =>
                jn (fun (x27 : Int32) =>
                (jn (fun (x28 : Int32) =>
                    lt (sai x22.2.2 150 x22.2.1 x27) (fun s29 =>
                      lt (x22.2.1 + (-1 : Int32)) (fun v30 =>
                      j23 (x28, v30, s29)))) (fun j31 =>
                    jn (fun (x32 : Unit) =>
                    j31 (1 : Int32)) (fun j33 =>
                    if x22.1 = 0 then
                  (if x27 = (ai x22.2.2 150 x22.2.1) then
                    j31 (0 : Int32)
                  else j33 ())
                else j33 ())))) (fun j36 =>
                lpN (fun j38 (x37 : Int32 × Int32) =>
                (if (36 : Int32) ≤ x37.2 then
                  j36 x37.1
                else gd (inb (((36 : Int32) * x22.2.1) + x37.2) 180000) (
                    (if (ai x22.2.2 147 (((36 : Int32) * x22.2.1) + x37.2)) < 0 then
                    j36 x37.1
                  else gd (inb (ai x22.2.2 147 (((36 : Int32) * x22.2.1) + x37.2)) 5000) (
                      lt (x37.1 ||| (ai x22.2.2 150 (ai x22.2.2 147 (((36 : Int32) * x22.2.1) + x37.2)))) (fun v43 =>
                      lt (x37.2 + (1 : Int32)) (fun v44 =>
                      j38 (v43, v44)))))))) n (v26, (0 : Int32))))))) n ((0 : Int32), v21, x8.2)))) n ((1 : Int32), x5.2)
    else gd (inb x5.1 5000) (
        lt (sai x5.2 150 x5.1 (f_M_everyOf (al x5.2 143 x5.1))) (fun s46 =>
        lt (x5.1 + (1 : Int32)) (fun v47 =>
        j6 (v47, s46)))))) n ((0 : Int32), p3.2)
else some ((-3 : Int32), p3.2)))))
set_option maxHeartbeats 4000000 in
set_option maxRecDepth 20000 in
theorem ok_M_free (g : ZG) (n : Nat) (s : ZSt) : ZF g 9 y_M_free [.ref 0] s (f_M_free n s) (fun b => some (.int b.1)) (fun b => b.2) := by
  refine ZF.of (by decide +kernel) (Nat.le_of_ble_eq_true rfl) ?_
  unfold f_M_free
  show ZO g 9 y_M_free zu0 0 [(0, .ref 0)] [] s _ _
  refine ZO.aload_n (pc := 0) 0 d_M_free_0 rfl rfl ?_
  refine ZO.iconst (pc := 1) (0 : Int32) d_M_free_1 (by decide) ?_
  refine ZO.putI (pc := 2) d_M_free_2 zo_0 zp_M_3 rfl ?_
  refine ZO.ltS (fun s1 => ?_)
  refine ZO.aload_n (pc := 5) 0 d_M_free_5 rfl rfl ?_
  refine ZO.aload_n (pc := 6) 0 d_M_free_6 rfl rfl ?_
  refine ZO.cVJ (pc := 7) (As := []) (rest := [.ref 0]) d_M_free_7 zc_M_421 (by decide) zo_0 rfl rfl rfl (Nat.le_of_ble_eq_true rfl) (ok_M_stateNow g s1) (fun p2 ep2 => ?_)
  refine ZO.cVB (pc := 10) (As := [.long p2]) (rest := []) d_M_free_10 zc_M_431 (by decide) zo_0 rfl rfl rfl (Nat.le_of_ble_eq_true rfl) (ok_M_explores g n p2 s1) (fun p3 ep3 => ?_)
  refine ZO.ifb_ne (pc := 13) 19 d_M_free_13 (by decide) rfl (fun h4 => ?_) (fun h4 => ?_)
  · refine ZO.iconst (pc := 19) (0 : Int32) d_M_free_19 (by decide) ?_
    refine ZO.istore_n (pc := 20) (v := (0 : Int32)) (L' := [(0, .ref 0), (1, .int (0 : Int32))]) [1, 0] d_M_free_20 rfl (by decide) rfl ?_
    refine ZO.loop (fun (x5 : Int32 × ZSt) => ([(0, .ref 0), (1, .int x5.1)] : List (Nat × Value))) (fun (x5 : Int32 × ZSt) => x5.2) [] (fun j6 x5 hj6 => ?_) rfl rfl rfl
    refine ZO.iload_n (pc := 21) 1 d_M_free_21 rfl rfl ?_
    refine ZO.aload_n (pc := 22) 0 d_M_free_22 rfl rfl ?_
    refine ZO.getI (pc := 23) d_M_free_23 zo_0 zf_M_401 rfl ?_
    refine ZO.icmp_ge (pc := 26) 50 d_M_free_26 (by decide) rfl (fun h7 => ?_) (fun h7 => ?_)
    · refine ZO.iconst (pc := 50) (1 : Int32) d_M_free_50 (by decide) ?_
      refine ZO.istore_n (pc := 51) (v := (1 : Int32)) (L' := [(0, .ref 0), (1, .int (1 : Int32))]) [1, 0] d_M_free_51 rfl (by decide) rfl ?_
      refine ZO.loop (fun (x8 : Int32 × ZSt) => ([(0, .ref 0), (1, .int x8.1)] : List (Nat × Value))) (fun (x8 : Int32 × ZSt) => x8.2) [] (fun j9 x8 hj9 => ?_) rfl rfl rfl
      refine ZO.iload_n (pc := 52) 1 d_M_free_52 rfl rfl ?_
      refine ZO.if_eq (pc := 53) 163 d_M_free_53 (by decide) rfl (fun h10 => ?_) (fun h10 => ?_)
      · refine ZO.aload_n (pc := 163) 0 d_M_free_163 rfl rfl ?_
        refine ZO.cVI (pc := 164) (As := []) (rest := []) d_M_free_164 zc_M_435 (by decide) zo_0 rfl rfl rfl (Nat.le_of_ble_eq_true rfl) (ok_M_everFound g n x8.2) (fun p11 ep11 => ?_)
        refine ZO.istore_n (pc := 167) (v := p11) (L' := [(0, .ref 0), (1, .int x8.1), (2, .int p11)]) [1, 2, 0] d_M_free_167 rfl (by decide) rfl ?_
        refine ZO.aload_n (pc := 168) 0 d_M_free_168 rfl rfl ?_
        refine ZO.iconst (pc := 169) (0 : Int32) d_M_free_169 (by decide) ?_
        refine ZO.putI (pc := 170) d_M_free_170 zo_0 zp_M_11 rfl ?_
        refine ZO.ltS (fun s12 => ?_)
        refine ZO.iconst (pc := 173) (0 : Int32) d_M_free_173 (by decide) ?_
        refine ZO.istore_n (pc := 174) (v := (0 : Int32)) (L' := [(0, .ref 0), (1, .int x8.1), (2, .int p11), (3, .int (0 : Int32))]) [1, 2, 3, 0] d_M_free_174 rfl (by decide) rfl ?_
        refine ZO.sub (L' := [(0, .ref 0), (2, .int p11), (3, .int (0 : Int32))]) [0, 2, 3] rfl ?_
        refine ZO.loop (fun (x13 : Int32) => ([(0, .ref 0), (2, .int p11), (3, .int x13)] : List (Nat × Value))) (fun (x13 : Int32) => s12) [] (fun j14 x13 hj14 => ?_) rfl rfl rfl
        refine ZO.iload_n (pc := 175) 2 d_M_free_175 rfl rfl ?_
        refine ZO.aload_n (pc := 176) 0 d_M_free_176 rfl rfl ?_
        refine ZO.getI (pc := 177) d_M_free_177 zo_0 zf_M_401 rfl ?_
        refine ZO.icmp_ge (pc := 180) 225 d_M_free_180 (by decide) rfl (fun h15 => ?_) (fun h15 => ?_)
        · refine ZO.iconst (pc := 225) (1 : Int32) d_M_free_225 (by decide) ?_
          exact ZO.iret (pc := 226)  d_M_free_226 rfl rfl rfl
        · refine ZO.aload_n (pc := 183) 0 d_M_free_183 rfl rfl ?_
          refine ZO.getA (pc := 184) 150 d_M_free_184 zo_0 zf_M_441 rfl rfl ?_
          refine ZO.iload_n (pc := 187) 2 d_M_free_187 rfl rfl ?_
          refine ZO.rgd (fun h16 => ?_)
          refine ZO.iald (pc := 188) d_M_free_188 za_150 h16 ?_
          refine ZO.iload_n (pc := 189) 1 d_M_free_189 rfl rfl ?_
          refine ZO.icmp_eq (pc := 190) 219 d_M_free_190 (by decide) rfl (fun h17 => ?_) (fun h17 => ?_)
          · refine ZO.iincL (pc := 219) (i := 2) (x13 + (1 : Int32)) (L' := fun v18 => [(0, .ref 0), (2, .int p11), (3, .int v18)]) [1, 2, 0] d_M_free_219 rfl (by rfl) (by decide) (fun _ => rfl) (fun v18 => ?_)
            refine ZO.goto (pc := 222) 175 d_M_free_222 (by decide) ?_
            exact hj14 v18
          · refine ZO.aload_n (pc := 193) 0 d_M_free_193 rfl rfl ?_
            refine ZO.aload_n (pc := 194) 0 d_M_free_194 rfl rfl ?_
            refine ZO.getA (pc := 195) 144 d_M_free_195 zo_0 zf_M_404 rfl rfl ?_
            refine ZO.iload_n (pc := 198) 2 d_M_free_198 rfl rfl ?_
            refine ZO.iald (pc := 199) d_M_free_199 za_144 h16 ?_
            refine ZO.cVV (pc := 200) (As := [.int (ai s12 144 x13)]) (rest := []) d_M_free_200 zc_M_236 (by decide) zo_0 rfl rfl rfl (Nat.le_of_ble_eq_true rfl) (ok_M_enters g (ai s12 144 x13) s12) (fun p19 ep19 => ?_)
            refine ZO.aload_n (pc := 203) 0 d_M_free_203 rfl rfl ?_
            refine ZO.iload_n (pc := 204) 1 d_M_free_204 rfl rfl ?_
            refine ZO.aload_n (pc := 205) 0 d_M_free_205 rfl rfl ?_
            refine ZO.getA (pc := 206) 150 d_M_free_206 zo_0 zf_M_441 rfl rfl ?_
            refine ZO.iload_n (pc := 209) 2 d_M_free_209 rfl rfl ?_
            refine ZO.iald (pc := 210) d_M_free_210 za_150 h16 ?_
            refine ZO.iconst (pc := 211) (-1 : Int32) d_M_free_211 (by decide) ?_
            refine ZO.ixor (pc := 212) d_M_free_212 ?_
            refine ZO.iand (pc := 213) d_M_free_213 ?_
            refine ZO.cVV (pc := 214) (As := [.int (p11 &&& ((ai p19 150 x13) ^^^ (-1 : Int32)))]) (rest := []) d_M_free_214 zc_M_236 (by decide) zo_0 rfl rfl rfl (Nat.le_of_ble_eq_true rfl) (ok_M_enters g (p11 &&& ((ai p19 150 x13) ^^^ (-1 : Int32))) p19) (fun p20 ep20 => ?_)
            refine ZO.iconst (pc := 217) (0 : Int32) d_M_free_217 (by decide) ?_
            exact ZO.iret (pc := 218)  d_M_free_218 rfl rfl rfl
      · refine ZO.iconst (pc := 56) (0 : Int32) d_M_free_56 (by decide) ?_
        refine ZO.istore_n (pc := 57) (v := (0 : Int32)) (L' := [(0, .ref 0), (1, .int (0 : Int32))]) [1, 0] d_M_free_57 rfl (by decide) rfl ?_
        refine ZO.aload_n (pc := 58) 0 d_M_free_58 rfl rfl ?_
        refine ZO.getI (pc := 59) d_M_free_59 zo_0 zf_M_401 rfl ?_
        refine ZO.iconst (pc := 62) (1 : Int32) d_M_free_62 (by decide) ?_
        refine ZO.isub (pc := 63) d_M_free_63 ?_
        refine ZO.ltI (fun v21 => ?_)
        refine ZO.istore_n (pc := 64) (v := v21) (L' := [(0, .ref 0), (1, .int (0 : Int32)), (2, .int v21)]) [1, 2, 0] d_M_free_64 rfl (by decide) rfl ?_
        refine ZO.loop (fun (x22 : Int32 × Int32 × ZSt) => ([(0, .ref 0), (1, .int x22.1), (2, .int x22.2.1)] : List (Nat × Value))) (fun (x22 : Int32 × Int32 × ZSt) => x22.2.2) [] (fun j23 x22 hj23 => ?_) rfl rfl rfl
        refine ZO.iload_n (pc := 65) 2 d_M_free_65 rfl rfl ?_
        refine ZO.if_lt (pc := 66) 160 d_M_free_66 (by decide) rfl (fun h24 => ?_) (fun h24 => ?_)
        · refine ZO.goto (pc := 160) 52 d_M_free_160 (by decide) ?_
          exact ZO.sub [0, 1] rfl (hj9 (x22.1, x22.2.2))
        · refine ZO.aload_n (pc := 69) 0 d_M_free_69 rfl rfl ?_
          refine ZO.getA (pc := 70) 150 d_M_free_70 zo_0 zf_M_441 rfl rfl ?_
          refine ZO.iload_n (pc := 73) 2 d_M_free_73 rfl rfl ?_
          refine ZO.rgd (fun h25 => ?_)
          refine ZO.iald (pc := 74) d_M_free_74 za_150 h25 ?_
          refine ZO.ltI (fun v26 => ?_)
          refine ZO.istore_n (pc := 75) (v := v26) (L' := [(0, .ref 0), (1, .int x22.1), (2, .int x22.2.1), (3, .int v26)]) [1, 2, 3, 0] d_M_free_75 rfl (by decide) rfl ?_
          refine ZO.iconst (pc := 76) (0 : Int32) d_M_free_76 (by decide) ?_
          refine ZO.istore (pc := 77) (v := (0 : Int32)) (L' := [(0, .ref 0), (1, .int x22.1), (2, .int x22.2.1), (3, .int v26), (4, .int (0 : Int32))]) [1, 2, 3, 4, 0] d_M_free_77 (by decide) rfl ?_
          refine ZO.rjn (pcJ := 127) (LJ := fun (x27 : Int32) => ([(0, .ref 0), (1, .int x22.1), (2, .int x22.2.1), (3, .int x27)] : List (Nat × Value))) (SJ := fun (x27 : Int32) => ([] : List Value)) (σJ := fun (x27 : Int32) => x22.2.2) (fun x27 => ?_) (fun j36 hj36 => ?_)
          · refine ZO.iload_n (pc := 127) 1 d_M_free_127 rfl rfl ?_
            refine ZO.rjn (pcJ := 146) (LJ := fun (x28 : Int32) => ([(0, .ref 0), (2, .int x22.2.1), (3, .int x27)] : List (Nat × Value))) (SJ := fun (x28 : Int32) => ([.int x28] : List Value)) (σJ := fun (x28 : Int32) => x22.2.2) (fun x28 => ?_) (fun j31 hj31 => ?_)
            · refine ZO.istore_n (pc := 146) (v := x28) (L' := [(0, .ref 0), (1, .int x28), (2, .int x22.2.1), (3, .int x27)]) [1, 0, 2, 3] d_M_free_146 rfl (by decide) rfl ?_
              refine ZO.aload_n (pc := 147) 0 d_M_free_147 rfl rfl ?_
              refine ZO.getA (pc := 148) 150 d_M_free_148 zo_0 zf_M_441 rfl rfl ?_
              refine ZO.iload_n (pc := 151) 2 d_M_free_151 rfl rfl ?_
              refine ZO.iload_n (pc := 152) 3 d_M_free_152 rfl rfl ?_
              refine ZO.iast (pc := 153) d_M_free_153 za_150 h25 ?_
              refine ZO.ltS (fun s29 => ?_)
              refine ZO.iincL (pc := 154) (i := 2) (x22.2.1 + (-1 : Int32)) (L' := fun v30 => [(0, .ref 0), (1, .int x28), (2, .int v30), (3, .int x27)]) [1, 2, 0, 3] d_M_free_154 rfl (by rfl) (by decide) (fun _ => rfl) (fun v30 => ?_)
              refine ZO.goto (pc := 157) 65 d_M_free_157 (by decide) ?_
              exact ZO.sub [0, 1, 2] rfl (hj23 (x28, v30, s29))
            · refine ZO.rjn (pcJ := 141) (LJ := fun (x32 : Unit) => ([(0, .ref 0), (2, .int x22.2.1), (3, .int x27)] : List (Nat × Value))) (SJ := fun (x32 : Unit) => ([] : List Value)) (σJ := fun (x32 : Unit) => x22.2.2) (fun x32 => ?_) (fun j33 hj33 => ?_)
              · refine ZO.iconst (pc := 141) (1 : Int32) d_M_free_141 (by decide) ?_
                refine ZO.goto (pc := 142) 146 d_M_free_142 (by decide) ?_
                exact hj31 (1 : Int32)
              · refine ZO.if_ne (pc := 128) 141 d_M_free_128 (by decide) rfl (fun h34 => ?_) (fun h34 => ?_)
                · refine ZO.iload_n (pc := 131) 3 d_M_free_131 rfl rfl ?_
                  refine ZO.aload_n (pc := 132) 0 d_M_free_132 rfl rfl ?_
                  refine ZO.getA (pc := 133) 150 d_M_free_133 zo_0 zf_M_441 rfl rfl ?_
                  refine ZO.iload_n (pc := 136) 2 d_M_free_136 rfl rfl ?_
                  refine ZO.iald (pc := 137) d_M_free_137 za_150 h25 ?_
                  refine ZO.icmp_eq (pc := 138) 145 d_M_free_138 (by decide) rfl (fun h35 => ?_) (fun h35 => ?_)
                  · refine ZO.iconst (pc := 145) (0 : Int32) d_M_free_145 (by decide) ?_
                    exact ZO.sub [0, 2, 3] rfl (hj31 (0 : Int32))
                  · exact ZO.sub [0, 2, 3] rfl (hj33 ())
                · exact ZO.sub [0, 2, 3] rfl (hj33 ())
          · refine ZO.loop (fun (x37 : Int32 × Int32) => ([(0, .ref 0), (1, .int x22.1), (2, .int x22.2.1), (3, .int x37.1), (4, .int x37.2)] : List (Nat × Value))) (fun (x37 : Int32 × Int32) => x22.2.2) [] (fun j38 x37 hj38 => ?_) rfl rfl rfl
            refine ZO.iload (pc := 79) 4 d_M_free_79 rfl ?_
            refine ZO.bipush (pc := 81) (36 : Int32) d_M_free_81 (by decide) ?_
            refine ZO.icmp_ge (pc := 83) 127 d_M_free_83 (by decide) rfl (fun h39 => ?_) (fun h39 => ?_)
            · exact ZO.sub [0, 1, 2, 3] rfl (hj36 x37.1)
            · refine ZO.aload_n (pc := 86) 0 d_M_free_86 rfl rfl ?_
              refine ZO.getA (pc := 87) 147 d_M_free_87 zo_0 zf_M_425 rfl rfl ?_
              refine ZO.bipush (pc := 90) (36 : Int32) d_M_free_90 (by decide) ?_
              refine ZO.iload_n (pc := 92) 2 d_M_free_92 rfl rfl ?_
              refine ZO.imul (pc := 93) d_M_free_93 ?_
              refine ZO.iload (pc := 94) 4 d_M_free_94 rfl ?_
              refine ZO.iadd (pc := 96) d_M_free_96 ?_
              refine ZO.rgd (fun h40 => ?_)
              refine ZO.iald (pc := 97) d_M_free_97 za_147 h40 ?_
              refine ZO.if_lt (pc := 98) 127 d_M_free_98 (by decide) rfl (fun h41 => ?_) (fun h41 => ?_)
              · exact ZO.sub [0, 1, 2, 3] rfl (hj36 x37.1)
              · refine ZO.iload_n (pc := 101) 3 d_M_free_101 rfl rfl ?_
                refine ZO.aload_n (pc := 102) 0 d_M_free_102 rfl rfl ?_
                refine ZO.getA (pc := 103) 150 d_M_free_103 zo_0 zf_M_441 rfl rfl ?_
                refine ZO.aload_n (pc := 106) 0 d_M_free_106 rfl rfl ?_
                refine ZO.getA (pc := 107) 147 d_M_free_107 zo_0 zf_M_425 rfl rfl ?_
                refine ZO.bipush (pc := 110) (36 : Int32) d_M_free_110 (by decide) ?_
                refine ZO.iload_n (pc := 112) 2 d_M_free_112 rfl rfl ?_
                refine ZO.imul (pc := 113) d_M_free_113 ?_
                refine ZO.iload (pc := 114) 4 d_M_free_114 rfl ?_
                refine ZO.iadd (pc := 116) d_M_free_116 ?_
                refine ZO.iald (pc := 117) d_M_free_117 za_147 h40 ?_
                refine ZO.rgd (fun h42 => ?_)
                refine ZO.iald (pc := 118) d_M_free_118 za_150 h42 ?_
                refine ZO.ior (pc := 119) d_M_free_119 ?_
                refine ZO.ltI (fun v43 => ?_)
                refine ZO.istore_n (pc := 120) (v := v43) (L' := [(0, .ref 0), (1, .int x22.1), (2, .int x22.2.1), (3, .int v43), (4, .int x37.2)]) [1, 2, 3, 0, 4] d_M_free_120 rfl (by decide) rfl ?_
                refine ZO.iincL (pc := 121) (i := 4) (x37.2 + (1 : Int32)) (L' := fun v44 => [(0, .ref 0), (1, .int x22.1), (2, .int x22.2.1), (3, .int v43), (4, .int v44)]) [1, 2, 3, 4, 0] d_M_free_121 rfl (by rfl) (by decide) (fun _ => rfl) (fun v44 => ?_)
                refine ZO.goto (pc := 124) 79 d_M_free_124 (by decide) ?_
                exact hj38 (v43, v44)
    · refine ZO.aload_n (pc := 29) 0 d_M_free_29 rfl rfl ?_
      refine ZO.getA (pc := 30) 150 d_M_free_30 zo_0 zf_M_441 rfl rfl ?_
      refine ZO.iload_n (pc := 33) 1 d_M_free_33 rfl rfl ?_
      refine ZO.aload_n (pc := 34) 0 d_M_free_34 rfl rfl ?_
      refine ZO.getA (pc := 35) 143 d_M_free_35 zo_0 zf_M_393 rfl rfl ?_
      refine ZO.iload_n (pc := 38) 1 d_M_free_38 rfl rfl ?_
      refine ZO.rgd (fun h45 => ?_)
      refine ZO.lald (pc := 39) d_M_free_39 za_143 h45 ?_
      refine ZO.tSI (pc := 40) (As := [.long (al x5.2 143 x5.1)]) (rest := [.int x5.1, .ref 150]) d_M_free_40 zc_M_428 (by decide) rfl rfl (Nat.le_of_ble_eq_true rfl) (ok_M_everyOf g (al x5.2 143 x5.1) x5.2) ?_
      refine ZO.iast (pc := 43) d_M_free_43 za_150 h45 ?_
      refine ZO.ltS (fun s46 => ?_)
      refine ZO.iincL (pc := 44) (i := 1) (x5.1 + (1 : Int32)) (L' := fun v47 => [(0, .ref 0), (1, .int v47)]) [1, 0] d_M_free_44 rfl (by rfl) (by decide) (fun _ => rfl) (fun v47 => ?_)
      refine ZO.goto (pc := 47) 21 d_M_free_47 (by decide) ?_
      exact hj6 (v47, s46)
  · refine ZO.bipush (pc := 16) (-3 : Int32) d_M_free_16 (by decide) ?_
    exact ZO.iret (pc := 18)  d_M_free_18 rfl rfl rfl
def f_M_keep (n : Nat) (a0 : Int32) (s : ZSt) : Option (Bool × ZSt) :=
  lt (si s 0 0 (0 : Int32)) (fun s1 =>
  (if (f_M_in a0.toInt64 (0 : Int64) (2 : Int64)) = true then
  gd (inb a0 3) (
    lt (sai s1 151 a0 (b2i true)) (fun s4 =>
    lt ((91 : Int32) * a0) (fun v5 =>
    lpN (fun j7 (x6 : Int32 × ZSt) =>
    (if (3 : Int32) ≤ x6.1 then
      lt (v5 + (3 : Int32)) (fun v9 =>
        lpN (fun j11 (x10 : Int32 × ZSt) =>
        (if (12 : Int32) ≤ x10.1 then
          lt (v9 + (12 : Int32)) (fun v13 =>
            lpN (fun j15 (x14 : Int32 × ZSt) =>
            (if (6 : Int32) ≤ x14.1 then
              lt (v13 + (12 : Int32)) (fun v17 =>
                gd (inb v17 273) (
                lt (sai x14.2 152 v17 (gi x14.2 0 29)) (fun s19 =>
                gd (inb (v17 + (1 : Int32)) 273) (
                lt (sai s19 152 (v17 + (1 : Int32)) (gi s19 0 27)) (fun s21 =>
                lpN (fun j23 (x22 : Int32 × ZSt) =>
                (if (gi x22.2 0 27) ≤ x22.1 then
                  some (true, x22.2)
                else gd (inb x22.1 60) (
                    gd (inb ((v17 + (2 : Int32)) + x22.1) 273) (
                    lt (sai x22.2 152 ((v17 + (2 : Int32)) + x22.1) (ai x22.2 128 x22.1)) (fun s27 =>
                    lt (x22.1 + (1 : Int32)) (fun v28 =>
                    j23 (v28, s27))))))) n ((0 : Int32), s21))))))
            else (jn (fun (x29 : Int32) =>
                  gd (inb (v13 + x14.1) 273) (
                    lt (sai x14.2 152 (v13 + x14.1) x29) (fun s31 =>
                    (jn (fun (x32 : Int32) =>
                      gd (inb ((v13 + (6 : Int32)) + x14.1) 273) (
                        lt (sai s31 152 ((v13 + (6 : Int32)) + x14.1) x32) (fun s34 =>
                        lt (x14.1 + (1 : Int32)) (fun v35 =>
                        j15 (v35, s34))))) (fun j36 =>
                      if (gi s31 0 9) ≤ x14.1 then
                    j36 (-1 : Int32)
                  else gd (inb x14.1 6) (
                      j36 (ai s31 110 x14.1))))))) (fun j39 =>
                  if (gi x14.2 0 9) ≤ x14.1 then
                j39 (0 : Int32)
              else gd (inb x14.1 6) (
                  j39 (ai x14.2 113 x14.1)))))) n ((0 : Int32), x10.2))
        else (jn (fun (x42 : Int32) =>
              gd (inb (v9 + x10.1) 273) (
                lt (sai x10.2 152 (v9 + x10.1) x42) (fun s44 =>
                lt (x10.1 + (1 : Int32)) (fun v45 =>
                j11 (v45, s44))))) (fun j46 =>
              if (gi x10.2 0 3) ≤ x10.1 then
            j46 (0 : Int32)
          else gd (inb x10.1 12) (
              j46 (ai x10.2 105 x10.1)))))) n ((0 : Int32), x6.2))
    else gd (inb x6.1 3) (
        gd (inb (v5 + x6.1) 273) (
        lt (sai x6.2 152 (v5 + x6.1) (ai x6.2 108 x6.1)) (fun s51 =>
        lt (x6.1 + (1 : Int32)) (fun v52 =>
        j7 (v52, s51))))))) n ((0 : Int32), s4))))
else some (false, s1)))
set_option maxHeartbeats 4000000 in
set_option maxRecDepth 20000 in
theorem ok_M_keep (g : ZG) (n : Nat) (a0 : Int32) (s : ZSt) : ZF g 1 y_M_keep [.ref 0, .int a0] s (f_M_keep n a0 s) (fun b => some (.int (b2i b.1))) (fun b => b.2) := by
  refine ZF.of (by decide +kernel) (Nat.le_of_ble_eq_true rfl) ?_
  unfold f_M_keep
  show ZO g 1 y_M_keep zu0 0 [(0, .ref 0), (1, .int a0)] [] s _ _
  refine ZO.aload_n (pc := 0) 0 d_M_keep_0 rfl rfl ?_
  refine ZO.iconst (pc := 1) (0 : Int32) d_M_keep_1 (by decide) ?_
  refine ZO.putI (pc := 2) d_M_keep_2 zo_0 zp_M_3 rfl ?_
  refine ZO.ltS (fun s1 => ?_)
  refine ZO.iload_n (pc := 5) 1 d_M_keep_5 rfl rfl ?_
  refine ZO.i2l (pc := 6) d_M_keep_6 ?_
  refine ZO.lconst (pc := 7) (0 : Int64) d_M_keep_7 (by decide) ?_
  refine ZO.ldc2 (pc := 8) (2 : Int64) d_M_keep_8 zk_M_21 ?_
  refine ZO.tSB (pc := 11) (As := [.long a0.toInt64, .long (0 : Int64), .long (2 : Int64)]) (rest := []) d_M_keep_11 zc_M_17 (by decide) rfl rfl (Nat.le_of_ble_eq_true rfl) (ok_M_in g a0.toInt64 (0 : Int64) (2 : Int64) s1) ?_
  refine ZO.ifb_ne (pc := 14) 19 d_M_keep_14 (by decide) rfl (fun h2 => ?_) (fun h2 => ?_)
  · refine ZO.aload_n (pc := 19) 0 d_M_keep_19 rfl rfl ?_
    refine ZO.getA (pc := 20) 151 d_M_keep_20 zo_0 zf_M_444 rfl rfl ?_
    refine ZO.iload_n (pc := 23) 1 d_M_keep_23 rfl rfl ?_
    refine ZO.iconst (pc := 24) (1 : Int32) d_M_keep_24 (by decide) ?_
    refine ZO.rgd (fun h3 => ?_)
    refine ZO.bast (pc := 25) (v := true) d_M_keep_25 za_151 h3 ?_
    refine ZO.ltS (fun s4 => ?_)
    refine ZO.bipush (pc := 26) (91 : Int32) d_M_keep_26 (by decide) ?_
    refine ZO.iload_n (pc := 28) 1 d_M_keep_28 rfl rfl ?_
    refine ZO.imul (pc := 29) d_M_keep_29 ?_
    refine ZO.ltI (fun v5 => ?_)
    refine ZO.istore_n (pc := 30) (v := v5) (L' := [(0, .ref 0), (1, .int a0), (2, .int v5)]) [1, 2, 0] d_M_keep_30 rfl (by decide) rfl ?_
    refine ZO.iconst (pc := 31) (0 : Int32) d_M_keep_31 (by decide) ?_
    refine ZO.istore_n (pc := 32) (v := (0 : Int32)) (L' := [(0, .ref 0), (1, .int a0), (2, .int v5), (3, .int (0 : Int32))]) [1, 2, 3, 0] d_M_keep_32 rfl (by decide) rfl ?_
    refine ZO.sub (L' := [(0, .ref 0), (2, .int v5), (3, .int (0 : Int32))]) [0, 2, 3] rfl ?_
    refine ZO.loop (fun (x6 : Int32 × ZSt) => ([(0, .ref 0), (2, .int v5), (3, .int x6.1)] : List (Nat × Value))) (fun (x6 : Int32 × ZSt) => x6.2) [] (fun j7 x6 hj7 => ?_) rfl rfl rfl
    refine ZO.iload_n (pc := 33) 2 d_M_keep_33 rfl rfl ?_
    refine ZO.iconst (pc := 34) (3 : Int32) d_M_keep_34 (by decide) ?_
    refine ZO.icmp_ge (pc := 35) 58 d_M_keep_35 (by decide) rfl (fun h8 => ?_) (fun h8 => ?_)
    · refine ZO.iincL (pc := 58) (i := 1) (v5 + (3 : Int32)) (L' := fun v9 => [(0, .ref 0), (2, .int v9), (3, .int x6.1)]) [1, 0, 2] d_M_keep_58 rfl (by rfl) (by decide) (fun _ => rfl) (fun v9 => ?_)
      refine ZO.iconst (pc := 61) (0 : Int32) d_M_keep_61 (by decide) ?_
      refine ZO.istore_n (pc := 62) (v := (0 : Int32)) (L' := [(0, .ref 0), (2, .int v9), (3, .int (0 : Int32))]) [1, 2, 0] d_M_keep_62 rfl (by decide) rfl ?_
      refine ZO.loop (fun (x10 : Int32 × ZSt) => ([(0, .ref 0), (2, .int v9), (3, .int x10.1)] : List (Nat × Value))) (fun (x10 : Int32 × ZSt) => x10.2) [] (fun j11 x10 hj11 => ?_) rfl rfl rfl
      refine ZO.iload_n (pc := 63) 2 d_M_keep_63 rfl rfl ?_
      refine ZO.bipush (pc := 64) (12 : Int32) d_M_keep_64 (by decide) ?_
      refine ZO.icmp_ge (pc := 66) 101 d_M_keep_66 (by decide) rfl (fun h12 => ?_) (fun h12 => ?_)
      · refine ZO.iincL (pc := 101) (i := 1) (v9 + (12 : Int32)) (L' := fun v13 => [(0, .ref 0), (2, .int v13), (3, .int x10.1)]) [1, 0, 2] d_M_keep_101 rfl (by rfl) (by decide) (fun _ => rfl) (fun v13 => ?_)
        refine ZO.iconst (pc := 104) (0 : Int32) d_M_keep_104 (by decide) ?_
        refine ZO.istore_n (pc := 105) (v := (0 : Int32)) (L' := [(0, .ref 0), (2, .int v13), (3, .int (0 : Int32))]) [1, 2, 0] d_M_keep_105 rfl (by decide) rfl ?_
        refine ZO.loop (fun (x14 : Int32 × ZSt) => ([(0, .ref 0), (2, .int v13), (3, .int x14.1)] : List (Nat × Value))) (fun (x14 : Int32 × ZSt) => x14.2) [] (fun j15 x14 hj15 => ?_) rfl rfl rfl
        refine ZO.iload_n (pc := 106) 2 d_M_keep_106 rfl rfl ?_
        refine ZO.bipush (pc := 107) (6 : Int32) d_M_keep_107 (by decide) ?_
        refine ZO.icmp_ge (pc := 109) 173 d_M_keep_109 (by decide) rfl (fun h16 => ?_) (fun h16 => ?_)
        · refine ZO.iincL (pc := 173) (i := 1) (v13 + (12 : Int32)) (L' := fun v17 => [(0, .ref 0), (2, .int v17), (3, .int x14.1)]) [1, 0, 2] d_M_keep_173 rfl (by rfl) (by decide) (fun _ => rfl) (fun v17 => ?_)
          refine ZO.aload_n (pc := 176) 0 d_M_keep_176 rfl rfl ?_
          refine ZO.getA (pc := 177) 152 d_M_keep_177 zo_0 zf_M_448 rfl rfl ?_
          refine ZO.iload_n (pc := 180) 1 d_M_keep_180 rfl rfl ?_
          refine ZO.aload_n (pc := 181) 0 d_M_keep_181 rfl rfl ?_
          refine ZO.getI (pc := 182) d_M_keep_182 zo_0 zf_M_308 rfl ?_
          refine ZO.rgd (fun h18 => ?_)
          refine ZO.iast (pc := 185) d_M_keep_185 za_152 h18 ?_
          refine ZO.ltS (fun s19 => ?_)
          refine ZO.aload_n (pc := 186) 0 d_M_keep_186 rfl rfl ?_
          refine ZO.getA (pc := 187) 152 d_M_keep_187 zo_0 zf_M_448 rfl rfl ?_
          refine ZO.iload_n (pc := 190) 1 d_M_keep_190 rfl rfl ?_
          refine ZO.iconst (pc := 191) (1 : Int32) d_M_keep_191 (by decide) ?_
          refine ZO.iadd (pc := 192) d_M_keep_192 ?_
          refine ZO.aload_n (pc := 193) 0 d_M_keep_193 rfl rfl ?_
          refine ZO.getI (pc := 194) d_M_keep_194 zo_0 zf_M_284 rfl ?_
          refine ZO.rgd (fun h20 => ?_)
          refine ZO.iast (pc := 197) d_M_keep_197 za_152 h20 ?_
          refine ZO.ltS (fun s21 => ?_)
          refine ZO.iconst (pc := 198) (0 : Int32) d_M_keep_198 (by decide) ?_
          refine ZO.istore_n (pc := 199) (v := (0 : Int32)) (L' := [(0, .ref 0), (2, .int v17), (3, .int (0 : Int32))]) [1, 2, 0] d_M_keep_199 rfl (by decide) rfl ?_
          refine ZO.loop (fun (x22 : Int32 × ZSt) => ([(0, .ref 0), (2, .int v17), (3, .int x22.1)] : List (Nat × Value))) (fun (x22 : Int32 × ZSt) => x22.2) [] (fun j23 x22 hj23 => ?_) rfl rfl rfl
          refine ZO.iload_n (pc := 200) 2 d_M_keep_200 rfl rfl ?_
          refine ZO.aload_n (pc := 201) 0 d_M_keep_201 rfl rfl ?_
          refine ZO.getI (pc := 202) d_M_keep_202 zo_0 zf_M_284 rfl ?_
          refine ZO.icmp_ge (pc := 205) 230 d_M_keep_205 (by decide) rfl (fun h24 => ?_) (fun h24 => ?_)
          · refine ZO.iconst (pc := 230) (1 : Int32) d_M_keep_230 (by decide) ?_
            exact ZO.zret (pc := 231) (v := true) d_M_keep_231 rfl rfl rfl
          · refine ZO.aload_n (pc := 208) 0 d_M_keep_208 rfl rfl ?_
            refine ZO.getA (pc := 209) 152 d_M_keep_209 zo_0 zf_M_448 rfl rfl ?_
            refine ZO.iload_n (pc := 212) 1 d_M_keep_212 rfl rfl ?_
            refine ZO.iconst (pc := 213) (2 : Int32) d_M_keep_213 (by decide) ?_
            refine ZO.iadd (pc := 214) d_M_keep_214 ?_
            refine ZO.iload_n (pc := 215) 2 d_M_keep_215 rfl rfl ?_
            refine ZO.iadd (pc := 216) d_M_keep_216 ?_
            refine ZO.aload_n (pc := 217) 0 d_M_keep_217 rfl rfl ?_
            refine ZO.getA (pc := 218) 128 d_M_keep_218 zo_0 zf_M_287 rfl rfl ?_
            refine ZO.iload_n (pc := 221) 2 d_M_keep_221 rfl rfl ?_
            refine ZO.rgd (fun h25 => ?_)
            refine ZO.iald (pc := 222) d_M_keep_222 za_128 h25 ?_
            refine ZO.rgd (fun h26 => ?_)
            refine ZO.iast (pc := 223) d_M_keep_223 za_152 h26 ?_
            refine ZO.ltS (fun s27 => ?_)
            refine ZO.iincL (pc := 224) (i := 2) (x22.1 + (1 : Int32)) (L' := fun v28 => [(0, .ref 0), (2, .int v17), (3, .int v28)]) [1, 2, 0] d_M_keep_224 rfl (by rfl) (by decide) (fun _ => rfl) (fun v28 => ?_)
            refine ZO.goto (pc := 227) 200 d_M_keep_227 (by decide) ?_
            exact hj23 (v28, s27)
        · refine ZO.aload_n (pc := 112) 0 d_M_keep_112 rfl rfl ?_
          refine ZO.getA (pc := 113) 152 d_M_keep_113 zo_0 zf_M_448 rfl rfl ?_
          refine ZO.iload_n (pc := 116) 1 d_M_keep_116 rfl rfl ?_
          refine ZO.iload_n (pc := 117) 2 d_M_keep_117 rfl rfl ?_
          refine ZO.iadd (pc := 118) d_M_keep_118 ?_
          refine ZO.iload_n (pc := 119) 2 d_M_keep_119 rfl rfl ?_
          refine ZO.aload_n (pc := 120) 0 d_M_keep_120 rfl rfl ?_
          refine ZO.getI (pc := 121) d_M_keep_121 zo_0 zf_M_23 rfl ?_
          refine ZO.rjn (pcJ := 137) (LJ := fun (x29 : Int32) => ([(0, .ref 0), (2, .int v13), (3, .int x14.1)] : List (Nat × Value))) (SJ := fun (x29 : Int32) => ([.int x29, .int (v13 + x14.1), .ref 152] : List Value)) (σJ := fun (x29 : Int32) => x14.2) (fun x29 => ?_) (fun j39 hj39 => ?_)
          · refine ZO.rgd (fun h30 => ?_)
            refine ZO.iast (pc := 137) d_M_keep_137 za_152 h30 ?_
            refine ZO.ltS (fun s31 => ?_)
            refine ZO.aload_n (pc := 138) 0 d_M_keep_138 rfl rfl ?_
            refine ZO.getA (pc := 139) 152 d_M_keep_139 zo_0 zf_M_448 rfl rfl ?_
            refine ZO.iload_n (pc := 142) 1 d_M_keep_142 rfl rfl ?_
            refine ZO.bipush (pc := 143) (6 : Int32) d_M_keep_143 (by decide) ?_
            refine ZO.iadd (pc := 145) d_M_keep_145 ?_
            refine ZO.iload_n (pc := 146) 2 d_M_keep_146 rfl rfl ?_
            refine ZO.iadd (pc := 147) d_M_keep_147 ?_
            refine ZO.iload_n (pc := 148) 2 d_M_keep_148 rfl rfl ?_
            refine ZO.aload_n (pc := 149) 0 d_M_keep_149 rfl rfl ?_
            refine ZO.getI (pc := 150) d_M_keep_150 zo_0 zf_M_23 rfl ?_
            refine ZO.rjn (pcJ := 166) (LJ := fun (x32 : Int32) => ([(0, .ref 0), (2, .int v13), (3, .int x14.1)] : List (Nat × Value))) (SJ := fun (x32 : Int32) => ([.int x32, .int ((v13 + (6 : Int32)) + x14.1), .ref 152] : List Value)) (σJ := fun (x32 : Int32) => s31) (fun x32 => ?_) (fun j36 hj36 => ?_)
            · refine ZO.rgd (fun h33 => ?_)
              refine ZO.iast (pc := 166) d_M_keep_166 za_152 h33 ?_
              refine ZO.ltS (fun s34 => ?_)
              refine ZO.iincL (pc := 167) (i := 2) (x14.1 + (1 : Int32)) (L' := fun v35 => [(0, .ref 0), (2, .int v13), (3, .int v35)]) [1, 2, 0] d_M_keep_167 rfl (by rfl) (by decide) (fun _ => rfl) (fun v35 => ?_)
              refine ZO.goto (pc := 170) 106 d_M_keep_170 (by decide) ?_
              exact hj15 (v35, s34)
            · refine ZO.icmp_ge (pc := 153) 165 d_M_keep_153 (by decide) rfl (fun h37 => ?_) (fun h37 => ?_)
              · refine ZO.iconst (pc := 165) (-1 : Int32) d_M_keep_165 (by decide) ?_
                exact hj36 (-1 : Int32)
              · refine ZO.aload_n (pc := 156) 0 d_M_keep_156 rfl rfl ?_
                refine ZO.getA (pc := 157) 110 d_M_keep_157 zo_0 zf_M_257 rfl rfl ?_
                refine ZO.iload_n (pc := 160) 2 d_M_keep_160 rfl rfl ?_
                refine ZO.rgd (fun h38 => ?_)
                refine ZO.iald (pc := 161) d_M_keep_161 za_110 h38 ?_
                refine ZO.goto (pc := 162) 166 d_M_keep_162 (by decide) ?_
                exact hj36 (ai s31 110 x14.1)
          · refine ZO.icmp_ge (pc := 124) 136 d_M_keep_124 (by decide) rfl (fun h40 => ?_) (fun h40 => ?_)
            · refine ZO.iconst (pc := 136) (0 : Int32) d_M_keep_136 (by decide) ?_
              exact hj39 (0 : Int32)
            · refine ZO.aload_n (pc := 127) 0 d_M_keep_127 rfl rfl ?_
              refine ZO.getA (pc := 128) 113 d_M_keep_128 zo_0 zf_M_26 rfl rfl ?_
              refine ZO.iload_n (pc := 131) 2 d_M_keep_131 rfl rfl ?_
              refine ZO.rgd (fun h41 => ?_)
              refine ZO.iald (pc := 132) d_M_keep_132 za_113 h41 ?_
              refine ZO.goto (pc := 133) 137 d_M_keep_133 (by decide) ?_
              exact hj39 (ai x14.2 113 x14.1)
      · refine ZO.aload_n (pc := 69) 0 d_M_keep_69 rfl rfl ?_
        refine ZO.getA (pc := 70) 152 d_M_keep_70 zo_0 zf_M_448 rfl rfl ?_
        refine ZO.iload_n (pc := 73) 1 d_M_keep_73 rfl rfl ?_
        refine ZO.iload_n (pc := 74) 2 d_M_keep_74 rfl rfl ?_
        refine ZO.iadd (pc := 75) d_M_keep_75 ?_
        refine ZO.iload_n (pc := 76) 2 d_M_keep_76 rfl rfl ?_
        refine ZO.aload_n (pc := 77) 0 d_M_keep_77 rfl rfl ?_
        refine ZO.getI (pc := 78) d_M_keep_78 zo_0 zf_M_14 rfl ?_
        refine ZO.rjn (pcJ := 94) (LJ := fun (x42 : Int32) => ([(0, .ref 0), (2, .int v9), (3, .int x10.1)] : List (Nat × Value))) (SJ := fun (x42 : Int32) => ([.int x42, .int (v9 + x10.1), .ref 152] : List Value)) (σJ := fun (x42 : Int32) => x10.2) (fun x42 => ?_) (fun j46 hj46 => ?_)
        · refine ZO.rgd (fun h43 => ?_)
          refine ZO.iast (pc := 94) d_M_keep_94 za_152 h43 ?_
          refine ZO.ltS (fun s44 => ?_)
          refine ZO.iincL (pc := 95) (i := 2) (x10.1 + (1 : Int32)) (L' := fun v45 => [(0, .ref 0), (2, .int v9), (3, .int v45)]) [1, 2, 0] d_M_keep_95 rfl (by rfl) (by decide) (fun _ => rfl) (fun v45 => ?_)
          refine ZO.goto (pc := 98) 63 d_M_keep_98 (by decide) ?_
          exact hj11 (v45, s44)
        · refine ZO.icmp_ge (pc := 81) 93 d_M_keep_81 (by decide) rfl (fun h47 => ?_) (fun h47 => ?_)
          · refine ZO.iconst (pc := 93) (0 : Int32) d_M_keep_93 (by decide) ?_
            exact hj46 (0 : Int32)
          · refine ZO.aload_n (pc := 84) 0 d_M_keep_84 rfl rfl ?_
            refine ZO.getA (pc := 85) 105 d_M_keep_85 zo_0 zf_M_176 rfl rfl ?_
            refine ZO.iload_n (pc := 88) 2 d_M_keep_88 rfl rfl ?_
            refine ZO.rgd (fun h48 => ?_)
            refine ZO.iald (pc := 89) d_M_keep_89 za_105 h48 ?_
            refine ZO.goto (pc := 90) 94 d_M_keep_90 (by decide) ?_
            exact hj46 (ai x10.2 105 x10.1)
    · refine ZO.aload_n (pc := 38) 0 d_M_keep_38 rfl rfl ?_
      refine ZO.getA (pc := 39) 152 d_M_keep_39 zo_0 zf_M_448 rfl rfl ?_
      refine ZO.iload_n (pc := 42) 1 d_M_keep_42 rfl rfl ?_
      refine ZO.iload_n (pc := 43) 2 d_M_keep_43 rfl rfl ?_
      refine ZO.iadd (pc := 44) d_M_keep_44 ?_
      refine ZO.aload_n (pc := 45) 0 d_M_keep_45 rfl rfl ?_
      refine ZO.getA (pc := 46) 108 d_M_keep_46 zo_0 zf_M_154 rfl rfl ?_
      refine ZO.iload_n (pc := 49) 2 d_M_keep_49 rfl rfl ?_
      refine ZO.rgd (fun h49 => ?_)
      refine ZO.iald (pc := 50) d_M_keep_50 za_108 h49 ?_
      refine ZO.rgd (fun h50 => ?_)
      refine ZO.iast (pc := 51) d_M_keep_51 za_152 h50 ?_
      refine ZO.ltS (fun s51 => ?_)
      refine ZO.iincL (pc := 52) (i := 2) (x6.1 + (1 : Int32)) (L' := fun v52 => [(0, .ref 0), (2, .int v5), (3, .int v52)]) [1, 2, 0] d_M_keep_52 rfl (by rfl) (by decide) (fun _ => rfl) (fun v52 => ?_)
      refine ZO.goto (pc := 55) 33 d_M_keep_55 (by decide) ?_
      exact hj7 (v52, s51)
  · refine ZO.iconst (pc := 17) (0 : Int32) d_M_keep_17 (by decide) ?_
    exact ZO.zret (pc := 18) (v := false) d_M_keep_18 rfl rfl rfl
def f_M_again (n : Nat) (a0 : Int32) (s : ZSt) : Option (Bool × ZSt) :=
  lt (si s 0 0 (0 : Int32)) (fun s1 =>
  (if (f_M_in a0.toInt64 (0 : Int64) (2 : Int64)) = true then
  gd (inb a0 3) (
    (if (ai s1 151 a0) = 0 then
    some (false, s1)
  else lt ((91 : Int32) * a0) (fun v5 =>
      lpN (fun j7 (x6 : Int32 × ZSt) =>
      (if (3 : Int32) ≤ x6.1 then
        lt (v5 + (3 : Int32)) (fun v9 =>
          lpN (fun j11 (x10 : Int32 × ZSt) =>
          (if (12 : Int32) ≤ x10.1 then
            lt (v9 + (12 : Int32)) (fun v13 =>
              lpN (fun j15 (x14 : Int32 × ZSt) =>
              (if (gi x14.2 0 9) ≤ x14.1 then
                lt (v13 + (12 : Int32)) (fun v17 =>
                  gd (inb v17 273) (
                  lt (si x14.2 0 29 (ai x14.2 152 v17)) (fun s19 =>
                  gd (inb (v17 + (1 : Int32)) 273) (
                  lt (si s19 0 27 (ai s19 152 (v17 + (1 : Int32)))) (fun s21 =>
                  lpN (fun j23 (x22 : Int32 × ZSt) =>
                  (if (gi x22.2 0 27) ≤ x22.1 then
                    some (true, x22.2)
                  else gd (inb ((v17 + (2 : Int32)) + x22.1) 273) (
                      gd (inb x22.1 60) (
                      lt (sai x22.2 128 x22.1 (ai x22.2 152 ((v17 + (2 : Int32)) + x22.1))) (fun s27 =>
                      lt (x22.1 + (1 : Int32)) (fun v28 =>
                      j23 (v28, s27))))))) n ((0 : Int32), s21))))))
              else gd (inb (v13 + x14.1) 273) (
                  gd (inb x14.1 6) (
                  lt (sai x14.2 113 x14.1 (ai x14.2 152 (v13 + x14.1))) (fun s31 =>
                  gd (inb ((v13 + (6 : Int32)) + x14.1) 273) (
                  (jn (fun (x33 : Int32) =>
                    lt (sai s31 110 x14.1 x33) (fun s34 =>
                      lt (x14.1 + (1 : Int32)) (fun v35 =>
                      j15 (v35, s34)))) (fun j36 =>
                    if 0 ≤ (ai s31 152 ((v13 + (6 : Int32)) + x14.1)) then
                  j36 (ai s31 152 ((v13 + (6 : Int32)) + x14.1))
                else j36 (ai s31 111 x14.1))))))))) n ((0 : Int32), x10.2))
          else gd (inb (v9 + x10.1) 273) (
              gd (inb x10.1 12) (
              lt (sai x10.2 105 x10.1 (ai x10.2 152 (v9 + x10.1))) (fun s40 =>
              lt (x10.1 + (1 : Int32)) (fun v41 =>
              j11 (v41, s40))))))) n ((0 : Int32), x6.2))
      else gd (inb (v5 + x6.1) 273) (
          gd (inb x6.1 3) (
          lt (sai x6.2 108 x6.1 (ai x6.2 152 (v5 + x6.1))) (fun s44 =>
          lt (x6.1 + (1 : Int32)) (fun v45 =>
          j7 (v45, s44))))))) n ((0 : Int32), s1))))
else some (false, s1)))
set_option maxHeartbeats 4000000 in
set_option maxRecDepth 20000 in
theorem ok_M_again (g : ZG) (n : Nat) (a0 : Int32) (s : ZSt) : ZF g 1 y_M_again [.ref 0, .int a0] s (f_M_again n a0 s) (fun b => some (.int (b2i b.1))) (fun b => b.2) := by
  refine ZF.of (by decide +kernel) (Nat.le_of_ble_eq_true rfl) ?_
  unfold f_M_again
  show ZO g 1 y_M_again zu0 0 [(0, .ref 0), (1, .int a0)] [] s _ _
  refine ZO.aload_n (pc := 0) 0 d_M_again_0 rfl rfl ?_
  refine ZO.iconst (pc := 1) (0 : Int32) d_M_again_1 (by decide) ?_
  refine ZO.putI (pc := 2) d_M_again_2 zo_0 zp_M_3 rfl ?_
  refine ZO.ltS (fun s1 => ?_)
  refine ZO.iload_n (pc := 5) 1 d_M_again_5 rfl rfl ?_
  refine ZO.i2l (pc := 6) d_M_again_6 ?_
  refine ZO.lconst (pc := 7) (0 : Int64) d_M_again_7 (by decide) ?_
  refine ZO.ldc2 (pc := 8) (2 : Int64) d_M_again_8 zk_M_21 ?_
  refine ZO.tSB (pc := 11) (As := [.long a0.toInt64, .long (0 : Int64), .long (2 : Int64)]) (rest := []) d_M_again_11 zc_M_17 (by decide) rfl rfl (Nat.le_of_ble_eq_true rfl) (ok_M_in g a0.toInt64 (0 : Int64) (2 : Int64) s1) ?_
  refine ZO.ifb_eq (pc := 14) 26 d_M_again_14 (by decide) rfl (fun h2 => ?_) (fun h2 => ?_)
  · refine ZO.aload_n (pc := 17) 0 d_M_again_17 rfl rfl ?_
    refine ZO.getA (pc := 18) 151 d_M_again_18 zo_0 zf_M_444 rfl rfl ?_
    refine ZO.iload_n (pc := 21) 1 d_M_again_21 rfl rfl ?_
    refine ZO.rgd (fun h3 => ?_)
    refine ZO.bald (pc := 22) d_M_again_22 za_151 h3 ?_
    refine ZO.if_ne (pc := 23) 28 d_M_again_23 (by decide) rfl (fun h4 => ?_) (fun h4 => ?_)
    · refine ZO.iconst (pc := 26) (0 : Int32) d_M_again_26 (by decide) ?_
      exact ZO.zret (pc := 27) (v := false) d_M_again_27 rfl rfl rfl
    · refine ZO.bipush (pc := 28) (91 : Int32) d_M_again_28 (by decide) ?_
      refine ZO.iload_n (pc := 30) 1 d_M_again_30 rfl rfl ?_
      refine ZO.imul (pc := 31) d_M_again_31 ?_
      refine ZO.ltI (fun v5 => ?_)
      refine ZO.istore_n (pc := 32) (v := v5) (L' := [(0, .ref 0), (1, .int a0), (2, .int v5)]) [1, 2, 0] d_M_again_32 rfl (by decide) rfl ?_
      refine ZO.iconst (pc := 33) (0 : Int32) d_M_again_33 (by decide) ?_
      refine ZO.istore_n (pc := 34) (v := (0 : Int32)) (L' := [(0, .ref 0), (1, .int a0), (2, .int v5), (3, .int (0 : Int32))]) [1, 2, 3, 0] d_M_again_34 rfl (by decide) rfl ?_
      refine ZO.sub (L' := [(0, .ref 0), (2, .int v5), (3, .int (0 : Int32))]) [0, 2, 3] rfl ?_
      refine ZO.loop (fun (x6 : Int32 × ZSt) => ([(0, .ref 0), (2, .int v5), (3, .int x6.1)] : List (Nat × Value))) (fun (x6 : Int32 × ZSt) => x6.2) [] (fun j7 x6 hj7 => ?_) rfl rfl rfl
      refine ZO.iload_n (pc := 35) 2 d_M_again_35 rfl rfl ?_
      refine ZO.iconst (pc := 36) (3 : Int32) d_M_again_36 (by decide) ?_
      refine ZO.icmp_ge (pc := 37) 60 d_M_again_37 (by decide) rfl (fun h8 => ?_) (fun h8 => ?_)
      · refine ZO.iincL (pc := 60) (i := 1) (v5 + (3 : Int32)) (L' := fun v9 => [(0, .ref 0), (2, .int v9), (3, .int x6.1)]) [1, 0, 2] d_M_again_60 rfl (by rfl) (by decide) (fun _ => rfl) (fun v9 => ?_)
        refine ZO.iconst (pc := 63) (0 : Int32) d_M_again_63 (by decide) ?_
        refine ZO.istore_n (pc := 64) (v := (0 : Int32)) (L' := [(0, .ref 0), (2, .int v9), (3, .int (0 : Int32))]) [1, 2, 0] d_M_again_64 rfl (by decide) rfl ?_
        refine ZO.loop (fun (x10 : Int32 × ZSt) => ([(0, .ref 0), (2, .int v9), (3, .int x10.1)] : List (Nat × Value))) (fun (x10 : Int32 × ZSt) => x10.2) [] (fun j11 x10 hj11 => ?_) rfl rfl rfl
        refine ZO.iload_n (pc := 65) 2 d_M_again_65 rfl rfl ?_
        refine ZO.bipush (pc := 66) (12 : Int32) d_M_again_66 (by decide) ?_
        refine ZO.icmp_ge (pc := 68) 91 d_M_again_68 (by decide) rfl (fun h12 => ?_) (fun h12 => ?_)
        · refine ZO.iincL (pc := 91) (i := 1) (v9 + (12 : Int32)) (L' := fun v13 => [(0, .ref 0), (2, .int v13), (3, .int x10.1)]) [1, 0, 2] d_M_again_91 rfl (by rfl) (by decide) (fun _ => rfl) (fun v13 => ?_)
          refine ZO.iconst (pc := 94) (0 : Int32) d_M_again_94 (by decide) ?_
          refine ZO.istore_n (pc := 95) (v := (0 : Int32)) (L' := [(0, .ref 0), (2, .int v13), (3, .int (0 : Int32))]) [1, 2, 0] d_M_again_95 rfl (by decide) rfl ?_
          refine ZO.loop (fun (x14 : Int32 × ZSt) => ([(0, .ref 0), (2, .int v13), (3, .int x14.1)] : List (Nat × Value))) (fun (x14 : Int32 × ZSt) => x14.2) [] (fun j15 x14 hj15 => ?_) rfl rfl rfl
          refine ZO.iload_n (pc := 96) 2 d_M_again_96 rfl rfl ?_
          refine ZO.aload_n (pc := 97) 0 d_M_again_97 rfl rfl ?_
          refine ZO.getI (pc := 98) d_M_again_98 zo_0 zf_M_23 rfl ?_
          refine ZO.icmp_ge (pc := 101) 164 d_M_again_101 (by decide) rfl (fun h16 => ?_) (fun h16 => ?_)
          · refine ZO.iincL (pc := 164) (i := 1) (v13 + (12 : Int32)) (L' := fun v17 => [(0, .ref 0), (2, .int v17), (3, .int x14.1)]) [1, 0, 2] d_M_again_164 rfl (by rfl) (by decide) (fun _ => rfl) (fun v17 => ?_)
            refine ZO.aload_n (pc := 167) 0 d_M_again_167 rfl rfl ?_
            refine ZO.aload_n (pc := 168) 0 d_M_again_168 rfl rfl ?_
            refine ZO.getA (pc := 169) 152 d_M_again_169 zo_0 zf_M_448 rfl rfl ?_
            refine ZO.iload_n (pc := 172) 1 d_M_again_172 rfl rfl ?_
            refine ZO.rgd (fun h18 => ?_)
            refine ZO.iald (pc := 173) d_M_again_173 za_152 h18 ?_
            refine ZO.putI (pc := 174) d_M_again_174 zo_0 zp_M_308 rfl ?_
            refine ZO.ltS (fun s19 => ?_)
            refine ZO.aload_n (pc := 177) 0 d_M_again_177 rfl rfl ?_
            refine ZO.aload_n (pc := 178) 0 d_M_again_178 rfl rfl ?_
            refine ZO.getA (pc := 179) 152 d_M_again_179 zo_0 zf_M_448 rfl rfl ?_
            refine ZO.iload_n (pc := 182) 1 d_M_again_182 rfl rfl ?_
            refine ZO.iconst (pc := 183) (1 : Int32) d_M_again_183 (by decide) ?_
            refine ZO.iadd (pc := 184) d_M_again_184 ?_
            refine ZO.rgd (fun h20 => ?_)
            refine ZO.iald (pc := 185) d_M_again_185 za_152 h20 ?_
            refine ZO.putI (pc := 186) d_M_again_186 zo_0 zp_M_284 rfl ?_
            refine ZO.ltS (fun s21 => ?_)
            refine ZO.iconst (pc := 189) (0 : Int32) d_M_again_189 (by decide) ?_
            refine ZO.istore_n (pc := 190) (v := (0 : Int32)) (L' := [(0, .ref 0), (2, .int v17), (3, .int (0 : Int32))]) [1, 2, 0] d_M_again_190 rfl (by decide) rfl ?_
            refine ZO.loop (fun (x22 : Int32 × ZSt) => ([(0, .ref 0), (2, .int v17), (3, .int x22.1)] : List (Nat × Value))) (fun (x22 : Int32 × ZSt) => x22.2) [] (fun j23 x22 hj23 => ?_) rfl rfl rfl
            refine ZO.iload_n (pc := 191) 2 d_M_again_191 rfl rfl ?_
            refine ZO.aload_n (pc := 192) 0 d_M_again_192 rfl rfl ?_
            refine ZO.getI (pc := 193) d_M_again_193 zo_0 zf_M_284 rfl ?_
            refine ZO.icmp_ge (pc := 196) 221 d_M_again_196 (by decide) rfl (fun h24 => ?_) (fun h24 => ?_)
            · refine ZO.iconst (pc := 221) (1 : Int32) d_M_again_221 (by decide) ?_
              exact ZO.zret (pc := 222) (v := true) d_M_again_222 rfl rfl rfl
            · refine ZO.aload_n (pc := 199) 0 d_M_again_199 rfl rfl ?_
              refine ZO.getA (pc := 200) 128 d_M_again_200 zo_0 zf_M_287 rfl rfl ?_
              refine ZO.iload_n (pc := 203) 2 d_M_again_203 rfl rfl ?_
              refine ZO.aload_n (pc := 204) 0 d_M_again_204 rfl rfl ?_
              refine ZO.getA (pc := 205) 152 d_M_again_205 zo_0 zf_M_448 rfl rfl ?_
              refine ZO.iload_n (pc := 208) 1 d_M_again_208 rfl rfl ?_
              refine ZO.iconst (pc := 209) (2 : Int32) d_M_again_209 (by decide) ?_
              refine ZO.iadd (pc := 210) d_M_again_210 ?_
              refine ZO.iload_n (pc := 211) 2 d_M_again_211 rfl rfl ?_
              refine ZO.iadd (pc := 212) d_M_again_212 ?_
              refine ZO.rgd (fun h25 => ?_)
              refine ZO.iald (pc := 213) d_M_again_213 za_152 h25 ?_
              refine ZO.rgd (fun h26 => ?_)
              refine ZO.iast (pc := 214) d_M_again_214 za_128 h26 ?_
              refine ZO.ltS (fun s27 => ?_)
              refine ZO.iincL (pc := 215) (i := 2) (x22.1 + (1 : Int32)) (L' := fun v28 => [(0, .ref 0), (2, .int v17), (3, .int v28)]) [1, 2, 0] d_M_again_215 rfl (by rfl) (by decide) (fun _ => rfl) (fun v28 => ?_)
              refine ZO.goto (pc := 218) 191 d_M_again_218 (by decide) ?_
              exact hj23 (v28, s27)
          · refine ZO.aload_n (pc := 104) 0 d_M_again_104 rfl rfl ?_
            refine ZO.getA (pc := 105) 113 d_M_again_105 zo_0 zf_M_26 rfl rfl ?_
            refine ZO.iload_n (pc := 108) 2 d_M_again_108 rfl rfl ?_
            refine ZO.aload_n (pc := 109) 0 d_M_again_109 rfl rfl ?_
            refine ZO.getA (pc := 110) 152 d_M_again_110 zo_0 zf_M_448 rfl rfl ?_
            refine ZO.iload_n (pc := 113) 1 d_M_again_113 rfl rfl ?_
            refine ZO.iload_n (pc := 114) 2 d_M_again_114 rfl rfl ?_
            refine ZO.iadd (pc := 115) d_M_again_115 ?_
            refine ZO.rgd (fun h29 => ?_)
            refine ZO.iald (pc := 116) d_M_again_116 za_152 h29 ?_
            refine ZO.rgd (fun h30 => ?_)
            refine ZO.iast (pc := 117) d_M_again_117 za_113 h30 ?_
            refine ZO.ltS (fun s31 => ?_)
            refine ZO.aload_n (pc := 118) 0 d_M_again_118 rfl rfl ?_
            refine ZO.getA (pc := 119) 110 d_M_again_119 zo_0 zf_M_257 rfl rfl ?_
            refine ZO.iload_n (pc := 122) 2 d_M_again_122 rfl rfl ?_
            refine ZO.aload_n (pc := 123) 0 d_M_again_123 rfl rfl ?_
            refine ZO.getA (pc := 124) 152 d_M_again_124 zo_0 zf_M_448 rfl rfl ?_
            refine ZO.iload_n (pc := 127) 1 d_M_again_127 rfl rfl ?_
            refine ZO.bipush (pc := 128) (6 : Int32) d_M_again_128 (by decide) ?_
            refine ZO.iadd (pc := 130) d_M_again_130 ?_
            refine ZO.iload_n (pc := 131) 2 d_M_again_131 rfl rfl ?_
            refine ZO.iadd (pc := 132) d_M_again_132 ?_
            refine ZO.rgd (fun h32 => ?_)
            refine ZO.iald (pc := 133) d_M_again_133 za_152 h32 ?_
            refine ZO.rjn (pcJ := 157) (LJ := fun (x33 : Int32) => ([(0, .ref 0), (2, .int v13), (3, .int x14.1)] : List (Nat × Value))) (SJ := fun (x33 : Int32) => ([.int x33, .int x14.1, .ref 110] : List Value)) (σJ := fun (x33 : Int32) => s31) (fun x33 => ?_) (fun j36 hj36 => ?_)
            · refine ZO.iast (pc := 157) d_M_again_157 za_110 h30 ?_
              refine ZO.ltS (fun s34 => ?_)
              refine ZO.iincL (pc := 158) (i := 2) (x14.1 + (1 : Int32)) (L' := fun v35 => [(0, .ref 0), (2, .int v13), (3, .int v35)]) [1, 2, 0] d_M_again_158 rfl (by rfl) (by decide) (fun _ => rfl) (fun v35 => ?_)
              refine ZO.goto (pc := 161) 96 d_M_again_161 (by decide) ?_
              exact hj15 (v35, s34)
            · refine ZO.if_ge (pc := 134) 146 d_M_again_134 (by decide) rfl (fun h37 => ?_) (fun h37 => ?_)
              · refine ZO.aload_n (pc := 146) 0 d_M_again_146 rfl rfl ?_
                refine ZO.getA (pc := 147) 152 d_M_again_147 zo_0 zf_M_448 rfl rfl ?_
                refine ZO.iload_n (pc := 150) 1 d_M_again_150 rfl rfl ?_
                refine ZO.bipush (pc := 151) (6 : Int32) d_M_again_151 (by decide) ?_
                refine ZO.iadd (pc := 153) d_M_again_153 ?_
                refine ZO.iload_n (pc := 154) 2 d_M_again_154 rfl rfl ?_
                refine ZO.iadd (pc := 155) d_M_again_155 ?_
                refine ZO.iald (pc := 156) d_M_again_156 za_152 h32 ?_
                exact hj36 (ai s31 152 ((v13 + (6 : Int32)) + x14.1))
              · refine ZO.aload_n (pc := 137) 0 d_M_again_137 rfl rfl ?_
                refine ZO.getA (pc := 138) 111 d_M_again_138 zo_0 zf_M_260 rfl rfl ?_
                refine ZO.iload_n (pc := 141) 2 d_M_again_141 rfl rfl ?_
                refine ZO.iald (pc := 142) d_M_again_142 za_111 h30 ?_
                refine ZO.goto (pc := 143) 157 d_M_again_143 (by decide) ?_
                exact hj36 (ai s31 111 x14.1)
        · refine ZO.aload_n (pc := 71) 0 d_M_again_71 rfl rfl ?_
          refine ZO.getA (pc := 72) 105 d_M_again_72 zo_0 zf_M_176 rfl rfl ?_
          refine ZO.iload_n (pc := 75) 2 d_M_again_75 rfl rfl ?_
          refine ZO.aload_n (pc := 76) 0 d_M_again_76 rfl rfl ?_
          refine ZO.getA (pc := 77) 152 d_M_again_77 zo_0 zf_M_448 rfl rfl ?_
          refine ZO.iload_n (pc := 80) 1 d_M_again_80 rfl rfl ?_
          refine ZO.iload_n (pc := 81) 2 d_M_again_81 rfl rfl ?_
          refine ZO.iadd (pc := 82) d_M_again_82 ?_
          refine ZO.rgd (fun h38 => ?_)
          refine ZO.iald (pc := 83) d_M_again_83 za_152 h38 ?_
          refine ZO.rgd (fun h39 => ?_)
          refine ZO.iast (pc := 84) d_M_again_84 za_105 h39 ?_
          refine ZO.ltS (fun s40 => ?_)
          refine ZO.iincL (pc := 85) (i := 2) (x10.1 + (1 : Int32)) (L' := fun v41 => [(0, .ref 0), (2, .int v9), (3, .int v41)]) [1, 2, 0] d_M_again_85 rfl (by rfl) (by decide) (fun _ => rfl) (fun v41 => ?_)
          refine ZO.goto (pc := 88) 65 d_M_again_88 (by decide) ?_
          exact hj11 (v41, s40)
      · refine ZO.aload_n (pc := 40) 0 d_M_again_40 rfl rfl ?_
        refine ZO.getA (pc := 41) 108 d_M_again_41 zo_0 zf_M_154 rfl rfl ?_
        refine ZO.iload_n (pc := 44) 2 d_M_again_44 rfl rfl ?_
        refine ZO.aload_n (pc := 45) 0 d_M_again_45 rfl rfl ?_
        refine ZO.getA (pc := 46) 152 d_M_again_46 zo_0 zf_M_448 rfl rfl ?_
        refine ZO.iload_n (pc := 49) 1 d_M_again_49 rfl rfl ?_
        refine ZO.iload_n (pc := 50) 2 d_M_again_50 rfl rfl ?_
        refine ZO.iadd (pc := 51) d_M_again_51 ?_
        refine ZO.rgd (fun h42 => ?_)
        refine ZO.iald (pc := 52) d_M_again_52 za_152 h42 ?_
        refine ZO.rgd (fun h43 => ?_)
        refine ZO.iast (pc := 53) d_M_again_53 za_108 h43 ?_
        refine ZO.ltS (fun s44 => ?_)
        refine ZO.iincL (pc := 54) (i := 2) (x6.1 + (1 : Int32)) (L' := fun v45 => [(0, .ref 0), (2, .int v5), (3, .int v45)]) [1, 2, 0] d_M_again_54 rfl (by rfl) (by decide) (fun _ => rfl) (fun v45 => ?_)
        refine ZO.goto (pc := 57) 35 d_M_again_57 (by decide) ?_
        exact hj7 (v45, s44)
  · refine ZO.iconst (pc := 26) (0 : Int32) d_M_again_26 (by decide) ?_
    exact ZO.zret (pc := 27) (v := false) d_M_again_27 rfl rfl rfl
def f_M_count (a0 : Int32) (s : ZSt) : Option (Int32 × ZSt) :=
  lt (si s 0 0 (0 : Int32)) (fun s1 =>
  (if a0 = (0 : Int32) then
  some ((gi s1 0 3), s1)
else if a0 = (1 : Int32) then
  some ((gi s1 0 9), s1)
else if a0 = (2 : Int32) then
  some ((gi s1 0 29), s1)
else if a0 = (3 : Int32) then
  some ((((ai s1 108 (0 : Int32)) ||| (ai s1 108 (1 : Int32))) ||| (ai s1 108 (2 : Int32))), s1)
else if a0 = (4 : Int32) then
  some ((gi s1 0 27), s1)
else if a0 = (5 : Int32) then
  some ((gi s1 0 1), s1)
else if a0 = (6 : Int32) then
  some ((gi s1 0 18), s1)
else some ((-1 : Int32), s1)))
set_option maxHeartbeats 4000000 in
set_option maxRecDepth 20000 in
theorem ok_M_count (g : ZG) (a0 : Int32) (s : ZSt) : ZF g 0 y_M_count [.ref 0, .int a0] s (f_M_count a0 s) (fun b => some (.int b.1)) (fun b => b.2) := by
  refine ZF.of (by decide +kernel) (Nat.le_of_ble_eq_true rfl) ?_
  unfold f_M_count
  show ZO g 0 y_M_count zu0 0 [(0, .ref 0), (1, .int a0)] [] s _ _
  refine ZO.aload_n (pc := 0) 0 d_M_count_0 rfl rfl ?_
  refine ZO.iconst (pc := 1) (0 : Int32) d_M_count_1 (by decide) ?_
  refine ZO.putI (pc := 2) d_M_count_2 zo_0 zp_M_3 rfl ?_
  refine ZO.ltS (fun s1 => ?_)
  refine ZO.iload_n (pc := 5) 1 d_M_count_5 rfl rfl ?_
  refine ZO.split (c0 := a0 = (0 : Int32)) rfl (fun h2 => ?_) (fun h2 => ?_)
  · refine ZO.tswI (pc := 6) 48 (0 : Int32) h2 d_M_count_6 (by decide) (by decide) (by decide) ?_
    refine ZO.aload_n (pc := 48) 0 d_M_count_48 rfl rfl ?_
    refine ZO.getI (pc := 49) d_M_count_49 zo_0 zf_M_14 rfl ?_
    exact ZO.iret (pc := 52)  d_M_count_52 rfl rfl rfl
  refine ZO.split (c0 := a0 = (1 : Int32)) rfl (fun h3 => ?_) (fun h3 => ?_)
  · refine ZO.tswI (pc := 6) 53 (1 : Int32) h3 d_M_count_6 (by decide) (by decide) (by decide) ?_
    refine ZO.aload_n (pc := 53) 0 d_M_count_53 rfl rfl ?_
    refine ZO.getI (pc := 54) d_M_count_54 zo_0 zf_M_23 rfl ?_
    exact ZO.iret (pc := 57)  d_M_count_57 rfl rfl rfl
  refine ZO.split (c0 := a0 = (2 : Int32)) rfl (fun h4 => ?_) (fun h4 => ?_)
  · refine ZO.tswI (pc := 6) 58 (2 : Int32) h4 d_M_count_6 (by decide) (by decide) (by decide) ?_
    refine ZO.aload_n (pc := 58) 0 d_M_count_58 rfl rfl ?_
    refine ZO.getI (pc := 59) d_M_count_59 zo_0 zf_M_308 rfl ?_
    exact ZO.iret (pc := 62)  d_M_count_62 rfl rfl rfl
  refine ZO.split (c0 := a0 = (3 : Int32)) rfl (fun h5 => ?_) (fun h5 => ?_)
  · refine ZO.tswI (pc := 6) 63 (3 : Int32) h5 d_M_count_6 (by decide) (by decide) (by decide) ?_
    refine ZO.aload_n (pc := 63) 0 d_M_count_63 rfl rfl ?_
    refine ZO.getA (pc := 64) 108 d_M_count_64 zo_0 zf_M_154 rfl rfl ?_
    refine ZO.iconst (pc := 67) (0 : Int32) d_M_count_67 (by decide) ?_
    refine ZO.iald (pc := 68) d_M_count_68 za_108 (by decide) ?_
    refine ZO.aload_n (pc := 69) 0 d_M_count_69 rfl rfl ?_
    refine ZO.getA (pc := 70) 108 d_M_count_70 zo_0 zf_M_154 rfl rfl ?_
    refine ZO.iconst (pc := 73) (1 : Int32) d_M_count_73 (by decide) ?_
    refine ZO.iald (pc := 74) d_M_count_74 za_108 (by decide) ?_
    refine ZO.ior (pc := 75) d_M_count_75 ?_
    refine ZO.aload_n (pc := 76) 0 d_M_count_76 rfl rfl ?_
    refine ZO.getA (pc := 77) 108 d_M_count_77 zo_0 zf_M_154 rfl rfl ?_
    refine ZO.iconst (pc := 80) (2 : Int32) d_M_count_80 (by decide) ?_
    refine ZO.iald (pc := 81) d_M_count_81 za_108 (by decide) ?_
    refine ZO.ior (pc := 82) d_M_count_82 ?_
    exact ZO.iret (pc := 83)  d_M_count_83 rfl rfl rfl
  refine ZO.split (c0 := a0 = (4 : Int32)) rfl (fun h6 => ?_) (fun h6 => ?_)
  · refine ZO.tswI (pc := 6) 84 (4 : Int32) h6 d_M_count_6 (by decide) (by decide) (by decide) ?_
    refine ZO.aload_n (pc := 84) 0 d_M_count_84 rfl rfl ?_
    refine ZO.getI (pc := 85) d_M_count_85 zo_0 zf_M_284 rfl ?_
    exact ZO.iret (pc := 88)  d_M_count_88 rfl rfl rfl
  refine ZO.split (c0 := a0 = (5 : Int32)) rfl (fun h7 => ?_) (fun h7 => ?_)
  · refine ZO.tswI (pc := 6) 89 (5 : Int32) h7 d_M_count_6 (by decide) (by decide) (by decide) ?_
    refine ZO.aload_n (pc := 89) 0 d_M_count_89 rfl rfl ?_
    refine ZO.getI (pc := 90) d_M_count_90 zo_0 zf_M_11 rfl ?_
    exact ZO.iret (pc := 93)  d_M_count_93 rfl rfl rfl
  refine ZO.split (c0 := a0 = (6 : Int32)) rfl (fun h8 => ?_) (fun h8 => ?_)
  · refine ZO.tswI (pc := 6) 94 (6 : Int32) h8 d_M_count_6 (by decide) (by decide) (by decide) ?_
    refine ZO.aload_n (pc := 94) 0 d_M_count_94 rfl rfl ?_
    refine ZO.getI (pc := 95) d_M_count_95 zo_0 zf_M_37 rfl ?_
    exact ZO.iret (pc := 98)  d_M_count_98 rfl rfl rfl
  refine ZO.tswO (pc := 6) 99 d_M_count_6 (by have q0 := lv_neT h2 (show (0 : Int32).toInt = 0 by decide); have q1 := lv_neT h3 (show (1 : Int32).toInt = 1 by decide); have q2 := lv_neT h4 (show (2 : Int32).toInt = 2 by decide); have q3 := lv_neT h5 (show (3 : Int32).toInt = 3 by decide); have q4 := lv_neT h6 (show (4 : Int32).toInt = 4 by decide); have q5 := lv_neT h7 (show (5 : Int32).toInt = 5 by decide); have q6 := lv_neT h8 (show (6 : Int32).toInt = 6 by decide); omega) (by decide) ?_
  refine ZO.iconst (pc := 99) (-1 : Int32) d_M_count_99 (by decide) ?_
  exact ZO.iret (pc := 100)  d_M_count_100 rfl rfl rfl
def f_M_row (a0 : Int32) (s : ZSt) : Option (Int32 × ZSt) :=
  lt (si s 0 0 (0 : Int32)) (fun s1 =>
  (if (f_M_in a0.toInt64 (0 : Int64) (((gi s1 0 1) - (1 : Int32)).toInt64)) = true then
  gd (inb a0 20) (
    some ((ai s1 102 a0), s1))
else lt (si s1 0 0 (1 : Int32)) (fun s4 =>
    some ((0 : Int32), s4))))
set_option maxHeartbeats 4000000 in
set_option maxRecDepth 20000 in
theorem ok_M_row (g : ZG) (a0 : Int32) (s : ZSt) : ZF g 1 y_M_row [.ref 0, .int a0] s (f_M_row a0 s) (fun b => some (.int b.1)) (fun b => b.2) := by
  refine ZF.of (by decide +kernel) (Nat.le_of_ble_eq_true rfl) ?_
  unfold f_M_row
  show ZO g 1 y_M_row zu0 0 [(0, .ref 0), (1, .int a0)] [] s _ _
  refine ZO.aload_n (pc := 0) 0 d_M_row_0 rfl rfl ?_
  refine ZO.iconst (pc := 1) (0 : Int32) d_M_row_1 (by decide) ?_
  refine ZO.putI (pc := 2) d_M_row_2 zo_0 zp_M_3 rfl ?_
  refine ZO.ltS (fun s1 => ?_)
  refine ZO.iload_n (pc := 5) 1 d_M_row_5 rfl rfl ?_
  refine ZO.i2l (pc := 6) d_M_row_6 ?_
  refine ZO.lconst (pc := 7) (0 : Int64) d_M_row_7 (by decide) ?_
  refine ZO.aload_n (pc := 8) 0 d_M_row_8 rfl rfl ?_
  refine ZO.getI (pc := 9) d_M_row_9 zo_0 zf_M_11 rfl ?_
  refine ZO.iconst (pc := 12) (1 : Int32) d_M_row_12 (by decide) ?_
  refine ZO.isub (pc := 13) d_M_row_13 ?_
  refine ZO.i2l (pc := 14) d_M_row_14 ?_
  refine ZO.tSB (pc := 15) (As := [.long a0.toInt64, .long (0 : Int64), .long ((gi s1 0 1) - (1 : Int32)).toInt64]) (rest := []) d_M_row_15 zc_M_17 (by decide) rfl rfl (Nat.le_of_ble_eq_true rfl) (ok_M_in g a0.toInt64 (0 : Int64) (((gi s1 0 1) - (1 : Int32)).toInt64) s1) ?_
  refine ZO.ifb_ne (pc := 18) 28 d_M_row_18 (by decide) rfl (fun h2 => ?_) (fun h2 => ?_)
  · refine ZO.aload_n (pc := 28) 0 d_M_row_28 rfl rfl ?_
    refine ZO.getA (pc := 29) 102 d_M_row_29 zo_0 zf_M_7 rfl rfl ?_
    refine ZO.iload_n (pc := 32) 1 d_M_row_32 rfl rfl ?_
    refine ZO.rgd (fun h3 => ?_)
    refine ZO.iald (pc := 33) d_M_row_33 za_102 h3 ?_
    exact ZO.iret (pc := 34)  d_M_row_34 rfl rfl rfl
  · refine ZO.aload_n (pc := 21) 0 d_M_row_21 rfl rfl ?_
    refine ZO.iconst (pc := 22) (1 : Int32) d_M_row_22 (by decide) ?_
    refine ZO.putI (pc := 23) d_M_row_23 zo_0 zp_M_3 rfl ?_
    refine ZO.ltS (fun s4 => ?_)
    refine ZO.iconst (pc := 26) (0 : Int32) d_M_row_26 (by decide) ?_
    exact ZO.iret (pc := 27)  d_M_row_27 rfl rfl rfl
