def f_E_copy (o : Nat) (a0 : Nat) (s : ZSt) : Option ZSt :=
  gd (z_isO o 1) (gd (z_isO a0 1) (lt (cpyA s (a0 + 80) (o + 80) (60 : Int32).toNatClampNeg) (fun s1 =>
  lt (si s1 o 2 (gi s1 a0 2)) (fun s2 =>
  some s2))))
set_option maxHeartbeats 4000000 in
set_option maxRecDepth 20000 in
theorem ok_E_copy (g : ZG) (o : Nat) (a0 : Nat) (s : ZSt) : ZF g 1 y_E_copy [.ref o, .ref a0] s (f_E_copy o a0 s) (fun _ => none) (fun b => b) := by
  refine ZF.of (by decide +kernel) (Nat.le_of_ble_eq_true rfl) ?_
  unfold f_E_copy
  show ZO g 1 y_E_copy zu0 0 [(0, .ref o), (1, .ref a0)] [] s _ _
  refine ZO.rgd (fun ho => ?_)
  refine ZO.rgd (fun ha0 => ?_)
  refine ZO.aload_n (pc := 0) 1 d_E_copy_0 rfl rfl ?_
  refine ZO.getA (pc := 1) (a0 + 80) d_E_copy_1 ha0 zf_E_9 rfl rfl ?_
  refine ZO.iconst (pc := 4) (0 : Int32) d_E_copy_4 (by decide) ?_
  refine ZO.aload_n (pc := 5) 0 d_E_copy_5 rfl rfl ?_
  refine ZO.getA (pc := 6) (o + 80) d_E_copy_6 ho zf_E_9 rfl rfl ?_
  refine ZO.iconst (pc := 9) (0 : Int32) d_E_copy_9 (by decide) ?_
  refine ZO.aload_n (pc := 10) 0 d_E_copy_10 rfl rfl ?_
  refine ZO.getA (pc := 11) (o + 80) d_E_copy_11 ho zf_E_9 rfl rfl ?_
  refine ZO.alen (pc := 14) (60 : Int32) d_E_copy_14 (ze_c ho) (by decide) ?_
  refine ZO.acopy (pc := 15) (nn := (60 : Int32)) d_E_copy_15 zy_E_22 (ze_c ha0) (ze_c ho) (by decide) (by decide) rfl ?_
  refine ZO.ltS (fun s1 => ?_)
  refine ZO.aload_n (pc := 18) 0 d_E_copy_18 rfl rfl ?_
  refine ZO.aload_n (pc := 19) 1 d_E_copy_19 rfl rfl ?_
  refine ZO.getI (pc := 20) d_E_copy_20 ha0 zf_E_18 rfl ?_
  refine ZO.putI (pc := 23) d_E_copy_23 ho zp_E_18 rfl ?_
  refine ZO.ltS (fun s2 => ?_)
  exact ZO.vret (pc := 26) d_E_copy_26 rfl rfl rfl
def f_B_tell (o : Nat) (s : ZSt) : Option ZSt :=
  gd (z_isO o 0) (bn (f_E_copy (o + 20) 353 s) (fun p1 =>
  bn (f_E_copy (o + 40) 354 p1) (fun p2 =>
  lt (si p2 o 2 (gi p2 200 2)) (fun s3 =>
  some s3))))
set_option maxHeartbeats 4000000 in
set_option maxRecDepth 20000 in
theorem ok_B_tell (g : ZG) (o : Nat) (s : ZSt) : ZF g 2 y_B_tell [.ref o, .ref 200] s (f_B_tell o s) (fun _ => none) (fun b => b) := by
  refine ZF.of (by decide +kernel) (Nat.le_of_ble_eq_true rfl) ?_
  unfold f_B_tell
  show ZO g 2 y_B_tell zu0 0 [(0, .ref o), (1, .ref 200)] [] s _ _
  refine ZO.rgd (fun ho => ?_)
  refine ZO.aload_n (pc := 0) 0 d_B_tell_0 rfl rfl ?_
  refine ZO.getA (pc := 1) (o + 20) d_B_tell_1 ho zf_B_12 rfl rfl ?_
  refine ZO.aload_n (pc := 4) 1 d_B_tell_4 rfl rfl ?_
  refine ZO.getA (pc := 5) 353 d_B_tell_5 zo_200 zf_B_25 rfl rfl ?_
  refine ZO.cVV (pc := 8) (As := [.ref 353]) (rest := []) d_B_tell_8 zc_B_28 (by decide) (zb_f ho) rfl rfl rfl (Nat.le_of_ble_eq_true rfl) (ok_E_copy g (o + 20) 353 s) (fun p1 ep1 => ?_)
  refine ZO.aload_n (pc := 11) 0 d_B_tell_11 rfl rfl ?_
  refine ZO.getA (pc := 12) (o + 40) d_B_tell_12 ho zf_B_18 rfl rfl ?_
  refine ZO.aload_n (pc := 15) 1 d_B_tell_15 rfl rfl ?_
  refine ZO.getA (pc := 16) 354 d_B_tell_16 zo_200 zf_B_32 rfl rfl ?_
  refine ZO.cVV (pc := 19) (As := [.ref 354]) (rest := []) d_B_tell_19 zc_B_28 (by decide) (zb_s ho) rfl rfl rfl (Nat.le_of_ble_eq_true rfl) (ok_E_copy g (o + 40) 354 p1) (fun p2 ep2 => ?_)
  refine ZO.aload_n (pc := 22) 0 d_B_tell_22 rfl rfl ?_
  refine ZO.aload_n (pc := 23) 1 d_B_tell_23 rfl rfl ?_
  refine ZO.getI (pc := 24) d_B_tell_24 zo_200 zf_B_33 rfl ?_
  refine ZO.putI (pc := 27) d_B_tell_27 ho zp_B_36 rfl ?_
  refine ZO.ltS (fun s3 => ?_)
  exact ZO.vret (pc := 30) d_B_tell_30 rfl rfl rfl
def f_B_isLater (o : Nat) (s : ZSt) : Option Bool :=
  gd (z_isO o 0) ((jn (fun (x1 : Unit) =>
    some false) (fun j2 =>
    if (gi s o 2) ≤ 0 then
  j2 ()
else (if (gi s o 5) < (gi s o 2) then
    j2 ()
  else some true))))
set_option maxHeartbeats 4000000 in
set_option maxRecDepth 20000 in
theorem ok_B_isLater (g : ZG) (o : Nat) (s : ZSt) : ZF g 0 y_B_isLater [.ref o] s (f_B_isLater o s) (fun b => some (.int (b2i b))) (fun _ => s) := by
  refine ZF.of (by decide +kernel) (Nat.le_of_ble_eq_true rfl) ?_
  unfold f_B_isLater
  show ZO g 0 y_B_isLater zu0 0 [(0, .ref o)] [] s _ _
  refine ZO.rgd (fun ho => ?_)
  refine ZO.aload_n (pc := 0) 0 d_B_isLater_0 rfl rfl ?_
  refine ZO.getI (pc := 1) d_B_isLater_1 ho zf_B_36 rfl ?_
  refine ZO.rjn (pcJ := 22) (LJ := fun (x1 : Unit) => ([] : List (Nat × Value))) (SJ := fun (x1 : Unit) => ([] : List Value)) (σJ := fun (x1 : Unit) => s) (fun x1 => ?_) (fun j2 hj2 => ?_)
  · refine ZO.iconst (pc := 22) (0 : Int32) d_B_isLater_22 (by decide) ?_
    exact ZO.zret (pc := 23) (v := false) d_B_isLater_23 rfl rfl rfl
  · refine ZO.if_le (pc := 4) 22 d_B_isLater_4 (by decide) rfl (fun h3 => ?_) (fun h3 => ?_)
    · exact ZO.sub [] rfl (hj2 ())
    · refine ZO.aload_n (pc := 7) 0 d_B_isLater_7 rfl rfl ?_
      refine ZO.getI (pc := 8) d_B_isLater_8 ho zf_B_37 rfl ?_
      refine ZO.aload_n (pc := 11) 0 d_B_isLater_11 rfl rfl ?_
      refine ZO.getI (pc := 12) d_B_isLater_12 ho zf_B_36 rfl ?_
      refine ZO.icmp_lt (pc := 15) 22 d_B_isLater_15 (by decide) rfl (fun h4 => ?_) (fun h4 => ?_)
      · exact ZO.sub [] rfl (hj2 ())
      · refine ZO.iconst (pc := 18) (1 : Int32) d_B_isLater_18 (by decide) ?_
        refine ZO.goto (pc := 19) 23 d_B_isLater_19 (by decide) ?_
        exact ZO.zret (pc := 23) (v := true) d_B_isLater_23 rfl rfl rfl
def f_B_condition (o : Nat) (s : ZSt) : Option Nat :=
  gd (z_isO o 0) (bn (f_B_isLater o s) (fun p1 =>
  (if p1 = true then
  some (o + 40)
else some (o + 20))))
set_option maxHeartbeats 4000000 in
set_option maxRecDepth 20000 in
theorem ok_B_condition (g : ZG) (o : Nat) (s : ZSt) : ZF g 1 y_B_condition [.ref o] s (f_B_condition o s) (fun b => some (.ref b)) (fun _ => s) := by
  refine ZF.of (by decide +kernel) (Nat.le_of_ble_eq_true rfl) ?_
  unfold f_B_condition
  show ZO g 1 y_B_condition zu0 0 [(0, .ref o)] [] s _ _
  refine ZO.rgd (fun ho => ?_)
  refine ZO.aload_n (pc := 0) 0 d_B_condition_0 rfl rfl ?_
  refine ZO.cVB (pc := 1) (As := []) (rest := []) d_B_condition_1 zc_B_40 (by decide) ho rfl rfl rfl (Nat.le_of_ble_eq_true rfl) (ok_B_isLater g o s) (fun p1 ep1 => ?_)
  refine ZO.ifb_eq (pc := 4) 14 d_B_condition_4 (by decide) rfl (fun h2 => ?_) (fun h2 => ?_)
  · refine ZO.aload_n (pc := 7) 0 d_B_condition_7 rfl rfl ?_
    refine ZO.getA (pc := 8) (o + 40) d_B_condition_8 ho zf_B_18 rfl rfl ?_
    refine ZO.goto (pc := 11) 18 d_B_condition_11 (by decide) ?_
    exact ZO.aret (pc := 18)  d_B_condition_18 rfl rfl rfl
  · refine ZO.aload_n (pc := 14) 0 d_B_condition_14 rfl rfl ?_
    refine ZO.getA (pc := 15) (o + 20) d_B_condition_15 ho zf_B_12 rfl rfl ?_
    exact ZO.aret (pc := 18)  d_B_condition_18 rfl rfl rfl
def f_E_clear (o : Nat) (s : ZSt) : Option ZSt :=
  gd (z_isO o 1) (lt (si s o 2 (0 : Int32)) (fun s1 =>
  some s1))
set_option maxHeartbeats 4000000 in
set_option maxRecDepth 20000 in
theorem ok_E_clear (g : ZG) (o : Nat) (s : ZSt) : ZF g 0 y_E_clear [.ref o] s (f_E_clear o s) (fun _ => none) (fun b => b) := by
  refine ZF.of (by decide +kernel) (Nat.le_of_ble_eq_true rfl) ?_
  unfold f_E_clear
  show ZO g 0 y_E_clear zu0 0 [(0, .ref o)] [] s _ _
  refine ZO.rgd (fun ho => ?_)
  refine ZO.aload_n (pc := 0) 0 d_E_clear_0 rfl rfl ?_
  refine ZO.iconst (pc := 1) (0 : Int32) d_E_clear_1 (by decide) ?_
  refine ZO.putI (pc := 2) d_E_clear_2 ho zp_E_18 rfl ?_
  refine ZO.ltS (fun s1 => ?_)
  exact ZO.vret (pc := 5) d_E_clear_5 rfl rfl rfl
def f_E_append (o : Nat) (a0 : Int32) (s : ZSt) : Option ZSt :=
  gd (z_isO o 1) ((if (60 : Int32) ≤ (gi s o 2) then
  some s
else gd (inb (gi s o 2) 60) (
    lt (sai s (o + 80) (gi s o 2) a0) (fun s3 =>
    lt (si s3 o 2 ((gi s3 o 2) + (1 : Int32))) (fun s4 =>
    some s4)))))
set_option maxHeartbeats 4000000 in
set_option maxRecDepth 20000 in
theorem ok_E_append (g : ZG) (o : Nat) (a0 : Int32) (s : ZSt) : ZF g 0 y_E_append [.ref o, .int a0] s (f_E_append o a0 s) (fun _ => none) (fun b => b) := by
  refine ZF.of (by decide +kernel) (Nat.le_of_ble_eq_true rfl) ?_
  unfold f_E_append
  show ZO g 0 y_E_append zu0 0 [(0, .ref o), (1, .int a0)] [] s _ _
  refine ZO.rgd (fun ho => ?_)
  refine ZO.aload_n (pc := 0) 0 d_E_append_0 rfl rfl ?_
  refine ZO.getI (pc := 1) d_E_append_1 ho zf_E_18 rfl ?_
  refine ZO.aload_n (pc := 4) 0 d_E_append_4 rfl rfl ?_
  refine ZO.getA (pc := 5) (o + 80) d_E_append_5 ho zf_E_9 rfl rfl ?_
  refine ZO.alen (pc := 8) (60 : Int32) d_E_append_8 (ze_c ho) (by decide) ?_
  refine ZO.icmp_ge (pc := 9) 32 d_E_append_9 (by decide) rfl (fun h1 => ?_) (fun h1 => ?_)
  · exact ZO.vret (pc := 32) d_E_append_32 rfl rfl rfl
  · refine ZO.aload_n (pc := 12) 0 d_E_append_12 rfl rfl ?_
    refine ZO.getA (pc := 13) (o + 80) d_E_append_13 ho zf_E_9 rfl rfl ?_
    refine ZO.aload_n (pc := 16) 0 d_E_append_16 rfl rfl ?_
    refine ZO.getI (pc := 17) d_E_append_17 ho zf_E_18 rfl ?_
    refine ZO.iload_n (pc := 20) 1 d_E_append_20 rfl rfl ?_
    refine ZO.rgd (fun h2 => ?_)
    refine ZO.iast (pc := 21) d_E_append_21 (ze_c ho) h2 ?_
    refine ZO.ltS (fun s3 => ?_)
    refine ZO.aload_n (pc := 22) 0 d_E_append_22 rfl rfl ?_
    refine ZO.dup (pc := 23) d_E_append_23 rfl ?_
    refine ZO.getI (pc := 24) d_E_append_24 ho zf_E_18 rfl ?_
    refine ZO.iconst (pc := 27) (1 : Int32) d_E_append_27 (by decide) ?_
    refine ZO.iadd (pc := 28) d_E_append_28 ?_
    refine ZO.putI (pc := 29) d_E_append_29 ho zp_E_18 rfl ?_
    refine ZO.ltS (fun s4 => ?_)
    exact ZO.vret (pc := 32) d_E_append_32 rfl rfl rfl
def f_E_joined (a0 : Int32) (a1 : Int32) (a2 : Int32) : Int32 :=
  (if a0 = (131 : Int32) then
  (if a1 = 0 then
    (if a2 = 0 then
      (0 : Int32)
    else (1 : Int32))
  else (1 : Int32))
else if a0 = (132 : Int32) then
  (if a1 = 0 then
    (0 : Int32)
  else (if a2 = 0 then
      (0 : Int32)
    else (1 : Int32)))
else if a0 = (133 : Int32) then
  (if a2 ≤ a1 then
    (0 : Int32)
  else (1 : Int32))
else if a0 = (134 : Int32) then
  (if a1 ≤ a2 then
    (0 : Int32)
  else (1 : Int32))
else if a0 = (135 : Int32) then
  (if a1 = a2 then
    (1 : Int32)
  else (0 : Int32))
else if a0 = (136 : Int32) then
  (a1 + a2)
else (a1 - a2))
set_option maxHeartbeats 4000000 in
set_option maxRecDepth 20000 in
theorem ok_E_joined (g : ZG) (a0 : Int32) (a1 : Int32) (a2 : Int32) (s : ZSt) : ZF g 0 y_E_joined [.int a0, .int a1, .int a2] s (some (f_E_joined a0 a1 a2)) (fun b => some (.int b)) (fun _ => s) := by
  refine ZF.of (by decide +kernel) (Nat.le_of_ble_eq_true rfl) ?_
  unfold f_E_joined
  show ZO g 0 y_E_joined zu0 0 [(0, .int a0), (1, .int a1), (2, .int a2)] [] s _ _
  refine ZO.iload_n (pc := 0) 0 d_E_joined_0 rfl rfl ?_
  refine ZO.split (c0 := a0 = (131 : Int32)) z_some (fun h1 => ?_) (fun h1 => ?_)
  · refine ZO.tswI (pc := 1) 40 (131 : Int32) h1 d_E_joined_1 (by decide) (by decide) (by decide) ?_
    refine ZO.iload_n (pc := 40) 1 d_E_joined_40 rfl rfl ?_
    refine ZO.if_ne (pc := 41) 48 d_E_joined_41 (by decide) z_some (fun h2 => ?_) (fun h2 => ?_)
    · refine ZO.iload_n (pc := 44) 2 d_E_joined_44 rfl rfl ?_
      refine ZO.if_eq (pc := 45) 52 d_E_joined_45 (by decide) z_some (fun h3 => ?_) (fun h3 => ?_)
      · refine ZO.iconst (pc := 52) (0 : Int32) d_E_joined_52 (by decide) ?_
        exact ZO.iret (pc := 53)  d_E_joined_53 rfl rfl rfl
      · refine ZO.iconst (pc := 48) (1 : Int32) d_E_joined_48 (by decide) ?_
        refine ZO.goto (pc := 49) 53 d_E_joined_49 (by decide) ?_
        exact ZO.iret (pc := 53)  d_E_joined_53 rfl rfl rfl
    · refine ZO.iconst (pc := 48) (1 : Int32) d_E_joined_48 (by decide) ?_
      refine ZO.goto (pc := 49) 53 d_E_joined_49 (by decide) ?_
      exact ZO.iret (pc := 53)  d_E_joined_53 rfl rfl rfl
  refine ZO.split (c0 := a0 = (132 : Int32)) z_some (fun h4 => ?_) (fun h4 => ?_)
  · refine ZO.tswI (pc := 1) 54 (132 : Int32) h4 d_E_joined_1 (by decide) (by decide) (by decide) ?_
    refine ZO.iload_n (pc := 54) 1 d_E_joined_54 rfl rfl ?_
    refine ZO.if_eq (pc := 55) 66 d_E_joined_55 (by decide) z_some (fun h5 => ?_) (fun h5 => ?_)
    · refine ZO.iconst (pc := 66) (0 : Int32) d_E_joined_66 (by decide) ?_
      exact ZO.iret (pc := 67)  d_E_joined_67 rfl rfl rfl
    · refine ZO.iload_n (pc := 58) 2 d_E_joined_58 rfl rfl ?_
      refine ZO.if_eq (pc := 59) 66 d_E_joined_59 (by decide) z_some (fun h6 => ?_) (fun h6 => ?_)
      · refine ZO.iconst (pc := 66) (0 : Int32) d_E_joined_66 (by decide) ?_
        exact ZO.iret (pc := 67)  d_E_joined_67 rfl rfl rfl
      · refine ZO.iconst (pc := 62) (1 : Int32) d_E_joined_62 (by decide) ?_
        refine ZO.goto (pc := 63) 67 d_E_joined_63 (by decide) ?_
        exact ZO.iret (pc := 67)  d_E_joined_67 rfl rfl rfl
  refine ZO.split (c0 := a0 = (133 : Int32)) z_some (fun h7 => ?_) (fun h7 => ?_)
  · refine ZO.tswI (pc := 1) 68 (133 : Int32) h7 d_E_joined_1 (by decide) (by decide) (by decide) ?_
    refine ZO.iload_n (pc := 68) 1 d_E_joined_68 rfl rfl ?_
    refine ZO.iload_n (pc := 69) 2 d_E_joined_69 rfl rfl ?_
    refine ZO.icmp_ge (pc := 70) 77 d_E_joined_70 (by decide) z_some (fun h8 => ?_) (fun h8 => ?_)
    · refine ZO.iconst (pc := 77) (0 : Int32) d_E_joined_77 (by decide) ?_
      exact ZO.iret (pc := 78)  d_E_joined_78 rfl rfl rfl
    · refine ZO.iconst (pc := 73) (1 : Int32) d_E_joined_73 (by decide) ?_
      refine ZO.goto (pc := 74) 78 d_E_joined_74 (by decide) ?_
      exact ZO.iret (pc := 78)  d_E_joined_78 rfl rfl rfl
  refine ZO.split (c0 := a0 = (134 : Int32)) z_some (fun h9 => ?_) (fun h9 => ?_)
  · refine ZO.tswI (pc := 1) 79 (134 : Int32) h9 d_E_joined_1 (by decide) (by decide) (by decide) ?_
    refine ZO.iload_n (pc := 79) 1 d_E_joined_79 rfl rfl ?_
    refine ZO.iload_n (pc := 80) 2 d_E_joined_80 rfl rfl ?_
    refine ZO.icmp_le (pc := 81) 88 d_E_joined_81 (by decide) z_some (fun h10 => ?_) (fun h10 => ?_)
    · refine ZO.iconst (pc := 88) (0 : Int32) d_E_joined_88 (by decide) ?_
      exact ZO.iret (pc := 89)  d_E_joined_89 rfl rfl rfl
    · refine ZO.iconst (pc := 84) (1 : Int32) d_E_joined_84 (by decide) ?_
      refine ZO.goto (pc := 85) 89 d_E_joined_85 (by decide) ?_
      exact ZO.iret (pc := 89)  d_E_joined_89 rfl rfl rfl
  refine ZO.split (c0 := a0 = (135 : Int32)) z_some (fun h11 => ?_) (fun h11 => ?_)
  · refine ZO.tswI (pc := 1) 90 (135 : Int32) h11 d_E_joined_1 (by decide) (by decide) (by decide) ?_
    refine ZO.iload_n (pc := 90) 1 d_E_joined_90 rfl rfl ?_
    refine ZO.iload_n (pc := 91) 2 d_E_joined_91 rfl rfl ?_
    refine ZO.icmp_ne (pc := 92) 99 d_E_joined_92 (by decide) z_some (fun h12 => ?_) (fun h12 => ?_)
    · refine ZO.iconst (pc := 95) (1 : Int32) d_E_joined_95 (by decide) ?_
      refine ZO.goto (pc := 96) 100 d_E_joined_96 (by decide) ?_
      exact ZO.iret (pc := 100)  d_E_joined_100 rfl rfl rfl
    · refine ZO.iconst (pc := 99) (0 : Int32) d_E_joined_99 (by decide) ?_
      exact ZO.iret (pc := 100)  d_E_joined_100 rfl rfl rfl
  refine ZO.split (c0 := a0 = (136 : Int32)) z_some (fun h13 => ?_) (fun h13 => ?_)
  · refine ZO.tswI (pc := 1) 101 (136 : Int32) h13 d_E_joined_1 (by decide) (by decide) (by decide) ?_
    refine ZO.iload_n (pc := 101) 1 d_E_joined_101 rfl rfl ?_
    refine ZO.iload_n (pc := 102) 2 d_E_joined_102 rfl rfl ?_
    refine ZO.iadd (pc := 103) d_E_joined_103 ?_
    exact ZO.iret (pc := 104)  d_E_joined_104 rfl rfl rfl
  refine ZO.tswO (pc := 1) 105 d_E_joined_1 (by have q0 := lv_neT h1 (show (131 : Int32).toInt = 131 by decide); have q1 := lv_neT h4 (show (132 : Int32).toInt = 132 by decide); have q2 := lv_neT h7 (show (133 : Int32).toInt = 133 by decide); have q3 := lv_neT h9 (show (134 : Int32).toInt = 134 by decide); have q4 := lv_neT h11 (show (135 : Int32).toInt = 135 by decide); have q5 := lv_neT h13 (show (136 : Int32).toInt = 136 by decide); omega) (by decide) ?_
  refine ZO.iload_n (pc := 105) 1 d_E_joined_105 rfl rfl ?_
  refine ZO.iload_n (pc := 106) 2 d_E_joined_106 rfl rfl ?_
  refine ZO.isub (pc := 107) d_E_joined_107 ?_
  exact ZO.iret (pc := 108)  d_E_joined_108 rfl rfl rfl
def f_E_worth (n : Nat) (o : Nat) (a0 : Int32) (a1 : Int32) (a2 : Int32) (s : ZSt) : Option (Int32 × ZSt) :=
  gd (z_isO o 1) (lpN (fun j2 (x1 : Int32 × Int32 × ZSt) =>
  (if (gi x1.2.2 o 2) ≤ x1.2.1 then
    (if x1.1 ≤ 0 then
      some ((0 : Int32), x1.2.2)
    else some ((ai x1.2.2 (o + 120) (0 : Int32)), x1.2.2))
  else gd (inb x1.2.1 60) (
      lt (ai x1.2.2 (o + 80) x1.2.1) (fun v6 =>
      (jn (fun (x7 : Int32 × ZSt) =>
        lt (x1.2.1 + (1 : Int32)) (fun v8 =>
          j2 (x7.1, v8, x7.2))) (fun j9 =>
        jn (fun (x10 : Unit) =>
        (jn (fun (x11 : Unit) =>
            (if x1.1 ≤ (1 : Int32) then
              j9 (x1.1, x1.2.2)
            else lt (x1.1 + (-1 : Int32)) (fun v13 =>
                gd (inb (v13 - (1 : Int32)) 60) (
                gd (inb v13 60) (
                lt (sai x1.2.2 (o + 120) (v13 - (1 : Int32)) (f_E_joined v6 (ai x1.2.2 (o + 120) (v13 - (1 : Int32))) (ai x1.2.2 (o + 120) v13))) (fun s16 =>
                j9 (v13, s16))))))) (fun j17 =>
            if v6 = (130 : Int32) then
          (if x1.1 ≤ 0 then
            j17 ()
          else gd (inb (x1.1 - (1 : Int32)) 60) (
              (lt ((if (ai x1.2.2 (o + 120) (x1.1 - (1 : Int32))) = 0 then
              (1 : Int32)
            else (0 : Int32)) : Int32) (fun x21 =>
                lt (sai x1.2.2 (o + 120) (x1.1 - (1 : Int32)) x21) (fun s22 =>
                  j9 (x1.1, s22))))))
        else j17 ()))) (fun j25 =>
        if (130 : Int32) ≤ v6 then
      j25 ()
    else (if (60 : Int32) ≤ x1.1 then
        j25 ()
      else (lt ((if (100 : Int32) ≤ v6 then
          (if (120 : Int32) ≤ v6 then
            (if v6 = (120 : Int32) then
              (f_J_bitCount a0)
            else (if v6 = (121 : Int32) then
                a1
              else a2))
          else ((srI a0 (v6 - (100 : Int32))) &&& (1 : Int32)))
        else v6) : Int32) (fun x28 =>
            gd (inb x1.1 60) (
              lt (sai x1.2.2 (o + 120) x1.1 x28) (fun s30 =>
              lt (x1.1 + (1 : Int32)) (fun v31 =>
              j9 (v31, s30)))))))))))))) n ((0 : Int32), (0 : Int32), s))
set_option maxHeartbeats 4000000 in
set_option maxRecDepth 20000 in
theorem ok_E_worth (g : ZG) (n : Nat) (o : Nat) (a0 : Int32) (a1 : Int32) (a2 : Int32) (s : ZSt) : ZF g 1 y_E_worth [.ref o, .int a0, .int a1, .int a2] s (f_E_worth n o a0 a1 a2 s) (fun b => some (.int b.1)) (fun b => b.2) := by
  refine ZF.of (by decide +kernel) (Nat.le_of_ble_eq_true rfl) ?_
  unfold f_E_worth
  show ZO g 1 y_E_worth zu0 0 [(0, .ref o), (1, .int a0), (2, .int a1), (3, .int a2)] [] s _ _
  refine ZO.rgd (fun ho => ?_)
  refine ZO.iconst (pc := 0) (0 : Int32) d_E_worth_0 (by decide) ?_
  refine ZO.istore (pc := 1) (v := (0 : Int32)) (L' := [(0, .ref o), (1, .int a0), (2, .int a1), (3, .int a2), (4, .int (0 : Int32))]) [1, 2, 3, 4, 0] d_E_worth_1 (by decide) rfl ?_
  refine ZO.iconst (pc := 3) (0 : Int32) d_E_worth_3 (by decide) ?_
  refine ZO.istore (pc := 4) (v := (0 : Int32)) (L' := [(0, .ref o), (1, .int a0), (2, .int a1), (3, .int a2), (4, .int (0 : Int32)), (5, .int (0 : Int32))]) [1, 2, 3, 4, 5, 0] d_E_worth_4 (by decide) rfl ?_
  refine ZO.loop (fun (x1 : Int32 × Int32 × ZSt) => ([(0, .ref o), (1, .int a0), (2, .int a1), (3, .int a2), (4, .int x1.1), (5, .int x1.2.1)] : List (Nat × Value))) (fun (x1 : Int32 × Int32 × ZSt) => x1.2.2) [] (fun j2 x1 hj2 => ?_) rfl rfl rfl
  refine ZO.iload (pc := 6) 5 d_E_worth_6 rfl ?_
  refine ZO.aload_n (pc := 8) 0 d_E_worth_8 rfl rfl ?_
  refine ZO.getI (pc := 9) d_E_worth_9 ho zf_E_18 rfl ?_
  refine ZO.icmp_ge (pc := 12) 199 d_E_worth_12 (by decide) rfl (fun h3 => ?_) (fun h3 => ?_)
  · refine ZO.iload (pc := 199) 4 d_E_worth_199 rfl ?_
    refine ZO.if_le (pc := 201) 213 d_E_worth_201 (by decide) rfl (fun h4 => ?_) (fun h4 => ?_)
    · refine ZO.iconst (pc := 213) (0 : Int32) d_E_worth_213 (by decide) ?_
      exact ZO.iret (pc := 214)  d_E_worth_214 rfl rfl rfl
    · refine ZO.aload_n (pc := 204) 0 d_E_worth_204 rfl rfl ?_
      refine ZO.getA (pc := 205) (o + 120) d_E_worth_205 ho zf_E_15 rfl rfl ?_
      refine ZO.iconst (pc := 208) (0 : Int32) d_E_worth_208 (by decide) ?_
      refine ZO.iald (pc := 209) d_E_worth_209 (ze_s ho) (by decide) ?_
      refine ZO.goto (pc := 210) 214 d_E_worth_210 (by decide) ?_
      exact ZO.iret (pc := 214)  d_E_worth_214 rfl rfl rfl
  · refine ZO.aload_n (pc := 15) 0 d_E_worth_15 rfl rfl ?_
    refine ZO.getA (pc := 16) (o + 80) d_E_worth_16 ho zf_E_9 rfl rfl ?_
    refine ZO.iload (pc := 19) 5 d_E_worth_19 rfl ?_
    refine ZO.rgd (fun h5 => ?_)
    refine ZO.iald (pc := 21) d_E_worth_21 (ze_c ho) h5 ?_
    refine ZO.ltI (fun v6 => ?_)
    refine ZO.istore (pc := 22) (v := v6) (L' := [(0, .ref o), (1, .int a0), (2, .int a1), (3, .int a2), (4, .int x1.1), (5, .int x1.2.1), (6, .int v6)]) [1, 2, 3, 4, 5, 6, 0] d_E_worth_22 (by decide) rfl ?_
    refine ZO.iload (pc := 24) 6 d_E_worth_24 rfl ?_
    refine ZO.sipush (pc := 26) (130 : Int32) d_E_worth_26 (by decide) ?_
    refine ZO.rjn (pcJ := 193) (LJ := fun (x7 : Int32 × ZSt) => ([(0, .ref o), (1, .int a0), (2, .int a1), (3, .int a2), (4, .int x7.1), (5, .int x1.2.1)] : List (Nat × Value))) (SJ := fun (x7 : Int32 × ZSt) => ([] : List Value)) (σJ := fun (x7 : Int32 × ZSt) => x7.2) (fun x7 => ?_) (fun j9 hj9 => ?_)
    · refine ZO.iincL (pc := 193) (i := 5) (x1.2.1 + (1 : Int32)) (L' := fun v8 => [(0, .ref o), (1, .int a0), (2, .int a1), (3, .int a2), (4, .int x7.1), (5, .int v8)]) [1, 2, 3, 4, 5, 0] d_E_worth_193 rfl (by rfl) (by decide) (fun _ => rfl) (fun v8 => ?_)
      refine ZO.goto (pc := 196) 6 d_E_worth_196 (by decide) ?_
      exact hj2 (x7.1, v8, x7.2)
    · refine ZO.rjn (pcJ := 112) (LJ := fun (x10 : Unit) => ([(0, .ref o), (1, .int a0), (2, .int a1), (3, .int a2), (4, .int x1.1), (5, .int x1.2.1), (6, .int v6)] : List (Nat × Value))) (SJ := fun (x10 : Unit) => ([] : List Value)) (σJ := fun (x10 : Unit) => x1.2.2) (fun x10 => ?_) (fun j25 hj25 => ?_)
      · refine ZO.iload (pc := 112) 6 d_E_worth_112 rfl ?_
        refine ZO.sipush (pc := 114) (130 : Int32) d_E_worth_114 (by decide) ?_
        refine ZO.rjn (pcJ := 154) (LJ := fun (x11 : Unit) => ([(0, .ref o), (1, .int a0), (2, .int a1), (3, .int a2), (4, .int x1.1), (5, .int x1.2.1), (6, .int v6)] : List (Nat × Value))) (SJ := fun (x11 : Unit) => ([] : List Value)) (σJ := fun (x11 : Unit) => x1.2.2) (fun x11 => ?_) (fun j17 hj17 => ?_)
        · refine ZO.iload (pc := 154) 4 d_E_worth_154 rfl ?_
          refine ZO.iconst (pc := 156) (1 : Int32) d_E_worth_156 (by decide) ?_
          refine ZO.icmp_le (pc := 157) 193 d_E_worth_157 (by decide) rfl (fun h12 => ?_) (fun h12 => ?_)
          · exact ZO.sub [0, 1, 2, 3, 4, 5] rfl (hj9 (x1.1, x1.2.2))
          · refine ZO.iincL (pc := 160) (i := 4) (x1.1 + (-1 : Int32)) (L' := fun v13 => [(0, .ref o), (1, .int a0), (2, .int a1), (3, .int a2), (4, .int v13), (5, .int x1.2.1), (6, .int v6)]) [1, 2, 3, 4, 0, 5, 6] d_E_worth_160 rfl (by rfl) (by decide) (fun _ => rfl) (fun v13 => ?_)
            refine ZO.aload_n (pc := 163) 0 d_E_worth_163 rfl rfl ?_
            refine ZO.getA (pc := 164) (o + 120) d_E_worth_164 ho zf_E_15 rfl rfl ?_
            refine ZO.iload (pc := 167) 4 d_E_worth_167 rfl ?_
            refine ZO.iconst (pc := 169) (1 : Int32) d_E_worth_169 (by decide) ?_
            refine ZO.isub (pc := 170) d_E_worth_170 ?_
            refine ZO.iload (pc := 171) 6 d_E_worth_171 rfl ?_
            refine ZO.aload_n (pc := 173) 0 d_E_worth_173 rfl rfl ?_
            refine ZO.getA (pc := 174) (o + 120) d_E_worth_174 ho zf_E_15 rfl rfl ?_
            refine ZO.iload (pc := 177) 4 d_E_worth_177 rfl ?_
            refine ZO.iconst (pc := 179) (1 : Int32) d_E_worth_179 (by decide) ?_
            refine ZO.isub (pc := 180) d_E_worth_180 ?_
            refine ZO.rgd (fun h14 => ?_)
            refine ZO.iald (pc := 181) d_E_worth_181 (ze_s ho) h14 ?_
            refine ZO.aload_n (pc := 182) 0 d_E_worth_182 rfl rfl ?_
            refine ZO.getA (pc := 183) (o + 120) d_E_worth_183 ho zf_E_15 rfl rfl ?_
            refine ZO.iload (pc := 186) 4 d_E_worth_186 rfl ?_
            refine ZO.rgd (fun h15 => ?_)
            refine ZO.iald (pc := 188) d_E_worth_188 (ze_s ho) h15 ?_
            refine ZO.tSI (pc := 189) (As := [.int v6, .int (ai x1.2.2 (o + 120) (v13 - (1 : Int32))), .int (ai x1.2.2 (o + 120) v13)]) (rest := [.int (v13 - (1 : Int32)), .ref (o + 120)]) d_E_worth_189 zc_E_34 (by decide) rfl rfl (Nat.le_of_ble_eq_true rfl) (ok_E_joined g v6 (ai x1.2.2 (o + 120) (v13 - (1 : Int32))) (ai x1.2.2 (o + 120) v13) x1.2.2) ?_
            refine ZO.iast (pc := 192) d_E_worth_192 (ze_s ho) h14 ?_
            refine ZO.ltS (fun s16 => ?_)
            exact ZO.sub [0, 1, 2, 3, 4, 5] rfl (hj9 (v13, s16))
        · refine ZO.icmp_ne (pc := 117) 154 d_E_worth_117 (by decide) rfl (fun h18 => ?_) (fun h18 => ?_)
          · refine ZO.iload (pc := 120) 4 d_E_worth_120 rfl ?_
            refine ZO.if_le (pc := 122) 154 d_E_worth_122 (by decide) rfl (fun h19 => ?_) (fun h19 => ?_)
            · exact hj17 ()
            · refine ZO.aload_n (pc := 125) 0 d_E_worth_125 rfl rfl ?_
              refine ZO.getA (pc := 126) (o + 120) d_E_worth_126 ho zf_E_15 rfl rfl ?_
              refine ZO.iload (pc := 129) 4 d_E_worth_129 rfl ?_
              refine ZO.iconst (pc := 131) (1 : Int32) d_E_worth_131 (by decide) ?_
              refine ZO.isub (pc := 132) d_E_worth_132 ?_
              refine ZO.aload_n (pc := 133) 0 d_E_worth_133 rfl rfl ?_
              refine ZO.getA (pc := 134) (o + 120) d_E_worth_134 ho zf_E_15 rfl rfl ?_
              refine ZO.iload (pc := 137) 4 d_E_worth_137 rfl ?_
              refine ZO.iconst (pc := 139) (1 : Int32) d_E_worth_139 (by decide) ?_
              refine ZO.isub (pc := 140) d_E_worth_140 ?_
              refine ZO.rgd (fun h20 => ?_)
              refine ZO.iald (pc := 141) d_E_worth_141 (ze_s ho) h20 ?_
              refine ZO.phi (pcJ := 150) (LJ := fun (x21 : Int32) => ([(0, .ref o), (1, .int a0), (2, .int a1), (3, .int a2), (4, .int x1.1), (5, .int x1.2.1)] : List (Nat × Value))) (SJ := fun (x21 : Int32) => ([.int x21, .int (x1.1 - (1 : Int32)), .ref (o + 120)] : List Value)) (fun x21 => ?_) (fun t hj23 => ?_)
              · refine ZO.iast (pc := 150) d_E_worth_150 (ze_s ho) h20 ?_
                refine ZO.ltS (fun s22 => ?_)
                refine ZO.goto (pc := 151) 193 d_E_worth_151 (by decide) ?_
                exact hj9 (x1.1, s22)
              · refine ZO.if_ne (pc := 142) 149 d_E_worth_142 (by decide) z_ite (fun h24 => ?_) (fun h24 => ?_)
                · refine ZO.iconst (pc := 145) (1 : Int32) d_E_worth_145 (by decide) ?_
                  refine ZO.goto (pc := 146) 150 d_E_worth_146 (by decide) ?_
                  exact ZO.sub [0, 1, 2, 3, 4, 5] rfl (hj23 (1 : Int32) (by rw [if_pos h24]))
                · refine ZO.iconst (pc := 149) (0 : Int32) d_E_worth_149 (by decide) ?_
                  exact ZO.sub [0, 1, 2, 3, 4, 5] rfl (hj23 (0 : Int32) (by rw [if_neg h24]))
          · exact hj17 ()
      · refine ZO.icmp_ge (pc := 29) 112 d_E_worth_29 (by decide) rfl (fun h26 => ?_) (fun h26 => ?_)
        · exact hj25 ()
        · refine ZO.iload (pc := 32) 4 d_E_worth_32 rfl ?_
          refine ZO.aload_n (pc := 34) 0 d_E_worth_34 rfl rfl ?_
          refine ZO.getA (pc := 35) (o + 120) d_E_worth_35 ho zf_E_15 rfl rfl ?_
          refine ZO.alen (pc := 38) (60 : Int32) d_E_worth_38 (ze_s ho) (by decide) ?_
          refine ZO.icmp_ge (pc := 39) 112 d_E_worth_39 (by decide) rfl (fun h27 => ?_) (fun h27 => ?_)
          · exact hj25 ()
          · refine ZO.aload_n (pc := 42) 0 d_E_worth_42 rfl rfl ?_
            refine ZO.getA (pc := 43) (o + 120) d_E_worth_43 ho zf_E_15 rfl rfl ?_
            refine ZO.iload (pc := 46) 4 d_E_worth_46 rfl ?_
            refine ZO.iload (pc := 48) 6 d_E_worth_48 rfl ?_
            refine ZO.bipush (pc := 50) (100 : Int32) d_E_worth_50 (by decide) ?_
            refine ZO.phi (pcJ := 105) (LJ := fun (x28 : Int32) => ([(0, .ref o), (1, .int a0), (2, .int a1), (3, .int a2), (4, .int x1.1), (5, .int x1.2.1)] : List (Nat × Value))) (SJ := fun (x28 : Int32) => ([.int x28, .int x1.1, .ref (o + 120)] : List Value)) (fun x28 => ?_) (fun t hj32 => ?_)
            · refine ZO.rgd (fun h29 => ?_)
              refine ZO.iast (pc := 105) d_E_worth_105 (ze_s ho) h29 ?_
              refine ZO.ltS (fun s30 => ?_)
              refine ZO.iincL (pc := 106) (i := 4) (x1.1 + (1 : Int32)) (L' := fun v31 => [(0, .ref o), (1, .int a0), (2, .int a1), (3, .int a2), (4, .int v31), (5, .int x1.2.1)]) [1, 2, 3, 4, 0, 5] d_E_worth_106 rfl (by rfl) (by decide) (fun _ => rfl) (fun v31 => ?_)
              refine ZO.goto (pc := 109) 193 d_E_worth_109 (by decide) ?_
              exact hj9 (v31, s30)
            · refine ZO.icmp_ge (pc := 52) 60 d_E_worth_52 (by decide) z_ite (fun h33 => ?_) (fun h33 => ?_)
              · refine ZO.iload (pc := 60) 6 d_E_worth_60 rfl ?_
                refine ZO.bipush (pc := 62) (120 : Int32) d_E_worth_62 (by decide) ?_
                refine ZO.icmp_ge (pc := 64) 79 d_E_worth_64 (by decide) z_ite (fun h34 => ?_) (fun h34 => ?_)
                · refine ZO.iload (pc := 79) 6 d_E_worth_79 rfl ?_
                  refine ZO.bipush (pc := 81) (120 : Int32) d_E_worth_81 (by decide) ?_
                  refine ZO.icmp_ne (pc := 83) 93 d_E_worth_83 (by decide) z_ite (fun h35 => ?_) (fun h35 => ?_)
                  · refine ZO.iload_n (pc := 86) 1 d_E_worth_86 rfl rfl ?_
                    refine ZO.tSI (pc := 87) (As := [.int a0]) (rest := [.int x1.1, .ref (o + 120)]) d_E_worth_87 zc_E_28 (by decide) rfl rfl (Nat.le_of_ble_eq_true rfl) (ok_J_bitCount g a0 x1.2.2) ?_
                    refine ZO.goto (pc := 90) 105 d_E_worth_90 (by decide) ?_
                    exact ZO.sub [0, 1, 2, 3, 4, 5] rfl (hj32 (f_J_bitCount a0) (by rw [if_pos h33, if_pos h34, if_pos h35]))
                  · refine ZO.iload (pc := 93) 6 d_E_worth_93 rfl ?_
                    refine ZO.bipush (pc := 95) (121 : Int32) d_E_worth_95 (by decide) ?_
                    refine ZO.icmp_ne (pc := 97) 104 d_E_worth_97 (by decide) z_ite (fun h36 => ?_) (fun h36 => ?_)
                    · refine ZO.iload_n (pc := 100) 2 d_E_worth_100 rfl rfl ?_
                      refine ZO.goto (pc := 101) 105 d_E_worth_101 (by decide) ?_
                      exact ZO.sub [0, 1, 2, 3, 4, 5] rfl (hj32 a1 (by rw [if_pos h33, if_pos h34, if_neg h35, if_pos h36]))
                    · refine ZO.iload_n (pc := 104) 3 d_E_worth_104 rfl rfl ?_
                      exact ZO.sub [0, 1, 2, 3, 4, 5] rfl (hj32 a2 (by rw [if_pos h33, if_pos h34, if_neg h35, if_neg h36]))
                · refine ZO.iload_n (pc := 67) 1 d_E_worth_67 rfl rfl ?_
                  refine ZO.iload (pc := 68) 6 d_E_worth_68 rfl ?_
                  refine ZO.bipush (pc := 70) (100 : Int32) d_E_worth_70 (by decide) ?_
                  refine ZO.isub (pc := 72) d_E_worth_72 ?_
                  refine ZO.ishr (pc := 73) d_E_worth_73 ?_
                  refine ZO.iconst (pc := 74) (1 : Int32) d_E_worth_74 (by decide) ?_
                  refine ZO.iand (pc := 75) d_E_worth_75 ?_
                  refine ZO.goto (pc := 76) 105 d_E_worth_76 (by decide) ?_
                  exact ZO.sub [0, 1, 2, 3, 4, 5] rfl (hj32 ((srI a0 (v6 - (100 : Int32))) &&& (1 : Int32)) (by rw [if_pos h33, if_neg h34]))
              · refine ZO.iload (pc := 55) 6 d_E_worth_55 rfl ?_
                refine ZO.goto (pc := 57) 105 d_E_worth_57 (by decide) ?_
                exact ZO.sub [0, 1, 2, 3, 4, 5] rfl (hj32 v6 (by rw [if_neg h33]))
def f_R_begin (o : Nat) (a0 : Int32) (a1 : Int32) (s : ZSt) : Option ZSt :=
  gd (z_isO o 3) (lt (si s o 0 a0) (fun s1 =>
  lt (si s1 o 1 a0) (fun s2 =>
  lt (si s2 o 2 a1) (fun s3 =>
  some s3))))
set_option maxHeartbeats 4000000 in
set_option maxRecDepth 20000 in
theorem ok_R_begin (g : ZG) (o : Nat) (a0 : Int32) (a1 : Int32) (s : ZSt) : ZF g 0 y_R_begin [.ref o, .int a0, .int a1] s (f_R_begin o a0 a1 s) (fun _ => none) (fun b => b) := by
  refine ZF.of (by decide +kernel) (Nat.le_of_ble_eq_true rfl) ?_
  unfold f_R_begin
  show ZO g 0 y_R_begin zu0 0 [(0, .ref o), (1, .int a0), (2, .int a1)] [] s _ _
  refine ZO.rgd (fun ho => ?_)
  refine ZO.aload_n (pc := 0) 0 d_R_begin_0 rfl rfl ?_
  refine ZO.iload_n (pc := 1) 1 d_R_begin_1 rfl rfl ?_
  refine ZO.putI (pc := 2) d_R_begin_2 ho zp_R_7 rfl ?_
  refine ZO.ltS (fun s1 => ?_)
  refine ZO.aload_n (pc := 5) 0 d_R_begin_5 rfl rfl ?_
  refine ZO.iload_n (pc := 6) 1 d_R_begin_6 rfl rfl ?_
  refine ZO.putI (pc := 7) d_R_begin_7 ho zp_R_13 rfl ?_
  refine ZO.ltS (fun s2 => ?_)
  refine ZO.aload_n (pc := 10) 0 d_R_begin_10 rfl rfl ?_
  refine ZO.iload_n (pc := 11) 2 d_R_begin_11 rfl rfl ?_
  refine ZO.putI (pc := 12) d_R_begin_12 ho zp_R_16 rfl ?_
  refine ZO.ltS (fun s3 => ?_)
  exact ZO.vret (pc := 15) d_R_begin_15 rfl rfl rfl
def f_R_left (o : Nat) (s : ZSt) : Option Int32 :=
  gd (z_isO o 3) (some ((gi s o 2) &&& ((gi s o 3) ^^^ (-1 : Int32))))
set_option maxHeartbeats 4000000 in
set_option maxRecDepth 20000 in
theorem ok_R_left (g : ZG) (o : Nat) (s : ZSt) : ZF g 0 y_R_left [.ref o] s (f_R_left o s) (fun b => some (.int b)) (fun _ => s) := by
  refine ZF.of (by decide +kernel) (Nat.le_of_ble_eq_true rfl) ?_
  unfold f_R_left
  show ZO g 0 y_R_left zu0 0 [(0, .ref o)] [] s _ _
  refine ZO.rgd (fun ho => ?_)
  refine ZO.aload_n (pc := 0) 0 d_R_left_0 rfl rfl ?_
  refine ZO.getI (pc := 1) d_R_left_1 ho zf_R_16 rfl ?_
  refine ZO.aload_n (pc := 4) 0 d_R_left_4 rfl rfl ?_
  refine ZO.getI (pc := 5) d_R_left_5 ho zf_R_19 rfl ?_
  refine ZO.iconst (pc := 8) (-1 : Int32) d_R_left_8 (by decide) ?_
  refine ZO.ixor (pc := 9) d_R_left_9 ?_
  refine ZO.iand (pc := 10) d_R_left_10 ?_
  exact ZO.iret (pc := 11)  d_R_left_11 rfl rfl rfl
def f_S_clear (n : Nat) (s : ZSt) : Option ZSt :=
  lpN (fun j2 (x1 : Int32 × ZSt) =>
  (if (gi x1.2 202 5) ≤ x1.1 then
    lt (si x1.2 202 5 (0 : Int32)) (fun s4 =>
      some s4)
  else gd (inb x1.1 5000) (
      gd (inb (ai x1.2 267 x1.1) 16384) (
      lt (sai x1.2 266 (ai x1.2 267 x1.1) (0 : Int32)) (fun s7 =>
      lt (x1.1 + (1 : Int32)) (fun v8 =>
      j2 (v8, s7))))))) n ((0 : Int32), s)
set_option maxHeartbeats 4000000 in
set_option maxRecDepth 20000 in
theorem ok_S_clear (g : ZG) (n : Nat) (s : ZSt) : ZF g 0 y_S_clear [.ref 202] s (f_S_clear n s) (fun _ => none) (fun b => b) := by
  refine ZF.of (by decide +kernel) (Nat.le_of_ble_eq_true rfl) ?_
  unfold f_S_clear
  show ZO g 0 y_S_clear zu0 0 [(0, .ref 202)] [] s _ _
  refine ZO.iconst (pc := 0) (0 : Int32) d_S_clear_0 (by decide) ?_
  refine ZO.istore_n (pc := 1) (v := (0 : Int32)) (L' := [(0, .ref 202), (1, .int (0 : Int32))]) [1, 0] d_S_clear_1 rfl (by decide) rfl ?_
  refine ZO.loop (fun (x1 : Int32 × ZSt) => ([(0, .ref 202), (1, .int x1.1)] : List (Nat × Value))) (fun (x1 : Int32 × ZSt) => x1.2) [] (fun j2 x1 hj2 => ?_) rfl rfl rfl
  refine ZO.iload_n (pc := 2) 1 d_S_clear_2 rfl rfl ?_
  refine ZO.aload_n (pc := 3) 0 d_S_clear_3 rfl rfl ?_
  refine ZO.getI (pc := 4) d_S_clear_4 zo_202 zf_S_41 rfl ?_
  refine ZO.icmp_ge (pc := 7) 28 d_S_clear_7 (by decide) rfl (fun h3 => ?_) (fun h3 => ?_)
  · refine ZO.aload_n (pc := 28) 0 d_S_clear_28 rfl rfl ?_
    refine ZO.iconst (pc := 29) (0 : Int32) d_S_clear_29 (by decide) ?_
    refine ZO.putI (pc := 30) d_S_clear_30 zo_202 zp_S_41 rfl ?_
    refine ZO.ltS (fun s4 => ?_)
    exact ZO.vret (pc := 33) d_S_clear_33 rfl rfl rfl
  · refine ZO.aload_n (pc := 10) 0 d_S_clear_10 rfl rfl ?_
    refine ZO.getA (pc := 11) 266 d_S_clear_11 zo_202 zf_S_28 rfl rfl ?_
    refine ZO.aload_n (pc := 14) 0 d_S_clear_14 rfl rfl ?_
    refine ZO.getA (pc := 15) 267 d_S_clear_15 zo_202 zf_S_31 rfl rfl ?_
    refine ZO.iload_n (pc := 18) 1 d_S_clear_18 rfl rfl ?_
    refine ZO.rgd (fun h5 => ?_)
    refine ZO.iald (pc := 19) d_S_clear_19 za_267 h5 ?_
    refine ZO.iconst (pc := 20) (0 : Int32) d_S_clear_20 (by decide) ?_
    refine ZO.rgd (fun h6 => ?_)
    refine ZO.iast (pc := 21) d_S_clear_21 za_266 h6 ?_
    refine ZO.ltS (fun s7 => ?_)
    refine ZO.iincL (pc := 22) (i := 1) (x1.1 + (1 : Int32)) (L' := fun v8 => [(0, .ref 202), (1, .int v8)]) [1, 0] d_S_clear_22 rfl (by rfl) (by decide) (fun _ => rfl) (fun v8 => ?_)
    refine ZO.goto (pc := 25) 2 d_S_clear_25 (by decide) ?_
    exact hj2 (v8, s7)
def f_S_slotOf (n : Nat) (a0 : Int64) (s : ZSt) : Option Int32 :=
  lt ((a0 ^^^ (usrL a0 (21 : Int32))).toInt32 * (-1640531535 : Int32)) (fun v1 =>
  lt (usrI v1 (18 : Int32)) (fun v2 =>
  lpN (fun j4 (x3 : Int32 × Int32) =>
  (if (16384 : Int32) ≤ x3.2 then
    some x3.1
  else gd (inb x3.1 16384) (
      (if (ai s 266 x3.1) = 0 then
      some x3.1
    else gd (inb ((ai s 266 x3.1) - (1 : Int32)) 5000) (
        (if (lg_cmp (al s 260 ((ai s 266 x3.1) - (1 : Int32))) a0) = 0 then
        some x3.1
      else lt ((x3.1 + (1 : Int32)) &&& (16383 : Int32)) (fun v10 =>
          lt (x3.2 + (1 : Int32)) (fun v11 =>
          j4 (v10, v11))))))))) n (v2, (0 : Int32))))
set_option maxHeartbeats 4000000 in
set_option maxRecDepth 20000 in
theorem ok_S_slotOf (g : ZG) (n : Nat) (a0 : Int64) (s : ZSt) : ZF g 0 y_S_slotOf [.ref 202, .long a0] s (f_S_slotOf n a0 s) (fun b => some (.int b)) (fun _ => s) := by
  refine ZF.of (by decide +kernel) (Nat.le_of_ble_eq_true rfl) ?_
  unfold f_S_slotOf
  show ZO g 0 y_S_slotOf zu0 0 [(0, .ref 202), (1, .long a0)] [] s _ _
  refine ZO.lload_n (pc := 0) 1 d_S_slotOf_0 rfl rfl ?_
  refine ZO.lload_n (pc := 1) 1 d_S_slotOf_1 rfl rfl ?_
  refine ZO.bipush (pc := 2) (21 : Int32) d_S_slotOf_2 (by decide) ?_
  refine ZO.lushr (pc := 4) d_S_slotOf_4 ?_
  refine ZO.lxor (pc := 5) d_S_slotOf_5 ?_
  refine ZO.l2i (pc := 6) d_S_slotOf_6 ?_
  refine ZO.ldc (pc := 7) (-1640531535 : Int32) d_S_slotOf_7 zk_S_66 ?_
  refine ZO.imul (pc := 9) d_S_slotOf_9 ?_
  refine ZO.ltI (fun v1 => ?_)
  refine ZO.istore_n (pc := 10) (v := v1) (L' := [(0, .ref 202), (1, .long a0), (3, .int v1)]) [1, 2, 0] d_S_slotOf_10 rfl (by decide) rfl ?_
  refine ZO.iload_n (pc := 11) 2 d_S_slotOf_11 rfl rfl ?_
  refine ZO.bipush (pc := 12) (18 : Int32) d_S_slotOf_12 (by decide) ?_
  refine ZO.iushr (pc := 14) d_S_slotOf_14 ?_
  refine ZO.ltI (fun v2 => ?_)
  refine ZO.istore (pc := 15) (v := v2) (L' := [(0, .ref 202), (1, .long a0), (3, .int v1), (4, .int v2)]) [1, 2, 3, 0] d_S_slotOf_15 (by decide) rfl ?_
  refine ZO.iconst (pc := 17) (0 : Int32) d_S_slotOf_17 (by decide) ?_
  refine ZO.istore (pc := 18) (v := (0 : Int32)) (L' := [(0, .ref 202), (1, .long a0), (3, .int v1), (4, .int v2), (5, .int (0 : Int32))]) [1, 2, 3, 4, 0] d_S_slotOf_18 (by decide) rfl ?_
  refine ZO.sub (L' := [(0, .ref 202), (1, .long a0), (4, .int v2), (5, .int (0 : Int32))]) [0, 1, 3, 4] rfl ?_
  refine ZO.loop (fun (x3 : Int32 × Int32) => ([(0, .ref 202), (1, .long a0), (4, .int x3.1), (5, .int x3.2)] : List (Nat × Value))) (fun (x3 : Int32 × Int32) => s) [] (fun j4 x3 hj4 => ?_) rfl rfl rfl
  refine ZO.iload (pc := 20) 3 d_S_slotOf_20 rfl ?_
  refine ZO.sipush (pc := 22) (16384 : Int32) d_S_slotOf_22 (by decide) ?_
  refine ZO.icmp_ge (pc := 25) 76 d_S_slotOf_25 (by decide) rfl (fun h5 => ?_) (fun h5 => ?_)
  · refine ZO.iload (pc := 76) 2 d_S_slotOf_76 rfl ?_
    exact ZO.iret (pc := 78)  d_S_slotOf_78 rfl rfl rfl
  · refine ZO.aload_n (pc := 28) 0 d_S_slotOf_28 rfl rfl ?_
    refine ZO.getA (pc := 29) 266 d_S_slotOf_29 zo_202 zf_S_28 rfl rfl ?_
    refine ZO.iload (pc := 32) 2 d_S_slotOf_32 rfl ?_
    refine ZO.rgd (fun h6 => ?_)
    refine ZO.iald (pc := 34) d_S_slotOf_34 za_266 h6 ?_
    refine ZO.if_eq (pc := 35) 57 d_S_slotOf_35 (by decide) rfl (fun h7 => ?_) (fun h7 => ?_)
    · refine ZO.iload (pc := 57) 2 d_S_slotOf_57 rfl ?_
      exact ZO.iret (pc := 59)  d_S_slotOf_59 rfl rfl rfl
    · refine ZO.aload_n (pc := 38) 0 d_S_slotOf_38 rfl rfl ?_
      refine ZO.getA (pc := 39) 260 d_S_slotOf_39 zo_202 zf_S_9 rfl rfl ?_
      refine ZO.aload_n (pc := 42) 0 d_S_slotOf_42 rfl rfl ?_
      refine ZO.getA (pc := 43) 266 d_S_slotOf_43 zo_202 zf_S_28 rfl rfl ?_
      refine ZO.iload (pc := 46) 2 d_S_slotOf_46 rfl ?_
      refine ZO.iald (pc := 48) d_S_slotOf_48 za_266 h6 ?_
      refine ZO.iconst (pc := 49) (1 : Int32) d_S_slotOf_49 (by decide) ?_
      refine ZO.isub (pc := 50) d_S_slotOf_50 ?_
      refine ZO.rgd (fun h8 => ?_)
      refine ZO.lald (pc := 51) d_S_slotOf_51 za_260 h8 ?_
      refine ZO.lload_n (pc := 52) 1 d_S_slotOf_52 rfl rfl ?_
      refine ZO.lcmp (pc := 53) d_S_slotOf_53 ?_
      refine ZO.if_ne (pc := 54) 60 d_S_slotOf_54 (by decide) rfl (fun h9 => ?_) (fun h9 => ?_)
      · refine ZO.iload (pc := 57) 2 d_S_slotOf_57 rfl ?_
        exact ZO.iret (pc := 59)  d_S_slotOf_59 rfl rfl rfl
      · refine ZO.iload (pc := 60) 2 d_S_slotOf_60 rfl ?_
        refine ZO.iconst (pc := 62) (1 : Int32) d_S_slotOf_62 (by decide) ?_
        refine ZO.iadd (pc := 63) d_S_slotOf_63 ?_
        refine ZO.sipush (pc := 64) (16383 : Int32) d_S_slotOf_64 (by decide) ?_
        refine ZO.iand (pc := 67) d_S_slotOf_67 ?_
        refine ZO.ltI (fun v10 => ?_)
        refine ZO.istore (pc := 68) (v := v10) (L' := [(0, .ref 202), (1, .long a0), (4, .int v10), (5, .int x3.2)]) [1, 2, 0, 3] d_S_slotOf_68 (by decide) rfl ?_
        refine ZO.iincL (pc := 70) (i := 3) (x3.2 + (1 : Int32)) (L' := fun v11 => [(0, .ref 202), (1, .long a0), (4, .int v10), (5, .int v11)]) [1, 2, 3, 0] d_S_slotOf_70 rfl (by rfl) (by decide) (fun _ => rfl) (fun v11 => ?_)
        refine ZO.goto (pc := 73) 20 d_S_slotOf_73 (by decide) ?_
        exact hj4 (v10, v11)
def f_S_place (n : Nat) (a0 : Int64) (a1 : Int32) (a2 : Int32) (s : ZSt) : Option (Int32 × ZSt) :=
  bn (f_S_slotOf n a0 s) (fun p1 =>
  gd (inb p1 16384) (
  (if (ai s 266 p1) ≤ 0 then
  (if (gi s 202 5) < (5000 : Int32) then
    gd (inb (gi s 202 5) 5000) (
      lt (sal s 260 (gi s 202 5) a0) (fun s6 =>
      gd (inb (gi s6 202 5) 5000) (
      lt (sai s6 261 (gi s6 202 5) a1) (fun s8 =>
      gd (inb (gi s8 202 5) 5000) (
      lt (sai s8 262 (gi s8 202 5) a2) (fun s10 =>
      (jn (fun (x11 : Int32) =>
        gd (inb (gi s10 202 5) 5000) (
          lt (sai s10 263 (gi s10 202 5) x11) (fun s13 =>
          gd (inb (gi s13 202 5) 5000) (
          lt (sai s13 267 (gi s13 202 5) p1) (fun s15 =>
          lt (si s15 202 5 ((gi s15 202 5) + (1 : Int32))) (fun s16 =>
          lt (sai s16 266 p1 (gi s16 202 5)) (fun s17 =>
          some (((gi s17 202 5) - (1 : Int32)), s17)))))))) (fun j18 =>
        if a1 = (-1 : Int32) then
      j18 (0 : Int32)
    else gd (inb a1 5000) (
        j18 ((ai s10 263 a1) + (1 : Int32)))))))))))
  else some ((-1 : Int32), s))
else some (((ai s 266 p1) - (1 : Int32)), s))))
set_option maxHeartbeats 4000000 in
set_option maxRecDepth 20000 in
theorem ok_S_place (g : ZG) (n : Nat) (a0 : Int64) (a1 : Int32) (a2 : Int32) (s : ZSt) : ZF g 1 y_S_place [.ref 202, .long a0, .int a1, .int a2] s (f_S_place n a0 a1 a2 s) (fun b => some (.int b.1)) (fun b => b.2) := by
  refine ZF.of (by decide +kernel) (Nat.le_of_ble_eq_true rfl) ?_
  unfold f_S_place
  show ZO g 1 y_S_place zu0 0 [(0, .ref 202), (1, .long a0), (3, .int a1), (4, .int a2)] [] s _ _
  refine ZO.aload_n (pc := 0) 0 d_S_place_0 rfl rfl ?_
  refine ZO.lload_n (pc := 1) 1 d_S_place_1 rfl rfl ?_
  refine ZO.cVI (pc := 2) (As := [.long a0]) (rest := []) d_S_place_2 zc_S_62 (by decide) zo_202 rfl rfl rfl (Nat.le_of_ble_eq_true rfl) (ok_S_slotOf g n a0 s) (fun p1 ep1 => ?_)
  refine ZO.istore (pc := 5) (v := p1) (L' := [(0, .ref 202), (1, .long a0), (3, .int a1), (4, .int a2), (5, .int p1)]) [1, 2, 3, 4, 0] d_S_place_5 (by decide) rfl ?_
  refine ZO.aload_n (pc := 7) 0 d_S_place_7 rfl rfl ?_
  refine ZO.getA (pc := 8) 266 d_S_place_8 zo_202 zf_S_28 rfl rfl ?_
  refine ZO.iload (pc := 11) 4 d_S_place_11 rfl ?_
  refine ZO.rgd (fun h2 => ?_)
  refine ZO.iald (pc := 13) d_S_place_13 za_266 h2 ?_
  refine ZO.if_le (pc := 14) 27 d_S_place_14 (by decide) rfl (fun h3 => ?_) (fun h3 => ?_)
  · refine ZO.aload_n (pc := 27) 0 d_S_place_27 rfl rfl ?_
    refine ZO.getI (pc := 28) d_S_place_28 zo_202 zf_S_41 rfl ?_
    refine ZO.sipush (pc := 31) (5000 : Int32) d_S_place_31 (by decide) ?_
    refine ZO.icmp_lt (pc := 34) 39 d_S_place_34 (by decide) rfl (fun h4 => ?_) (fun h4 => ?_)
    · refine ZO.aload_n (pc := 39) 0 d_S_place_39 rfl rfl ?_
      refine ZO.getA (pc := 40) 260 d_S_place_40 zo_202 zf_S_9 rfl rfl ?_
      refine ZO.aload_n (pc := 43) 0 d_S_place_43 rfl rfl ?_
      refine ZO.getI (pc := 44) d_S_place_44 zo_202 zf_S_41 rfl ?_
      refine ZO.lload_n (pc := 47) 1 d_S_place_47 rfl rfl ?_
      refine ZO.rgd (fun h5 => ?_)
      refine ZO.last (pc := 48) d_S_place_48 za_260 h5 ?_
      refine ZO.ltS (fun s6 => ?_)
      refine ZO.aload_n (pc := 49) 0 d_S_place_49 rfl rfl ?_
      refine ZO.getA (pc := 50) 261 d_S_place_50 zo_202 zf_S_15 rfl rfl ?_
      refine ZO.aload_n (pc := 53) 0 d_S_place_53 rfl rfl ?_
      refine ZO.getI (pc := 54) d_S_place_54 zo_202 zf_S_41 rfl ?_
      refine ZO.iload_n (pc := 57) 2 d_S_place_57 rfl rfl ?_
      refine ZO.rgd (fun h7 => ?_)
      refine ZO.iast (pc := 58) d_S_place_58 za_261 h7 ?_
      refine ZO.ltS (fun s8 => ?_)
      refine ZO.aload_n (pc := 59) 0 d_S_place_59 rfl rfl ?_
      refine ZO.getA (pc := 60) 262 d_S_place_60 zo_202 zf_S_19 rfl rfl ?_
      refine ZO.aload_n (pc := 63) 0 d_S_place_63 rfl rfl ?_
      refine ZO.getI (pc := 64) d_S_place_64 zo_202 zf_S_41 rfl ?_
      refine ZO.iload (pc := 67) 3 d_S_place_67 rfl ?_
      refine ZO.rgd (fun h9 => ?_)
      refine ZO.iast (pc := 69) d_S_place_69 za_262 h9 ?_
      refine ZO.ltS (fun s10 => ?_)
      refine ZO.aload_n (pc := 70) 0 d_S_place_70 rfl rfl ?_
      refine ZO.getA (pc := 71) 263 d_S_place_71 zo_202 zf_S_22 rfl rfl ?_
      refine ZO.aload_n (pc := 74) 0 d_S_place_74 rfl rfl ?_
      refine ZO.getI (pc := 75) d_S_place_75 zo_202 zf_S_41 rfl ?_
      refine ZO.iload_n (pc := 78) 2 d_S_place_78 rfl rfl ?_
      refine ZO.iconst (pc := 79) (-1 : Int32) d_S_place_79 (by decide) ?_
      refine ZO.rjn (pcJ := 95) (LJ := fun (x11 : Int32) => ([(0, .ref 202), (5, .int p1)] : List (Nat × Value))) (SJ := fun (x11 : Int32) => ([.int x11, .int (gi s10 202 5), .ref 263] : List Value)) (σJ := fun (x11 : Int32) => s10) (fun x11 => ?_) (fun j18 hj18 => ?_)
      · refine ZO.rgd (fun h12 => ?_)
        refine ZO.iast (pc := 95) d_S_place_95 za_263 h12 ?_
        refine ZO.ltS (fun s13 => ?_)
        refine ZO.aload_n (pc := 96) 0 d_S_place_96 rfl rfl ?_
        refine ZO.getA (pc := 97) 267 d_S_place_97 zo_202 zf_S_31 rfl rfl ?_
        refine ZO.aload_n (pc := 100) 0 d_S_place_100 rfl rfl ?_
        refine ZO.getI (pc := 101) d_S_place_101 zo_202 zf_S_41 rfl ?_
        refine ZO.iload (pc := 104) 1 d_S_place_104 rfl ?_
        refine ZO.rgd (fun h14 => ?_)
        refine ZO.iast (pc := 106) d_S_place_106 za_267 h14 ?_
        refine ZO.ltS (fun s15 => ?_)
        refine ZO.aload_n (pc := 107) 0 d_S_place_107 rfl rfl ?_
        refine ZO.dup (pc := 108) d_S_place_108 rfl ?_
        refine ZO.getI (pc := 109) d_S_place_109 zo_202 zf_S_41 rfl ?_
        refine ZO.iconst (pc := 112) (1 : Int32) d_S_place_112 (by decide) ?_
        refine ZO.iadd (pc := 113) d_S_place_113 ?_
        refine ZO.putI (pc := 114) d_S_place_114 zo_202 zp_S_41 rfl ?_
        refine ZO.ltS (fun s16 => ?_)
        refine ZO.aload_n (pc := 117) 0 d_S_place_117 rfl rfl ?_
        refine ZO.getA (pc := 118) 266 d_S_place_118 zo_202 zf_S_28 rfl rfl ?_
        refine ZO.iload (pc := 121) 1 d_S_place_121 rfl ?_
        refine ZO.aload_n (pc := 123) 0 d_S_place_123 rfl rfl ?_
        refine ZO.getI (pc := 124) d_S_place_124 zo_202 zf_S_41 rfl ?_
        refine ZO.iast (pc := 127) d_S_place_127 za_266 h2 ?_
        refine ZO.ltS (fun s17 => ?_)
        refine ZO.aload_n (pc := 128) 0 d_S_place_128 rfl rfl ?_
        refine ZO.getI (pc := 129) d_S_place_129 zo_202 zf_S_41 rfl ?_
        refine ZO.iconst (pc := 132) (1 : Int32) d_S_place_132 (by decide) ?_
        refine ZO.isub (pc := 133) d_S_place_133 ?_
        exact ZO.iret (pc := 134)  d_S_place_134 rfl rfl rfl
      · refine ZO.icmp_ne (pc := 80) 87 d_S_place_80 (by decide) rfl (fun h19 => ?_) (fun h19 => ?_)
        · refine ZO.iconst (pc := 83) (0 : Int32) d_S_place_83 (by decide) ?_
          refine ZO.goto (pc := 84) 95 d_S_place_84 (by decide) ?_
          exact ZO.sub [0, 4] rfl (hj18 (0 : Int32))
        · refine ZO.aload_n (pc := 87) 0 d_S_place_87 rfl rfl ?_
          refine ZO.getA (pc := 88) 263 d_S_place_88 zo_202 zf_S_22 rfl rfl ?_
          refine ZO.iload_n (pc := 91) 2 d_S_place_91 rfl rfl ?_
          refine ZO.rgd (fun h20 => ?_)
          refine ZO.iald (pc := 92) d_S_place_92 za_263 h20 ?_
          refine ZO.iconst (pc := 93) (1 : Int32) d_S_place_93 (by decide) ?_
          refine ZO.iadd (pc := 94) d_S_place_94 ?_
          exact ZO.sub [0, 4] rfl (hj18 ((ai s10 263 a1) + (1 : Int32)))
    · refine ZO.iconst (pc := 37) (-1 : Int32) d_S_place_37 (by decide) ?_
      exact ZO.iret (pc := 38)  d_S_place_38 rfl rfl rfl
  · refine ZO.aload_n (pc := 17) 0 d_S_place_17 rfl rfl ?_
    refine ZO.getA (pc := 18) 266 d_S_place_18 zo_202 zf_S_28 rfl rfl ?_
    refine ZO.iload (pc := 21) 4 d_S_place_21 rfl ?_
    refine ZO.iald (pc := 23) d_S_place_23 za_266 h2 ?_
    refine ZO.iconst (pc := 24) (1 : Int32) d_S_place_24 (by decide) ?_
    refine ZO.isub (pc := 25) d_S_place_25 ?_
    exact ZO.iret (pc := 26)  d_S_place_26 rfl rfl rfl
def f_S_seed (n : Nat) (a0 : Int64) (s : ZSt) : Option ZSt :=
  bn (f_S_place n a0 (-1 : Int32) (-1 : Int32) s) (fun p1 =>
  some p1.2)
set_option maxHeartbeats 4000000 in
set_option maxRecDepth 20000 in
theorem ok_S_seed (g : ZG) (n : Nat) (a0 : Int64) (s : ZSt) : ZF g 2 y_S_seed [.ref 202, .long a0] s (f_S_seed n a0 s) (fun _ => none) (fun b => b) := by
  refine ZF.of (by decide +kernel) (Nat.le_of_ble_eq_true rfl) ?_
  unfold f_S_seed
  show ZO g 2 y_S_seed zu0 0 [(0, .ref 202), (1, .long a0)] [] s _ _
  refine ZO.aload_n (pc := 0) 0 d_S_seed_0 rfl rfl ?_
  refine ZO.lload_n (pc := 1) 1 d_S_seed_1 rfl rfl ?_
  refine ZO.iconst (pc := 2) (-1 : Int32) d_S_seed_2 (by decide) ?_
  refine ZO.iconst (pc := 3) (-1 : Int32) d_S_seed_3 (by decide) ?_
  refine ZO.cVI (pc := 4) (As := [.long a0, .int (-1 : Int32), .int (-1 : Int32)]) (rest := []) d_S_seed_4 zc_S_45 (by decide) zo_202 rfl rfl rfl (Nat.le_of_ble_eq_true rfl) (ok_S_place g n a0 (-1 : Int32) (-1 : Int32) s) (fun p1 ep1 => ?_)
  refine ZO.pop (pc := 7) d_S_seed_7 rfl ?_
  exact ZO.vret (pc := 8) d_S_seed_8 rfl rfl rfl
def f_T_spent (n : Nat) (s : ZSt) : Option Int32 :=
  lpN (fun j2 (x1 : Int32 × Int32) =>
  (if (gi s 201 2) ≤ x1.2 then
    some x1.1
  else gd (inb x1.2 12) (
      (lt ((if (gi s (z_ra 240 x1.2.toNatClampNeg) 4) < (gi s (z_ra 240 x1.2.toNatClampNeg) 3) then
      x1.1
    else (x1.1 ||| (shI (1 : Int32) x1.2))) : Int32) (fun x5 =>
        lt (x1.2 + (1 : Int32)) (fun v6 =>
          j2 (x5, v6))))))) n ((0 : Int32), (0 : Int32))
set_option maxHeartbeats 4000000 in
set_option maxRecDepth 20000 in
theorem ok_T_spent (g : ZG) (n : Nat) (s : ZSt) : ZF g 0 y_T_spent [.ref 201] s (f_T_spent n s) (fun b => some (.int b)) (fun _ => s) := by
  refine ZF.of (by decide +kernel) (Nat.le_of_ble_eq_true rfl) ?_
  unfold f_T_spent
  show ZO g 0 y_T_spent zu0 0 [(0, .ref 201)] [] s _ _
  refine ZO.iconst (pc := 0) (0 : Int32) d_T_spent_0 (by decide) ?_
  refine ZO.istore_n (pc := 1) (v := (0 : Int32)) (L' := [(0, .ref 201), (1, .int (0 : Int32))]) [1, 0] d_T_spent_1 rfl (by decide) rfl ?_
  refine ZO.iconst (pc := 2) (0 : Int32) d_T_spent_2 (by decide) ?_
  refine ZO.istore_n (pc := 3) (v := (0 : Int32)) (L' := [(0, .ref 201), (1, .int (0 : Int32)), (2, .int (0 : Int32))]) [1, 2, 0] d_T_spent_3 rfl (by decide) rfl ?_
  refine ZO.loop (fun (x1 : Int32 × Int32) => ([(0, .ref 201), (1, .int x1.1), (2, .int x1.2)] : List (Nat × Value))) (fun (x1 : Int32 × Int32) => s) [] (fun j2 x1 hj2 => ?_) rfl rfl rfl
  refine ZO.iload_n (pc := 4) 2 d_T_spent_4 rfl rfl ?_
  refine ZO.aload_n (pc := 5) 0 d_T_spent_5 rfl rfl ?_
  refine ZO.getI (pc := 6) d_T_spent_6 zo_201 zf_T_32 rfl ?_
  refine ZO.icmp_ge (pc := 9) 45 d_T_spent_9 (by decide) rfl (fun h3 => ?_) (fun h3 => ?_)
  · refine ZO.iload_n (pc := 45) 1 d_T_spent_45 rfl rfl ?_
    exact ZO.iret (pc := 46)  d_T_spent_46 rfl rfl rfl
  · refine ZO.aload_n (pc := 12) 0 d_T_spent_12 rfl rfl ?_
    refine ZO.getA (pc := 13) 240 d_T_spent_13 zo_201 zf_T_11 rfl rfl ?_
    refine ZO.iload_n (pc := 16) 2 d_T_spent_16 rfl rfl ?_
    refine ZO.rgd (fun h4 => ?_)
    refine ZO.aald (pc := 17) (q0 := 0) d_T_spent_17 (by decide) za_240 h4 ?_
    refine ZO.getI (pc := 18) d_T_spent_18 (zr_b h4) zf_T_38 rfl ?_
    refine ZO.aload_n (pc := 21) 0 d_T_spent_21 rfl rfl ?_
    refine ZO.getA (pc := 22) 240 d_T_spent_22 zo_201 zf_T_11 rfl rfl ?_
    refine ZO.iload_n (pc := 25) 2 d_T_spent_25 rfl rfl ?_
    refine ZO.aald (pc := 26) (q0 := 0) d_T_spent_26 (by decide) za_240 h4 ?_
    refine ZO.getI (pc := 27) d_T_spent_27 (zr_b h4) zf_T_41 rfl ?_
    refine ZO.phi (pcJ := 39) (LJ := fun (x5 : Int32) => ([(0, .ref 201), (1, .int x5), (2, .int x1.2)] : List (Nat × Value))) (SJ := fun (x5 : Int32) => ([] : List Value)) (fun x5 => ?_) (fun t hj7 => ?_)
    · refine ZO.iincL (pc := 39) (i := 2) (x1.2 + (1 : Int32)) (L' := fun v6 => [(0, .ref 201), (1, .int x5), (2, .int v6)]) [1, 2, 0] d_T_spent_39 rfl (by rfl) (by decide) (fun _ => rfl) (fun v6 => ?_)
      refine ZO.goto (pc := 42) 4 d_T_spent_42 (by decide) ?_
      exact hj2 (x5, v6)
    · refine ZO.icmp_lt (pc := 30) 39 d_T_spent_30 (by decide) z_ite (fun h8 => ?_) (fun h8 => ?_)
      · exact hj7 x1.1 (by rw [if_pos h8])
      · refine ZO.iload_n (pc := 33) 1 d_T_spent_33 rfl rfl ?_
        refine ZO.iconst (pc := 34) (1 : Int32) d_T_spent_34 (by decide) ?_
        refine ZO.iload_n (pc := 35) 2 d_T_spent_35 rfl rfl ?_
        refine ZO.ishl (pc := 36) d_T_spent_36 ?_
        refine ZO.ior (pc := 37) d_T_spent_37 ?_
        refine ZO.istore_n (pc := 38) (v := (x1.1 ||| (shI (1 : Int32) x1.2))) (L' := [(0, .ref 201), (1, .int (x1.1 ||| (shI (1 : Int32) x1.2))), (2, .int x1.2)]) [1, 0, 2] d_T_spent_38 rfl (by decide) rfl ?_
        exact hj7 (x1.1 ||| (shI (1 : Int32) x1.2)) (by rw [if_neg h8])
def f_X_on (a0 : Int64) (a1 : Int32) : Int32 :=
  ((srL a0 ((12 : Int32) * a1)).toInt32 &&& (4095 : Int32))
set_option maxHeartbeats 4000000 in
set_option maxRecDepth 20000 in
theorem ok_X_on (g : ZG) (a0 : Int64) (a1 : Int32) (s : ZSt) : ZF g 0 y_X_on [.long a0, .int a1] s (some (f_X_on a0 a1)) (fun b => some (.int b)) (fun _ => s) := by
  refine ZF.of (by decide +kernel) (Nat.le_of_ble_eq_true rfl) ?_
  unfold f_X_on
  show ZO g 0 y_X_on zu0 0 [(0, .long a0), (2, .int a1)] [] s _ _
  refine ZO.lload_n (pc := 0) 0 d_X_on_0 rfl rfl ?_
  refine ZO.bipush (pc := 1) (12 : Int32) d_X_on_1 (by decide) ?_
  refine ZO.iload_n (pc := 3) 1 d_X_on_3 rfl rfl ?_
  refine ZO.imul (pc := 4) d_X_on_4 ?_
  refine ZO.lshr (pc := 5) d_X_on_5 ?_
  refine ZO.l2i (pc := 6) d_X_on_6 ?_
  refine ZO.sipush (pc := 7) (4095 : Int32) d_X_on_7 (by decide) ?_
  refine ZO.iand (pc := 10) d_X_on_10 ?_
  exact ZO.iret (pc := 11)  d_X_on_11 rfl rfl rfl
def f_X_anywhere (a0 : Int64) : Int32 :=
  (((f_X_on a0 (0 : Int32)) ||| (f_X_on a0 (1 : Int32))) ||| (f_X_on a0 (2 : Int32)))
set_option maxHeartbeats 4000000 in
set_option maxRecDepth 20000 in
theorem ok_X_anywhere (g : ZG) (a0 : Int64) (s : ZSt) : ZF g 1 y_X_anywhere [.long a0] s (some (f_X_anywhere a0)) (fun b => some (.int b)) (fun _ => s) := by
  refine ZF.of (by decide +kernel) (Nat.le_of_ble_eq_true rfl) ?_
  unfold f_X_anywhere
  show ZO g 1 y_X_anywhere zu0 0 [(0, .long a0)] [] s _ _
  refine ZO.lload_n (pc := 0) 0 d_X_anywhere_0 rfl rfl ?_
  refine ZO.iconst (pc := 1) (0 : Int32) d_X_anywhere_1 (by decide) ?_
  refine ZO.tSI (pc := 2) (As := [.long a0, .int (0 : Int32)]) (rest := []) d_X_anywhere_2 zc_X_178 (by decide) rfl rfl (Nat.le_of_ble_eq_true rfl) (ok_X_on g a0 (0 : Int32) s) ?_
  refine ZO.lload_n (pc := 5) 0 d_X_anywhere_5 rfl rfl ?_
  refine ZO.iconst (pc := 6) (1 : Int32) d_X_anywhere_6 (by decide) ?_
  refine ZO.tSI (pc := 7) (As := [.long a0, .int (1 : Int32)]) (rest := [.int (f_X_on a0 (0 : Int32))]) d_X_anywhere_7 zc_X_178 (by decide) rfl rfl (Nat.le_of_ble_eq_true rfl) (ok_X_on g a0 (1 : Int32) s) ?_
  refine ZO.ior (pc := 10) d_X_anywhere_10 ?_
  refine ZO.lload_n (pc := 11) 0 d_X_anywhere_11 rfl rfl ?_
  refine ZO.iconst (pc := 12) (2 : Int32) d_X_anywhere_12 (by decide) ?_
  refine ZO.tSI (pc := 13) (As := [.long a0, .int (2 : Int32)]) (rest := [.int ((f_X_on a0 (0 : Int32)) ||| (f_X_on a0 (1 : Int32)))]) d_X_anywhere_13 zc_X_178 (by decide) rfl rfl (Nat.le_of_ble_eq_true rfl) (ok_X_on g a0 (2 : Int32) s) ?_
  refine ZO.ior (pc := 16) d_X_anywhere_16 ?_
  exact ZO.iret (pc := 17)  d_X_anywhere_17 rfl rfl rfl
def f_T_mayBy (n : Nat) (a0 : Int32) (a1 : Int32) (s : ZSt) : Option (Int32 × ZSt) :=
  lt ((a0 * (4096 : Int32)) + a1) (fun v1 =>
  gd (inb v1 12288) (
  (jn (fun (x3 : ZSt) =>
    some ((ai x3 243 v1), x3)) (fun j4 =>
    if (ai s 244 v1) = (gi s 201 5) then
  j4 s
else lpN (fun j7 (x6 : Int32 × Int32 × ZSt) =>
    (if (gi x6.2.2 201 2) ≤ x6.2.1 then
      lt (sai x6.2.2 243 v1 x6.1) (fun s9 =>
        lt (sai s9 244 v1 (gi s9 201 5)) (fun s10 =>
        j4 s10))
    else gd (inb x6.2.1 12) (
        bn (f_B_condition (z_ra 240 x6.2.1.toNatClampNeg) x6.2.2) (fun p12 =>
        gd (z_isO p12 1) (
        bn (f_E_worth n p12 a1 (gi x6.2.2 (z_ra 240 x6.2.1.toNatClampNeg) 5) a0 x6.2.2) (fun p14 =>
        (lt ((if p14.1 = 0 then
        x6.1
      else (x6.1 ||| (shI (1 : Int32) x6.2.1))) : Int32) (fun x15 =>
          lt (x6.2.1 + (1 : Int32)) (fun v16 =>
            j7 (x15, v16, p14.2)))))))))) n ((0 : Int32), (0 : Int32), s)))))
set_option maxHeartbeats 4000000 in
set_option maxRecDepth 20000 in
theorem ok_T_mayBy (g : ZG) (n : Nat) (a0 : Int32) (a1 : Int32) (s : ZSt) : ZF g 2 y_T_mayBy [.ref 201, .int a0, .int a1] s (f_T_mayBy n a0 a1 s) (fun b => some (.int b.1)) (fun b => b.2) := by
  refine ZF.of (by decide +kernel) (Nat.le_of_ble_eq_true rfl) ?_
  unfold f_T_mayBy
  show ZO g 2 y_T_mayBy zu0 0 [(0, .ref 201), (1, .int a0), (2, .int a1)] [] s _ _
  refine ZO.iload_n (pc := 0) 1 d_T_mayBy_0 rfl rfl ?_
  refine ZO.sipush (pc := 1) (4096 : Int32) d_T_mayBy_1 (by decide) ?_
  refine ZO.imul (pc := 4) d_T_mayBy_4 ?_
  refine ZO.iload_n (pc := 5) 2 d_T_mayBy_5 rfl rfl ?_
  refine ZO.iadd (pc := 6) d_T_mayBy_6 ?_
  refine ZO.ltI (fun v1 => ?_)
  refine ZO.istore_n (pc := 7) (v := v1) (L' := [(0, .ref 201), (1, .int a0), (2, .int a1), (3, .int v1)]) [1, 2, 3, 0] d_T_mayBy_7 rfl (by decide) rfl ?_
  refine ZO.aload_n (pc := 8) 0 d_T_mayBy_8 rfl rfl ?_
  refine ZO.getA (pc := 9) 244 d_T_mayBy_9 zo_201 zf_T_24 rfl rfl ?_
  refine ZO.iload_n (pc := 12) 3 d_T_mayBy_12 rfl rfl ?_
  refine ZO.rgd (fun h2 => ?_)
  refine ZO.iald (pc := 13) d_T_mayBy_13 za_244 h2 ?_
  refine ZO.aload_n (pc := 14) 0 d_T_mayBy_14 rfl rfl ?_
  refine ZO.getI (pc := 15) d_T_mayBy_15 zo_201 zf_T_27 rfl ?_
  refine ZO.rjn (pcJ := 97) (LJ := fun (x3 : ZSt) => ([(0, .ref 201), (3, .int v1)] : List (Nat × Value))) (SJ := fun (x3 : ZSt) => ([] : List Value)) (σJ := fun (x3 : ZSt) => x3) (fun x3 => ?_) (fun j4 hj4 => ?_)
  · refine ZO.aload_n (pc := 97) 0 d_T_mayBy_97 rfl rfl ?_
    refine ZO.getA (pc := 98) 243 d_T_mayBy_98 zo_201 zf_T_21 rfl rfl ?_
    refine ZO.iload_n (pc := 101) 1 d_T_mayBy_101 rfl rfl ?_
    refine ZO.iald (pc := 102) d_T_mayBy_102 za_243 h2 ?_
    exact ZO.iret (pc := 103)  d_T_mayBy_103 rfl rfl rfl
  · refine ZO.icmp_eq (pc := 18) 97 d_T_mayBy_18 (by decide) rfl (fun h5 => ?_) (fun h5 => ?_)
    · exact ZO.sub [0, 3] rfl (hj4 s)
    · refine ZO.iconst (pc := 21) (0 : Int32) d_T_mayBy_21 (by decide) ?_
      refine ZO.istore (pc := 22) (v := (0 : Int32)) (L' := [(0, .ref 201), (1, .int a0), (2, .int a1), (3, .int v1), (4, .int (0 : Int32))]) [1, 2, 3, 4, 0] d_T_mayBy_22 (by decide) rfl ?_
      refine ZO.iconst (pc := 24) (0 : Int32) d_T_mayBy_24 (by decide) ?_
      refine ZO.istore (pc := 25) (v := (0 : Int32)) (L' := [(0, .ref 201), (1, .int a0), (2, .int a1), (3, .int v1), (4, .int (0 : Int32)), (5, .int (0 : Int32))]) [1, 2, 3, 4, 5, 0] d_T_mayBy_25 (by decide) rfl ?_
      refine ZO.loop (fun (x6 : Int32 × Int32 × ZSt) => ([(0, .ref 201), (1, .int a0), (2, .int a1), (3, .int v1), (4, .int x6.1), (5, .int x6.2.1)] : List (Nat × Value))) (fun (x6 : Int32 × Int32 × ZSt) => x6.2.2) [] (fun j7 x6 hj7 => ?_) rfl rfl rfl
      refine ZO.iload (pc := 27) 5 d_T_mayBy_27 rfl ?_
      refine ZO.aload_n (pc := 29) 0 d_T_mayBy_29 rfl rfl ?_
      refine ZO.getI (pc := 30) d_T_mayBy_30 zo_201 zf_T_32 rfl ?_
      refine ZO.icmp_ge (pc := 33) 79 d_T_mayBy_33 (by decide) rfl (fun h8 => ?_) (fun h8 => ?_)
      · refine ZO.aload_n (pc := 79) 0 d_T_mayBy_79 rfl rfl ?_
        refine ZO.getA (pc := 80) 243 d_T_mayBy_80 zo_201 zf_T_21 rfl rfl ?_
        refine ZO.iload_n (pc := 83) 3 d_T_mayBy_83 rfl rfl ?_
        refine ZO.iload (pc := 84) 4 d_T_mayBy_84 rfl ?_
        refine ZO.iast (pc := 86) d_T_mayBy_86 za_243 h2 ?_
        refine ZO.ltS (fun s9 => ?_)
        refine ZO.aload_n (pc := 87) 0 d_T_mayBy_87 rfl rfl ?_
        refine ZO.getA (pc := 88) 244 d_T_mayBy_88 zo_201 zf_T_24 rfl rfl ?_
        refine ZO.iload_n (pc := 91) 3 d_T_mayBy_91 rfl rfl ?_
        refine ZO.aload_n (pc := 92) 0 d_T_mayBy_92 rfl rfl ?_
        refine ZO.getI (pc := 93) d_T_mayBy_93 zo_201 zf_T_27 rfl ?_
        refine ZO.iast (pc := 96) d_T_mayBy_96 za_244 h2 ?_
        refine ZO.ltS (fun s10 => ?_)
        exact ZO.sub [0, 3] rfl (hj4 s10)
      · refine ZO.aload_n (pc := 36) 0 d_T_mayBy_36 rfl rfl ?_
        refine ZO.getA (pc := 37) 240 d_T_mayBy_37 zo_201 zf_T_11 rfl rfl ?_
        refine ZO.iload (pc := 40) 5 d_T_mayBy_40 rfl ?_
        refine ZO.rgd (fun h11 => ?_)
        refine ZO.aald (pc := 42) (q0 := 0) d_T_mayBy_42 (by decide) za_240 h11 ?_
        refine ZO.cVA (pc := 43) (As := []) (rest := []) d_T_mayBy_43 zc_T_44 (by decide) (zr_b h11) rfl rfl rfl (Nat.le_of_ble_eq_true rfl) (ok_B_condition g (z_ra 240 x6.2.1.toNatClampNeg) x6.2.2) (fun p12 ep12 => ?_)
        refine ZO.rgd (fun h13 => ?_)
        refine ZO.iload_n (pc := 46) 2 d_T_mayBy_46 rfl rfl ?_
        refine ZO.aload_n (pc := 47) 0 d_T_mayBy_47 rfl rfl ?_
        refine ZO.getA (pc := 48) 240 d_T_mayBy_48 zo_201 zf_T_11 rfl rfl ?_
        refine ZO.iload (pc := 51) 5 d_T_mayBy_51 rfl ?_
        refine ZO.aald (pc := 53) (q0 := 0) d_T_mayBy_53 (by decide) za_240 h11 ?_
        refine ZO.getI (pc := 54) d_T_mayBy_54 (zr_b h11) zf_T_35 rfl ?_
        refine ZO.iload_n (pc := 57) 1 d_T_mayBy_57 rfl rfl ?_
        refine ZO.cVI (pc := 58) (As := [.int a1, .int (gi x6.2.2 (z_ra 240 x6.2.1.toNatClampNeg) 5), .int a0]) (rest := []) d_T_mayBy_58 zc_T_48 (by decide) h13 rfl rfl rfl (Nat.le_of_ble_eq_true rfl) (ok_E_worth g n p12 a1 (gi x6.2.2 (z_ra 240 x6.2.1.toNatClampNeg) 5) a0 x6.2.2) (fun p14 ep14 => ?_)
        refine ZO.phi (pcJ := 73) (LJ := fun (x15 : Int32) => ([(0, .ref 201), (1, .int a0), (2, .int a1), (3, .int v1), (4, .int x15), (5, .int x6.2.1)] : List (Nat × Value))) (SJ := fun (x15 : Int32) => ([] : List Value)) (fun x15 => ?_) (fun t hj17 => ?_)
        · refine ZO.iincL (pc := 73) (i := 5) (x6.2.1 + (1 : Int32)) (L' := fun v16 => [(0, .ref 201), (1, .int a0), (2, .int a1), (3, .int v1), (4, .int x15), (5, .int v16)]) [1, 2, 3, 4, 5, 0] d_T_mayBy_73 rfl (by rfl) (by decide) (fun _ => rfl) (fun v16 => ?_)
          refine ZO.goto (pc := 76) 27 d_T_mayBy_76 (by decide) ?_
          exact hj7 (x15, v16, p14.2)
        · refine ZO.if_eq (pc := 61) 73 d_T_mayBy_61 (by decide) z_ite (fun h18 => ?_) (fun h18 => ?_)
          · exact hj17 x6.1 (by rw [if_pos h18])
          · refine ZO.iload (pc := 64) 4 d_T_mayBy_64 rfl ?_
            refine ZO.iconst (pc := 66) (1 : Int32) d_T_mayBy_66 (by decide) ?_
            refine ZO.iload (pc := 67) 5 d_T_mayBy_67 rfl ?_
            refine ZO.ishl (pc := 69) d_T_mayBy_69 ?_
            refine ZO.ior (pc := 70) d_T_mayBy_70 ?_
            refine ZO.istore (pc := 71) (v := (x6.1 ||| (shI (1 : Int32) x6.2.1))) (L' := [(0, .ref 201), (1, .int a0), (2, .int a1), (3, .int v1), (4, .int (x6.1 ||| (shI (1 : Int32) x6.2.1))), (5, .int x6.2.1)]) [1, 2, 3, 4, 0, 5] d_T_mayBy_71 (by decide) rfl ?_
            exact hj17 (x6.1 ||| (shI (1 : Int32) x6.2.1)) (by rw [if_neg h18])
def f_T_possible (n : Nat) (a0 : Int64) (a1 : Int32) (a2 : Int32) (s : ZSt) : Option (Int32 × ZSt) :=
  lt (f_X_anywhere a0) (fun v1 =>
  (if a2 = (3 : Int32) then
  some (v1, s)
else (lt ((if (3 : Int32) ≤ a2 then
    (a2 - (4 : Int32))
  else a2) : Int32) (fun x3 =>
      lt (f_X_on a0 x3) (fun v4 =>
        gd (inb x3 3) (
        (if (f_J_bitCount v4) < (ai s 241 x3) then
        (lt ((if (3 : Int32) ≤ a2 then
          (v1 &&& (v4 ^^^ (-1 : Int32)))
        else ((v1 ^^^ (-1 : Int32)) &&& (a1 ^^^ (-1 : Int32)))) : Int32) (fun x7 =>
            (if x7 = 0 then
              some ((0 : Int32), s)
            else bn (f_T_mayBy n x3 v4 s) (fun p9 =>
                some ((x7 &&& p9.1), p9.2)))))
      else some ((0 : Int32), s))))))))
set_option maxHeartbeats 4000000 in
set_option maxRecDepth 20000 in
theorem ok_T_possible (g : ZG) (n : Nat) (a0 : Int64) (a1 : Int32) (a2 : Int32) (s : ZSt) : ZF g 3 y_T_possible [.ref 201, .long a0, .int a1, .int a2] s (f_T_possible n a0 a1 a2 s) (fun b => some (.int b.1)) (fun b => b.2) := by
  refine ZF.of (by decide +kernel) (Nat.le_of_ble_eq_true rfl) ?_
  unfold f_T_possible
  show ZO g 3 y_T_possible zu0 0 [(0, .ref 201), (1, .long a0), (3, .int a1), (4, .int a2)] [] s _ _
  refine ZO.lload_n (pc := 0) 1 d_T_possible_0 rfl rfl ?_
  refine ZO.tSNI (pc := 1) (As := [.long a0]) (rest := []) d_T_possible_1 zc_T_66 (by decide) rfl rfl (Nat.le_of_ble_eq_true rfl) (ok_X_anywhere g a0 s) ?_
  refine ZO.ltI (fun v1 => ?_)
  refine ZO.istore (pc := 4) (v := v1) (L' := [(0, .ref 201), (1, .long a0), (3, .int a1), (4, .int a2), (5, .int v1)]) [1, 2, 3, 4, 0] d_T_possible_4 (by decide) rfl ?_
  refine ZO.iload (pc := 6) 3 d_T_possible_6 rfl ?_
  refine ZO.iconst (pc := 8) (3 : Int32) d_T_possible_8 (by decide) ?_
  refine ZO.icmp_ne (pc := 9) 15 d_T_possible_9 (by decide) rfl (fun h2 => ?_) (fun h2 => ?_)
  · refine ZO.iload (pc := 12) 4 d_T_possible_12 rfl ?_
    exact ZO.iret (pc := 14)  d_T_possible_14 rfl rfl rfl
  · refine ZO.iload (pc := 15) 3 d_T_possible_15 rfl ?_
    refine ZO.iconst (pc := 17) (3 : Int32) d_T_possible_17 (by decide) ?_
    refine ZO.phi (pcJ := 30) (LJ := fun (x3 : Int32) => ([(0, .ref 201), (1, .long a0), (3, .int a1), (4, .int a2), (5, .int v1)] : List (Nat × Value))) (SJ := fun (x3 : Int32) => ([.int x3] : List Value)) (fun x3 => ?_) (fun t hj12 => ?_)
    · refine ZO.istore (pc := 30) (v := x3) (L' := [(0, .ref 201), (1, .long a0), (3, .int a1), (4, .int a2), (5, .int v1), (6, .int x3)]) [1, 2, 3, 4, 5, 0] d_T_possible_30 (by decide) rfl ?_
      refine ZO.lload_n (pc := 32) 1 d_T_possible_32 rfl rfl ?_
      refine ZO.iload (pc := 33) 5 d_T_possible_33 rfl ?_
      refine ZO.tSNI (pc := 35) (As := [.long a0, .int x3]) (rest := []) d_T_possible_35 zc_T_54 (by decide) rfl rfl (Nat.le_of_ble_eq_true rfl) (ok_X_on g a0 x3 s) ?_
      refine ZO.ltI (fun v4 => ?_)
      refine ZO.istore (pc := 38) (v := v4) (L' := [(0, .ref 201), (1, .long a0), (3, .int a1), (4, .int a2), (5, .int v1), (6, .int x3), (7, .int v4)]) [1, 2, 3, 4, 5, 6, 0] d_T_possible_38 (by decide) rfl ?_
      refine ZO.iload (pc := 40) 6 d_T_possible_40 rfl ?_
      refine ZO.tSI (pc := 42) (As := [.int v4]) (rest := []) d_T_possible_42 zc_T_70 (by decide) rfl rfl (Nat.le_of_ble_eq_true rfl) (ok_J_bitCount g v4 s) ?_
      refine ZO.aload_n (pc := 45) 0 d_T_possible_45 rfl rfl ?_
      refine ZO.getA (pc := 46) 241 d_T_possible_46 zo_201 zf_T_17 rfl rfl ?_
      refine ZO.iload (pc := 49) 5 d_T_possible_49 rfl ?_
      refine ZO.rgd (fun h5 => ?_)
      refine ZO.iald (pc := 51) d_T_possible_51 za_241 h5 ?_
      refine ZO.icmp_lt (pc := 52) 57 d_T_possible_52 (by decide) rfl (fun h6 => ?_) (fun h6 => ?_)
      · refine ZO.iload (pc := 57) 3 d_T_possible_57 rfl ?_
        refine ZO.iconst (pc := 59) (3 : Int32) d_T_possible_59 (by decide) ?_
        refine ZO.phi (pcJ := 81) (LJ := fun (x7 : Int32) => ([(0, .ref 201), (6, .int x3), (7, .int v4)] : List (Nat × Value))) (SJ := fun (x7 : Int32) => ([.int x7] : List Value)) (fun x7 => ?_) (fun t hj10 => ?_)
        · refine ZO.istore (pc := 81) (v := x7) (L' := [(0, .ref 201), (6, .int x3), (7, .int v4), (8, .int x7)]) [1, 2, 3, 0] d_T_possible_81 (by decide) rfl ?_
          refine ZO.iload (pc := 83) 3 d_T_possible_83 rfl ?_
          refine ZO.if_ne (pc := 85) 92 d_T_possible_85 (by decide) rfl (fun h8 => ?_) (fun h8 => ?_)
          · refine ZO.iconst (pc := 88) (0 : Int32) d_T_possible_88 (by decide) ?_
            refine ZO.goto (pc := 89) 103 d_T_possible_89 (by decide) ?_
            exact ZO.iret (pc := 103)  d_T_possible_103 rfl rfl rfl
          · refine ZO.iload (pc := 92) 3 d_T_possible_92 rfl ?_
            refine ZO.aload_n (pc := 94) 0 d_T_possible_94 rfl rfl ?_
            refine ZO.iload (pc := 95) 1 d_T_possible_95 rfl ?_
            refine ZO.iload (pc := 97) 2 d_T_possible_97 rfl ?_
            refine ZO.cVI (pc := 99) (As := [.int x3, .int v4]) (rest := [.int x7]) d_T_possible_99 zc_T_58 (by decide) zo_201 rfl rfl rfl (Nat.le_of_ble_eq_true rfl) (ok_T_mayBy g n x3 v4 s) (fun p9 ep9 => ?_)
            refine ZO.iand (pc := 102) d_T_possible_102 ?_
            exact ZO.iret (pc := 103)  d_T_possible_103 rfl rfl rfl
        · refine ZO.icmp_ge (pc := 60) 74 d_T_possible_60 (by decide) z_ite (fun h11 => ?_) (fun h11 => ?_)
          · refine ZO.iload (pc := 74) 4 d_T_possible_74 rfl ?_
            refine ZO.iload (pc := 76) 6 d_T_possible_76 rfl ?_
            refine ZO.iconst (pc := 78) (-1 : Int32) d_T_possible_78 (by decide) ?_
            refine ZO.ixor (pc := 79) d_T_possible_79 ?_
            refine ZO.iand (pc := 80) d_T_possible_80 ?_
            exact ZO.sub [0, 5, 6] rfl (hj10 (v1 &&& (v4 ^^^ (-1 : Int32))) (by rw [if_pos h11]))
          · refine ZO.iload (pc := 63) 4 d_T_possible_63 rfl ?_
            refine ZO.iconst (pc := 65) (-1 : Int32) d_T_possible_65 (by decide) ?_
            refine ZO.ixor (pc := 66) d_T_possible_66 ?_
            refine ZO.iload_n (pc := 67) 2 d_T_possible_67 rfl rfl ?_
            refine ZO.iconst (pc := 68) (-1 : Int32) d_T_possible_68 (by decide) ?_
            refine ZO.ixor (pc := 69) d_T_possible_69 ?_
            refine ZO.iand (pc := 70) d_T_possible_70 ?_
            refine ZO.goto (pc := 71) 81 d_T_possible_71 (by decide) ?_
            exact ZO.sub [0, 5, 6] rfl (hj10 ((v1 ^^^ (-1 : Int32)) &&& (a1 ^^^ (-1 : Int32))) (by rw [if_neg h11]))
      · refine ZO.iconst (pc := 55) (0 : Int32) d_T_possible_55 (by decide) ?_
        exact ZO.iret (pc := 56)  d_T_possible_56 rfl rfl rfl
    · refine ZO.icmp_ge (pc := 18) 26 d_T_possible_18 (by decide) z_ite (fun h13 => ?_) (fun h13 => ?_)
      · refine ZO.iload (pc := 26) 3 d_T_possible_26 rfl ?_
        refine ZO.iconst (pc := 28) (4 : Int32) d_T_possible_28 (by decide) ?_
        refine ZO.isub (pc := 29) d_T_possible_29 ?_
        exact hj12 (a2 - (4 : Int32)) (by rw [if_pos h13])
      · refine ZO.iload (pc := 21) 3 d_T_possible_21 rfl ?_
        refine ZO.goto (pc := 23) 30 d_T_possible_23 (by decide) ?_
        exact hj12 a2 (by rw [if_neg h13])
def f_X_tableOf (n : Nat) (a0 : Int64) (a1 : Int32) : Option Int32 :=
  lpN (fun j2 (x1 : Int32) =>
  (if (3 : Int32) ≤ x1 then
    some (-1 : Int32)
  else (if ((srI (f_X_on a0 x1) a1) &&& (1 : Int32)) = 0 then
      lt (x1 + (1 : Int32)) (fun v5 =>
        j2 v5)
    else some x1))) n (0 : Int32)
set_option maxHeartbeats 4000000 in
set_option maxRecDepth 20000 in
theorem ok_X_tableOf (g : ZG) (n : Nat) (a0 : Int64) (a1 : Int32) (s : ZSt) : ZF g 1 y_X_tableOf [.long a0, .int a1] s (f_X_tableOf n a0 a1) (fun b => some (.int b)) (fun _ => s) := by
  refine ZF.of (by decide +kernel) (Nat.le_of_ble_eq_true rfl) ?_
  unfold f_X_tableOf
  show ZO g 1 y_X_tableOf zu0 0 [(0, .long a0), (2, .int a1)] [] s _ _
  refine ZO.iconst (pc := 0) (0 : Int32) d_X_tableOf_0 (by decide) ?_
  refine ZO.istore_n (pc := 1) (v := (0 : Int32)) (L' := [(0, .long a0), (2, .int a1), (3, .int (0 : Int32))]) [1, 2, 0] d_X_tableOf_1 rfl (by decide) rfl ?_
  refine ZO.loop (fun (x1 : Int32) => ([(0, .long a0), (2, .int a1), (3, .int x1)] : List (Nat × Value))) (fun (x1 : Int32) => s) [] (fun j2 x1 hj2 => ?_) rfl rfl rfl
  refine ZO.iload_n (pc := 2) 2 d_X_tableOf_2 rfl rfl ?_
  refine ZO.iconst (pc := 3) (3 : Int32) d_X_tableOf_3 (by decide) ?_
  refine ZO.icmp_ge (pc := 4) 27 d_X_tableOf_4 (by decide) rfl (fun h3 => ?_) (fun h3 => ?_)
  · refine ZO.iconst (pc := 27) (-1 : Int32) d_X_tableOf_27 (by decide) ?_
    exact ZO.iret (pc := 28)  d_X_tableOf_28 rfl rfl rfl
  · refine ZO.lload_n (pc := 7) 0 d_X_tableOf_7 rfl rfl ?_
    refine ZO.iload_n (pc := 8) 2 d_X_tableOf_8 rfl rfl ?_
    refine ZO.tSI (pc := 9) (As := [.long a0, .int x1]) (rest := []) d_X_tableOf_9 zc_X_178 (by decide) rfl rfl (Nat.le_of_ble_eq_true rfl) (ok_X_on g a0 x1 s) ?_
    refine ZO.iload_n (pc := 12) 1 d_X_tableOf_12 rfl rfl ?_
    refine ZO.ishr (pc := 13) d_X_tableOf_13 ?_
    refine ZO.iconst (pc := 14) (1 : Int32) d_X_tableOf_14 (by decide) ?_
    refine ZO.iand (pc := 15) d_X_tableOf_15 ?_
    refine ZO.if_eq (pc := 16) 21 d_X_tableOf_16 (by decide) rfl (fun h4 => ?_) (fun h4 => ?_)
    · refine ZO.iincL (pc := 21) (i := 2) (x1 + (1 : Int32)) (L' := fun v5 => [(0, .long a0), (2, .int a1), (3, .int v5)]) [1, 2, 0] d_X_tableOf_21 rfl (by rfl) (by decide) (fun _ => rfl) (fun v5 => ?_)
      refine ZO.goto (pc := 24) 2 d_X_tableOf_24 (by decide) ?_
      exact hj2 v5
    · refine ZO.iload_n (pc := 19) 2 d_X_tableOf_19 rfl rfl ?_
      exact ZO.iret (pc := 20)  d_X_tableOf_20 rfl rfl rfl
def f_X_with (a0 : Int64) (a1 : Int32) (a2 : Int32) : Int64 :=
  lt ((12 : Int32) * a1) (fun v1 =>
  ((a0 &&& ((shL (4095 : Int64) v1) ^^^ (-1 : Int64))) ||| (shL a2.toInt64 v1)))
set_option maxHeartbeats 4000000 in
set_option maxRecDepth 20000 in
theorem ok_X_with (g : ZG) (a0 : Int64) (a1 : Int32) (a2 : Int32) (s : ZSt) : ZF g 0 y_X_with [.long a0, .int a1, .int a2] s (some (f_X_with a0 a1 a2)) (fun b => some (.long b)) (fun _ => s) := by
  refine ZF.of (by decide +kernel) (Nat.le_of_ble_eq_true rfl) ?_
  unfold f_X_with
  show ZO g 0 y_X_with zu0 0 [(0, .long a0), (2, .int a1), (3, .int a2)] [] s _ _
  refine ZO.bipush (pc := 0) (12 : Int32) d_X_with_0 (by decide) ?_
  refine ZO.iload_n (pc := 2) 1 d_X_with_2 rfl rfl ?_
  refine ZO.imul (pc := 3) d_X_with_3 ?_
  refine ZO.eqT (lt_some _ _) ?_
  refine ZO.ltI (fun v1 => ?_)
  refine ZO.istore (pc := 4) (v := v1) (L' := [(0, .long a0), (2, .int a1), (3, .int a2), (4, .int v1)]) [1, 2, 3, 0] d_X_with_4 (by decide) rfl ?_
  refine ZO.lload_n (pc := 6) 0 d_X_with_6 rfl rfl ?_
  refine ZO.ldc2 (pc := 7) (4095 : Int64) d_X_with_7 zk_X_415 ?_
  refine ZO.iload (pc := 10) 3 d_X_with_10 rfl ?_
  refine ZO.lshl (pc := 12) d_X_with_12 ?_
  refine ZO.ldc2 (pc := 13) (-1 : Int64) d_X_with_13 zk_X_417 ?_
  refine ZO.lxor (pc := 16) d_X_with_16 ?_
  refine ZO.land (pc := 17) d_X_with_17 ?_
  refine ZO.iload_n (pc := 18) 2 d_X_with_18 rfl rfl ?_
  refine ZO.i2l (pc := 19) d_X_with_19 ?_
  refine ZO.iload (pc := 20) 3 d_X_with_20 rfl ?_
  refine ZO.lshl (pc := 22) d_X_with_22 ?_
  refine ZO.lor (pc := 23) d_X_with_23 ?_
  exact ZO.lret (pc := 24)  d_X_with_24 rfl rfl rfl
def f_T_settled (n : Nat) (a0 : Int64) (a1 : Int32) (s : ZSt) : Option (Int64 × ZSt) :=
  lt (f_X_on a0 a1) (fun v1 =>
  bn (f_T_mayBy n a1 v1 s) (fun p2 =>
  lt (v1 &&& p2.1) (fun v3 =>
  jn (fun (x4 : Int32 × ZSt) =>
  some ((f_X_with a0 a1 x4.1), x4.2)) (fun j5 =>
  lpN (fun j7 (x6 : Int32 × Int32 × Int32 × ZSt) =>
  (if x6.2.1 = x6.1 then
    j5 (x6.1, x6.2.2.2)
  else (if (12 : Int32) ≤ x6.2.2.1 then
      j5 (x6.1, x6.2.2.2)
    else bn (f_T_mayBy n a1 x6.2.1 x6.2.2.2) (fun p10 =>
        lt (x6.2.1 &&& p10.1) (fun v11 =>
        lt (x6.2.2.1 + (1 : Int32)) (fun v12 =>
        j7 (x6.2.1, v11, v12, p10.2))))))) n (v1, v3, (0 : Int32), p2.2)))))
set_option maxHeartbeats 4000000 in
set_option maxRecDepth 20000 in
theorem ok_T_settled (g : ZG) (n : Nat) (a0 : Int64) (a1 : Int32) (s : ZSt) : ZF g 3 y_T_settled [.ref 201, .long a0, .int a1] s (f_T_settled n a0 a1 s) (fun b => some (.long b.1)) (fun b => b.2) := by
  refine ZF.of (by decide +kernel) (Nat.le_of_ble_eq_true rfl) ?_
  unfold f_T_settled
  show ZO g 3 y_T_settled zu0 0 [(0, .ref 201), (1, .long a0), (3, .int a1)] [] s _ _
  refine ZO.lload_n (pc := 0) 1 d_T_settled_0 rfl rfl ?_
  refine ZO.iload_n (pc := 1) 2 d_T_settled_1 rfl rfl ?_
  refine ZO.tSNI (pc := 2) (As := [.long a0, .int a1]) (rest := []) d_T_settled_2 zc_T_54 (by decide) rfl rfl (Nat.le_of_ble_eq_true rfl) (ok_X_on g a0 a1 s) ?_
  refine ZO.ltI (fun v1 => ?_)
  refine ZO.istore (pc := 5) (v := v1) (L' := [(0, .ref 201), (1, .long a0), (3, .int a1), (4, .int v1)]) [1, 2, 3, 0] d_T_settled_5 (by decide) rfl ?_
  refine ZO.iload (pc := 7) 3 d_T_settled_7 rfl ?_
  refine ZO.aload_n (pc := 9) 0 d_T_settled_9 rfl rfl ?_
  refine ZO.iload_n (pc := 10) 2 d_T_settled_10 rfl rfl ?_
  refine ZO.iload (pc := 11) 3 d_T_settled_11 rfl ?_
  refine ZO.cVI (pc := 13) (As := [.int a1, .int v1]) (rest := [.int v1]) d_T_settled_13 zc_T_58 (by decide) zo_201 rfl rfl rfl (Nat.le_of_ble_eq_true rfl) (ok_T_mayBy g n a1 v1 s) (fun p2 ep2 => ?_)
  refine ZO.iand (pc := 16) d_T_settled_16 ?_
  refine ZO.ltI (fun v3 => ?_)
  refine ZO.istore (pc := 17) (v := v3) (L' := [(0, .ref 201), (1, .long a0), (3, .int a1), (4, .int v1), (5, .int v3)]) [1, 2, 3, 4, 0] d_T_settled_17 (by decide) rfl ?_
  refine ZO.iconst (pc := 19) (0 : Int32) d_T_settled_19 (by decide) ?_
  refine ZO.istore (pc := 20) (v := (0 : Int32)) (L' := [(0, .ref 201), (1, .long a0), (3, .int a1), (4, .int v1), (5, .int v3), (6, .int (0 : Int32))]) [1, 2, 3, 4, 5, 0] d_T_settled_20 (by decide) rfl ?_
  refine ZO.rjn (pcJ := 58) (LJ := fun (x4 : Int32 × ZSt) => ([(1, .long a0), (3, .int a1), (4, .int x4.1)] : List (Nat × Value))) (SJ := fun (x4 : Int32 × ZSt) => ([] : List Value)) (σJ := fun (x4 : Int32 × ZSt) => x4.2) (fun x4 => ?_) (fun j5 hj5 => ?_)
  · refine ZO.lload_n (pc := 58) 0 d_T_settled_58 rfl rfl ?_
    refine ZO.iload_n (pc := 59) 1 d_T_settled_59 rfl rfl ?_
    refine ZO.iload (pc := 60) 2 d_T_settled_60 rfl ?_
    refine ZO.tSNJ (pc := 62) (As := [.long a0, .int a1, .int x4.1]) (rest := []) d_T_settled_62 zc_T_62 (by decide) rfl rfl (Nat.le_of_ble_eq_true rfl) (ok_X_with g a0 a1 x4.1 x4.2) ?_
    exact ZO.lret (pc := 65)  d_T_settled_65 rfl rfl rfl
  · refine ZO.loop (fun (x6 : Int32 × Int32 × Int32 × ZSt) => ([(0, .ref 201), (1, .long a0), (3, .int a1), (4, .int x6.1), (5, .int x6.2.1), (6, .int x6.2.2.1)] : List (Nat × Value))) (fun (x6 : Int32 × Int32 × Int32 × ZSt) => x6.2.2.2) [] (fun j7 x6 hj7 => ?_) rfl rfl rfl
    refine ZO.iload (pc := 22) 4 d_T_settled_22 rfl ?_
    refine ZO.iload (pc := 24) 3 d_T_settled_24 rfl ?_
    refine ZO.icmp_eq (pc := 26) 58 d_T_settled_26 (by decide) rfl (fun h8 => ?_) (fun h8 => ?_)
    · exact ZO.sub [1, 2, 3] rfl (hj5 (x6.1, x6.2.2.2))
    · refine ZO.iload (pc := 29) 5 d_T_settled_29 rfl ?_
      refine ZO.bipush (pc := 31) (12 : Int32) d_T_settled_31 (by decide) ?_
      refine ZO.icmp_ge (pc := 33) 58 d_T_settled_33 (by decide) rfl (fun h9 => ?_) (fun h9 => ?_)
      · exact ZO.sub [1, 2, 3] rfl (hj5 (x6.1, x6.2.2.2))
      · refine ZO.iload (pc := 36) 4 d_T_settled_36 rfl ?_
        refine ZO.istore (pc := 38) (v := x6.2.1) (L' := [(0, .ref 201), (1, .long a0), (3, .int a1), (4, .int x6.2.1), (5, .int x6.2.1), (6, .int x6.2.2.1)]) [1, 2, 3, 0, 4, 5] d_T_settled_38 (by decide) rfl ?_
        refine ZO.iload (pc := 40) 3 d_T_settled_40 rfl ?_
        refine ZO.aload_n (pc := 42) 0 d_T_settled_42 rfl rfl ?_
        refine ZO.iload_n (pc := 43) 2 d_T_settled_43 rfl rfl ?_
        refine ZO.iload (pc := 44) 3 d_T_settled_44 rfl ?_
        refine ZO.cVI (pc := 46) (As := [.int a1, .int x6.2.1]) (rest := [.int x6.2.1]) d_T_settled_46 zc_T_58 (by decide) zo_201 rfl rfl rfl (Nat.le_of_ble_eq_true rfl) (ok_T_mayBy g n a1 x6.2.1 x6.2.2.2) (fun p10 ep10 => ?_)
        refine ZO.iand (pc := 49) d_T_settled_49 ?_
        refine ZO.ltI (fun v11 => ?_)
        refine ZO.istore (pc := 50) (v := v11) (L' := [(0, .ref 201), (1, .long a0), (3, .int a1), (4, .int x6.2.1), (5, .int v11), (6, .int x6.2.2.1)]) [1, 2, 3, 4, 0, 5] d_T_settled_50 (by decide) rfl ?_
        refine ZO.iincL (pc := 52) (i := 5) (x6.2.2.1 + (1 : Int32)) (L' := fun v12 => [(0, .ref 201), (1, .long a0), (3, .int a1), (4, .int x6.2.1), (5, .int v11), (6, .int v12)]) [1, 2, 3, 4, 5, 0] d_T_settled_52 rfl (by rfl) (by decide) (fun _ => rfl) (fun v12 => ?_)
        refine ZO.goto (pc := 55) 22 d_T_settled_55 (by decide) ?_
        exact hj7 (x6.2.1, v11, v12, p10.2)
def f_T_after (n : Nat) (a0 : Int64) (a1 : Int32) (s : ZSt) : Option (Int64 × ZSt) :=
  lt (a1 / (20 : Int32)) (fun v1 =>
  lt (shI (1 : Int32) (remI a1 (20 : Int32))) (fun v2 =>
  bn (f_X_tableOf n a0 (remI a1 (20 : Int32))) (fun p3 =>
  (jn (fun (x4 : Int64 × ZSt) =>
    (if v1 = (3 : Int32) then
      some (x4.1, x4.2)
    else (lt ((if (3 : Int32) ≤ v1 then
        (v1 - (4 : Int32))
      else v1) : Int32) (fun x6 =>
          bn (f_T_settled n (f_X_with x4.1 x6 ((f_X_on x4.1 x6) ||| v2)) x6 x4.2) (fun p7 =>
            some (p7.1, p7.2)))))) (fun j10 =>
    if p3 = (-1 : Int32) then
  j10 (a0, s)
else bn (f_T_settled n (f_X_with a0 p3 ((f_X_on a0 p3) &&& (v2 ^^^ (-1 : Int32)))) p3 s) (fun p12 =>
    j10 (p12.1, p12.2)))))))
set_option maxHeartbeats 4000000 in
set_option maxRecDepth 20000 in
theorem ok_T_after (g : ZG) (n : Nat) (a0 : Int64) (a1 : Int32) (s : ZSt) : ZF g 4 y_T_after [.ref 201, .long a0, .int a1] s (f_T_after n a0 a1 s) (fun b => some (.long b.1)) (fun b => b.2) := by
  refine ZF.of (by decide +kernel) (Nat.le_of_ble_eq_true rfl) ?_
  unfold f_T_after
  show ZO g 4 y_T_after zu0 0 [(0, .ref 201), (1, .long a0), (3, .int a1)] [] s _ _
  refine ZO.iload_n (pc := 0) 2 d_T_after_0 rfl rfl ?_
  refine ZO.bipush (pc := 1) (20 : Int32) d_T_after_1 (by decide) ?_
  refine ZO.idiv (pc := 3) d_T_after_3 (by decide) ?_
  refine ZO.ltI (fun v1 => ?_)
  refine ZO.istore (pc := 4) (v := v1) (L' := [(0, .ref 201), (1, .long a0), (3, .int a1), (4, .int v1)]) [1, 2, 3, 0] d_T_after_4 (by decide) rfl ?_
  refine ZO.iconst (pc := 6) (1 : Int32) d_T_after_6 (by decide) ?_
  refine ZO.iload_n (pc := 7) 2 d_T_after_7 rfl rfl ?_
  refine ZO.bipush (pc := 8) (20 : Int32) d_T_after_8 (by decide) ?_
  refine ZO.irem (pc := 10) d_T_after_10 (by decide) ?_
  refine ZO.ishl (pc := 11) d_T_after_11 ?_
  refine ZO.ltI (fun v2 => ?_)
  refine ZO.istore (pc := 12) (v := v2) (L' := [(0, .ref 201), (1, .long a0), (3, .int a1), (4, .int v1), (5, .int v2)]) [1, 2, 3, 4, 0] d_T_after_12 (by decide) rfl ?_
  refine ZO.lload_n (pc := 14) 1 d_T_after_14 rfl rfl ?_
  refine ZO.iload_n (pc := 15) 2 d_T_after_15 rfl rfl ?_
  refine ZO.bipush (pc := 16) (20 : Int32) d_T_after_16 (by decide) ?_
  refine ZO.irem (pc := 18) d_T_after_18 (by decide) ?_
  refine ZO.cSNI (pc := 19) (As := [.long a0, .int (remI a1 (20 : Int32))]) (rest := []) d_T_after_19 zc_T_80 (by decide) rfl rfl (Nat.le_of_ble_eq_true rfl) (ok_X_tableOf g n a0 (remI a1 (20 : Int32)) s) (fun p3 ep3 => ?_)
  refine ZO.istore (pc := 22) (v := p3) (L' := [(0, .ref 201), (1, .long a0), (3, .int a1), (4, .int v1), (5, .int v2), (6, .int p3)]) [1, 2, 3, 4, 5, 0] d_T_after_22 (by decide) rfl ?_
  refine ZO.lload_n (pc := 24) 1 d_T_after_24 rfl rfl ?_
  refine ZO.lstore (pc := 25) (v := a0) (L' := [(0, .ref 201), (1, .long a0), (3, .int a1), (4, .int v1), (5, .int v2), (6, .int p3), (7, .long a0)]) [1, 2, 3, 4, 5, 6, 0] d_T_after_25 (by decide) rfl ?_
  refine ZO.iload (pc := 27) 5 d_T_after_27 rfl ?_
  refine ZO.iconst (pc := 29) (-1 : Int32) d_T_after_29 (by decide) ?_
  refine ZO.rjn (pcJ := 60) (LJ := fun (x4 : Int64 × ZSt) => ([(0, .ref 201), (4, .int v1), (5, .int v2), (7, .long x4.1)] : List (Nat × Value))) (SJ := fun (x4 : Int64 × ZSt) => ([] : List Value)) (σJ := fun (x4 : Int64 × ZSt) => x4.2) (fun x4 => ?_) (fun j10 hj10 => ?_)
  · refine ZO.iload (pc := 60) 1 d_T_after_60 rfl ?_
    refine ZO.iconst (pc := 62) (3 : Int32) d_T_after_62 (by decide) ?_
    refine ZO.icmp_eq (pc := 63) 108 d_T_after_63 (by decide) rfl (fun h5 => ?_) (fun h5 => ?_)
    · refine ZO.lload (pc := 108) 3 d_T_after_108 rfl ?_
      exact ZO.lret (pc := 110)  d_T_after_110 rfl rfl rfl
    · refine ZO.iload (pc := 66) 1 d_T_after_66 rfl ?_
      refine ZO.iconst (pc := 68) (3 : Int32) d_T_after_68 (by decide) ?_
      refine ZO.phi (pcJ := 81) (LJ := fun (x6 : Int32) => ([(0, .ref 201), (5, .int v2), (7, .long x4.1)] : List (Nat × Value))) (SJ := fun (x6 : Int32) => ([.int x6] : List Value)) (fun x6 => ?_) (fun t hj8 => ?_)
      · refine ZO.istore (pc := 81) (v := x6) (L' := [(0, .ref 201), (5, .int v2), (7, .long x4.1), (9, .int x6)]) [1, 2, 3, 0] d_T_after_81 (by decide) rfl ?_
        refine ZO.aload_n (pc := 83) 0 d_T_after_83 rfl rfl ?_
        refine ZO.lload (pc := 84) 2 d_T_after_84 rfl ?_
        refine ZO.iload (pc := 86) 3 d_T_after_86 rfl ?_
        refine ZO.lload (pc := 88) 2 d_T_after_88 rfl ?_
        refine ZO.iload (pc := 90) 3 d_T_after_90 rfl ?_
        refine ZO.tSNI (pc := 92) (As := [.long x4.1, .int x6]) (rest := [.int x6, .long x4.1, .ref 201]) d_T_after_92 zc_T_54 (by decide) rfl rfl (Nat.le_of_ble_eq_true rfl) (ok_X_on g x4.1 x6 x4.2) ?_
        refine ZO.iload (pc := 95) 1 d_T_after_95 rfl ?_
        refine ZO.ior (pc := 97) d_T_after_97 ?_
        refine ZO.tSNJ (pc := 98) (As := [.long x4.1, .int x6, .int ((f_X_on x4.1 x6) ||| v2)]) (rest := [.ref 201]) d_T_after_98 zc_T_62 (by decide) rfl rfl (Nat.le_of_ble_eq_true rfl) (ok_X_with g x4.1 x6 ((f_X_on x4.1 x6) ||| v2) x4.2) ?_
        refine ZO.iload (pc := 101) 3 d_T_after_101 rfl ?_
        refine ZO.cVJ (pc := 103) (As := [.long (f_X_with x4.1 x6 ((f_X_on x4.1 x6) ||| v2)), .int x6]) (rest := []) d_T_after_103 zc_T_83 (by decide) zo_201 rfl rfl rfl (Nat.le_of_ble_eq_true rfl) (ok_T_settled g n (f_X_with x4.1 x6 ((f_X_on x4.1 x6) ||| v2)) x6 x4.2) (fun p7 ep7 => ?_)
        refine ZO.lstore (pc := 106) (v := p7.1) (L' := [(0, .ref 201), (5, .int v2), (7, .long p7.1), (9, .int x6)]) [1, 2, 0, 3] d_T_after_106 (by decide) rfl ?_
        refine ZO.lload (pc := 108) 2 d_T_after_108 rfl ?_
        exact ZO.lret (pc := 110)  d_T_after_110 rfl rfl rfl
      · refine ZO.icmp_ge (pc := 69) 77 d_T_after_69 (by decide) z_ite (fun h9 => ?_) (fun h9 => ?_)
        · refine ZO.iload (pc := 77) 1 d_T_after_77 rfl ?_
          refine ZO.iconst (pc := 79) (4 : Int32) d_T_after_79 (by decide) ?_
          refine ZO.isub (pc := 80) d_T_after_80 ?_
          exact ZO.sub [0, 2, 3] rfl (hj8 (v1 - (4 : Int32)) (by rw [if_pos h9]))
        · refine ZO.iload (pc := 72) 1 d_T_after_72 rfl ?_
          refine ZO.goto (pc := 74) 81 d_T_after_74 (by decide) ?_
          exact ZO.sub [0, 2, 3] rfl (hj8 v1 (by rw [if_neg h9]))
  · refine ZO.icmp_eq (pc := 30) 60 d_T_after_30 (by decide) rfl (fun h11 => ?_) (fun h11 => ?_)
    · exact ZO.sub [0, 3, 4, 6] rfl (hj10 (a0, s))
    · refine ZO.aload_n (pc := 33) 0 d_T_after_33 rfl rfl ?_
      refine ZO.lload (pc := 34) 6 d_T_after_34 rfl ?_
      refine ZO.iload (pc := 36) 5 d_T_after_36 rfl ?_
      refine ZO.lload (pc := 38) 6 d_T_after_38 rfl ?_
      refine ZO.iload (pc := 40) 5 d_T_after_40 rfl ?_
      refine ZO.tSNI (pc := 42) (As := [.long a0, .int p3]) (rest := [.int p3, .long a0, .ref 201]) d_T_after_42 zc_T_54 (by decide) rfl rfl (Nat.le_of_ble_eq_true rfl) (ok_X_on g a0 p3 s) ?_
      refine ZO.iload (pc := 45) 4 d_T_after_45 rfl ?_
      refine ZO.iconst (pc := 47) (-1 : Int32) d_T_after_47 (by decide) ?_
      refine ZO.ixor (pc := 48) d_T_after_48 ?_
      refine ZO.iand (pc := 49) d_T_after_49 ?_
      refine ZO.tSNJ (pc := 50) (As := [.long a0, .int p3, .int ((f_X_on a0 p3) &&& (v2 ^^^ (-1 : Int32)))]) (rest := [.ref 201]) d_T_after_50 zc_T_62 (by decide) rfl rfl (Nat.le_of_ble_eq_true rfl) (ok_X_with g a0 p3 ((f_X_on a0 p3) &&& (v2 ^^^ (-1 : Int32))) s) ?_
      refine ZO.iload (pc := 53) 5 d_T_after_53 rfl ?_
      refine ZO.cVJ (pc := 55) (As := [.long (f_X_with a0 p3 ((f_X_on a0 p3) &&& (v2 ^^^ (-1 : Int32)))), .int p3]) (rest := []) d_T_after_55 zc_T_83 (by decide) zo_201 rfl rfl rfl (Nat.le_of_ble_eq_true rfl) (ok_T_settled g n (f_X_with a0 p3 ((f_X_on a0 p3) &&& (v2 ^^^ (-1 : Int32)))) p3 s) (fun p12 ep12 => ?_)
      refine ZO.lstore (pc := 58) (v := p12.1) (L' := [(0, .ref 201), (1, .long a0), (3, .int a1), (4, .int v1), (5, .int v2), (6, .int p3), (7, .long p12.1)]) [1, 2, 3, 4, 5, 6, 0] d_T_after_58 (by decide) rfl ?_
      exact ZO.sub [0, 3, 4, 6] rfl (hj10 (p12.1, p12.2))
def f_S_spread (n : Nat) (a1 : Int32) (s : ZSt) : Option (Bool × ZSt) :=
  bn (f_T_spent n s) (fun p1 =>
  jn (fun (x2 : Int32 × ZSt) =>
  gd (inb (gi x2.2 202 5) 5001) (
    lt (sai x2.2 268 (gi x2.2 202 5) x2.1) (fun s4 =>
    some (true, s4)))) (fun j5 =>
  lpN (fun j7 (x6 : Int32 × Int32 × ZSt) =>
  (if (gi x6.2.2 202 5) ≤ x6.2.1 then
    j5 (x6.1, x6.2.2)
  else (if (5000 : Int32) ≤ x6.2.1 then
      j5 (x6.1, x6.2.2)
    else gd (inb x6.2.1 5001) (
        lt (sai x6.2.2 268 x6.2.1 x6.1) (fun s11 =>
        lpN (fun j13 (x12 : Int32 × Int32 × ZSt) =>
        (if (7 : Int32) ≤ x12.2.1 then
          lt (x6.2.1 + (1 : Int32)) (fun v15 =>
            j7 (x12.1, v15, x12.2.2))
        else (lt ((if a1 = (-1 : Int32) then
            (1 : Int32)
          else (if x12.2.1 = a1 then
              (1 : Int32)
            else (if x12.2.1 = (3 : Int32) then
                (1 : Int32)
              else (0 : Int32)))) : Int32) (fun x16 =>
              (jn (fun (x17 : Int32 × ZSt) =>
                  jn (fun (x18 : Int32 × ZSt) =>
                    lt (x12.2.1 + (1 : Int32)) (fun v19 =>
                      j13 (x18.1, v19, x18.2))) (fun j20 =>
                    lpN (fun j22 (x21 : Int32 × Int32 × ZSt) =>
                    (if (srI x17.1 x21.2.1) = 0 then
                      j20 (x21.1, x21.2.2)
                    else (if (12 : Int32) ≤ x21.2.1 then
                        j20 (x21.1, x21.2.2)
                      else (jn (fun (x25 : Int32 × ZSt) =>
                            lt (x21.2.1 + (1 : Int32)) (fun v26 =>
                              j22 (x25.1, v26, x25.2))) (fun j27 =>
                            if ((srI x17.1 x21.2.1) &&& (1 : Int32)) = 0 then
                          j27 (x21.1, x21.2.2)
                        else lt ((x12.2.1 * (20 : Int32)) + x21.2.1) (fun v29 =>
                            gd (inb x6.2.1 5000) (
                            bn (f_T_after n (al x21.2.2 260 x6.2.1) v29 x21.2.2) (fun p31 =>
                            bn (f_S_place n p31.1 x6.2.1 v29 p31.2) (fun p32 =>
                            (if p32.1 = (-1 : Int32) then
                            some (false, p32.2)
                          else (if x21.1 < (180000 : Int32) then
                              gd (inb x21.1 180000) (
                                lt (sai p32.2 269 x21.1 p32.1) (fun s36 =>
                                lt (x21.1 + (1 : Int32)) (fun v37 =>
                                j27 (v37, s36))))
                            else some (false, p32.2)))))))))))) n (x12.1, (0 : Int32), x17.2))) (fun j38 =>
                  if x16 = 0 then
                j38 ((0 : Int32), x12.2.2)
              else gd (inb x6.2.1 5000) (
                  bn (f_T_possible n (al x12.2.2 260 x6.2.1) p1 x12.2.1 x12.2.2) (fun p41 =>
                  j38 (p41.1, p41.2))))))))) n (x6.1, (0 : Int32), s11)))))) n ((0 : Int32), (0 : Int32), s)))
set_option maxHeartbeats 4000000 in
set_option maxRecDepth 20000 in
theorem ok_S_spread (g : ZG) (n : Nat) (a1 : Int32) (s : ZSt) : ZF g 5 y_S_spread [.ref 202, .ref 201, .int a1] s (f_S_spread n a1 s) (fun b => some (.int (b2i b.1))) (fun b => b.2) := by
  refine ZF.of (by decide +kernel) (Nat.le_of_ble_eq_true rfl) ?_
  unfold f_S_spread
  show ZO g 5 y_S_spread zu0 0 [(0, .ref 202), (1, .ref 201), (2, .int a1)] [] s _ _
  refine ZO.aload_n (pc := 0) 1 d_S_spread_0 rfl rfl ?_
  refine ZO.cVI (pc := 1) (As := []) (rest := []) d_S_spread_1 zc_S_49 (by decide) zo_201 rfl rfl rfl (Nat.le_of_ble_eq_true rfl) (ok_T_spent g n s) (fun p1 ep1 => ?_)
  refine ZO.istore_n (pc := 4) (v := p1) (L' := [(0, .ref 202), (1, .ref 201), (2, .int a1), (3, .int p1)]) [1, 2, 3, 0] d_S_spread_4 rfl (by decide) rfl ?_
  refine ZO.iconst (pc := 5) (0 : Int32) d_S_spread_5 (by decide) ?_
  refine ZO.istore (pc := 6) (v := (0 : Int32)) (L' := [(0, .ref 202), (1, .ref 201), (2, .int a1), (3, .int p1), (4, .int (0 : Int32))]) [1, 2, 3, 4, 0] d_S_spread_6 (by decide) rfl ?_
  refine ZO.iconst (pc := 8) (0 : Int32) d_S_spread_8 (by decide) ?_
  refine ZO.istore (pc := 9) (v := (0 : Int32)) (L' := [(0, .ref 202), (1, .ref 201), (2, .int a1), (3, .int p1), (4, .int (0 : Int32)), (5, .int (0 : Int32))]) [1, 2, 3, 4, 5, 0] d_S_spread_9 (by decide) rfl ?_
  refine ZO.rjn (pcJ := 205) (LJ := fun (x2 : Int32 × ZSt) => ([(0, .ref 202), (4, .int x2.1)] : List (Nat × Value))) (SJ := fun (x2 : Int32 × ZSt) => ([] : List Value)) (σJ := fun (x2 : Int32 × ZSt) => x2.2) (fun x2 => ?_) (fun j5 hj5 => ?_)
  · refine ZO.aload_n (pc := 205) 0 d_S_spread_205 rfl rfl ?_
    refine ZO.getA (pc := 206) 268 d_S_spread_206 zo_202 zf_S_34 rfl rfl ?_
    refine ZO.aload_n (pc := 209) 0 d_S_spread_209 rfl rfl ?_
    refine ZO.getI (pc := 210) d_S_spread_210 zo_202 zf_S_41 rfl ?_
    refine ZO.iload (pc := 213) 1 d_S_spread_213 rfl ?_
    refine ZO.rgd (fun h3 => ?_)
    refine ZO.iast (pc := 215) d_S_spread_215 za_268 h3 ?_
    refine ZO.ltS (fun s4 => ?_)
    refine ZO.iconst (pc := 216) (1 : Int32) d_S_spread_216 (by decide) ?_
    exact ZO.zret (pc := 217) (v := true) d_S_spread_217 rfl rfl rfl
  · refine ZO.loop (fun (x6 : Int32 × Int32 × ZSt) => ([(0, .ref 202), (1, .ref 201), (2, .int a1), (3, .int p1), (4, .int x6.1), (5, .int x6.2.1)] : List (Nat × Value))) (fun (x6 : Int32 × Int32 × ZSt) => x6.2.2) [] (fun j7 x6 hj7 => ?_) rfl rfl rfl
    refine ZO.iload (pc := 11) 5 d_S_spread_11 rfl ?_
    refine ZO.aload_n (pc := 13) 0 d_S_spread_13 rfl rfl ?_
    refine ZO.getI (pc := 14) d_S_spread_14 zo_202 zf_S_41 rfl ?_
    refine ZO.icmp_ge (pc := 17) 205 d_S_spread_17 (by decide) rfl (fun h8 => ?_) (fun h8 => ?_)
    · exact ZO.sub [0, 4] rfl (hj5 (x6.1, x6.2.2))
    · refine ZO.iload (pc := 20) 5 d_S_spread_20 rfl ?_
      refine ZO.sipush (pc := 22) (5000 : Int32) d_S_spread_22 (by decide) ?_
      refine ZO.icmp_ge (pc := 25) 205 d_S_spread_25 (by decide) rfl (fun h9 => ?_) (fun h9 => ?_)
      · exact ZO.sub [0, 4] rfl (hj5 (x6.1, x6.2.2))
      · refine ZO.aload_n (pc := 28) 0 d_S_spread_28 rfl rfl ?_
        refine ZO.getA (pc := 29) 268 d_S_spread_29 zo_202 zf_S_34 rfl rfl ?_
        refine ZO.iload (pc := 32) 5 d_S_spread_32 rfl ?_
        refine ZO.iload (pc := 34) 4 d_S_spread_34 rfl ?_
        refine ZO.rgd (fun h10 => ?_)
        refine ZO.iast (pc := 36) d_S_spread_36 za_268 h10 ?_
        refine ZO.ltS (fun s11 => ?_)
        refine ZO.iconst (pc := 37) (0 : Int32) d_S_spread_37 (by decide) ?_
        refine ZO.istore (pc := 38) (v := (0 : Int32)) (L' := [(0, .ref 202), (1, .ref 201), (2, .int a1), (3, .int p1), (4, .int x6.1), (5, .int x6.2.1), (6, .int (0 : Int32))]) [1, 2, 3, 4, 5, 6, 0] d_S_spread_38 (by decide) rfl ?_
        refine ZO.loop (fun (x12 : Int32 × Int32 × ZSt) => ([(0, .ref 202), (1, .ref 201), (2, .int a1), (3, .int p1), (4, .int x12.1), (5, .int x6.2.1), (6, .int x12.2.1)] : List (Nat × Value))) (fun (x12 : Int32 × Int32 × ZSt) => x12.2.2) [] (fun j13 x12 hj13 => ?_) rfl rfl rfl
        refine ZO.iload (pc := 40) 6 d_S_spread_40 rfl ?_
        refine ZO.bipush (pc := 42) (7 : Int32) d_S_spread_42 (by decide) ?_
        refine ZO.icmp_ge (pc := 44) 199 d_S_spread_44 (by decide) rfl (fun h14 => ?_) (fun h14 => ?_)
        · refine ZO.iincL (pc := 199) (i := 5) (x6.2.1 + (1 : Int32)) (L' := fun v15 => [(0, .ref 202), (1, .ref 201), (2, .int a1), (3, .int p1), (4, .int x12.1), (5, .int v15), (6, .int x12.2.1)]) [1, 2, 3, 4, 5, 0, 6] d_S_spread_199 rfl (by rfl) (by decide) (fun _ => rfl) (fun v15 => ?_)
          refine ZO.goto (pc := 202) 11 d_S_spread_202 (by decide) ?_
          exact ZO.sub [0, 1, 2, 3, 4, 5] rfl (hj7 (x12.1, v15, x12.2.2))
        · refine ZO.iload_n (pc := 47) 2 d_S_spread_47 rfl rfl ?_
          refine ZO.iconst (pc := 48) (-1 : Int32) d_S_spread_48 (by decide) ?_
          refine ZO.phi (pcJ := 69) (LJ := fun (x16 : Int32) => ([(0, .ref 202), (1, .ref 201), (2, .int a1), (3, .int p1), (4, .int x12.1), (5, .int x6.2.1), (6, .int x12.2.1)] : List (Nat × Value))) (SJ := fun (x16 : Int32) => ([.int x16] : List Value)) (fun x16 => ?_) (fun t hj42 => ?_)
          · refine ZO.istore (pc := 69) (v := x16) (L' := [(0, .ref 202), (1, .ref 201), (2, .int a1), (3, .int p1), (4, .int x12.1), (5, .int x6.2.1), (6, .int x12.2.1), (7, .int x16)]) [1, 2, 3, 4, 5, 6, 7, 0] d_S_spread_69 (by decide) rfl ?_
            refine ZO.iload (pc := 71) 7 d_S_spread_71 rfl ?_
            refine ZO.rjn (pcJ := 94) (LJ := fun (x17 : Int32 × ZSt) => ([(0, .ref 202), (1, .ref 201), (2, .int a1), (3, .int p1), (4, .int x12.1), (5, .int x6.2.1), (6, .int x12.2.1)] : List (Nat × Value))) (SJ := fun (x17 : Int32 × ZSt) => ([.int x17.1] : List Value)) (σJ := fun (x17 : Int32 × ZSt) => x17.2) (fun x17 => ?_) (fun j38 hj38 => ?_)
            · refine ZO.istore (pc := 94) (v := x17.1) (L' := [(0, .ref 202), (1, .ref 201), (2, .int a1), (3, .int p1), (4, .int x12.1), (5, .int x6.2.1), (6, .int x12.2.1), (8, .int x17.1)]) [1, 2, 3, 4, 5, 6, 7, 0] d_S_spread_94 (by decide) rfl ?_
              refine ZO.iconst (pc := 96) (0 : Int32) d_S_spread_96 (by decide) ?_
              refine ZO.istore (pc := 97) (v := (0 : Int32)) (L' := [(0, .ref 202), (1, .ref 201), (2, .int a1), (3, .int p1), (4, .int x12.1), (5, .int x6.2.1), (6, .int x12.2.1), (8, .int x17.1), (9, .int (0 : Int32))]) [1, 2, 3, 4, 5, 6, 7, 8, 0] d_S_spread_97 (by decide) rfl ?_
              refine ZO.rjn (pcJ := 193) (LJ := fun (x18 : Int32 × ZSt) => ([(0, .ref 202), (1, .ref 201), (2, .int a1), (3, .int p1), (4, .int x18.1), (5, .int x6.2.1), (6, .int x12.2.1)] : List (Nat × Value))) (SJ := fun (x18 : Int32 × ZSt) => ([] : List Value)) (σJ := fun (x18 : Int32 × ZSt) => x18.2) (fun x18 => ?_) (fun j20 hj20 => ?_)
              · refine ZO.iincL (pc := 193) (i := 6) (x12.2.1 + (1 : Int32)) (L' := fun v19 => [(0, .ref 202), (1, .ref 201), (2, .int a1), (3, .int p1), (4, .int x18.1), (5, .int x6.2.1), (6, .int v19)]) [1, 2, 3, 4, 5, 6, 0] d_S_spread_193 rfl (by rfl) (by decide) (fun _ => rfl) (fun v19 => ?_)
                refine ZO.goto (pc := 196) 40 d_S_spread_196 (by decide) ?_
                exact hj13 (x18.1, v19, x18.2)
              · refine ZO.loop (fun (x21 : Int32 × Int32 × ZSt) => ([(0, .ref 202), (1, .ref 201), (2, .int a1), (3, .int p1), (4, .int x21.1), (5, .int x6.2.1), (6, .int x12.2.1), (8, .int x17.1), (9, .int x21.2.1)] : List (Nat × Value))) (fun (x21 : Int32 × Int32 × ZSt) => x21.2.2) [] (fun j22 x21 hj22 => ?_) rfl rfl rfl
                refine ZO.iload (pc := 99) 7 d_S_spread_99 rfl ?_
                refine ZO.iload (pc := 101) 8 d_S_spread_101 rfl ?_
                refine ZO.ishr (pc := 103) d_S_spread_103 ?_
                refine ZO.if_eq (pc := 104) 193 d_S_spread_104 (by decide) rfl (fun h23 => ?_) (fun h23 => ?_)
                · exact ZO.sub [0, 1, 2, 3, 4, 5, 6] rfl (hj20 (x21.1, x21.2.2))
                · refine ZO.iload (pc := 107) 8 d_S_spread_107 rfl ?_
                  refine ZO.bipush (pc := 109) (12 : Int32) d_S_spread_109 (by decide) ?_
                  refine ZO.icmp_ge (pc := 111) 193 d_S_spread_111 (by decide) rfl (fun h24 => ?_) (fun h24 => ?_)
                  · exact ZO.sub [0, 1, 2, 3, 4, 5, 6] rfl (hj20 (x21.1, x21.2.2))
                  · refine ZO.iload (pc := 114) 7 d_S_spread_114 rfl ?_
                    refine ZO.iload (pc := 116) 8 d_S_spread_116 rfl ?_
                    refine ZO.ishr (pc := 118) d_S_spread_118 ?_
                    refine ZO.iconst (pc := 119) (1 : Int32) d_S_spread_119 (by decide) ?_
                    refine ZO.iand (pc := 120) d_S_spread_120 ?_
                    refine ZO.rjn (pcJ := 187) (LJ := fun (x25 : Int32 × ZSt) => ([(0, .ref 202), (1, .ref 201), (2, .int a1), (3, .int p1), (4, .int x25.1), (5, .int x6.2.1), (6, .int x12.2.1), (8, .int x17.1), (9, .int x21.2.1)] : List (Nat × Value))) (SJ := fun (x25 : Int32 × ZSt) => ([] : List Value)) (σJ := fun (x25 : Int32 × ZSt) => x25.2) (fun x25 => ?_) (fun j27 hj27 => ?_)
                    · refine ZO.iincL (pc := 187) (i := 8) (x21.2.1 + (1 : Int32)) (L' := fun v26 => [(0, .ref 202), (1, .ref 201), (2, .int a1), (3, .int p1), (4, .int x25.1), (5, .int x6.2.1), (6, .int x12.2.1), (8, .int x17.1), (9, .int v26)]) [1, 2, 3, 4, 5, 6, 7, 8, 0] d_S_spread_187 rfl (by rfl) (by decide) (fun _ => rfl) (fun v26 => ?_)
                      refine ZO.goto (pc := 190) 99 d_S_spread_190 (by decide) ?_
                      exact hj22 (x25.1, v26, x25.2)
                    · refine ZO.if_eq (pc := 121) 187 d_S_spread_121 (by decide) rfl (fun h28 => ?_) (fun h28 => ?_)
                      · exact hj27 (x21.1, x21.2.2)
                      · refine ZO.iload (pc := 124) 6 d_S_spread_124 rfl ?_
                        refine ZO.bipush (pc := 126) (20 : Int32) d_S_spread_126 (by decide) ?_
                        refine ZO.imul (pc := 128) d_S_spread_128 ?_
                        refine ZO.iload (pc := 129) 8 d_S_spread_129 rfl ?_
                        refine ZO.iadd (pc := 131) d_S_spread_131 ?_
                        refine ZO.ltI (fun v29 => ?_)
                        refine ZO.istore (pc := 132) (v := v29) (L' := [(0, .ref 202), (1, .ref 201), (2, .int a1), (3, .int p1), (4, .int x21.1), (5, .int x6.2.1), (6, .int x12.2.1), (8, .int x17.1), (9, .int x21.2.1), (10, .int v29)]) [1, 2, 3, 4, 5, 6, 7, 8, 9, 0] d_S_spread_132 (by decide) rfl ?_
                        refine ZO.aload_n (pc := 134) 0 d_S_spread_134 rfl rfl ?_
                        refine ZO.aload_n (pc := 135) 1 d_S_spread_135 rfl rfl ?_
                        refine ZO.aload_n (pc := 136) 0 d_S_spread_136 rfl rfl ?_
                        refine ZO.getA (pc := 137) 260 d_S_spread_137 zo_202 zf_S_9 rfl rfl ?_
                        refine ZO.iload (pc := 140) 5 d_S_spread_140 rfl ?_
                        refine ZO.rgd (fun h30 => ?_)
                        refine ZO.lald (pc := 142) d_S_spread_142 za_260 h30 ?_
                        refine ZO.iload (pc := 143) 9 d_S_spread_143 rfl ?_
                        refine ZO.cVJ (pc := 145) (As := [.long (al x21.2.2 260 x6.2.1), .int v29]) (rest := [.ref 202]) d_S_spread_145 zc_S_58 (by decide) zo_201 rfl rfl rfl (Nat.le_of_ble_eq_true rfl) (ok_T_after g n (al x21.2.2 260 x6.2.1) v29 x21.2.2) (fun p31 ep31 => ?_)
                        refine ZO.iload (pc := 148) 5 d_S_spread_148 rfl ?_
                        refine ZO.iload (pc := 150) 9 d_S_spread_150 rfl ?_
                        refine ZO.cVI (pc := 152) (As := [.long p31.1, .int x6.2.1, .int v29]) (rest := []) d_S_spread_152 zc_S_45 (by decide) zo_202 rfl rfl rfl (Nat.le_of_ble_eq_true rfl) (ok_S_place g n p31.1 x6.2.1 v29 p31.2) (fun p32 ep32 => ?_)
                        refine ZO.istore (pc := 155) (v := p32.1) (L' := [(0, .ref 202), (1, .ref 201), (2, .int a1), (3, .int p1), (4, .int x21.1), (5, .int x6.2.1), (6, .int x12.2.1), (8, .int x17.1), (9, .int x21.2.1), (10, .int v29), (11, .int p32.1)]) [1, 2, 3, 4, 5, 6, 7, 8, 9, 10, 0] d_S_spread_155 (by decide) rfl ?_
                        refine ZO.iload (pc := 157) 10 d_S_spread_157 rfl ?_
                        refine ZO.iconst (pc := 159) (-1 : Int32) d_S_spread_159 (by decide) ?_
                        refine ZO.icmp_eq (pc := 160) 173 d_S_spread_160 (by decide) rfl (fun h33 => ?_) (fun h33 => ?_)
                        · refine ZO.iconst (pc := 173) (0 : Int32) d_S_spread_173 (by decide) ?_
                          exact ZO.zret (pc := 174) (v := false) d_S_spread_174 rfl rfl rfl
                        · refine ZO.iload (pc := 163) 4 d_S_spread_163 rfl ?_
                          refine ZO.aload_n (pc := 165) 0 d_S_spread_165 rfl rfl ?_
                          refine ZO.getA (pc := 166) 269 d_S_spread_166 zo_202 zf_S_38 rfl rfl ?_
                          refine ZO.alen (pc := 169) (180000 : Int32) d_S_spread_169 za_269 (by decide) ?_
                          refine ZO.icmp_lt (pc := 170) 175 d_S_spread_170 (by decide) rfl (fun h34 => ?_) (fun h34 => ?_)
                          · refine ZO.aload_n (pc := 175) 0 d_S_spread_175 rfl rfl ?_
                            refine ZO.getA (pc := 176) 269 d_S_spread_176 zo_202 zf_S_38 rfl rfl ?_
                            refine ZO.iload (pc := 179) 4 d_S_spread_179 rfl ?_
                            refine ZO.iload (pc := 181) 10 d_S_spread_181 rfl ?_
                            refine ZO.rgd (fun h35 => ?_)
                            refine ZO.iast (pc := 183) d_S_spread_183 za_269 h35 ?_
                            refine ZO.ltS (fun s36 => ?_)
                            refine ZO.iincL (pc := 184) (i := 4) (x21.1 + (1 : Int32)) (L' := fun v37 => [(0, .ref 202), (1, .ref 201), (2, .int a1), (3, .int p1), (4, .int v37), (5, .int x6.2.1), (6, .int x12.2.1), (8, .int x17.1), (9, .int x21.2.1), (10, .int v29), (11, .int p32.1)]) [1, 2, 3, 4, 0, 5, 6, 7, 8, 9, 10] d_S_spread_184 rfl (by rfl) (by decide) (fun _ => rfl) (fun v37 => ?_)
                            exact ZO.sub [0, 1, 2, 3, 4, 5, 6, 7, 8] rfl (hj27 (v37, s36))
                          · refine ZO.iconst (pc := 173) (0 : Int32) d_S_spread_173 (by decide) ?_
                            exact ZO.zret (pc := 174) (v := false) d_S_spread_174 rfl rfl rfl
            · refine ZO.if_eq (pc := 73) 93 d_S_spread_73 (by decide) rfl (fun h39 => ?_) (fun h39 => ?_)
              · refine ZO.iconst (pc := 93) (0 : Int32) d_S_spread_93 (by decide) ?_
                exact ZO.sub [0, 1, 2, 3, 4, 5, 6] rfl (hj38 ((0 : Int32), x12.2.2))
              · refine ZO.aload_n (pc := 76) 1 d_S_spread_76 rfl rfl ?_
                refine ZO.aload_n (pc := 77) 0 d_S_spread_77 rfl rfl ?_
                refine ZO.getA (pc := 78) 260 d_S_spread_78 zo_202 zf_S_9 rfl rfl ?_
                refine ZO.iload (pc := 81) 5 d_S_spread_81 rfl ?_
                refine ZO.rgd (fun h40 => ?_)
                refine ZO.lald (pc := 83) d_S_spread_83 za_260 h40 ?_
                refine ZO.iload_n (pc := 84) 3 d_S_spread_84 rfl rfl ?_
                refine ZO.iload (pc := 85) 6 d_S_spread_85 rfl ?_
                refine ZO.cVI (pc := 87) (As := [.long (al x12.2.2 260 x6.2.1), .int p1, .int x12.2.1]) (rest := []) d_S_spread_87 zc_S_55 (by decide) zo_201 rfl rfl rfl (Nat.le_of_ble_eq_true rfl) (ok_T_possible g n (al x12.2.2 260 x6.2.1) p1 x12.2.1 x12.2.2) (fun p41 ep41 => ?_)
                refine ZO.goto (pc := 90) 94 d_S_spread_90 (by decide) ?_
                exact ZO.sub [0, 1, 2, 3, 4, 5, 6] rfl (hj38 (p41.1, p41.2))
          · refine ZO.icmp_eq (pc := 49) 64 d_S_spread_49 (by decide) z_ite (fun h43 => ?_) (fun h43 => ?_)
            · refine ZO.iconst (pc := 64) (1 : Int32) d_S_spread_64 (by decide) ?_
              refine ZO.goto (pc := 65) 69 d_S_spread_65 (by decide) ?_
              exact hj42 (1 : Int32) (by rw [if_pos h43])
            · refine ZO.iload (pc := 52) 6 d_S_spread_52 rfl ?_
              refine ZO.iload_n (pc := 54) 2 d_S_spread_54 rfl rfl ?_
              refine ZO.icmp_eq (pc := 55) 64 d_S_spread_55 (by decide) z_ite (fun h44 => ?_) (fun h44 => ?_)
              · refine ZO.iconst (pc := 64) (1 : Int32) d_S_spread_64 (by decide) ?_
                refine ZO.goto (pc := 65) 69 d_S_spread_65 (by decide) ?_
                exact hj42 (1 : Int32) (by rw [if_neg h43, if_pos h44])
              · refine ZO.iload (pc := 58) 6 d_S_spread_58 rfl ?_
                refine ZO.iconst (pc := 60) (3 : Int32) d_S_spread_60 (by decide) ?_
                refine ZO.icmp_ne (pc := 61) 68 d_S_spread_61 (by decide) z_ite (fun h45 => ?_) (fun h45 => ?_)
                · refine ZO.iconst (pc := 64) (1 : Int32) d_S_spread_64 (by decide) ?_
                  refine ZO.goto (pc := 65) 69 d_S_spread_65 (by decide) ?_
                  exact hj42 (1 : Int32) (by rw [if_neg h43, if_neg h44, if_pos h45])
                · refine ZO.iconst (pc := 68) (0 : Int32) d_S_spread_68 (by decide) ?_
                  exact hj42 (0 : Int32) (by rw [if_neg h43, if_neg h44, if_neg h45])
def f_S_indexOf (n : Nat) (a0 : Int64) (s : ZSt) : Option Int32 :=
  bn (f_S_slotOf n a0 s) (fun p1 =>
  gd (inb p1 16384) (
  some ((ai s 266 p1) - (1 : Int32))))
set_option maxHeartbeats 4000000 in
set_option maxRecDepth 20000 in
theorem ok_S_indexOf (g : ZG) (n : Nat) (a0 : Int64) (s : ZSt) : ZF g 1 y_S_indexOf [.ref 202, .long a0] s (f_S_indexOf n a0 s) (fun b => some (.int b)) (fun _ => s) := by
  refine ZF.of (by decide +kernel) (Nat.le_of_ble_eq_true rfl) ?_
  unfold f_S_indexOf
  show ZO g 1 y_S_indexOf zu0 0 [(0, .ref 202), (1, .long a0)] [] s _ _
  refine ZO.aload_n (pc := 0) 0 d_S_indexOf_0 rfl rfl ?_
  refine ZO.getA (pc := 1) 266 d_S_indexOf_1 zo_202 zf_S_28 rfl rfl ?_
  refine ZO.aload_n (pc := 4) 0 d_S_indexOf_4 rfl rfl ?_
  refine ZO.lload_n (pc := 5) 1 d_S_indexOf_5 rfl rfl ?_
  refine ZO.cVI (pc := 6) (As := [.long a0]) (rest := [.ref 266]) d_S_indexOf_6 zc_S_62 (by decide) zo_202 rfl rfl rfl (Nat.le_of_ble_eq_true rfl) (ok_S_slotOf g n a0 s) (fun p1 ep1 => ?_)
  refine ZO.rgd (fun h2 => ?_)
  refine ZO.iald (pc := 9) d_S_indexOf_9 za_266 h2 ?_
  refine ZO.iconst (pc := 10) (1 : Int32) d_S_indexOf_10 (by decide) ?_
  refine ZO.isub (pc := 11) d_S_indexOf_11 ?_
  exact ZO.iret (pc := 12)  d_S_indexOf_12 rfl rfl rfl
def f_S_firstWith (n : Nat) (a0 : Int32) (s : ZSt) : Option Int32 :=
  lpN (fun j2 (x1 : Int32) =>
  (if (gi s 202 5) ≤ x1 then
    some (-1 : Int32)
  else gd (inb x1 5000) (
      (if (a0 &&& ((f_X_anywhere (al s 260 x1)) ^^^ (-1 : Int32))) = 0 then
      some x1
    else lt (x1 + (1 : Int32)) (fun v6 =>
        j2 v6))))) n (0 : Int32)
set_option maxHeartbeats 4000000 in
set_option maxRecDepth 20000 in
theorem ok_S_firstWith (g : ZG) (n : Nat) (a0 : Int32) (s : ZSt) : ZF g 2 y_S_firstWith [.ref 202, .int a0] s (f_S_firstWith n a0 s) (fun b => some (.int b)) (fun _ => s) := by
  refine ZF.of (by decide +kernel) (Nat.le_of_ble_eq_true rfl) ?_
  unfold f_S_firstWith
  show ZO g 2 y_S_firstWith zu0 0 [(0, .ref 202), (1, .int a0)] [] s _ _
  refine ZO.iconst (pc := 0) (0 : Int32) d_S_firstWith_0 (by decide) ?_
  refine ZO.istore_n (pc := 1) (v := (0 : Int32)) (L' := [(0, .ref 202), (1, .int a0), (2, .int (0 : Int32))]) [1, 2, 0] d_S_firstWith_1 rfl (by decide) rfl ?_
  refine ZO.loop (fun (x1 : Int32) => ([(0, .ref 202), (1, .int a0), (2, .int x1)] : List (Nat × Value))) (fun (x1 : Int32) => s) [] (fun j2 x1 hj2 => ?_) rfl rfl rfl
  refine ZO.iload_n (pc := 2) 2 d_S_firstWith_2 rfl rfl ?_
  refine ZO.aload_n (pc := 3) 0 d_S_firstWith_3 rfl rfl ?_
  refine ZO.getI (pc := 4) d_S_firstWith_4 zo_202 zf_S_41 rfl ?_
  refine ZO.icmp_ge (pc := 7) 34 d_S_firstWith_7 (by decide) rfl (fun h3 => ?_) (fun h3 => ?_)
  · refine ZO.iconst (pc := 34) (-1 : Int32) d_S_firstWith_34 (by decide) ?_
    exact ZO.iret (pc := 35)  d_S_firstWith_35 rfl rfl rfl
  · refine ZO.iload_n (pc := 10) 1 d_S_firstWith_10 rfl rfl ?_
    refine ZO.aload_n (pc := 11) 0 d_S_firstWith_11 rfl rfl ?_
    refine ZO.getA (pc := 12) 260 d_S_firstWith_12 zo_202 zf_S_9 rfl rfl ?_
    refine ZO.iload_n (pc := 15) 2 d_S_firstWith_15 rfl rfl ?_
    refine ZO.rgd (fun h4 => ?_)
    refine ZO.lald (pc := 16) d_S_firstWith_16 za_260 h4 ?_
    refine ZO.tSNI (pc := 17) (As := [.long (al s 260 x1)]) (rest := [.int a0]) d_S_firstWith_17 zc_S_67 (by decide) rfl rfl (Nat.le_of_ble_eq_true rfl) (ok_X_anywhere g (al s 260 x1) s) ?_
    refine ZO.iconst (pc := 20) (-1 : Int32) d_S_firstWith_20 (by decide) ?_
    refine ZO.ixor (pc := 21) d_S_firstWith_21 ?_
    refine ZO.iand (pc := 22) d_S_firstWith_22 ?_
    refine ZO.if_ne (pc := 23) 28 d_S_firstWith_23 (by decide) rfl (fun h5 => ?_) (fun h5 => ?_)
    · refine ZO.iload_n (pc := 26) 2 d_S_firstWith_26 rfl rfl ?_
      exact ZO.iret (pc := 27)  d_S_firstWith_27 rfl rfl rfl
    · refine ZO.iincL (pc := 28) (i := 2) (x1 + (1 : Int32)) (L' := fun v6 => [(0, .ref 202), (1, .int a0), (2, .int v6)]) [1, 2, 0] d_S_firstWith_28 rfl (by rfl) (by decide) (fun _ => rfl) (fun v6 => ?_)
      refine ZO.goto (pc := 31) 2 d_S_firstWith_31 (by decide) ?_
      exact hj2 v6
def f_S_union (n : Nat) (s : ZSt) : Option Int32 :=
  lpN (fun j2 (x1 : Int32 × Int32) =>
  (if (gi s 202 5) ≤ x1.2 then
    some x1.1
  else gd (inb x1.2 5000) (
      lt (x1.1 ||| (f_X_anywhere (al s 260 x1.2))) (fun v5 =>
      lt (x1.2 + (1 : Int32)) (fun v6 =>
      j2 (v5, v6)))))) n ((0 : Int32), (0 : Int32))
set_option maxHeartbeats 4000000 in
set_option maxRecDepth 20000 in
theorem ok_S_union (g : ZG) (n : Nat) (s : ZSt) : ZF g 2 y_S_union [.ref 202] s (f_S_union n s) (fun b => some (.int b)) (fun _ => s) := by
  refine ZF.of (by decide +kernel) (Nat.le_of_ble_eq_true rfl) ?_
  unfold f_S_union
  show ZO g 2 y_S_union zu0 0 [(0, .ref 202)] [] s _ _
  refine ZO.iconst (pc := 0) (0 : Int32) d_S_union_0 (by decide) ?_
  refine ZO.istore_n (pc := 1) (v := (0 : Int32)) (L' := [(0, .ref 202), (1, .int (0 : Int32))]) [1, 0] d_S_union_1 rfl (by decide) rfl ?_
  refine ZO.iconst (pc := 2) (0 : Int32) d_S_union_2 (by decide) ?_
  refine ZO.istore_n (pc := 3) (v := (0 : Int32)) (L' := [(0, .ref 202), (1, .int (0 : Int32)), (2, .int (0 : Int32))]) [1, 2, 0] d_S_union_3 rfl (by decide) rfl ?_
  refine ZO.loop (fun (x1 : Int32 × Int32) => ([(0, .ref 202), (1, .int x1.1), (2, .int x1.2)] : List (Nat × Value))) (fun (x1 : Int32 × Int32) => s) [] (fun j2 x1 hj2 => ?_) rfl rfl rfl
  refine ZO.iload_n (pc := 4) 2 d_S_union_4 rfl rfl ?_
  refine ZO.aload_n (pc := 5) 0 d_S_union_5 rfl rfl ?_
  refine ZO.getI (pc := 6) d_S_union_6 zo_202 zf_S_41 rfl ?_
  refine ZO.icmp_ge (pc := 9) 30 d_S_union_9 (by decide) rfl (fun h3 => ?_) (fun h3 => ?_)
  · refine ZO.iload_n (pc := 30) 1 d_S_union_30 rfl rfl ?_
    exact ZO.iret (pc := 31)  d_S_union_31 rfl rfl rfl
  · refine ZO.iload_n (pc := 12) 1 d_S_union_12 rfl rfl ?_
    refine ZO.aload_n (pc := 13) 0 d_S_union_13 rfl rfl ?_
    refine ZO.getA (pc := 14) 260 d_S_union_14 zo_202 zf_S_9 rfl rfl ?_
    refine ZO.iload_n (pc := 17) 2 d_S_union_17 rfl rfl ?_
    refine ZO.rgd (fun h4 => ?_)
    refine ZO.lald (pc := 18) d_S_union_18 za_260 h4 ?_
    refine ZO.tSNI (pc := 19) (As := [.long (al s 260 x1.2)]) (rest := [.int x1.1]) d_S_union_19 zc_S_67 (by decide) rfl rfl (Nat.le_of_ble_eq_true rfl) (ok_X_anywhere g (al s 260 x1.2) s) ?_
    refine ZO.ior (pc := 22) d_S_union_22 ?_
    refine ZO.ltI (fun v5 => ?_)
    refine ZO.istore_n (pc := 23) (v := v5) (L' := [(0, .ref 202), (1, .int v5), (2, .int x1.2)]) [1, 0, 2] d_S_union_23 rfl (by decide) rfl ?_
    refine ZO.iincL (pc := 24) (i := 2) (x1.2 + (1 : Int32)) (L' := fun v6 => [(0, .ref 202), (1, .int v5), (2, .int v6)]) [1, 2, 0] d_S_union_24 rfl (by rfl) (by decide) (fun _ => rfl) (fun v6 => ?_)
    refine ZO.goto (pc := 27) 4 d_S_union_27 (by decide) ?_
    exact hj2 (v5, v6)
def f_S_farthest (s : ZSt) : Option Int32 :=
  (if (gi s 202 5) ≤ 0 then
  some (0 : Int32)
else gd (inb ((gi s 202 5) - (1 : Int32)) 5000) (
    some (ai s 263 ((gi s 202 5) - (1 : Int32)))))
set_option maxHeartbeats 4000000 in
set_option maxRecDepth 20000 in
theorem ok_S_farthest (g : ZG) (s : ZSt) : ZF g 0 y_S_farthest [.ref 202] s (f_S_farthest s) (fun b => some (.int b)) (fun _ => s) := by
  refine ZF.of (by decide +kernel) (Nat.le_of_ble_eq_true rfl) ?_
  unfold f_S_farthest
  show ZO g 0 y_S_farthest zu0 0 [(0, .ref 202)] [] s _ _
  refine ZO.aload_n (pc := 0) 0 d_S_farthest_0 rfl rfl ?_
  refine ZO.getI (pc := 1) d_S_farthest_1 zo_202 zf_S_41 rfl ?_
  refine ZO.if_le (pc := 4) 21 d_S_farthest_4 (by decide) rfl (fun h1 => ?_) (fun h1 => ?_)
  · refine ZO.iconst (pc := 21) (0 : Int32) d_S_farthest_21 (by decide) ?_
    exact ZO.iret (pc := 22)  d_S_farthest_22 rfl rfl rfl
  · refine ZO.aload_n (pc := 7) 0 d_S_farthest_7 rfl rfl ?_
    refine ZO.getA (pc := 8) 263 d_S_farthest_8 zo_202 zf_S_22 rfl rfl ?_
    refine ZO.aload_n (pc := 11) 0 d_S_farthest_11 rfl rfl ?_
    refine ZO.getI (pc := 12) d_S_farthest_12 zo_202 zf_S_41 rfl ?_
    refine ZO.iconst (pc := 15) (1 : Int32) d_S_farthest_15 (by decide) ?_
    refine ZO.isub (pc := 16) d_S_farthest_16 ?_
    refine ZO.rgd (fun h2 => ?_)
    refine ZO.iald (pc := 17) d_S_farthest_17 za_263 h2 ?_
    refine ZO.goto (pc := 18) 22 d_S_farthest_18 (by decide) ?_
    exact ZO.iret (pc := 22)  d_S_farthest_22 rfl rfl rfl
def f_S_gather (n : Nat) (s : ZSt) : Option ZSt :=
  lpN (fun j2 (x1 : Int32 × ZSt) =>
  (if (gi x1.2 202 5) ≤ x1.1 then
    lpN (fun j5 (x4 : Int32 × Int32 × ZSt) =>
      (if x4.1 = 0 then
        some x4.2.2
      else (if (60000 : Int32) ≤ x4.2.1 then
          some x4.2.2
        else lt ((gi x4.2.2 202 5) - (1 : Int32)) (fun v8 =>
            lpN (fun j10 (x9 : Int32 × Int32 × ZSt) =>
            (if x9.2.1 < 0 then
              lt (x4.2.1 + (1 : Int32)) (fun v12 =>
                j5 (x9.1, v12, x9.2.2))
            else gd (inb x9.2.1 5000) (
                lt (ai x9.2.2 264 x9.2.1) (fun v14 =>
                gd (inb x9.2.1 5001) (
                lt (ai x9.2.2 268 x9.2.1) (fun v16 =>
                lpN (fun j18 (x17 : Int32 × Int32) =>
                gd (inb (x9.2.1 + (1 : Int32)) 5001) (
                  (if (ai x9.2.2 268 (x9.2.1 + (1 : Int32))) ≤ x17.2 then
                  (jn (fun (x21 : Int32 × ZSt) =>
                      lt (x9.2.1 + (-1 : Int32)) (fun v22 =>
                        j10 (x21.1, v22, x21.2))) (fun j23 =>
                      if x17.1 = (ai x9.2.2 264 x9.2.1) then
                    j23 (x9.1, x9.2.2)
                  else lt (sai x9.2.2 264 x9.2.1 x17.1) (fun s25 =>
                      j23 ((1 : Int32), s25))))
                else gd (inb x17.2 180000) (
                    gd (inb (ai x9.2.2 269 x17.2) 5000) (
                    lt (x17.1 ||| (ai x9.2.2 264 (ai x9.2.2 269 x17.2))) (fun v28 =>
                    lt (x17.2 + (1 : Int32)) (fun v29 =>
                    j18 (v28, v29)))))))) n (v14, v16))))))) n ((0 : Int32), v8, x4.2.2))))) n ((1 : Int32), (0 : Int32), x1.2)
  else gd (inb x1.1 5000) (
      lt (sai x1.2 264 x1.1 (f_X_anywhere (al x1.2 260 x1.1))) (fun s31 =>
      lt (x1.1 + (1 : Int32)) (fun v32 =>
      j2 (v32, s31)))))) n ((0 : Int32), s)
set_option maxHeartbeats 4000000 in
set_option maxRecDepth 20000 in
theorem ok_S_gather (g : ZG) (n : Nat) (s : ZSt) : ZF g 2 y_S_gather [.ref 202] s (f_S_gather n s) (fun _ => none) (fun b => b) := by
  refine ZF.of (by decide +kernel) (Nat.le_of_ble_eq_true rfl) ?_
  unfold f_S_gather
  show ZO g 2 y_S_gather zu0 0 [(0, .ref 202)] [] s _ _
  refine ZO.iconst (pc := 0) (0 : Int32) d_S_gather_0 (by decide) ?_
  refine ZO.istore_n (pc := 1) (v := (0 : Int32)) (L' := [(0, .ref 202), (1, .int (0 : Int32))]) [1, 0] d_S_gather_1 rfl (by decide) rfl ?_
  refine ZO.loop (fun (x1 : Int32 × ZSt) => ([(0, .ref 202), (1, .int x1.1)] : List (Nat × Value))) (fun (x1 : Int32 × ZSt) => x1.2) [] (fun j2 x1 hj2 => ?_) rfl rfl rfl
  refine ZO.iload_n (pc := 2) 1 d_S_gather_2 rfl rfl ?_
  refine ZO.aload_n (pc := 3) 0 d_S_gather_3 rfl rfl ?_
  refine ZO.getI (pc := 4) d_S_gather_4 zo_202 zf_S_41 rfl ?_
  refine ZO.icmp_ge (pc := 7) 31 d_S_gather_7 (by decide) rfl (fun h3 => ?_) (fun h3 => ?_)
  · refine ZO.iconst (pc := 31) (1 : Int32) d_S_gather_31 (by decide) ?_
    refine ZO.istore_n (pc := 32) (v := (1 : Int32)) (L' := [(0, .ref 202), (1, .int (1 : Int32))]) [1, 0] d_S_gather_32 rfl (by decide) rfl ?_
    refine ZO.iconst (pc := 33) (0 : Int32) d_S_gather_33 (by decide) ?_
    refine ZO.istore_n (pc := 34) (v := (0 : Int32)) (L' := [(0, .ref 202), (1, .int (1 : Int32)), (2, .int (0 : Int32))]) [1, 2, 0] d_S_gather_34 rfl (by decide) rfl ?_
    refine ZO.loop (fun (x4 : Int32 × Int32 × ZSt) => ([(0, .ref 202), (1, .int x4.1), (2, .int x4.2.1)] : List (Nat × Value))) (fun (x4 : Int32 × Int32 × ZSt) => x4.2.2) [] (fun j5 x4 hj5 => ?_) rfl rfl rfl
    refine ZO.iload_n (pc := 35) 1 d_S_gather_35 rfl rfl ?_
    refine ZO.if_eq (pc := 36) 143 d_S_gather_36 (by decide) rfl (fun h6 => ?_) (fun h6 => ?_)
    · exact ZO.vret (pc := 143) d_S_gather_143 rfl rfl rfl
    · refine ZO.iload_n (pc := 39) 2 d_S_gather_39 rfl rfl ?_
      refine ZO.ldc (pc := 40) (60000 : Int32) d_S_gather_40 zk_S_70 ?_
      refine ZO.icmp_ge (pc := 42) 143 d_S_gather_42 (by decide) rfl (fun h7 => ?_) (fun h7 => ?_)
      · exact ZO.vret (pc := 143) d_S_gather_143 rfl rfl rfl
      · refine ZO.iconst (pc := 45) (0 : Int32) d_S_gather_45 (by decide) ?_
        refine ZO.istore_n (pc := 46) (v := (0 : Int32)) (L' := [(0, .ref 202), (1, .int (0 : Int32)), (2, .int x4.2.1)]) [1, 0, 2] d_S_gather_46 rfl (by decide) rfl ?_
        refine ZO.aload_n (pc := 47) 0 d_S_gather_47 rfl rfl ?_
        refine ZO.getI (pc := 48) d_S_gather_48 zo_202 zf_S_41 rfl ?_
        refine ZO.iconst (pc := 51) (1 : Int32) d_S_gather_51 (by decide) ?_
        refine ZO.isub (pc := 52) d_S_gather_52 ?_
        refine ZO.ltI (fun v8 => ?_)
        refine ZO.istore_n (pc := 53) (v := v8) (L' := [(0, .ref 202), (1, .int (0 : Int32)), (2, .int x4.2.1), (3, .int v8)]) [1, 2, 3, 0] d_S_gather_53 rfl (by decide) rfl ?_
        refine ZO.loop (fun (x9 : Int32 × Int32 × ZSt) => ([(0, .ref 202), (1, .int x9.1), (2, .int x4.2.1), (3, .int x9.2.1)] : List (Nat × Value))) (fun (x9 : Int32 × Int32 × ZSt) => x9.2.2) [] (fun j10 x9 hj10 => ?_) rfl rfl rfl
        refine ZO.iload_n (pc := 54) 3 d_S_gather_54 rfl rfl ?_
        refine ZO.if_lt (pc := 55) 137 d_S_gather_55 (by decide) rfl (fun h11 => ?_) (fun h11 => ?_)
        · refine ZO.iincL (pc := 137) (i := 2) (x4.2.1 + (1 : Int32)) (L' := fun v12 => [(0, .ref 202), (1, .int x9.1), (2, .int v12), (3, .int x9.2.1)]) [1, 2, 0, 3] d_S_gather_137 rfl (by rfl) (by decide) (fun _ => rfl) (fun v12 => ?_)
          refine ZO.goto (pc := 140) 35 d_S_gather_140 (by decide) ?_
          exact ZO.sub [0, 1, 2] rfl (hj5 (x9.1, v12, x9.2.2))
        · refine ZO.aload_n (pc := 58) 0 d_S_gather_58 rfl rfl ?_
          refine ZO.getA (pc := 59) 264 d_S_gather_59 zo_202 zf_S_25 rfl rfl ?_
          refine ZO.iload_n (pc := 62) 3 d_S_gather_62 rfl rfl ?_
          refine ZO.rgd (fun h13 => ?_)
          refine ZO.iald (pc := 63) d_S_gather_63 za_264 h13 ?_
          refine ZO.ltI (fun v14 => ?_)
          refine ZO.istore (pc := 64) (v := v14) (L' := [(0, .ref 202), (1, .int x9.1), (2, .int x4.2.1), (3, .int x9.2.1), (4, .int v14)]) [1, 2, 3, 4, 0] d_S_gather_64 (by decide) rfl ?_
          refine ZO.aload_n (pc := 66) 0 d_S_gather_66 rfl rfl ?_
          refine ZO.getA (pc := 67) 268 d_S_gather_67 zo_202 zf_S_34 rfl rfl ?_
          refine ZO.iload_n (pc := 70) 3 d_S_gather_70 rfl rfl ?_
          refine ZO.rgd (fun h15 => ?_)
          refine ZO.iald (pc := 71) d_S_gather_71 za_268 h15 ?_
          refine ZO.ltI (fun v16 => ?_)
          refine ZO.istore (pc := 72) (v := v16) (L' := [(0, .ref 202), (1, .int x9.1), (2, .int x4.2.1), (3, .int x9.2.1), (4, .int v14), (5, .int v16)]) [1, 2, 3, 4, 5, 0] d_S_gather_72 (by decide) rfl ?_
          refine ZO.loop (fun (x17 : Int32 × Int32) => ([(0, .ref 202), (1, .int x9.1), (2, .int x4.2.1), (3, .int x9.2.1), (4, .int x17.1), (5, .int x17.2)] : List (Nat × Value))) (fun (x17 : Int32 × Int32) => x9.2.2) [] (fun j18 x17 hj18 => ?_) rfl rfl rfl
          refine ZO.iload (pc := 74) 5 d_S_gather_74 rfl ?_
          refine ZO.aload_n (pc := 76) 0 d_S_gather_76 rfl rfl ?_
          refine ZO.getA (pc := 77) 268 d_S_gather_77 zo_202 zf_S_34 rfl rfl ?_
          refine ZO.iload_n (pc := 80) 3 d_S_gather_80 rfl rfl ?_
          refine ZO.iconst (pc := 81) (1 : Int32) d_S_gather_81 (by decide) ?_
          refine ZO.iadd (pc := 82) d_S_gather_82 ?_
          refine ZO.rgd (fun h19 => ?_)
          refine ZO.iald (pc := 83) d_S_gather_83 za_268 h19 ?_
          refine ZO.icmp_ge (pc := 84) 110 d_S_gather_84 (by decide) rfl (fun h20 => ?_) (fun h20 => ?_)
          · refine ZO.iload (pc := 110) 4 d_S_gather_110 rfl ?_
            refine ZO.aload_n (pc := 112) 0 d_S_gather_112 rfl rfl ?_
            refine ZO.getA (pc := 113) 264 d_S_gather_113 zo_202 zf_S_25 rfl rfl ?_
            refine ZO.iload_n (pc := 116) 3 d_S_gather_116 rfl rfl ?_
            refine ZO.iald (pc := 117) d_S_gather_117 za_264 h13 ?_
            refine ZO.rjn (pcJ := 131) (LJ := fun (x21 : Int32 × ZSt) => ([(0, .ref 202), (1, .int x21.1), (2, .int x4.2.1), (3, .int x9.2.1)] : List (Nat × Value))) (SJ := fun (x21 : Int32 × ZSt) => ([] : List Value)) (σJ := fun (x21 : Int32 × ZSt) => x21.2) (fun x21 => ?_) (fun j23 hj23 => ?_)
            · refine ZO.iincL (pc := 131) (i := 3) (x9.2.1 + (-1 : Int32)) (L' := fun v22 => [(0, .ref 202), (1, .int x21.1), (2, .int x4.2.1), (3, .int v22)]) [1, 2, 3, 0] d_S_gather_131 rfl (by rfl) (by decide) (fun _ => rfl) (fun v22 => ?_)
              refine ZO.goto (pc := 134) 54 d_S_gather_134 (by decide) ?_
              exact hj10 (x21.1, v22, x21.2)
            · refine ZO.icmp_eq (pc := 118) 131 d_S_gather_118 (by decide) rfl (fun h24 => ?_) (fun h24 => ?_)
              · exact ZO.sub [0, 1, 2, 3] rfl (hj23 (x9.1, x9.2.2))
              · refine ZO.aload_n (pc := 121) 0 d_S_gather_121 rfl rfl ?_
                refine ZO.getA (pc := 122) 264 d_S_gather_122 zo_202 zf_S_25 rfl rfl ?_
                refine ZO.iload_n (pc := 125) 3 d_S_gather_125 rfl rfl ?_
                refine ZO.iload (pc := 126) 4 d_S_gather_126 rfl ?_
                refine ZO.iast (pc := 128) d_S_gather_128 za_264 h13 ?_
                refine ZO.ltS (fun s25 => ?_)
                refine ZO.iconst (pc := 129) (1 : Int32) d_S_gather_129 (by decide) ?_
                refine ZO.istore_n (pc := 130) (v := (1 : Int32)) (L' := [(0, .ref 202), (1, .int (1 : Int32)), (2, .int x4.2.1), (3, .int x9.2.1), (4, .int x17.1), (5, .int x17.2)]) [1, 0, 2, 3, 4, 5] d_S_gather_130 rfl (by decide) rfl ?_
                exact ZO.sub [0, 1, 2, 3] rfl (hj23 ((1 : Int32), s25))
          · refine ZO.iload (pc := 87) 4 d_S_gather_87 rfl ?_
            refine ZO.aload_n (pc := 89) 0 d_S_gather_89 rfl rfl ?_
            refine ZO.getA (pc := 90) 264 d_S_gather_90 zo_202 zf_S_25 rfl rfl ?_
            refine ZO.aload_n (pc := 93) 0 d_S_gather_93 rfl rfl ?_
            refine ZO.getA (pc := 94) 269 d_S_gather_94 zo_202 zf_S_38 rfl rfl ?_
            refine ZO.iload (pc := 97) 5 d_S_gather_97 rfl ?_
            refine ZO.rgd (fun h26 => ?_)
            refine ZO.iald (pc := 99) d_S_gather_99 za_269 h26 ?_
            refine ZO.rgd (fun h27 => ?_)
            refine ZO.iald (pc := 100) d_S_gather_100 za_264 h27 ?_
            refine ZO.ior (pc := 101) d_S_gather_101 ?_
            refine ZO.ltI (fun v28 => ?_)
            refine ZO.istore (pc := 102) (v := v28) (L' := [(0, .ref 202), (1, .int x9.1), (2, .int x4.2.1), (3, .int x9.2.1), (4, .int v28), (5, .int x17.2)]) [1, 2, 3, 4, 0, 5] d_S_gather_102 (by decide) rfl ?_
            refine ZO.iincL (pc := 104) (i := 5) (x17.2 + (1 : Int32)) (L' := fun v29 => [(0, .ref 202), (1, .int x9.1), (2, .int x4.2.1), (3, .int x9.2.1), (4, .int v28), (5, .int v29)]) [1, 2, 3, 4, 5, 0] d_S_gather_104 rfl (by rfl) (by decide) (fun _ => rfl) (fun v29 => ?_)
            refine ZO.goto (pc := 107) 74 d_S_gather_107 (by decide) ?_
            exact hj18 (v28, v29)
  · refine ZO.aload_n (pc := 10) 0 d_S_gather_10 rfl rfl ?_
    refine ZO.getA (pc := 11) 264 d_S_gather_11 zo_202 zf_S_25 rfl rfl ?_
    refine ZO.iload_n (pc := 14) 1 d_S_gather_14 rfl rfl ?_
    refine ZO.aload_n (pc := 15) 0 d_S_gather_15 rfl rfl ?_
    refine ZO.getA (pc := 16) 260 d_S_gather_16 zo_202 zf_S_9 rfl rfl ?_
    refine ZO.iload_n (pc := 19) 1 d_S_gather_19 rfl rfl ?_
    refine ZO.rgd (fun h30 => ?_)
    refine ZO.lald (pc := 20) d_S_gather_20 za_260 h30 ?_
    refine ZO.tSNI (pc := 21) (As := [.long (al x1.2 260 x1.1)]) (rest := [.int x1.1, .ref 264]) d_S_gather_21 zc_S_67 (by decide) rfl rfl (Nat.le_of_ble_eq_true rfl) (ok_X_anywhere g (al x1.2 260 x1.1) x1.2) ?_
    refine ZO.iast (pc := 24) d_S_gather_24 za_264 h30 ?_
    refine ZO.ltS (fun s31 => ?_)
    refine ZO.iincL (pc := 25) (i := 1) (x1.1 + (1 : Int32)) (L' := fun v32 => [(0, .ref 202), (1, .int v32)]) [1, 0] d_S_gather_25 rfl (by rfl) (by decide) (fun _ => rfl) (fun v32 => ?_)
    refine ZO.goto (pc := 28) 2 d_S_gather_28 (by decide) ?_
    exact hj2 (v32, s31)
def f_V_begin (a0 : Int32) (s : ZSt) : Option ZSt :=
  lt (si s 203 0 a0) (fun s1 =>
  lt (si s1 203 1 (0 : Int32)) (fun s2 =>
  lt (si s2 203 2 (12 : Int32)) (fun s3 =>
  lt (si s3 203 3 (0 : Int32)) (fun s4 =>
  lt (si s4 203 4 (0 : Int32)) (fun s5 =>
  some s5)))))
set_option maxHeartbeats 4000000 in
set_option maxRecDepth 20000 in
theorem ok_V_begin (g : ZG) (a0 : Int32) (s : ZSt) : ZF g 0 y_V_begin [.ref 203, .int a0] s (f_V_begin a0 s) (fun _ => none) (fun b => b) := by
  refine ZF.of (by decide +kernel) (Nat.le_of_ble_eq_true rfl) ?_
  unfold f_V_begin
  show ZO g 0 y_V_begin zu0 0 [(0, .ref 203), (1, .int a0)] [] s _ _
  refine ZO.aload_n (pc := 0) 0 d_V_begin_0 rfl rfl ?_
  refine ZO.iload_n (pc := 1) 1 d_V_begin_1 rfl rfl ?_
  refine ZO.putI (pc := 2) d_V_begin_2 zo_203 zp_V_9 rfl ?_
  refine ZO.ltS (fun s1 => ?_)
  refine ZO.aload_n (pc := 5) 0 d_V_begin_5 rfl rfl ?_
  refine ZO.iconst (pc := 6) (0 : Int32) d_V_begin_6 (by decide) ?_
  refine ZO.putI (pc := 7) d_V_begin_7 zo_203 zp_V_15 rfl ?_
  refine ZO.ltS (fun s2 => ?_)
  refine ZO.aload_n (pc := 10) 0 d_V_begin_10 rfl rfl ?_
  refine ZO.bipush (pc := 11) (12 : Int32) d_V_begin_11 (by decide) ?_
  refine ZO.putI (pc := 13) d_V_begin_13 zo_203 zp_V_18 rfl ?_
  refine ZO.ltS (fun s3 => ?_)
  refine ZO.aload_n (pc := 16) 0 d_V_begin_16 rfl rfl ?_
  refine ZO.iconst (pc := 17) (0 : Int32) d_V_begin_17 (by decide) ?_
  refine ZO.putI (pc := 18) d_V_begin_18 zo_203 zp_V_21 rfl ?_
  refine ZO.ltS (fun s4 => ?_)
  refine ZO.aload_n (pc := 21) 0 d_V_begin_21 rfl rfl ?_
  refine ZO.iconst (pc := 22) (0 : Int32) d_V_begin_22 (by decide) ?_
  refine ZO.putI (pc := 23) d_V_begin_23 zo_203 zp_V_24 rfl ?_
  refine ZO.ltS (fun s5 => ?_)
  exact ZO.vret (pc := 26) d_V_begin_26 rfl rfl rfl
def f_V_take (a0 : Int32) (s : ZSt) : Option ZSt :=
  lt (f_J_bitCount a0) (fun v1 =>
  lt (si s 203 0 ((gi s 203 0) &&& a0)) (fun s2 =>
  lt (si s2 203 1 ((gi s2 203 1) ||| a0)) (fun s3 =>
  (jn (fun (x4 : ZSt) =>
    (if v1 = (gi x4 203 2) then
      lt (si x4 203 4 ((gi x4 203 4) + (1 : Int32))) (fun s6 =>
        some s6)
    else some x4)) (fun j7 =>
    if (gi s3 203 2) ≤ v1 then
  j7 s3
else lt (si s3 203 2 v1) (fun s9 =>
    lt (si s9 203 3 a0) (fun s10 =>
    lt (si s10 203 4 (0 : Int32)) (fun s11 =>
    j7 s11))))))))
set_option maxHeartbeats 4000000 in
set_option maxRecDepth 20000 in
theorem ok_V_take (g : ZG) (a0 : Int32) (s : ZSt) : ZF g 1 y_V_take [.ref 203, .int a0] s (f_V_take a0 s) (fun _ => none) (fun b => b) := by
  refine ZF.of (by decide +kernel) (Nat.le_of_ble_eq_true rfl) ?_
  unfold f_V_take
  show ZO g 1 y_V_take zu0 0 [(0, .ref 203), (1, .int a0)] [] s _ _
  refine ZO.iload_n (pc := 0) 1 d_V_take_0 rfl rfl ?_
  refine ZO.tSI (pc := 1) (As := [.int a0]) (rest := []) d_V_take_1 zc_V_27 (by decide) rfl rfl (Nat.le_of_ble_eq_true rfl) (ok_J_bitCount g a0 s) ?_
  refine ZO.ltI (fun v1 => ?_)
  refine ZO.istore_n (pc := 4) (v := v1) (L' := [(0, .ref 203), (1, .int a0), (2, .int v1)]) [1, 2, 0] d_V_take_4 rfl (by decide) rfl ?_
  refine ZO.aload_n (pc := 5) 0 d_V_take_5 rfl rfl ?_
  refine ZO.dup (pc := 6) d_V_take_6 rfl ?_
  refine ZO.getI (pc := 7) d_V_take_7 zo_203 zf_V_9 rfl ?_
  refine ZO.iload_n (pc := 10) 1 d_V_take_10 rfl rfl ?_
  refine ZO.iand (pc := 11) d_V_take_11 ?_
  refine ZO.putI (pc := 12) d_V_take_12 zo_203 zp_V_9 rfl ?_
  refine ZO.ltS (fun s2 => ?_)
  refine ZO.aload_n (pc := 15) 0 d_V_take_15 rfl rfl ?_
  refine ZO.dup (pc := 16) d_V_take_16 rfl ?_
  refine ZO.getI (pc := 17) d_V_take_17 zo_203 zf_V_15 rfl ?_
  refine ZO.iload_n (pc := 20) 1 d_V_take_20 rfl rfl ?_
  refine ZO.ior (pc := 21) d_V_take_21 ?_
  refine ZO.putI (pc := 22) d_V_take_22 zo_203 zp_V_15 rfl ?_
  refine ZO.ltS (fun s3 => ?_)
  refine ZO.iload_n (pc := 25) 2 d_V_take_25 rfl rfl ?_
  refine ZO.aload_n (pc := 26) 0 d_V_take_26 rfl rfl ?_
  refine ZO.getI (pc := 27) d_V_take_27 zo_203 zf_V_18 rfl ?_
  refine ZO.rjn (pcJ := 48) (LJ := fun (x4 : ZSt) => ([(0, .ref 203), (2, .int v1)] : List (Nat × Value))) (SJ := fun (x4 : ZSt) => ([] : List Value)) (σJ := fun (x4 : ZSt) => x4) (fun x4 => ?_) (fun j7 hj7 => ?_)
  · refine ZO.iload_n (pc := 48) 1 d_V_take_48 rfl rfl ?_
    refine ZO.aload_n (pc := 49) 0 d_V_take_49 rfl rfl ?_
    refine ZO.getI (pc := 50) d_V_take_50 zo_203 zf_V_18 rfl ?_
    refine ZO.icmp_ne (pc := 53) 66 d_V_take_53 (by decide) rfl (fun h5 => ?_) (fun h5 => ?_)
    · refine ZO.aload_n (pc := 56) 0 d_V_take_56 rfl rfl ?_
      refine ZO.dup (pc := 57) d_V_take_57 rfl ?_
      refine ZO.getI (pc := 58) d_V_take_58 zo_203 zf_V_24 rfl ?_
      refine ZO.iconst (pc := 61) (1 : Int32) d_V_take_61 (by decide) ?_
      refine ZO.iadd (pc := 62) d_V_take_62 ?_
      refine ZO.putI (pc := 63) d_V_take_63 zo_203 zp_V_24 rfl ?_
      refine ZO.ltS (fun s6 => ?_)
      exact ZO.vret (pc := 66) d_V_take_66 rfl rfl rfl
    · exact ZO.vret (pc := 66) d_V_take_66 rfl rfl rfl
  · refine ZO.icmp_ge (pc := 30) 48 d_V_take_30 (by decide) rfl (fun h8 => ?_) (fun h8 => ?_)
    · exact ZO.sub [0, 2] rfl (hj7 s3)
    · refine ZO.aload_n (pc := 33) 0 d_V_take_33 rfl rfl ?_
      refine ZO.iload_n (pc := 34) 2 d_V_take_34 rfl rfl ?_
      refine ZO.putI (pc := 35) d_V_take_35 zo_203 zp_V_18 rfl ?_
      refine ZO.ltS (fun s9 => ?_)
      refine ZO.aload_n (pc := 38) 0 d_V_take_38 rfl rfl ?_
      refine ZO.iload_n (pc := 39) 1 d_V_take_39 rfl rfl ?_
      refine ZO.putI (pc := 40) d_V_take_40 zo_203 zp_V_21 rfl ?_
      refine ZO.ltS (fun s10 => ?_)
      refine ZO.aload_n (pc := 43) 0 d_V_take_43 rfl rfl ?_
      refine ZO.iconst (pc := 44) (0 : Int32) d_V_take_44 (by decide) ?_
      refine ZO.putI (pc := 45) d_V_take_45 zo_203 zp_V_24 rfl ?_
      refine ZO.ltS (fun s11 => ?_)
      exact ZO.sub [0, 2] rfl (hj7 s11)
def f_T_has (a0 : Int32) (s : ZSt) : Bool :=
  (if a0 < 0 then
  false
else (if (gi s 201 2) ≤ a0 then
    false
  else true))
set_option maxHeartbeats 4000000 in
set_option maxRecDepth 20000 in
theorem ok_T_has (g : ZG) (a0 : Int32) (s : ZSt) : ZF g 0 y_T_has [.ref 201, .int a0] s (some (f_T_has a0 s)) (fun b => some (.int (b2i b))) (fun _ => s) := by
  refine ZF.of (by decide +kernel) (Nat.le_of_ble_eq_true rfl) ?_
  unfold f_T_has
  show ZO g 0 y_T_has zu0 0 [(0, .ref 201), (1, .int a0)] [] s _ _
  refine ZO.iload_n (pc := 0) 1 d_T_has_0 rfl rfl ?_
  refine ZO.if_lt (pc := 1) 16 d_T_has_1 (by decide) z_some (fun h1 => ?_) (fun h1 => ?_)
  · refine ZO.iconst (pc := 16) (0 : Int32) d_T_has_16 (by decide) ?_
    exact ZO.zret (pc := 17) (v := false) d_T_has_17 rfl rfl rfl
  · refine ZO.iload_n (pc := 4) 1 d_T_has_4 rfl rfl ?_
    refine ZO.aload_n (pc := 5) 0 d_T_has_5 rfl rfl ?_
    refine ZO.getI (pc := 6) d_T_has_6 zo_201 zf_T_32 rfl ?_
    refine ZO.icmp_ge (pc := 9) 16 d_T_has_9 (by decide) z_some (fun h2 => ?_) (fun h2 => ?_)
    · refine ZO.iconst (pc := 16) (0 : Int32) d_T_has_16 (by decide) ?_
      exact ZO.zret (pc := 17) (v := false) d_T_has_17 rfl rfl rfl
    · refine ZO.iconst (pc := 12) (1 : Int32) d_T_has_12 (by decide) ?_
      refine ZO.goto (pc := 13) 17 d_T_has_13 (by decide) ?_
      exact ZO.zret (pc := 17) (v := true) d_T_has_17 rfl rfl rfl
def f_T_all (s : ZSt) : Int32 :=
  ((shI (1 : Int32) (gi s 201 2)) - (1 : Int32))
set_option maxHeartbeats 4000000 in
set_option maxRecDepth 20000 in
theorem ok_T_all (g : ZG) (s : ZSt) : ZF g 0 y_T_all [.ref 201] s (some (f_T_all s)) (fun b => some (.int b)) (fun _ => s) := by
  refine ZF.of (by decide +kernel) (Nat.le_of_ble_eq_true rfl) ?_
  unfold f_T_all
  show ZO g 0 y_T_all zu0 0 [(0, .ref 201)] [] s _ _
  refine ZO.iconst (pc := 0) (1 : Int32) d_T_all_0 (by decide) ?_
  refine ZO.aload_n (pc := 1) 0 d_T_all_1 rfl rfl ?_
  refine ZO.getI (pc := 2) d_T_all_2 zo_201 zf_T_32 rfl ?_
  refine ZO.ishl (pc := 5) d_T_all_5 ?_
  refine ZO.iconst (pc := 6) (1 : Int32) d_T_all_6 (by decide) ?_
  refine ZO.isub (pc := 7) d_T_all_7 ?_
  exact ZO.iret (pc := 8)  d_T_all_8 rfl rfl rfl
def f_T_beyond (a0 : Int32) (s : ZSt) : Bool :=
  (if (srI a0 (gi s 201 2)) = 0 then
  false
else true)
set_option maxHeartbeats 4000000 in
set_option maxRecDepth 20000 in
theorem ok_T_beyond (g : ZG) (a0 : Int32) (s : ZSt) : ZF g 0 y_T_beyond [.ref 201, .int a0] s (some (f_T_beyond a0 s)) (fun b => some (.int (b2i b))) (fun _ => s) := by
  refine ZF.of (by decide +kernel) (Nat.le_of_ble_eq_true rfl) ?_
  unfold f_T_beyond
  show ZO g 0 y_T_beyond zu0 0 [(0, .ref 201), (1, .int a0)] [] s _ _
  refine ZO.iload_n (pc := 0) 1 d_T_beyond_0 rfl rfl ?_
  refine ZO.aload_n (pc := 1) 0 d_T_beyond_1 rfl rfl ?_
  refine ZO.getI (pc := 2) d_T_beyond_2 zo_201 zf_T_32 rfl ?_
  refine ZO.ishr (pc := 5) d_T_beyond_5 ?_
  refine ZO.if_eq (pc := 6) 13 d_T_beyond_6 (by decide) z_some (fun h1 => ?_) (fun h1 => ?_)
  · refine ZO.iconst (pc := 13) (0 : Int32) d_T_beyond_13 (by decide) ?_
    exact ZO.zret (pc := 14) (v := false) d_T_beyond_14 rfl rfl rfl
  · refine ZO.iconst (pc := 9) (1 : Int32) d_T_beyond_9 (by decide) ?_
    refine ZO.goto (pc := 10) 14 d_T_beyond_10 (by decide) ?_
    exact ZO.zret (pc := 14) (v := true) d_T_beyond_14 rfl rfl rfl
def f_T_forget (s : ZSt) : Option ZSt :=
  lt (si s 201 5 ((gi s 201 5) + (1 : Int32))) (fun s1 =>
  some s1)
set_option maxHeartbeats 4000000 in
set_option maxRecDepth 20000 in
theorem ok_T_forget (g : ZG) (s : ZSt) : ZF g 0 y_T_forget [.ref 201] s (f_T_forget s) (fun _ => none) (fun b => b) := by
  refine ZF.of (by decide +kernel) (Nat.le_of_ble_eq_true rfl) ?_
  unfold f_T_forget
  show ZO g 0 y_T_forget zu0 0 [(0, .ref 201)] [] s _ _
  refine ZO.aload_n (pc := 0) 0 d_T_forget_0 rfl rfl ?_
  refine ZO.dup (pc := 1) d_T_forget_1 rfl ?_
  refine ZO.getI (pc := 2) d_T_forget_2 zo_201 zf_T_27 rfl ?_
  refine ZO.iconst (pc := 5) (1 : Int32) d_T_forget_5 (by decide) ?_
  refine ZO.iadd (pc := 6) d_T_forget_6 ?_
  refine ZO.putI (pc := 7) d_T_forget_7 zo_201 zp_T_27 rfl ?_
  refine ZO.ltS (fun s1 => ?_)
  exact ZO.vret (pc := 10) d_T_forget_10 rfl rfl rfl
def f_T_countIn (n : Nat) (a0 : Int32) (s : ZSt) : Option ZSt :=
  lpN (fun j2 (x1 : Int32 × ZSt) =>
  (if (12 : Int32) ≤ x1.1 then
    some x1.2
  else gd (inb x1.1 12) (
      lt (si x1.2 (z_ra 240 x1.1.toNatClampNeg) 5 ((gi x1.2 (z_ra 240 x1.1.toNatClampNeg) 5) + ((srI a0 x1.1) &&& (1 : Int32)))) (fun s5 =>
      lt (x1.1 + (1 : Int32)) (fun v6 =>
      j2 (v6, s5)))))) n ((0 : Int32), s)
set_option maxHeartbeats 4000000 in
set_option maxRecDepth 20000 in
theorem ok_T_countIn (g : ZG) (n : Nat) (a0 : Int32) (s : ZSt) : ZF g 0 y_T_countIn [.ref 201, .int a0] s (f_T_countIn n a0 s) (fun _ => none) (fun b => b) := by
  refine ZF.of (by decide +kernel) (Nat.le_of_ble_eq_true rfl) ?_
  unfold f_T_countIn
  show ZO g 0 y_T_countIn zu0 0 [(0, .ref 201), (1, .int a0)] [] s _ _
  refine ZO.iconst (pc := 0) (0 : Int32) d_T_countIn_0 (by decide) ?_
  refine ZO.istore_n (pc := 1) (v := (0 : Int32)) (L' := [(0, .ref 201), (1, .int a0), (2, .int (0 : Int32))]) [1, 2, 0] d_T_countIn_1 rfl (by decide) rfl ?_
  refine ZO.loop (fun (x1 : Int32 × ZSt) => ([(0, .ref 201), (1, .int a0), (2, .int x1.1)] : List (Nat × Value))) (fun (x1 : Int32 × ZSt) => x1.2) [] (fun j2 x1 hj2 => ?_) rfl rfl rfl
  refine ZO.iload_n (pc := 2) 2 d_T_countIn_2 rfl rfl ?_
  refine ZO.bipush (pc := 3) (12 : Int32) d_T_countIn_3 (by decide) ?_
  refine ZO.icmp_ge (pc := 5) 33 d_T_countIn_5 (by decide) rfl (fun h3 => ?_) (fun h3 => ?_)
  · exact ZO.vret (pc := 33) d_T_countIn_33 rfl rfl rfl
  · refine ZO.aload_n (pc := 8) 0 d_T_countIn_8 rfl rfl ?_
    refine ZO.getA (pc := 9) 240 d_T_countIn_9 zo_201 zf_T_11 rfl rfl ?_
    refine ZO.iload_n (pc := 12) 2 d_T_countIn_12 rfl rfl ?_
    refine ZO.rgd (fun h4 => ?_)
    refine ZO.aald (pc := 13) (q0 := 0) d_T_countIn_13 (by decide) za_240 h4 ?_
    refine ZO.dup (pc := 14) d_T_countIn_14 rfl ?_
    refine ZO.getI (pc := 15) d_T_countIn_15 (zr_b h4) zf_T_35 rfl ?_
    refine ZO.iload_n (pc := 18) 1 d_T_countIn_18 rfl rfl ?_
    refine ZO.iload_n (pc := 19) 2 d_T_countIn_19 rfl rfl ?_
    refine ZO.ishr (pc := 20) d_T_countIn_20 ?_
    refine ZO.iconst (pc := 21) (1 : Int32) d_T_countIn_21 (by decide) ?_
    refine ZO.iand (pc := 22) d_T_countIn_22 ?_
    refine ZO.iadd (pc := 23) d_T_countIn_23 ?_
    refine ZO.putI (pc := 24) d_T_countIn_24 (zr_b h4) zp_T_35 rfl ?_
    refine ZO.ltS (fun s5 => ?_)
    refine ZO.iincL (pc := 27) (i := 2) (x1.1 + (1 : Int32)) (L' := fun v6 => [(0, .ref 201), (1, .int a0), (2, .int v6)]) [1, 2, 0] d_T_countIn_27 rfl (by rfl) (by decide) (fun _ => rfl) (fun v6 => ?_)
    refine ZO.goto (pc := 30) 2 d_T_countIn_30 (by decide) ?_
    exact hj2 (v6, s5)
def f_T_refusal (n : Nat) (a0 : Int64) (a1 : Int32) (a2 : Int32) (s : ZSt) : Option (Int32 × ZSt) :=
  (if a2 < 0 then
  some ((-1 : Int32), s)
else (if (140 : Int32) ≤ a2 then
    some ((-1 : Int32), s)
  else (if (f_T_has (remI a2 (20 : Int32)) s) = true then
      lt (a2 / (20 : Int32)) (fun v4 =>
        lt (remI a2 (20 : Int32)) (fun v5 =>
        bn (f_X_tableOf n a0 v5) (fun p6 =>
        (if v4 = (3 : Int32) then
        (if p6 = (-1 : Int32) then
          some ((-2 : Int32), s)
        else some ((0 : Int32), s))
      else (lt ((if (3 : Int32) ≤ v4 then
          (v4 - (4 : Int32))
        else v4) : Int32) (fun x9 =>
            (jn (fun (x10 : Unit) =>
                (jn (fun (x11 : Unit) =>
                    gd (inb x9 3) (
                      (if (f_J_bitCount (f_X_on a0 x9)) < (ai s 241 x9) then
                      bn (f_T_mayBy n x9 (f_X_on a0 x9) s) (fun p14 =>
                        (if ((srI p14.1 v5) &&& (1 : Int32)) = 0 then
                        some ((-5 : Int32), p14.2)
                      else some ((0 : Int32), p14.2)))
                    else some ((-4 : Int32), s)))) (fun j16 =>
                    if (3 : Int32) ≤ v4 then
                  j16 ()
                else (if ((srI a1 v5) &&& (1 : Int32)) = 0 then
                    j16 ()
                  else some ((-3 : Int32), s))))) (fun j19 =>
                if (3 : Int32) ≤ v4 then
              (if p6 = (-1 : Int32) then
                some ((-2 : Int32), s)
              else (if p6 = x9 then
                  some ((-2 : Int32), s)
                else j19 ()))
            else (if p6 = (-1 : Int32) then
                j19 ()
              else some ((-2 : Int32), s))))))))))
    else some ((-1 : Int32), s))))
set_option maxHeartbeats 4000000 in
set_option maxRecDepth 20000 in
theorem ok_T_refusal (g : ZG) (n : Nat) (a0 : Int64) (a1 : Int32) (a2 : Int32) (s : ZSt) : ZF g 3 y_T_refusal [.ref 201, .long a0, .int a1, .int a2] s (f_T_refusal n a0 a1 a2 s) (fun b => some (.int b.1)) (fun b => b.2) := by
  refine ZF.of (by decide +kernel) (Nat.le_of_ble_eq_true rfl) ?_
  unfold f_T_refusal
  show ZO g 3 y_T_refusal zu0 0 [(0, .ref 201), (1, .long a0), (3, .int a1), (4, .int a2)] [] s _ _
  refine ZO.iload (pc := 0) 3 d_T_refusal_0 rfl ?_
  refine ZO.if_lt (pc := 2) 25 d_T_refusal_2 (by decide) rfl (fun h1 => ?_) (fun h1 => ?_)
  · refine ZO.iconst (pc := 25) (-1 : Int32) d_T_refusal_25 (by decide) ?_
    exact ZO.iret (pc := 26)  d_T_refusal_26 rfl rfl rfl
  · refine ZO.iload (pc := 5) 3 d_T_refusal_5 rfl ?_
    refine ZO.sipush (pc := 7) (140 : Int32) d_T_refusal_7 (by decide) ?_
    refine ZO.icmp_ge (pc := 10) 25 d_T_refusal_10 (by decide) rfl (fun h2 => ?_) (fun h2 => ?_)
    · refine ZO.iconst (pc := 25) (-1 : Int32) d_T_refusal_25 (by decide) ?_
      exact ZO.iret (pc := 26)  d_T_refusal_26 rfl rfl rfl
    · refine ZO.aload_n (pc := 13) 0 d_T_refusal_13 rfl rfl ?_
      refine ZO.iload (pc := 14) 3 d_T_refusal_14 rfl ?_
      refine ZO.bipush (pc := 16) (20 : Int32) d_T_refusal_16 (by decide) ?_
      refine ZO.irem (pc := 18) d_T_refusal_18 (by decide) ?_
      refine ZO.tVB (pc := 19) (As := [.int (remI a2 (20 : Int32))]) (rest := []) d_T_refusal_19 zc_T_76 (by decide) zo_201 rfl rfl rfl (Nat.le_of_ble_eq_true rfl) (ok_T_has g (remI a2 (20 : Int32)) s) ?_
      refine ZO.ifb_ne (pc := 22) 27 d_T_refusal_22 (by decide) rfl (fun h3 => ?_) (fun h3 => ?_)
      · refine ZO.iload (pc := 27) 3 d_T_refusal_27 rfl ?_
        refine ZO.bipush (pc := 29) (20 : Int32) d_T_refusal_29 (by decide) ?_
        refine ZO.idiv (pc := 31) d_T_refusal_31 (by decide) ?_
        refine ZO.ltI (fun v4 => ?_)
        refine ZO.istore (pc := 32) (v := v4) (L' := [(0, .ref 201), (1, .long a0), (3, .int a1), (4, .int a2), (5, .int v4)]) [1, 2, 3, 4, 0] d_T_refusal_32 (by decide) rfl ?_
        refine ZO.iload (pc := 34) 3 d_T_refusal_34 rfl ?_
        refine ZO.bipush (pc := 36) (20 : Int32) d_T_refusal_36 (by decide) ?_
        refine ZO.irem (pc := 38) d_T_refusal_38 (by decide) ?_
        refine ZO.ltI (fun v5 => ?_)
        refine ZO.istore (pc := 39) (v := v5) (L' := [(0, .ref 201), (1, .long a0), (3, .int a1), (4, .int a2), (5, .int v4), (6, .int v5)]) [1, 2, 3, 4, 5, 0] d_T_refusal_39 (by decide) rfl ?_
        refine ZO.lload_n (pc := 41) 1 d_T_refusal_41 rfl rfl ?_
        refine ZO.iload (pc := 42) 5 d_T_refusal_42 rfl ?_
        refine ZO.cSNI (pc := 44) (As := [.long a0, .int v5]) (rest := []) d_T_refusal_44 zc_T_80 (by decide) rfl rfl (Nat.le_of_ble_eq_true rfl) (ok_X_tableOf g n a0 v5 s) (fun p6 ep6 => ?_)
        refine ZO.istore (pc := 47) (v := p6) (L' := [(0, .ref 201), (1, .long a0), (3, .int a1), (4, .int a2), (5, .int v4), (6, .int v5), (7, .int p6)]) [1, 2, 3, 4, 5, 6, 0] d_T_refusal_47 (by decide) rfl ?_
        refine ZO.iload (pc := 49) 4 d_T_refusal_49 rfl ?_
        refine ZO.iconst (pc := 51) (3 : Int32) d_T_refusal_51 (by decide) ?_
        refine ZO.icmp_ne (pc := 52) 68 d_T_refusal_52 (by decide) rfl (fun h7 => ?_) (fun h7 => ?_)
        · refine ZO.iload (pc := 55) 6 d_T_refusal_55 rfl ?_
          refine ZO.iconst (pc := 57) (-1 : Int32) d_T_refusal_57 (by decide) ?_
          refine ZO.icmp_ne (pc := 58) 66 d_T_refusal_58 (by decide) rfl (fun h8 => ?_) (fun h8 => ?_)
          · refine ZO.bipush (pc := 61) (-2 : Int32) d_T_refusal_61 (by decide) ?_
            refine ZO.goto (pc := 63) 67 d_T_refusal_63 (by decide) ?_
            exact ZO.iret (pc := 67)  d_T_refusal_67 rfl rfl rfl
          · refine ZO.iconst (pc := 66) (0 : Int32) d_T_refusal_66 (by decide) ?_
            exact ZO.iret (pc := 67)  d_T_refusal_67 rfl rfl rfl
        · refine ZO.iload (pc := 68) 4 d_T_refusal_68 rfl ?_
          refine ZO.iconst (pc := 70) (3 : Int32) d_T_refusal_70 (by decide) ?_
          refine ZO.phi (pcJ := 83) (LJ := fun (x9 : Int32) => ([(0, .ref 201), (1, .long a0), (3, .int a1), (5, .int v4), (6, .int v5), (7, .int p6)] : List (Nat × Value))) (SJ := fun (x9 : Int32) => ([.int x9] : List Value)) (fun x9 => ?_) (fun t hj24 => ?_)
          · refine ZO.istore (pc := 83) (v := x9) (L' := [(0, .ref 201), (1, .long a0), (3, .int a1), (5, .int v4), (6, .int v5), (7, .int p6), (8, .int x9)]) [1, 2, 3, 4, 5, 6, 0] d_T_refusal_83 (by decide) rfl ?_
            refine ZO.iload (pc := 85) 3 d_T_refusal_85 rfl ?_
            refine ZO.iconst (pc := 87) (3 : Int32) d_T_refusal_87 (by decide) ?_
            refine ZO.rjn (pcJ := 116) (LJ := fun (x10 : Unit) => ([(0, .ref 201), (1, .long a0), (3, .int a1), (5, .int v4), (6, .int v5), (8, .int x9)] : List (Nat × Value))) (SJ := fun (x10 : Unit) => ([] : List Value)) (σJ := fun (x10 : Unit) => s) (fun x10 => ?_) (fun j19 hj19 => ?_)
            · refine ZO.iload (pc := 116) 3 d_T_refusal_116 rfl ?_
              refine ZO.iconst (pc := 118) (3 : Int32) d_T_refusal_118 (by decide) ?_
              refine ZO.rjn (pcJ := 134) (LJ := fun (x11 : Unit) => ([(0, .ref 201), (1, .long a0), (6, .int v5), (8, .int x9)] : List (Nat × Value))) (SJ := fun (x11 : Unit) => ([] : List Value)) (σJ := fun (x11 : Unit) => s) (fun x11 => ?_) (fun j16 hj16 => ?_)
              · refine ZO.lload_n (pc := 134) 1 d_T_refusal_134 rfl rfl ?_
                refine ZO.iload (pc := 135) 3 d_T_refusal_135 rfl ?_
                refine ZO.tSNI (pc := 137) (As := [.long a0, .int x9]) (rest := []) d_T_refusal_137 zc_T_54 (by decide) rfl rfl (Nat.le_of_ble_eq_true rfl) (ok_X_on g a0 x9 s) ?_
                refine ZO.tSI (pc := 140) (As := [.int (f_X_on a0 x9)]) (rest := []) d_T_refusal_140 zc_T_70 (by decide) rfl rfl (Nat.le_of_ble_eq_true rfl) (ok_J_bitCount g (f_X_on a0 x9) s) ?_
                refine ZO.aload_n (pc := 143) 0 d_T_refusal_143 rfl rfl ?_
                refine ZO.getA (pc := 144) 241 d_T_refusal_144 zo_201 zf_T_17 rfl rfl ?_
                refine ZO.iload (pc := 147) 3 d_T_refusal_147 rfl ?_
                refine ZO.rgd (fun h12 => ?_)
                refine ZO.iald (pc := 149) d_T_refusal_149 za_241 h12 ?_
                refine ZO.icmp_lt (pc := 150) 156 d_T_refusal_150 (by decide) rfl (fun h13 => ?_) (fun h13 => ?_)
                · refine ZO.aload_n (pc := 156) 0 d_T_refusal_156 rfl rfl ?_
                  refine ZO.iload (pc := 157) 3 d_T_refusal_157 rfl ?_
                  refine ZO.lload_n (pc := 159) 1 d_T_refusal_159 rfl rfl ?_
                  refine ZO.iload (pc := 160) 3 d_T_refusal_160 rfl ?_
                  refine ZO.tSNI (pc := 162) (As := [.long a0, .int x9]) (rest := [.int x9, .ref 201]) d_T_refusal_162 zc_T_54 (by decide) rfl rfl (Nat.le_of_ble_eq_true rfl) (ok_X_on g a0 x9 s) ?_
                  refine ZO.cVI (pc := 165) (As := [.int x9, .int (f_X_on a0 x9)]) (rest := []) d_T_refusal_165 zc_T_58 (by decide) zo_201 rfl rfl rfl (Nat.le_of_ble_eq_true rfl) (ok_T_mayBy g n x9 (f_X_on a0 x9) s) (fun p14 ep14 => ?_)
                  refine ZO.iload (pc := 168) 2 d_T_refusal_168 rfl ?_
                  refine ZO.ishr (pc := 170) d_T_refusal_170 ?_
                  refine ZO.iconst (pc := 171) (1 : Int32) d_T_refusal_171 (by decide) ?_
                  refine ZO.iand (pc := 172) d_T_refusal_172 ?_
                  refine ZO.if_ne (pc := 173) 181 d_T_refusal_173 (by decide) rfl (fun h15 => ?_) (fun h15 => ?_)
                  · refine ZO.bipush (pc := 176) (-5 : Int32) d_T_refusal_176 (by decide) ?_
                    refine ZO.goto (pc := 178) 182 d_T_refusal_178 (by decide) ?_
                    exact ZO.iret (pc := 182)  d_T_refusal_182 rfl rfl rfl
                  · refine ZO.iconst (pc := 181) (0 : Int32) d_T_refusal_181 (by decide) ?_
                    exact ZO.iret (pc := 182)  d_T_refusal_182 rfl rfl rfl
                · refine ZO.bipush (pc := 153) (-4 : Int32) d_T_refusal_153 (by decide) ?_
                  exact ZO.iret (pc := 155)  d_T_refusal_155 rfl rfl rfl
              · refine ZO.icmp_ge (pc := 119) 134 d_T_refusal_119 (by decide) rfl (fun h17 => ?_) (fun h17 => ?_)
                · exact ZO.sub [0, 1, 4, 5] rfl (hj16 ())
                · refine ZO.iload_n (pc := 122) 2 d_T_refusal_122 rfl rfl ?_
                  refine ZO.iload (pc := 123) 4 d_T_refusal_123 rfl ?_
                  refine ZO.ishr (pc := 125) d_T_refusal_125 ?_
                  refine ZO.iconst (pc := 126) (1 : Int32) d_T_refusal_126 (by decide) ?_
                  refine ZO.iand (pc := 127) d_T_refusal_127 ?_
                  refine ZO.if_eq (pc := 128) 134 d_T_refusal_128 (by decide) rfl (fun h18 => ?_) (fun h18 => ?_)
                  · exact ZO.sub [0, 1, 4, 5] rfl (hj16 ())
                  · refine ZO.bipush (pc := 131) (-3 : Int32) d_T_refusal_131 (by decide) ?_
                    exact ZO.iret (pc := 133)  d_T_refusal_133 rfl rfl rfl
            · refine ZO.icmp_ge (pc := 88) 100 d_T_refusal_88 (by decide) rfl (fun h20 => ?_) (fun h20 => ?_)
              · refine ZO.iload (pc := 100) 5 d_T_refusal_100 rfl ?_
                refine ZO.iconst (pc := 102) (-1 : Int32) d_T_refusal_102 (by decide) ?_
                refine ZO.icmp_eq (pc := 103) 113 d_T_refusal_103 (by decide) rfl (fun h21 => ?_) (fun h21 => ?_)
                · refine ZO.bipush (pc := 113) (-2 : Int32) d_T_refusal_113 (by decide) ?_
                  exact ZO.iret (pc := 115)  d_T_refusal_115 rfl rfl rfl
                · refine ZO.iload (pc := 106) 5 d_T_refusal_106 rfl ?_
                  refine ZO.iload (pc := 108) 6 d_T_refusal_108 rfl ?_
                  refine ZO.icmp_ne (pc := 110) 116 d_T_refusal_110 (by decide) rfl (fun h22 => ?_) (fun h22 => ?_)
                  · refine ZO.bipush (pc := 113) (-2 : Int32) d_T_refusal_113 (by decide) ?_
                    exact ZO.iret (pc := 115)  d_T_refusal_115 rfl rfl rfl
                  · exact ZO.sub [0, 1, 2, 3, 4, 6] rfl (hj19 ())
              · refine ZO.iload (pc := 91) 5 d_T_refusal_91 rfl ?_
                refine ZO.iconst (pc := 93) (-1 : Int32) d_T_refusal_93 (by decide) ?_
                refine ZO.icmp_eq (pc := 94) 116 d_T_refusal_94 (by decide) rfl (fun h23 => ?_) (fun h23 => ?_)
                · exact ZO.sub [0, 1, 2, 3, 4, 6] rfl (hj19 ())
                · refine ZO.goto (pc := 97) 113 d_T_refusal_97 (by decide) ?_
                  refine ZO.bipush (pc := 113) (-2 : Int32) d_T_refusal_113 (by decide) ?_
                  exact ZO.iret (pc := 115)  d_T_refusal_115 rfl rfl rfl
          · refine ZO.icmp_ge (pc := 71) 79 d_T_refusal_71 (by decide) z_ite (fun h25 => ?_) (fun h25 => ?_)
            · refine ZO.iload (pc := 79) 4 d_T_refusal_79 rfl ?_
              refine ZO.iconst (pc := 81) (4 : Int32) d_T_refusal_81 (by decide) ?_
              refine ZO.isub (pc := 82) d_T_refusal_82 ?_
              exact ZO.sub [0, 1, 2, 4, 5, 6] rfl (hj24 (v4 - (4 : Int32)) (by rw [if_pos h25]))
            · refine ZO.iload (pc := 74) 4 d_T_refusal_74 rfl ?_
              refine ZO.goto (pc := 76) 83 d_T_refusal_76 (by decide) ?_
              exact ZO.sub [0, 1, 2, 4, 5, 6] rfl (hj24 v4 (by rw [if_neg h25]))
      · refine ZO.iconst (pc := 25) (-1 : Int32) d_T_refusal_25 (by decide) ?_
        exact ZO.iret (pc := 26)  d_T_refusal_26 rfl rfl rfl
def f_P_append (n : Nat) (a0 : Int32) (s : ZSt) : Option (Int32 × ZSt) :=
  (if ((gi s 200 3) + (4 : Int32)) ≤ (80 : Int32) then
  lpN (fun j3 (x2 : Int32 × ZSt) =>
    (if x2.1 < 0 then
      some ((gi x2.2 200 3), x2.2)
    else gd (inb (gi x2.2 200 3) 80) (
        lt (sai x2.2 224 (gi x2.2 200 3) ((usrI a0 x2.1) &&& (255 : Int32))) (fun s6 =>
        lt (si s6 200 3 ((gi s6 200 3) + (1 : Int32))) (fun s7 =>
        lt (x2.1 + (-8 : Int32)) (fun v8 =>
        j3 (v8, s7))))))) n ((24 : Int32), s)
else some ((-1 : Int32), s))
set_option maxHeartbeats 4000000 in
set_option maxRecDepth 20000 in
theorem ok_P_append (g : ZG) (n : Nat) (a0 : Int32) (s : ZSt) : ZF g 0 y_P_append [.ref 200, .int a0] s (f_P_append n a0 s) (fun b => some (.int b.1)) (fun b => b.2) := by
  refine ZF.of (by decide +kernel) (Nat.le_of_ble_eq_true rfl) ?_
  unfold f_P_append
  show ZO g 0 y_P_append zu0 0 [(0, .ref 200), (1, .int a0)] [] s _ _
  refine ZO.aload_n (pc := 0) 0 d_P_append_0 rfl rfl ?_
  refine ZO.getI (pc := 1) d_P_append_1 zo_200 zf_P_28 rfl ?_
  refine ZO.iconst (pc := 4) (4 : Int32) d_P_append_4 (by decide) ?_
  refine ZO.iadd (pc := 5) d_P_append_5 ?_
  refine ZO.bipush (pc := 6) (80 : Int32) d_P_append_6 (by decide) ?_
  refine ZO.icmp_le (pc := 8) 13 d_P_append_8 (by decide) rfl (fun h1 => ?_) (fun h1 => ?_)
  · refine ZO.bipush (pc := 13) (24 : Int32) d_P_append_13 (by decide) ?_
    refine ZO.istore_n (pc := 15) (v := (24 : Int32)) (L' := [(0, .ref 200), (1, .int a0), (2, .int (24 : Int32))]) [1, 2, 0] d_P_append_15 rfl (by decide) rfl ?_
    refine ZO.loop (fun (x2 : Int32 × ZSt) => ([(0, .ref 200), (1, .int a0), (2, .int x2.1)] : List (Nat × Value))) (fun (x2 : Int32 × ZSt) => x2.2) [] (fun j3 x2 hj3 => ?_) rfl rfl rfl
    refine ZO.iload_n (pc := 16) 2 d_P_append_16 rfl rfl ?_
    refine ZO.if_lt (pc := 17) 52 d_P_append_17 (by decide) rfl (fun h4 => ?_) (fun h4 => ?_)
    · refine ZO.aload_n (pc := 52) 0 d_P_append_52 rfl rfl ?_
      refine ZO.getI (pc := 53) d_P_append_53 zo_200 zf_P_28 rfl ?_
      exact ZO.iret (pc := 56)  d_P_append_56 rfl rfl rfl
    · refine ZO.aload_n (pc := 20) 0 d_P_append_20 rfl rfl ?_
      refine ZO.getA (pc := 21) 224 d_P_append_21 zo_200 zf_P_21 rfl rfl ?_
      refine ZO.aload_n (pc := 24) 0 d_P_append_24 rfl rfl ?_
      refine ZO.getI (pc := 25) d_P_append_25 zo_200 zf_P_28 rfl ?_
      refine ZO.iload_n (pc := 28) 1 d_P_append_28 rfl rfl ?_
      refine ZO.iload_n (pc := 29) 2 d_P_append_29 rfl rfl ?_
      refine ZO.iushr (pc := 30) d_P_append_30 ?_
      refine ZO.sipush (pc := 31) (255 : Int32) d_P_append_31 (by decide) ?_
      refine ZO.iand (pc := 34) d_P_append_34 ?_
      refine ZO.rgd (fun h5 => ?_)
      refine ZO.iast (pc := 35) d_P_append_35 za_224 h5 ?_
      refine ZO.ltS (fun s6 => ?_)
      refine ZO.aload_n (pc := 36) 0 d_P_append_36 rfl rfl ?_
      refine ZO.dup (pc := 37) d_P_append_37 rfl ?_
      refine ZO.getI (pc := 38) d_P_append_38 zo_200 zf_P_28 rfl ?_
      refine ZO.iconst (pc := 41) (1 : Int32) d_P_append_41 (by decide) ?_
      refine ZO.iadd (pc := 42) d_P_append_42 ?_
      refine ZO.putI (pc := 43) d_P_append_43 zo_200 zp_P_28 rfl ?_
      refine ZO.ltS (fun s7 => ?_)
      refine ZO.iincL (pc := 46) (i := 2) (x2.1 + (-8 : Int32)) (L' := fun v8 => [(0, .ref 200), (1, .int a0), (2, .int v8)]) [1, 2, 0] d_P_append_46 rfl (by rfl) (by decide) (fun _ => rfl) (fun v8 => ?_)
      refine ZO.goto (pc := 49) 16 d_P_append_49 (by decide) ?_
      exact hj3 (v8, s7)
  · refine ZO.iconst (pc := 11) (-1 : Int32) d_P_append_11 (by decide) ?_
    exact ZO.iret (pc := 12)  d_P_append_12 rfl rfl rfl
def f_P_cut (a0 : Int32) (s : ZSt) : Option (Bool × ZSt) :=
  (if a0 < 0 then
  some (false, s)
else (if a0 ≤ (gi s 200 3) then
    lt (si s 200 3 a0) (fun s3 =>
      some (true, s3))
  else some (false, s)))
set_option maxHeartbeats 4000000 in
set_option maxRecDepth 20000 in
theorem ok_P_cut (g : ZG) (a0 : Int32) (s : ZSt) : ZF g 0 y_P_cut [.ref 200, .int a0] s (f_P_cut a0 s) (fun b => some (.int (b2i b.1))) (fun b => b.2) := by
  refine ZF.of (by decide +kernel) (Nat.le_of_ble_eq_true rfl) ?_
  unfold f_P_cut
  show ZO g 0 y_P_cut zu0 0 [(0, .ref 200), (1, .int a0)] [] s _ _
  refine ZO.iload_n (pc := 0) 1 d_P_cut_0 rfl rfl ?_
  refine ZO.if_lt (pc := 1) 12 d_P_cut_1 (by decide) rfl (fun h1 => ?_) (fun h1 => ?_)
  · refine ZO.iconst (pc := 12) (0 : Int32) d_P_cut_12 (by decide) ?_
    exact ZO.zret (pc := 13) (v := false) d_P_cut_13 rfl rfl rfl
  · refine ZO.iload_n (pc := 4) 1 d_P_cut_4 rfl rfl ?_
    refine ZO.aload_n (pc := 5) 0 d_P_cut_5 rfl rfl ?_
    refine ZO.getI (pc := 6) d_P_cut_6 zo_200 zf_P_28 rfl ?_
    refine ZO.icmp_le (pc := 9) 14 d_P_cut_9 (by decide) rfl (fun h2 => ?_) (fun h2 => ?_)
    · refine ZO.aload_n (pc := 14) 0 d_P_cut_14 rfl rfl ?_
      refine ZO.iload_n (pc := 15) 1 d_P_cut_15 rfl rfl ?_
      refine ZO.putI (pc := 16) d_P_cut_16 zo_200 zp_P_28 rfl ?_
      refine ZO.ltS (fun s3 => ?_)
      refine ZO.iconst (pc := 19) (1 : Int32) d_P_cut_19 (by decide) ?_
      exact ZO.zret (pc := 20) (v := true) d_P_cut_20 rfl rfl rfl
    · refine ZO.iconst (pc := 12) (0 : Int32) d_P_cut_12 (by decide) ?_
      exact ZO.zret (pc := 13) (v := false) d_P_cut_13 rfl rfl rfl
def f_P_clear (s : ZSt) : Option ZSt :=
  lt (si s 200 3 (0 : Int32)) (fun s1 =>
  some s1)
set_option maxHeartbeats 4000000 in
set_option maxRecDepth 20000 in
theorem ok_P_clear (g : ZG) (s : ZSt) : ZF g 0 y_P_clear [.ref 200] s (f_P_clear s) (fun _ => none) (fun b => b) := by
  refine ZF.of (by decide +kernel) (Nat.le_of_ble_eq_true rfl) ?_
  unfold f_P_clear
  show ZO g 0 y_P_clear zu0 0 [(0, .ref 200)] [] s _ _
  refine ZO.aload_n (pc := 0) 0 d_P_clear_0 rfl rfl ?_
  refine ZO.iconst (pc := 1) (0 : Int32) d_P_clear_1 (by decide) ?_
  refine ZO.putI (pc := 2) d_P_clear_2 zo_200 zp_P_28 rfl ?_
  refine ZO.ltS (fun s1 => ?_)
  exact ZO.vret (pc := 5) d_P_clear_5 rfl rfl rfl
def f_P_takes (a0 : Int32) (s : ZSt) : Option (Bool × ZSt) :=
  (if (gi s 200 7) ≤ (gi s 200 6) then
  some (false, s)
else gd (inb (gi s 200 6) 80) (
    (if (ai s 224 (gi s 200 6)) = a0 then
    lt (si s 200 6 ((gi s 200 6) + (1 : Int32))) (fun s4 =>
      some (true, s4))
  else some (false, s))))
set_option maxHeartbeats 4000000 in
set_option maxRecDepth 20000 in
theorem ok_P_takes (g : ZG) (a0 : Int32) (s : ZSt) : ZF g 0 y_P_takes [.ref 200, .int a0] s (f_P_takes a0 s) (fun b => some (.int (b2i b.1))) (fun b => b.2) := by
  refine ZF.of (by decide +kernel) (Nat.le_of_ble_eq_true rfl) ?_
  unfold f_P_takes
  show ZO g 0 y_P_takes zu0 0 [(0, .ref 200), (1, .int a0)] [] s _ _
  refine ZO.aload_n (pc := 0) 0 d_P_takes_0 rfl rfl ?_
  refine ZO.getI (pc := 1) d_P_takes_1 zo_200 zf_P_41 rfl ?_
  refine ZO.aload_n (pc := 4) 0 d_P_takes_4 rfl rfl ?_
  refine ZO.getI (pc := 5) d_P_takes_5 zo_200 zf_P_38 rfl ?_
  refine ZO.icmp_ge (pc := 8) 36 d_P_takes_8 (by decide) rfl (fun h1 => ?_) (fun h1 => ?_)
  · refine ZO.iconst (pc := 36) (0 : Int32) d_P_takes_36 (by decide) ?_
    exact ZO.zret (pc := 37) (v := false) d_P_takes_37 rfl rfl rfl
  · refine ZO.aload_n (pc := 11) 0 d_P_takes_11 rfl rfl ?_
    refine ZO.getA (pc := 12) 224 d_P_takes_12 zo_200 zf_P_21 rfl rfl ?_
    refine ZO.aload_n (pc := 15) 0 d_P_takes_15 rfl rfl ?_
    refine ZO.getI (pc := 16) d_P_takes_16 zo_200 zf_P_41 rfl ?_
    refine ZO.rgd (fun h2 => ?_)
    refine ZO.iald (pc := 19) d_P_takes_19 za_224 h2 ?_
    refine ZO.iload_n (pc := 20) 1 d_P_takes_20 rfl rfl ?_
    refine ZO.icmp_ne (pc := 21) 36 d_P_takes_21 (by decide) rfl (fun h3 => ?_) (fun h3 => ?_)
    · refine ZO.aload_n (pc := 24) 0 d_P_takes_24 rfl rfl ?_
      refine ZO.dup (pc := 25) d_P_takes_25 rfl ?_
      refine ZO.getI (pc := 26) d_P_takes_26 zo_200 zf_P_41 rfl ?_
      refine ZO.iconst (pc := 29) (1 : Int32) d_P_takes_29 (by decide) ?_
      refine ZO.iadd (pc := 30) d_P_takes_30 ?_
      refine ZO.putI (pc := 31) d_P_takes_31 zo_200 zp_P_41 rfl ?_
      refine ZO.ltS (fun s4 => ?_)
      refine ZO.iconst (pc := 34) (1 : Int32) d_P_takes_34 (by decide) ?_
      exact ZO.zret (pc := 35) (v := true) d_P_takes_35 rfl rfl rfl
    · refine ZO.iconst (pc := 36) (0 : Int32) d_P_takes_36 (by decide) ?_
      exact ZO.zret (pc := 37) (v := false) d_P_takes_37 rfl rfl rfl
def f_P_isDigit (s : ZSt) : Option Bool :=
  (jn (fun (x1 : Unit) =>
    some false) (fun j2 =>
    if (gi s 200 7) ≤ (gi s 200 6) then
  j2 ()
else gd (inb (gi s 200 6) 80) (
    (if (ai s 224 (gi s 200 6)) < (48 : Int32) then
    j2 ()
  else (if (57 : Int32) < (ai s 224 (gi s 200 6)) then
      j2 ()
    else some true)))))
set_option maxHeartbeats 4000000 in
set_option maxRecDepth 20000 in
theorem ok_P_isDigit (g : ZG) (s : ZSt) : ZF g 0 y_P_isDigit [.ref 200] s (f_P_isDigit s) (fun b => some (.int (b2i b))) (fun _ => s) := by
  refine ZF.of (by decide +kernel) (Nat.le_of_ble_eq_true rfl) ?_
  unfold f_P_isDigit
  show ZO g 0 y_P_isDigit zu0 0 [(0, .ref 200)] [] s _ _
  refine ZO.aload_n (pc := 0) 0 d_P_isDigit_0 rfl rfl ?_
  refine ZO.getI (pc := 1) d_P_isDigit_1 zo_200 zf_P_41 rfl ?_
  refine ZO.aload_n (pc := 4) 0 d_P_isDigit_4 rfl rfl ?_
  refine ZO.getI (pc := 5) d_P_isDigit_5 zo_200 zf_P_38 rfl ?_
  refine ZO.rjn (pcJ := 43) (LJ := fun (x1 : Unit) => ([] : List (Nat × Value))) (SJ := fun (x1 : Unit) => ([] : List Value)) (σJ := fun (x1 : Unit) => s) (fun x1 => ?_) (fun j2 hj2 => ?_)
  · refine ZO.iconst (pc := 43) (0 : Int32) d_P_isDigit_43 (by decide) ?_
    exact ZO.zret (pc := 44) (v := false) d_P_isDigit_44 rfl rfl rfl
  · refine ZO.icmp_ge (pc := 8) 43 d_P_isDigit_8 (by decide) rfl (fun h3 => ?_) (fun h3 => ?_)
    · exact ZO.sub [] rfl (hj2 ())
    · refine ZO.aload_n (pc := 11) 0 d_P_isDigit_11 rfl rfl ?_
      refine ZO.getA (pc := 12) 224 d_P_isDigit_12 zo_200 zf_P_21 rfl rfl ?_
      refine ZO.aload_n (pc := 15) 0 d_P_isDigit_15 rfl rfl ?_
      refine ZO.getI (pc := 16) d_P_isDigit_16 zo_200 zf_P_41 rfl ?_
      refine ZO.rgd (fun h4 => ?_)
      refine ZO.iald (pc := 19) d_P_isDigit_19 za_224 h4 ?_
      refine ZO.bipush (pc := 20) (48 : Int32) d_P_isDigit_20 (by decide) ?_
      refine ZO.icmp_lt (pc := 22) 43 d_P_isDigit_22 (by decide) rfl (fun h5 => ?_) (fun h5 => ?_)
      · exact ZO.sub [] rfl (hj2 ())
      · refine ZO.aload_n (pc := 25) 0 d_P_isDigit_25 rfl rfl ?_
        refine ZO.getA (pc := 26) 224 d_P_isDigit_26 zo_200 zf_P_21 rfl rfl ?_
        refine ZO.aload_n (pc := 29) 0 d_P_isDigit_29 rfl rfl ?_
        refine ZO.getI (pc := 30) d_P_isDigit_30 zo_200 zf_P_41 rfl ?_
        refine ZO.iald (pc := 33) d_P_isDigit_33 za_224 h4 ?_
        refine ZO.bipush (pc := 34) (57 : Int32) d_P_isDigit_34 (by decide) ?_
        refine ZO.icmp_gt (pc := 36) 43 d_P_isDigit_36 (by decide) rfl (fun h6 => ?_) (fun h6 => ?_)
        · exact ZO.sub [] rfl (hj2 ())
        · refine ZO.iconst (pc := 39) (1 : Int32) d_P_isDigit_39 (by decide) ?_
          refine ZO.goto (pc := 40) 44 d_P_isDigit_40 (by decide) ?_
          exact ZO.zret (pc := 44) (v := true) d_P_isDigit_44 rfl rfl rfl
def f_X_sign (n : Nat) (a0 : Int32) (s : ZSt) : Option (Int32 × ZSt) :=
  bn (f_P_append n a0 s) (fun p1 =>
  some (p1.1, p1.2))
set_option maxHeartbeats 4000000 in
set_option maxRecDepth 20000 in
theorem ok_X_sign (g : ZG) (n : Nat) (a0 : Int32) (s : ZSt) : ZF g 1 y_X_sign [.ref 1, .int a0] s (f_X_sign n a0 s) (fun b => some (.int b.1)) (fun b => b.2) := by
  refine ZF.of (by decide +kernel) (Nat.le_of_ble_eq_true rfl) ?_
  unfold f_X_sign
  show ZO g 1 y_X_sign zu0 0 [(0, .ref 1), (1, .int a0)] [] s _ _
  refine ZO.aload_n (pc := 0) 0 d_X_sign_0 rfl rfl ?_
  refine ZO.getA (pc := 1) 200 d_X_sign_1 zo_1 zf_X_12 rfl rfl ?_
  refine ZO.iload_n (pc := 4) 1 d_X_sign_4 rfl rfl ?_
  refine ZO.cVI (pc := 5) (As := [.int a0]) (rest := []) d_X_sign_5 zc_X_80 (by decide) zo_200 rfl rfl rfl (Nat.le_of_ble_eq_true rfl) (ok_P_append g n a0 s) (fun p1 ep1 => ?_)
  exact ZO.iret (pc := 8)  d_X_sign_8 rfl rfl rfl
def f_X_end (a0 : Int32) (s : ZSt) : Option (Bool × ZSt) :=
  bn (f_P_cut a0 s) (fun p1 =>
  some (p1.1, p1.2))
set_option maxHeartbeats 4000000 in
set_option maxRecDepth 20000 in
theorem ok_X_end (g : ZG) (a0 : Int32) (s : ZSt) : ZF g 1 y_X_end [.ref 1, .int a0] s (f_X_end a0 s) (fun b => some (.int (b2i b.1))) (fun b => b.2) := by
  refine ZF.of (by decide +kernel) (Nat.le_of_ble_eq_true rfl) ?_
  unfold f_X_end
  show ZO g 1 y_X_end zu0 0 [(0, .ref 1), (1, .int a0)] [] s _ _
  refine ZO.aload_n (pc := 0) 0 d_X_end_0 rfl rfl ?_
  refine ZO.getA (pc := 1) 200 d_X_end_1 zo_1 zf_X_12 rfl rfl ?_
  refine ZO.iload_n (pc := 4) 1 d_X_end_4 rfl rfl ?_
  refine ZO.cVB (pc := 5) (As := [.int a0]) (rest := []) d_X_end_5 zc_X_84 (by decide) zo_200 rfl rfl rfl (Nat.le_of_ble_eq_true rfl) (ok_P_cut g a0 s) (fun p1 ep1 => ?_)
  exact ZO.zret (pc := 8) (v := p1.1) d_X_end_8 rfl rfl rfl
def f_X_isTable (a0 : Int32) : Bool :=
  (if a0 < 0 then
  false
else (if (3 : Int32) ≤ a0 then
    false
  else true))
set_option maxHeartbeats 4000000 in
set_option maxRecDepth 20000 in
theorem ok_X_isTable (g : ZG) (a0 : Int32) (s : ZSt) : ZF g 0 y_X_isTable [.int a0] s (some (f_X_isTable a0)) (fun b => some (.int (b2i b))) (fun _ => s) := by
  refine ZF.of (by decide +kernel) (Nat.le_of_ble_eq_true rfl) ?_
  unfold f_X_isTable
  show ZO g 0 y_X_isTable zu0 0 [(0, .int a0)] [] s _ _
  refine ZO.iload_n (pc := 0) 0 d_X_isTable_0 rfl rfl ?_
  refine ZO.if_lt (pc := 1) 13 d_X_isTable_1 (by decide) z_some (fun h1 => ?_) (fun h1 => ?_)
  · refine ZO.iconst (pc := 13) (0 : Int32) d_X_isTable_13 (by decide) ?_
    exact ZO.zret (pc := 14) (v := false) d_X_isTable_14 rfl rfl rfl
  · refine ZO.iload_n (pc := 4) 0 d_X_isTable_4 rfl rfl ?_
    refine ZO.iconst (pc := 5) (3 : Int32) d_X_isTable_5 (by decide) ?_
    refine ZO.icmp_ge (pc := 6) 13 d_X_isTable_6 (by decide) z_some (fun h2 => ?_) (fun h2 => ?_)
    · refine ZO.iconst (pc := 13) (0 : Int32) d_X_isTable_13 (by decide) ?_
      exact ZO.zret (pc := 14) (v := false) d_X_isTable_14 rfl rfl rfl
    · refine ZO.iconst (pc := 9) (1 : Int32) d_X_isTable_9 (by decide) ?_
      refine ZO.goto (pc := 10) 14 d_X_isTable_10 (by decide) ?_
      exact ZO.zret (pc := 14) (v := true) d_X_isTable_14 rfl rfl rfl
def f_X_set (a0 : Int32) (a1 : Int32) (a2 : Int32) (s : ZSt) : Option (Int32 × ZSt) :=
  (jn (fun (x1 : Unit) =>
    (if a0 = (1 : Int32) then
      (if (f_X_isTable a1) = true then
        (if a2 < (1 : Int32) then
          some ((-1 : Int32), s)
        else (if (6 : Int32) < a2 then
            some ((-1 : Int32), s)
          else gd (inb a1 3) (
              lt (ai s 241 a1) (fun v7 =>
              lt (sai s 241 a1 a2) (fun s8 =>
              some (v7, s8))))))
      else some ((-1 : Int32), s))
    else some ((-1 : Int32), s))) (fun j9 =>
    if a0 = 0 then
  (if (f_T_has a1 s) = true then
    (if a2 < 0 then
      j9 ()
    else (if (99 : Int32) < a2 then
        j9 ()
      else gd (inb a1 12) (
          lt (gi s (z_ra 240 a1.toNatClampNeg) 3) (fun v15 =>
          lt (si s (z_ra 240 a1.toNatClampNeg) 3 a2) (fun s16 =>
          some (v15, s16))))))
  else j9 ())
else j9 ()))
set_option maxHeartbeats 4000000 in
set_option maxRecDepth 20000 in
theorem ok_X_set (g : ZG) (a0 : Int32) (a1 : Int32) (a2 : Int32) (s : ZSt) : ZF g 1 y_X_set [.ref 1, .int a0, .int a1, .int a2] s (f_X_set a0 a1 a2 s) (fun b => some (.int b.1)) (fun b => b.2) := by
  refine ZF.of (by decide +kernel) (Nat.le_of_ble_eq_true rfl) ?_
  unfold f_X_set
  show ZO g 1 y_X_set zu0 0 [(0, .ref 1), (1, .int a0), (2, .int a1), (3, .int a2)] [] s _ _
  refine ZO.iload_n (pc := 0) 1 d_X_set_0 rfl rfl ?_
  refine ZO.rjn (pcJ := 55) (LJ := fun (x1 : Unit) => ([(0, .ref 1), (1, .int a0), (2, .int a1), (3, .int a2)] : List (Nat × Value))) (SJ := fun (x1 : Unit) => ([] : List Value)) (σJ := fun (x1 : Unit) => s) (fun x1 => ?_) (fun j9 hj9 => ?_)
  · refine ZO.iload_n (pc := 55) 1 d_X_set_55 rfl rfl ?_
    refine ZO.iconst (pc := 56) (1 : Int32) d_X_set_56 (by decide) ?_
    refine ZO.icmp_ne (pc := 57) 102 d_X_set_57 (by decide) rfl (fun h2 => ?_) (fun h2 => ?_)
    · refine ZO.iload_n (pc := 60) 2 d_X_set_60 rfl rfl ?_
      refine ZO.tSB (pc := 61) (As := [.int a1]) (rest := []) d_X_set_61 zc_X_141 (by decide) rfl rfl (Nat.le_of_ble_eq_true rfl) (ok_X_isTable g a1 s) ?_
      refine ZO.ifb_eq (pc := 64) 102 d_X_set_64 (by decide) rfl (fun h3 => ?_) (fun h3 => ?_)
      · refine ZO.iload_n (pc := 67) 3 d_X_set_67 rfl rfl ?_
        refine ZO.iconst (pc := 68) (1 : Int32) d_X_set_68 (by decide) ?_
        refine ZO.icmp_lt (pc := 69) 102 d_X_set_69 (by decide) rfl (fun h4 => ?_) (fun h4 => ?_)
        · refine ZO.iconst (pc := 102) (-1 : Int32) d_X_set_102 (by decide) ?_
          exact ZO.iret (pc := 103)  d_X_set_103 rfl rfl rfl
        · refine ZO.iload_n (pc := 72) 3 d_X_set_72 rfl rfl ?_
          refine ZO.bipush (pc := 73) (6 : Int32) d_X_set_73 (by decide) ?_
          refine ZO.icmp_gt (pc := 75) 102 d_X_set_75 (by decide) rfl (fun h5 => ?_) (fun h5 => ?_)
          · refine ZO.iconst (pc := 102) (-1 : Int32) d_X_set_102 (by decide) ?_
            exact ZO.iret (pc := 103)  d_X_set_103 rfl rfl rfl
          · refine ZO.aload_n (pc := 78) 0 d_X_set_78 rfl rfl ?_
            refine ZO.getA (pc := 79) 201 d_X_set_79 zo_1 zf_X_19 rfl rfl ?_
            refine ZO.getA (pc := 82) 241 d_X_set_82 zo_201 zf_X_144 rfl rfl ?_
            refine ZO.iload_n (pc := 85) 2 d_X_set_85 rfl rfl ?_
            refine ZO.rgd (fun h6 => ?_)
            refine ZO.iald (pc := 86) d_X_set_86 za_241 h6 ?_
            refine ZO.ltI (fun v7 => ?_)
            refine ZO.istore (pc := 87) (v := v7) (L' := [(0, .ref 1), (1, .int a0), (2, .int a1), (3, .int a2), (4, .int v7)]) [1, 2, 3, 4, 0] d_X_set_87 (by decide) rfl ?_
            refine ZO.aload_n (pc := 89) 0 d_X_set_89 rfl rfl ?_
            refine ZO.getA (pc := 90) 201 d_X_set_90 zo_1 zf_X_19 rfl rfl ?_
            refine ZO.getA (pc := 93) 241 d_X_set_93 zo_201 zf_X_144 rfl rfl ?_
            refine ZO.iload_n (pc := 96) 2 d_X_set_96 rfl rfl ?_
            refine ZO.iload_n (pc := 97) 3 d_X_set_97 rfl rfl ?_
            refine ZO.iast (pc := 98) d_X_set_98 za_241 h6 ?_
            refine ZO.ltS (fun s8 => ?_)
            refine ZO.iload (pc := 99) 4 d_X_set_99 rfl ?_
            exact ZO.iret (pc := 101)  d_X_set_101 rfl rfl rfl
      · refine ZO.iconst (pc := 102) (-1 : Int32) d_X_set_102 (by decide) ?_
        exact ZO.iret (pc := 103)  d_X_set_103 rfl rfl rfl
    · refine ZO.iconst (pc := 102) (-1 : Int32) d_X_set_102 (by decide) ?_
      exact ZO.iret (pc := 103)  d_X_set_103 rfl rfl rfl
  · refine ZO.if_ne (pc := 1) 55 d_X_set_1 (by decide) rfl (fun h10 => ?_) (fun h10 => ?_)
    · refine ZO.aload_n (pc := 4) 0 d_X_set_4 rfl rfl ?_
      refine ZO.getA (pc := 5) 201 d_X_set_5 zo_1 zf_X_19 rfl rfl ?_
      refine ZO.iload_n (pc := 8) 2 d_X_set_8 rfl rfl ?_
      refine ZO.tVB (pc := 9) (As := [.int a1]) (rest := []) d_X_set_9 zc_X_92 (by decide) zo_201 rfl rfl rfl (Nat.le_of_ble_eq_true rfl) (ok_T_has g a1 s) ?_
      refine ZO.ifb_eq (pc := 12) 55 d_X_set_12 (by decide) rfl (fun h11 => ?_) (fun h11 => ?_)
      · refine ZO.iload_n (pc := 15) 3 d_X_set_15 rfl rfl ?_
        refine ZO.if_lt (pc := 16) 55 d_X_set_16 (by decide) rfl (fun h12 => ?_) (fun h12 => ?_)
        · exact hj9 ()
        · refine ZO.iload_n (pc := 19) 3 d_X_set_19 rfl rfl ?_
          refine ZO.bipush (pc := 20) (99 : Int32) d_X_set_20 (by decide) ?_
          refine ZO.icmp_gt (pc := 22) 55 d_X_set_22 (by decide) rfl (fun h13 => ?_) (fun h13 => ?_)
          · exact hj9 ()
          · refine ZO.aload_n (pc := 25) 0 d_X_set_25 rfl rfl ?_
            refine ZO.getA (pc := 26) 201 d_X_set_26 zo_1 zf_X_19 rfl rfl ?_
            refine ZO.getA (pc := 29) 240 d_X_set_29 zo_201 zf_X_102 rfl rfl ?_
            refine ZO.iload_n (pc := 32) 2 d_X_set_32 rfl rfl ?_
            refine ZO.rgd (fun h14 => ?_)
            refine ZO.aald (pc := 33) (q0 := 0) d_X_set_33 (by decide) za_240 h14 ?_
            refine ZO.getI (pc := 34) d_X_set_34 (zr_b h14) zf_X_138 rfl ?_
            refine ZO.ltI (fun v15 => ?_)
            refine ZO.istore (pc := 37) (v := v15) (L' := [(0, .ref 1), (1, .int a0), (2, .int a1), (3, .int a2), (4, .int v15)]) [1, 2, 3, 4, 0] d_X_set_37 (by decide) rfl ?_
            refine ZO.aload_n (pc := 39) 0 d_X_set_39 rfl rfl ?_
            refine ZO.getA (pc := 40) 201 d_X_set_40 zo_1 zf_X_19 rfl rfl ?_
            refine ZO.getA (pc := 43) 240 d_X_set_43 zo_201 zf_X_102 rfl rfl ?_
            refine ZO.iload_n (pc := 46) 2 d_X_set_46 rfl rfl ?_
            refine ZO.aald (pc := 47) (q0 := 0) d_X_set_47 (by decide) za_240 h14 ?_
            refine ZO.iload_n (pc := 48) 3 d_X_set_48 rfl rfl ?_
            refine ZO.putI (pc := 49) d_X_set_49 (zr_b h14) zp_X_138 rfl ?_
            refine ZO.ltS (fun s16 => ?_)
            refine ZO.iload (pc := 52) 4 d_X_set_52 rfl ?_
            exact ZO.iret (pc := 54)  d_X_set_54 rfl rfl rfl
      · exact hj9 ()
    · exact hj9 ()
def f_X_entry (a0 : Int32) (a1 : Int32) : Int32 :=
  (if a0 = 0 then
  (imax (0 : Int32) (imin (99 : Int32) a1.toInt8.toInt32))
else (if a0 = (1 : Int32) then
    (imax (0 : Int32) (imin (99 : Int32) a1.toInt16.toInt32))
  else (imax (0 : Int32) (imin (99 : Int32) a1))))
set_option maxHeartbeats 4000000 in
set_option maxRecDepth 20000 in
theorem ok_X_entry (g : ZG) (a0 : Int32) (a1 : Int32) (s : ZSt) : ZF g 1 y_X_entry [.int a0, .int a1] s (some (f_X_entry a0 a1)) (fun b => some (.int b)) (fun _ => s) := by
  refine ZF.of (by decide +kernel) (Nat.le_of_ble_eq_true rfl) ?_
  unfold f_X_entry
  show ZO g 1 y_X_entry zu0 0 [(0, .int a0), (1, .int a1)] [] s _ _
  refine ZO.iload_n (pc := 0) 0 d_X_entry_0 rfl rfl ?_
  refine ZO.if_ne (pc := 1) 9 d_X_entry_1 (by decide) z_some (fun h1 => ?_) (fun h1 => ?_)
  · refine ZO.iload_n (pc := 4) 1 d_X_entry_4 rfl rfl ?_
    refine ZO.i2b (pc := 5) d_X_entry_5 ?_
    refine ZO.goto (pc := 6) 20 d_X_entry_6 (by decide) ?_
    refine ZO.istore_n (pc := 20) (v := a1.toInt8.toInt32) (L' := [(0, .int a0), (1, .int a1), (2, .int a1.toInt8.toInt32)]) [1, 2, 0] d_X_entry_20 rfl (by decide) rfl ?_
    refine ZO.iconst (pc := 21) (0 : Int32) d_X_entry_21 (by decide) ?_
    refine ZO.bipush (pc := 22) (99 : Int32) d_X_entry_22 (by decide) ?_
    refine ZO.iload_n (pc := 24) 2 d_X_entry_24 rfl rfl ?_
    refine ZO.imin (pc := 25) d_X_entry_25 zm_X_151 (by decide) (Nat.le_of_ble_eq_true rfl) ?_
    refine ZO.imax (pc := 28) d_X_entry_28 zm_X_156 (by decide) (Nat.le_of_ble_eq_true rfl) ?_
    exact ZO.iret (pc := 31)  d_X_entry_31 rfl rfl rfl
  · refine ZO.iload_n (pc := 9) 0 d_X_entry_9 rfl rfl ?_
    refine ZO.iconst (pc := 10) (1 : Int32) d_X_entry_10 (by decide) ?_
    refine ZO.icmp_ne (pc := 11) 19 d_X_entry_11 (by decide) z_some (fun h2 => ?_) (fun h2 => ?_)
    · refine ZO.iload_n (pc := 14) 1 d_X_entry_14 rfl rfl ?_
      refine ZO.i2s (pc := 15) d_X_entry_15 ?_
      refine ZO.goto (pc := 16) 20 d_X_entry_16 (by decide) ?_
      refine ZO.istore_n (pc := 20) (v := a1.toInt16.toInt32) (L' := [(0, .int a0), (1, .int a1), (2, .int a1.toInt16.toInt32)]) [1, 2, 0] d_X_entry_20 rfl (by decide) rfl ?_
      refine ZO.iconst (pc := 21) (0 : Int32) d_X_entry_21 (by decide) ?_
      refine ZO.bipush (pc := 22) (99 : Int32) d_X_entry_22 (by decide) ?_
      refine ZO.iload_n (pc := 24) 2 d_X_entry_24 rfl rfl ?_
      refine ZO.imin (pc := 25) d_X_entry_25 zm_X_151 (by decide) (Nat.le_of_ble_eq_true rfl) ?_
      refine ZO.imax (pc := 28) d_X_entry_28 zm_X_156 (by decide) (Nat.le_of_ble_eq_true rfl) ?_
      exact ZO.iret (pc := 31)  d_X_entry_31 rfl rfl rfl
    · refine ZO.iload_n (pc := 19) 1 d_X_entry_19 rfl rfl ?_
      refine ZO.istore_n (pc := 20) (v := a1) (L' := [(0, .int a0), (1, .int a1), (2, .int a1)]) [1, 2, 0] d_X_entry_20 rfl (by decide) rfl ?_
      refine ZO.iconst (pc := 21) (0 : Int32) d_X_entry_21 (by decide) ?_
      refine ZO.bipush (pc := 22) (99 : Int32) d_X_entry_22 (by decide) ?_
      refine ZO.iload_n (pc := 24) 2 d_X_entry_24 rfl rfl ?_
      refine ZO.imin (pc := 25) d_X_entry_25 zm_X_151 (by decide) (Nat.le_of_ble_eq_true rfl) ?_
      refine ZO.imax (pc := 28) d_X_entry_28 zm_X_156 (by decide) (Nat.le_of_ble_eq_true rfl) ?_
      exact ZO.iret (pc := 31)  d_X_entry_31 rfl rfl rfl
def f_X_sheet (n : Nat) (a0 : Int32) (a1 : Int32) (a2 : Int32) (a3 : Int32) (s : ZSt) : Option (Int32 × ZSt) :=
  (if a0 < 0 then
  some ((-1 : Int32), s)
else (if (3 : Int32) < a0 then
    some ((-1 : Int32), s)
  else (if a1 ≤ (12 : Int32) then
      (jn (fun (x4 : Unit) =>
          (lt ((if a0 = (3 : Int32) then
            (0 : Int32)
          else a1) : Int32) (fun x5 =>
              lpN (fun j7 (x6 : Int32 × Int32 × ZSt) =>
                (if (gi x6.2.2 201 2) ≤ x6.2.1 then
                  (if a0 = (3 : Int32) then
                    some ((-3 : Int32), x6.2.2)
                  else some (x6.1, x6.2.2))
                else (lt ((if x5 ≤ x6.2.1 then
                    (99 : Int32)
                  else (f_X_entry a0 (a2 + (x6.2.1 * a3)))) : Int32) (fun x10 =>
                      gd (inb x6.2.1 12) (
                        lt (si x6.2.2 (z_ra 240 x6.2.1.toNatClampNeg) 3 x10) (fun s12 =>
                        lt (x6.1 + x10) (fun v13 =>
                        lt (x6.2.1 + (1 : Int32)) (fun v14 =>
                        j7 (v13, v14, s12))))))))) n ((0 : Int32), (0 : Int32), s)))) (fun j19 =>
          if (3 : Int32) ≤ a0 then
        j19 ()
      else (if 0 ≤ a1 then
          j19 ()
        else some ((-2 : Int32), s))))
    else some ((-1 : Int32), s))))
set_option maxHeartbeats 4000000 in
set_option maxRecDepth 20000 in
theorem ok_X_sheet (g : ZG) (n : Nat) (a0 : Int32) (a1 : Int32) (a2 : Int32) (a3 : Int32) (s : ZSt) : ZF g 2 y_X_sheet [.ref 1, .int a0, .int a1, .int a2, .int a3] s (f_X_sheet n a0 a1 a2 a3 s) (fun b => some (.int b.1)) (fun b => b.2) := by
  refine ZF.of (by decide +kernel) (Nat.le_of_ble_eq_true rfl) ?_
  unfold f_X_sheet
  show ZO g 2 y_X_sheet zu0 0 [(0, .ref 1), (1, .int a0), (2, .int a1), (3, .int a2), (4, .int a3)] [] s _ _
  refine ZO.iload_n (pc := 0) 1 d_X_sheet_0 rfl rfl ?_
  refine ZO.if_lt (pc := 1) 15 d_X_sheet_1 (by decide) rfl (fun h1 => ?_) (fun h1 => ?_)
  · refine ZO.iconst (pc := 15) (-1 : Int32) d_X_sheet_15 (by decide) ?_
    exact ZO.iret (pc := 16)  d_X_sheet_16 rfl rfl rfl
  · refine ZO.iload_n (pc := 4) 1 d_X_sheet_4 rfl rfl ?_
    refine ZO.iconst (pc := 5) (3 : Int32) d_X_sheet_5 (by decide) ?_
    refine ZO.icmp_gt (pc := 6) 15 d_X_sheet_6 (by decide) rfl (fun h2 => ?_) (fun h2 => ?_)
    · refine ZO.iconst (pc := 15) (-1 : Int32) d_X_sheet_15 (by decide) ?_
      exact ZO.iret (pc := 16)  d_X_sheet_16 rfl rfl rfl
    · refine ZO.iload_n (pc := 9) 2 d_X_sheet_9 rfl rfl ?_
      refine ZO.bipush (pc := 10) (12 : Int32) d_X_sheet_10 (by decide) ?_
      refine ZO.icmp_le (pc := 12) 17 d_X_sheet_12 (by decide) rfl (fun h3 => ?_) (fun h3 => ?_)
      · refine ZO.iload_n (pc := 17) 1 d_X_sheet_17 rfl rfl ?_
        refine ZO.iconst (pc := 18) (3 : Int32) d_X_sheet_18 (by decide) ?_
        refine ZO.rjn (pcJ := 29) (LJ := fun (x4 : Unit) => ([(0, .ref 1), (1, .int a0), (2, .int a1), (3, .int a2), (4, .int a3)] : List (Nat × Value))) (SJ := fun (x4 : Unit) => ([] : List Value)) (σJ := fun (x4 : Unit) => s) (fun x4 => ?_) (fun j19 hj19 => ?_)
        · refine ZO.iload_n (pc := 29) 1 d_X_sheet_29 rfl rfl ?_
          refine ZO.iconst (pc := 30) (3 : Int32) d_X_sheet_30 (by decide) ?_
          refine ZO.phi (pcJ := 39) (LJ := fun (x5 : Int32) => ([(0, .ref 1), (1, .int a0), (3, .int a2), (4, .int a3)] : List (Nat × Value))) (SJ := fun (x5 : Int32) => ([.int x5] : List Value)) (fun x5 => ?_) (fun t hj17 => ?_)
          · refine ZO.istore (pc := 39) (v := x5) (L' := [(0, .ref 1), (1, .int a0), (3, .int a2), (4, .int a3), (5, .int x5)]) [1, 2, 3, 4, 0] d_X_sheet_39 (by decide) rfl ?_
            refine ZO.iconst (pc := 41) (0 : Int32) d_X_sheet_41 (by decide) ?_
            refine ZO.istore (pc := 42) (v := (0 : Int32)) (L' := [(0, .ref 1), (1, .int a0), (3, .int a2), (4, .int a3), (5, .int x5), (6, .int (0 : Int32))]) [1, 2, 3, 4, 5, 0] d_X_sheet_42 (by decide) rfl ?_
            refine ZO.iconst (pc := 44) (0 : Int32) d_X_sheet_44 (by decide) ?_
            refine ZO.istore (pc := 45) (v := (0 : Int32)) (L' := [(0, .ref 1), (1, .int a0), (3, .int a2), (4, .int a3), (5, .int x5), (6, .int (0 : Int32)), (7, .int (0 : Int32))]) [1, 2, 3, 4, 5, 6, 0] d_X_sheet_45 (by decide) rfl ?_
            refine ZO.loop (fun (x6 : Int32 × Int32 × ZSt) => ([(0, .ref 1), (1, .int a0), (3, .int a2), (4, .int a3), (5, .int x5), (6, .int x6.1), (7, .int x6.2.1)] : List (Nat × Value))) (fun (x6 : Int32 × Int32 × ZSt) => x6.2.2) [] (fun j7 x6 hj7 => ?_) rfl rfl rfl
            refine ZO.iload (pc := 47) 6 d_X_sheet_47 rfl ?_
            refine ZO.aload_n (pc := 49) 0 d_X_sheet_49 rfl rfl ?_
            refine ZO.getA (pc := 50) 201 d_X_sheet_50 zo_1 zf_X_19 rfl rfl ?_
            refine ZO.getI (pc := 53) d_X_sheet_53 zo_201 zf_X_88 rfl ?_
            refine ZO.icmp_ge (pc := 56) 112 d_X_sheet_56 (by decide) rfl (fun h8 => ?_) (fun h8 => ?_)
            · refine ZO.iload_n (pc := 112) 1 d_X_sheet_112 rfl rfl ?_
              refine ZO.iconst (pc := 113) (3 : Int32) d_X_sheet_113 (by decide) ?_
              refine ZO.icmp_ne (pc := 114) 122 d_X_sheet_114 (by decide) rfl (fun h9 => ?_) (fun h9 => ?_)
              · refine ZO.bipush (pc := 117) (-3 : Int32) d_X_sheet_117 (by decide) ?_
                refine ZO.goto (pc := 119) 124 d_X_sheet_119 (by decide) ?_
                exact ZO.iret (pc := 124)  d_X_sheet_124 rfl rfl rfl
              · refine ZO.iload (pc := 122) 5 d_X_sheet_122 rfl ?_
                exact ZO.iret (pc := 124)  d_X_sheet_124 rfl rfl rfl
            · refine ZO.iload (pc := 59) 6 d_X_sheet_59 rfl ?_
              refine ZO.iload (pc := 61) 4 d_X_sheet_61 rfl ?_
              refine ZO.phi (pcJ := 82) (LJ := fun (x10 : Int32) => ([(0, .ref 1), (1, .int a0), (3, .int a2), (4, .int a3), (5, .int x5), (6, .int x6.1), (7, .int x6.2.1)] : List (Nat × Value))) (SJ := fun (x10 : Int32) => ([.int x10] : List Value)) (fun x10 => ?_) (fun t hj15 => ?_)
              · refine ZO.istore (pc := 82) (v := x10) (L' := [(0, .ref 1), (1, .int a0), (3, .int a2), (4, .int a3), (5, .int x5), (6, .int x6.1), (7, .int x6.2.1), (8, .int x10)]) [1, 2, 3, 4, 5, 6, 7, 0] d_X_sheet_82 (by decide) rfl ?_
                refine ZO.aload_n (pc := 84) 0 d_X_sheet_84 rfl rfl ?_
                refine ZO.getA (pc := 85) 201 d_X_sheet_85 zo_1 zf_X_19 rfl rfl ?_
                refine ZO.getA (pc := 88) 240 d_X_sheet_88 zo_201 zf_X_102 rfl rfl ?_
                refine ZO.iload (pc := 91) 6 d_X_sheet_91 rfl ?_
                refine ZO.rgd (fun h11 => ?_)
                refine ZO.aald (pc := 93) (q0 := 0) d_X_sheet_93 (by decide) za_240 h11 ?_
                refine ZO.iload (pc := 94) 7 d_X_sheet_94 rfl ?_
                refine ZO.putI (pc := 96) d_X_sheet_96 (zr_b h11) zp_X_138 rfl ?_
                refine ZO.ltS (fun s12 => ?_)
                refine ZO.iload (pc := 99) 5 d_X_sheet_99 rfl ?_
                refine ZO.iload (pc := 101) 7 d_X_sheet_101 rfl ?_
                refine ZO.iadd (pc := 103) d_X_sheet_103 ?_
                refine ZO.ltI (fun v13 => ?_)
                refine ZO.istore (pc := 104) (v := v13) (L' := [(0, .ref 1), (1, .int a0), (3, .int a2), (4, .int a3), (5, .int x5), (6, .int v13), (7, .int x6.2.1), (8, .int x10)]) [1, 2, 3, 4, 5, 0, 6, 7] d_X_sheet_104 (by decide) rfl ?_
                refine ZO.iincL (pc := 106) (i := 6) (x6.2.1 + (1 : Int32)) (L' := fun v14 => [(0, .ref 1), (1, .int a0), (3, .int a2), (4, .int a3), (5, .int x5), (6, .int v13), (7, .int v14), (8, .int x10)]) [1, 2, 3, 4, 5, 6, 0, 7] d_X_sheet_106 rfl (by rfl) (by decide) (fun _ => rfl) (fun v14 => ?_)
                refine ZO.goto (pc := 109) 47 d_X_sheet_109 (by decide) ?_
                exact ZO.sub [0, 1, 2, 3, 4, 5, 6] rfl (hj7 (v13, v14, s12))
              · refine ZO.icmp_ge (pc := 63) 80 d_X_sheet_63 (by decide) z_ite (fun h16 => ?_) (fun h16 => ?_)
                · refine ZO.bipush (pc := 80) (99 : Int32) d_X_sheet_80 (by decide) ?_
                  exact hj15 (99 : Int32) (by rw [if_pos h16])
                · refine ZO.iload_n (pc := 66) 1 d_X_sheet_66 rfl rfl ?_
                  refine ZO.iload_n (pc := 67) 2 d_X_sheet_67 rfl rfl ?_
                  refine ZO.iload (pc := 68) 6 d_X_sheet_68 rfl ?_
                  refine ZO.iload (pc := 70) 3 d_X_sheet_70 rfl ?_
                  refine ZO.imul (pc := 72) d_X_sheet_72 ?_
                  refine ZO.iadd (pc := 73) d_X_sheet_73 ?_
                  refine ZO.tSI (pc := 74) (As := [.int a0, .int (a2 + (x6.2.1 * a3))]) (rest := []) d_X_sheet_74 zc_X_147 (by decide) rfl rfl (Nat.le_of_ble_eq_true rfl) (ok_X_entry g a0 (a2 + (x6.2.1 * a3)) x6.2.2) ?_
                  refine ZO.goto (pc := 77) 82 d_X_sheet_77 (by decide) ?_
                  exact hj15 (f_X_entry a0 (a2 + (x6.2.1 * a3))) (by rw [if_neg h16])
          · refine ZO.icmp_ne (pc := 31) 38 d_X_sheet_31 (by decide) z_ite (fun h18 => ?_) (fun h18 => ?_)
            · refine ZO.iconst (pc := 34) (0 : Int32) d_X_sheet_34 (by decide) ?_
              refine ZO.goto (pc := 35) 39 d_X_sheet_35 (by decide) ?_
              exact ZO.sub [0, 1, 3, 4] rfl (hj17 (0 : Int32) (by rw [if_pos h18]))
            · refine ZO.iload_n (pc := 38) 2 d_X_sheet_38 rfl rfl ?_
              exact ZO.sub [0, 1, 3, 4] rfl (hj17 a1 (by rw [if_neg h18]))
        · refine ZO.icmp_ge (pc := 19) 29 d_X_sheet_19 (by decide) rfl (fun h20 => ?_) (fun h20 => ?_)
          · exact hj19 ()
          · refine ZO.iload_n (pc := 22) 2 d_X_sheet_22 rfl rfl ?_
            refine ZO.if_ge (pc := 23) 29 d_X_sheet_23 (by decide) rfl (fun h21 => ?_) (fun h21 => ?_)
            · exact hj19 ()
            · refine ZO.bipush (pc := 26) (-2 : Int32) d_X_sheet_26 (by decide) ?_
              exact ZO.iret (pc := 28)  d_X_sheet_28 rfl rfl rfl
      · refine ZO.iconst (pc := 15) (-1 : Int32) d_X_sheet_15 (by decide) ?_
        exact ZO.iret (pc := 16)  d_X_sheet_16 rfl rfl rfl
def f_X_about (n : Nat) (a0 : Int32) (a1 : Int32) (s : ZSt) : Option (Option Int32 × Nat × ZSt) :=
  (if (f_T_has a0 s) = true then
  gd (inb a0 12) (
    (if a1 = (0 : Int32) then
    some (some (gi s (z_ra 240 a0.toNatClampNeg) 3), 0, s)
  else if a1 = (1 : Int32) then
    some (some (gi s (z_ra 240 a0.toNatClampNeg) 4), 0, s)
  else if a1 = (2 : Int32) then
    bn (f_X_tableOf n (gl s 1 8) a0) (fun p6 =>
      some (some p6, 0, s))
  else if a1 = (3 : Int32) then
    some (some (gi s (z_ra 240 a0.toNatClampNeg) 5), 0, s)
  else if a1 = (4 : Int32) then
    bn (f_B_isLater (z_ra 240 a0.toNatClampNeg) s) (fun p9 =>
      (if p9 = true then
      some (some (1 : Int32), 0, s)
    else some (some (0 : Int32), 0, s)))
  else some (none, 105, s)))
else some (none, 11, s))
set_option maxHeartbeats 4000000 in
set_option maxRecDepth 20000 in
theorem ok_X_about (g : ZG) (n : Nat) (a0 : Int32) (a1 : Int32) (s : ZSt) (u : ZU) : ZO g 8 y_X_about u 0 (lv_args 0 [.ref 1, .int a0, .int a1]) [] s (f_X_about n a0 a1 s) (fun b => (b.1.map (fun v => some (.int v)), b.2.2, b.2.1)) := by
  unfold f_X_about
  show ZO g 8 y_X_about u 0 [(0, .ref 1), (1, .int a0), (2, .int a1)] [] s _ _
  refine ZO.aload_n (pc := 0) 0 d_X_about_0 rfl rfl ?_
  refine ZO.getA (pc := 1) 201 d_X_about_1 zo_1 zf_X_19 rfl rfl ?_
  refine ZO.iload_n (pc := 4) 1 d_X_about_4 rfl rfl ?_
  refine ZO.tVB (pc := 5) (As := [.int a0]) (rest := []) d_X_about_5 zc_X_92 (by decide) zo_201 rfl rfl rfl (Nat.le_of_ble_eq_true rfl) (ok_T_has g a0 s) ?_
  refine ZO.ifb_ne (pc := 8) 21 d_X_about_8 (by decide) rfl (fun h1 => ?_) (fun h1 => ?_)
  · refine ZO.aload_n (pc := 21) 0 d_X_about_21 rfl rfl ?_
    refine ZO.getA (pc := 22) 201 d_X_about_22 zo_1 zf_X_19 rfl rfl ?_
    refine ZO.getA (pc := 25) 240 d_X_about_25 zo_201 zf_X_102 rfl rfl ?_
    refine ZO.iload_n (pc := 28) 1 d_X_about_28 rfl rfl ?_
    refine ZO.rgd (fun h2 => ?_)
    refine ZO.aald (pc := 29) (q0 := 0) d_X_about_29 (by decide) za_240 h2 ?_
    refine ZO.astore_n (pc := 30) (v := (z_ra 240 a0.toNatClampNeg)) (L' := [(0, .ref 1), (1, .int a0), (2, .int a1), (3, .ref (z_ra 240 a0.toNatClampNeg))]) [1, 2, 3, 0] d_X_about_30 rfl (by decide) rfl ?_
    refine ZO.iload_n (pc := 31) 2 d_X_about_31 rfl rfl ?_
    refine ZO.split (c0 := a1 = (0 : Int32)) rfl (fun h3 => ?_) (fun h3 => ?_)
    · refine ZO.tswI (pc := 32) 68 (0 : Int32) h3 d_X_about_32 (by decide) (by decide) (by decide) ?_
      refine ZO.aload_n (pc := 68) 3 d_X_about_68 rfl rfl ?_
      refine ZO.getI (pc := 69) d_X_about_69 (zr_b h2) zf_X_138 rfl ?_
      exact ZO.iret (pc := 72)  d_X_about_72 rfl rfl rfl
    refine ZO.split (c0 := a1 = (1 : Int32)) rfl (fun h4 => ?_) (fun h4 => ?_)
    · refine ZO.tswI (pc := 32) 73 (1 : Int32) h4 d_X_about_32 (by decide) (by decide) (by decide) ?_
      refine ZO.aload_n (pc := 73) 3 d_X_about_73 rfl rfl ?_
      refine ZO.getI (pc := 74) d_X_about_74 (zr_b h2) zf_X_166 rfl ?_
      exact ZO.iret (pc := 77)  d_X_about_77 rfl rfl rfl
    refine ZO.split (c0 := a1 = (2 : Int32)) rfl (fun h5 => ?_) (fun h5 => ?_)
    · refine ZO.tswI (pc := 32) 78 (2 : Int32) h5 d_X_about_32 (by decide) (by decide) (by decide) ?_
      refine ZO.aload_n (pc := 78) 0 d_X_about_78 rfl rfl ?_
      refine ZO.getJ (pc := 79) d_X_about_79 zo_1 zf_X_115 rfl ?_
      refine ZO.iload_n (pc := 82) 1 d_X_about_82 rfl rfl ?_
      refine ZO.cSI (pc := 83) (As := [.long (gl s 1 8), .int a0]) (rest := []) d_X_about_83 zc_X_119 (by decide) rfl rfl (Nat.le_of_ble_eq_true rfl) (ok_X_tableOf g n (gl s 1 8) a0 s) (fun p6 ep6 => ?_)
      exact ZO.iret (pc := 86)  d_X_about_86 rfl rfl rfl
    refine ZO.split (c0 := a1 = (3 : Int32)) rfl (fun h7 => ?_) (fun h7 => ?_)
    · refine ZO.tswI (pc := 32) 87 (3 : Int32) h7 d_X_about_32 (by decide) (by decide) (by decide) ?_
      refine ZO.aload_n (pc := 87) 3 d_X_about_87 rfl rfl ?_
      refine ZO.getI (pc := 88) d_X_about_88 (zr_b h2) zf_X_169 rfl ?_
      exact ZO.iret (pc := 91)  d_X_about_91 rfl rfl rfl
    refine ZO.split (c0 := a1 = (4 : Int32)) rfl (fun h8 => ?_) (fun h8 => ?_)
    · refine ZO.tswI (pc := 32) 92 (4 : Int32) h8 d_X_about_32 (by decide) (by decide) (by decide) ?_
      refine ZO.aload_n (pc := 92) 3 d_X_about_92 rfl rfl ?_
      refine ZO.cVB (pc := 93) (As := []) (rest := []) d_X_about_93 zc_X_172 (by decide) (zr_b h2) rfl rfl rfl (Nat.le_of_ble_eq_true rfl) (ok_B_isLater g (z_ra 240 a0.toNatClampNeg) s) (fun p9 ep9 => ?_)
      refine ZO.ifb_eq (pc := 96) 103 d_X_about_96 (by decide) rfl (fun h10 => ?_) (fun h10 => ?_)
      · refine ZO.iconst (pc := 99) (1 : Int32) d_X_about_99 (by decide) ?_
        refine ZO.goto (pc := 100) 104 d_X_about_100 (by decide) ?_
        exact ZO.iret (pc := 104)  d_X_about_104 rfl rfl rfl
      · refine ZO.iconst (pc := 103) (0 : Int32) d_X_about_103 (by decide) ?_
        exact ZO.iret (pc := 104)  d_X_about_104 rfl rfl rfl
    refine ZO.tswO (pc := 32) 105 d_X_about_32 (by have q0 := lv_neT h3 (show (0 : Int32).toInt = 0 by decide); have q1 := lv_neT h4 (show (1 : Int32).toInt = 1 by decide); have q2 := lv_neT h5 (show (2 : Int32).toInt = 2 by decide); have q3 := lv_neT h7 (show (3 : Int32).toInt = 3 by decide); have q4 := lv_neT h8 (show (4 : Int32).toInt = 4 by decide); omega) (by decide) ?_
    exact ZO.thr (pc := 105) rfl rfl
  · exact ZO.thr (pc := 11) rfl rfl
def f_X_open (a0 : Int32) (s : ZSt) : Int32 :=
  (if (f_X_isTable a0) = true then
  (f_X_on (gl s 1 8) a0)
else (-1 : Int32))
set_option maxHeartbeats 4000000 in
set_option maxRecDepth 20000 in
theorem ok_X_open (g : ZG) (a0 : Int32) (s : ZSt) : ZF g 1 y_X_open [.ref 1, .int a0] s (some (f_X_open a0 s)) (fun b => some (.int b)) (fun _ => s) := by
  refine ZF.of (by decide +kernel) (Nat.le_of_ble_eq_true rfl) ?_
  unfold f_X_open
  show ZO g 1 y_X_open zu0 0 [(0, .ref 1), (1, .int a0)] [] s _ _
  refine ZO.iload_n (pc := 0) 1 d_X_open_0 rfl rfl ?_
  refine ZO.tSB (pc := 1) (As := [.int a0]) (rest := []) d_X_open_1 zc_X_141 (by decide) rfl rfl (Nat.le_of_ble_eq_true rfl) (ok_X_isTable g a0 s) ?_
  refine ZO.ifb_eq (pc := 4) 18 d_X_open_4 (by decide) z_some (fun h1 => ?_) (fun h1 => ?_)
  · refine ZO.aload_n (pc := 7) 0 d_X_open_7 rfl rfl ?_
    refine ZO.getJ (pc := 8) d_X_open_8 zo_1 zf_X_115 rfl ?_
    refine ZO.iload_n (pc := 11) 1 d_X_open_11 rfl rfl ?_
    refine ZO.tSI (pc := 12) (As := [.long (gl s 1 8), .int a0]) (rest := []) d_X_open_12 zc_X_178 (by decide) rfl rfl (Nat.le_of_ble_eq_true rfl) (ok_X_on g (gl s 1 8) a0 s) ?_
    refine ZO.goto (pc := 15) 19 d_X_open_15 (by decide) ?_
    exact ZO.iret (pc := 19)  d_X_open_19 rfl rfl rfl
  · refine ZO.iconst (pc := 18) (-1 : Int32) d_X_open_18 (by decide) ?_
    exact ZO.iret (pc := 19)  d_X_open_19 rfl rfl rfl
def f_X_value (n : Nat) (a0 : Int32) (a1 : Int32) (s : ZSt) : Option (Option Int32 × Nat × ZSt) :=
  (jn (fun (x1 : Unit) =>
    some (none, 18, s)) (fun j2 =>
    if (f_T_has a0 s) = true then
  (if (f_X_isTable a1) = true then
    gd (inb a0 12) (
      bn (f_B_condition (z_ra 240 a0.toNatClampNeg) s) (fun p6 =>
      gd (z_isO p6 1) (
      bn (f_E_worth n p6 (f_X_on (gl s 1 8) a1) (gi s (z_ra 240 a0.toNatClampNeg) 5) a1 s) (fun p8 =>
      some (some p8.1, 0, p8.2)))))
  else j2 ())
else j2 ()))
set_option maxHeartbeats 4000000 in
set_option maxRecDepth 20000 in
theorem ok_X_value (g : ZG) (n : Nat) (a0 : Int32) (a1 : Int32) (s : ZSt) (u : ZU) : ZO g 8 y_X_value u 0 (lv_args 0 [.ref 1, .int a0, .int a1]) [] s (f_X_value n a0 a1 s) (fun b => (b.1.map (fun v => some (.int v)), b.2.2, b.2.1)) := by
  unfold f_X_value
  show ZO g 8 y_X_value u 0 [(0, .ref 1), (1, .int a0), (2, .int a1)] [] s _ _
  refine ZO.aload_n (pc := 0) 0 d_X_value_0 rfl rfl ?_
  refine ZO.getA (pc := 1) 201 d_X_value_1 zo_1 zf_X_19 rfl rfl ?_
  refine ZO.iload_n (pc := 4) 1 d_X_value_4 rfl rfl ?_
  refine ZO.tVB (pc := 5) (As := [.int a0]) (rest := []) d_X_value_5 zc_X_92 (by decide) zo_201 rfl rfl rfl (Nat.le_of_ble_eq_true rfl) (ok_T_has g a0 s) ?_
  refine ZO.rjn (pcJ := 18) (LJ := fun (x1 : Unit) => ([] : List (Nat × Value))) (SJ := fun (x1 : Unit) => ([] : List Value)) (σJ := fun (x1 : Unit) => s) (fun x1 => ?_) (fun j2 hj2 => ?_)
  · exact ZO.thr (pc := 18) rfl rfl
  · refine ZO.ifb_eq (pc := 8) 18 d_X_value_8 (by decide) rfl (fun h3 => ?_) (fun h3 => ?_)
    · refine ZO.iload_n (pc := 11) 2 d_X_value_11 rfl rfl ?_
      refine ZO.tSB (pc := 12) (As := [.int a1]) (rest := []) d_X_value_12 zc_X_141 (by decide) rfl rfl (Nat.le_of_ble_eq_true rfl) (ok_X_isTable g a1 s) ?_
      refine ZO.ifb_ne (pc := 15) 28 d_X_value_15 (by decide) rfl (fun h4 => ?_) (fun h4 => ?_)
      · refine ZO.aload_n (pc := 28) 0 d_X_value_28 rfl rfl ?_
        refine ZO.getA (pc := 29) 201 d_X_value_29 zo_1 zf_X_19 rfl rfl ?_
        refine ZO.getA (pc := 32) 240 d_X_value_32 zo_201 zf_X_102 rfl rfl ?_
        refine ZO.iload_n (pc := 35) 1 d_X_value_35 rfl rfl ?_
        refine ZO.rgd (fun h5 => ?_)
        refine ZO.aald (pc := 36) (q0 := 0) d_X_value_36 (by decide) za_240 h5 ?_
        refine ZO.astore_n (pc := 37) (v := (z_ra 240 a0.toNatClampNeg)) (L' := [(0, .ref 1), (1, .int a0), (2, .int a1), (3, .ref (z_ra 240 a0.toNatClampNeg))]) [1, 2, 3, 0] d_X_value_37 rfl (by decide) rfl ?_
        refine ZO.aload_n (pc := 38) 3 d_X_value_38 rfl rfl ?_
        refine ZO.cVA (pc := 39) (As := []) (rest := []) d_X_value_39 zc_X_183 (by decide) (zr_b h5) rfl rfl rfl (Nat.le_of_ble_eq_true rfl) (ok_B_condition g (z_ra 240 a0.toNatClampNeg) s) (fun p6 ep6 => ?_)
        refine ZO.rgd (fun h7 => ?_)
        refine ZO.aload_n (pc := 42) 0 d_X_value_42 rfl rfl ?_
        refine ZO.getJ (pc := 43) d_X_value_43 zo_1 zf_X_115 rfl ?_
        refine ZO.iload_n (pc := 46) 2 d_X_value_46 rfl rfl ?_
        refine ZO.tSI (pc := 47) (As := [.long (gl s 1 8), .int a1]) (rest := [.ref p6]) d_X_value_47 zc_X_178 (by decide) rfl rfl (Nat.le_of_ble_eq_true rfl) (ok_X_on g (gl s 1 8) a1 s) ?_
        refine ZO.aload_n (pc := 50) 3 d_X_value_50 rfl rfl ?_
        refine ZO.getI (pc := 51) d_X_value_51 (zr_b h5) zf_X_169 rfl ?_
        refine ZO.iload_n (pc := 54) 2 d_X_value_54 rfl rfl ?_
        refine ZO.cVI (pc := 55) (As := [.int (f_X_on (gl s 1 8) a1), .int (gi s (z_ra 240 a0.toNatClampNeg) 5), .int a1]) (rest := []) d_X_value_55 zc_X_187 (by decide) h7 rfl rfl rfl (Nat.le_of_ble_eq_true rfl) (ok_E_worth g n p6 (f_X_on (gl s 1 8) a1) (gi s (z_ra 240 a0.toNatClampNeg) 5) a1 s) (fun p8 ep8 => ?_)
        exact ZO.iret (pc := 58)  d_X_value_58 rfl rfl rfl
      · exact ZO.sub [] rfl (hj2 ())
    · exact ZO.sub [] rfl (hj2 ())
def f_X_make (n : Nat) (a0 : Int32) (s : ZSt) : Option (Int32 × ZSt) :=
  lt (shI (1 : Int32) (remI a0 (20 : Int32))) (fun v1 =>
  (lt ((if (a0 / (20 : Int32)) = (3 : Int32) then
  (1 : Int32)
else (0 : Int32)) : Int32) (fun x2 =>
    (lt ((if x2 = 0 then
      ((f_X_anywhere (gl s 1 8)) ||| v1)
    else ((f_X_anywhere (gl s 1 8)) &&& (v1 ^^^ (-1 : Int32)))) : Int32) (fun x3 =>
        (jn (fun (x4 : ZSt) =>
            bn (f_T_after n (gl x4 1 8) a0 x4) (fun p5 =>
              lt (sl p5.2 1 8 p5.1) (fun s6 =>
              some ((x3 &&& ((f_X_anywhere (gl s6 1 8)) ^^^ (-1 : Int32))), s6)))) (fun j7 =>
            if (3 : Int32) ≤ (a0 / (20 : Int32)) then
          j7 s
        else gd (inb (remI a0 (20 : Int32)) 12) (
            lt (si s (z_ra 240 (remI a0 (20 : Int32)).toNatClampNeg) 4 ((gi s (z_ra 240 (remI a0 (20 : Int32)).toNatClampNeg) 4) + (1 : Int32))) (fun s10 =>
            j7 s10)))))))))
set_option maxHeartbeats 4000000 in
set_option maxRecDepth 20000 in
theorem ok_X_make (g : ZG) (n : Nat) (a0 : Int32) (s : ZSt) : ZF g 5 y_X_make [.ref 1, .int a0] s (f_X_make n a0 s) (fun b => some (.int b.1)) (fun b => b.2) := by
  refine ZF.of (by decide +kernel) (Nat.le_of_ble_eq_true rfl) ?_
  unfold f_X_make
  show ZO g 5 y_X_make zu0 0 [(0, .ref 1), (1, .int a0)] [] s _ _
  refine ZO.iconst (pc := 0) (1 : Int32) d_X_make_0 (by decide) ?_
  refine ZO.iload_n (pc := 1) 1 d_X_make_1 rfl rfl ?_
  refine ZO.bipush (pc := 2) (20 : Int32) d_X_make_2 (by decide) ?_
  refine ZO.irem (pc := 4) d_X_make_4 (by decide) ?_
  refine ZO.ishl (pc := 5) d_X_make_5 ?_
  refine ZO.ltI (fun v1 => ?_)
  refine ZO.istore_n (pc := 6) (v := v1) (L' := [(0, .ref 1), (1, .int a0), (2, .int v1)]) [1, 2, 0] d_X_make_6 rfl (by decide) rfl ?_
  refine ZO.iload_n (pc := 7) 1 d_X_make_7 rfl rfl ?_
  refine ZO.bipush (pc := 8) (20 : Int32) d_X_make_8 (by decide) ?_
  refine ZO.idiv (pc := 10) d_X_make_10 (by decide) ?_
  refine ZO.iconst (pc := 11) (3 : Int32) d_X_make_11 (by decide) ?_
  refine ZO.phi (pcJ := 20) (LJ := fun (x2 : Int32) => ([(0, .ref 1), (1, .int a0), (2, .int v1)] : List (Nat × Value))) (SJ := fun (x2 : Int32) => ([.int x2] : List Value)) (fun x2 => ?_) (fun t hj13 => ?_)
  · refine ZO.istore_n (pc := 20) (v := x2) (L' := [(0, .ref 1), (1, .int a0), (2, .int v1), (3, .int x2)]) [1, 2, 3, 0] d_X_make_20 rfl (by decide) rfl ?_
    refine ZO.iload_n (pc := 21) 3 d_X_make_21 rfl rfl ?_
    refine ZO.phi (pcJ := 48) (LJ := fun (x3 : Int32) => ([(0, .ref 1), (1, .int a0)] : List (Nat × Value))) (SJ := fun (x3 : Int32) => ([.int x3] : List Value)) (fun x3 => ?_) (fun t hj11 => ?_)
    · refine ZO.istore (pc := 48) (v := x3) (L' := [(0, .ref 1), (1, .int a0), (4, .int x3)]) [1, 2, 0] d_X_make_48 (by decide) rfl ?_
      refine ZO.iload_n (pc := 50) 1 d_X_make_50 rfl rfl ?_
      refine ZO.bipush (pc := 51) (20 : Int32) d_X_make_51 (by decide) ?_
      refine ZO.idiv (pc := 53) d_X_make_53 (by decide) ?_
      refine ZO.iconst (pc := 54) (3 : Int32) d_X_make_54 (by decide) ?_
      refine ZO.rjn (pcJ := 79) (LJ := fun (x4 : ZSt) => ([(0, .ref 1), (1, .int a0), (4, .int x3)] : List (Nat × Value))) (SJ := fun (x4 : ZSt) => ([] : List Value)) (σJ := fun (x4 : ZSt) => x4) (fun x4 => ?_) (fun j7 hj7 => ?_)
      · refine ZO.aload_n (pc := 79) 0 d_X_make_79 rfl rfl ?_
        refine ZO.aload_n (pc := 80) 0 d_X_make_80 rfl rfl ?_
        refine ZO.getA (pc := 81) 201 d_X_make_81 zo_1 zf_X_19 rfl rfl ?_
        refine ZO.aload_n (pc := 84) 0 d_X_make_84 rfl rfl ?_
        refine ZO.getJ (pc := 85) d_X_make_85 zo_1 zf_X_115 rfl ?_
        refine ZO.iload_n (pc := 88) 1 d_X_make_88 rfl rfl ?_
        refine ZO.cVJ (pc := 89) (As := [.long (gl x4 1 8), .int a0]) (rest := [.ref 1]) d_X_make_89 zc_X_206 (by decide) zo_201 rfl rfl rfl (Nat.le_of_ble_eq_true rfl) (ok_T_after g n (gl x4 1 8) a0 x4) (fun p5 ep5 => ?_)
        refine ZO.putJ (pc := 92) d_X_make_92 zo_1 zp_X_115 rfl ?_
        refine ZO.ltS (fun s6 => ?_)
        refine ZO.iload (pc := 95) 2 d_X_make_95 rfl ?_
        refine ZO.aload_n (pc := 97) 0 d_X_make_97 rfl rfl ?_
        refine ZO.getJ (pc := 98) d_X_make_98 zo_1 zf_X_115 rfl ?_
        refine ZO.tSI (pc := 101) (As := [.long (gl s6 1 8)]) (rest := [.int x3]) d_X_make_101 zc_X_202 (by decide) rfl rfl (Nat.le_of_ble_eq_true rfl) (ok_X_anywhere g (gl s6 1 8) s6) ?_
        refine ZO.iconst (pc := 104) (-1 : Int32) d_X_make_104 (by decide) ?_
        refine ZO.ixor (pc := 105) d_X_make_105 ?_
        refine ZO.iand (pc := 106) d_X_make_106 ?_
        exact ZO.iret (pc := 107)  d_X_make_107 rfl rfl rfl
      · refine ZO.icmp_ge (pc := 55) 79 d_X_make_55 (by decide) rfl (fun h8 => ?_) (fun h8 => ?_)
        · exact hj7 s
        · refine ZO.aload_n (pc := 58) 0 d_X_make_58 rfl rfl ?_
          refine ZO.getA (pc := 59) 201 d_X_make_59 zo_1 zf_X_19 rfl rfl ?_
          refine ZO.getA (pc := 62) 240 d_X_make_62 zo_201 zf_X_102 rfl rfl ?_
          refine ZO.iload_n (pc := 65) 1 d_X_make_65 rfl rfl ?_
          refine ZO.bipush (pc := 66) (20 : Int32) d_X_make_66 (by decide) ?_
          refine ZO.irem (pc := 68) d_X_make_68 (by decide) ?_
          refine ZO.rgd (fun h9 => ?_)
          refine ZO.aald (pc := 69) (q0 := 0) d_X_make_69 (by decide) za_240 h9 ?_
          refine ZO.dup (pc := 70) d_X_make_70 rfl ?_
          refine ZO.getI (pc := 71) d_X_make_71 (zr_b h9) zf_X_166 rfl ?_
          refine ZO.iconst (pc := 74) (1 : Int32) d_X_make_74 (by decide) ?_
          refine ZO.iadd (pc := 75) d_X_make_75 ?_
          refine ZO.putI (pc := 76) d_X_make_76 (zr_b h9) zp_X_166 rfl ?_
          refine ZO.ltS (fun s10 => ?_)
          exact hj7 s10
    · refine ZO.if_eq (pc := 22) 39 d_X_make_22 (by decide) z_ite (fun h12 => ?_) (fun h12 => ?_)
      · refine ZO.aload_n (pc := 39) 0 d_X_make_39 rfl rfl ?_
        refine ZO.getJ (pc := 40) d_X_make_40 zo_1 zf_X_115 rfl ?_
        refine ZO.tSI (pc := 43) (As := [.long (gl s 1 8)]) (rest := []) d_X_make_43 zc_X_202 (by decide) rfl rfl (Nat.le_of_ble_eq_true rfl) (ok_X_anywhere g (gl s 1 8) s) ?_
        refine ZO.iload_n (pc := 46) 2 d_X_make_46 rfl rfl ?_
        refine ZO.ior (pc := 47) d_X_make_47 ?_
        exact ZO.sub [0, 1] rfl (hj11 ((f_X_anywhere (gl s 1 8)) ||| v1) (by rw [if_pos h12]))
      · refine ZO.aload_n (pc := 25) 0 d_X_make_25 rfl rfl ?_
        refine ZO.getJ (pc := 26) d_X_make_26 zo_1 zf_X_115 rfl ?_
        refine ZO.tSI (pc := 29) (As := [.long (gl s 1 8)]) (rest := []) d_X_make_29 zc_X_202 (by decide) rfl rfl (Nat.le_of_ble_eq_true rfl) (ok_X_anywhere g (gl s 1 8) s) ?_
        refine ZO.iload_n (pc := 32) 2 d_X_make_32 rfl rfl ?_
        refine ZO.iconst (pc := 33) (-1 : Int32) d_X_make_33 (by decide) ?_
        refine ZO.ixor (pc := 34) d_X_make_34 ?_
        refine ZO.iand (pc := 35) d_X_make_35 ?_
        refine ZO.goto (pc := 36) 48 d_X_make_36 (by decide) ?_
        exact ZO.sub [0, 1] rfl (hj11 ((f_X_anywhere (gl s 1 8)) &&& (v1 ^^^ (-1 : Int32))) (by rw [if_neg h12]))
  · refine ZO.icmp_ne (pc := 12) 19 d_X_make_12 (by decide) z_ite (fun h14 => ?_) (fun h14 => ?_)
    · refine ZO.iconst (pc := 15) (1 : Int32) d_X_make_15 (by decide) ?_
      refine ZO.goto (pc := 16) 20 d_X_make_16 (by decide) ?_
      exact hj13 (1 : Int32) (by rw [if_pos h14])
    · refine ZO.iconst (pc := 19) (0 : Int32) d_X_make_19 (by decide) ?_
      exact hj13 (0 : Int32) (by rw [if_neg h14])
def f_X_act (n : Nat) (a0 : Int32) (s : ZSt) : Option (Int32 × ZSt) :=
  bn (f_T_spent n s) (fun p1 =>
  bn (f_T_refusal n (gl s 1 8) p1 a0 s) (fun p2 =>
  (if p2.1 = 0 then
  bn (f_X_make n a0 p2.2) (fun p4 =>
    some (p4.1, p4.2))
else some (p2.1, p2.2))))
set_option maxHeartbeats 4000000 in
set_option maxRecDepth 20000 in
theorem ok_X_act (g : ZG) (n : Nat) (a0 : Int32) (s : ZSt) : ZF g 6 y_X_act [.ref 1, .int a0] s (f_X_act n a0 s) (fun b => some (.int b.1)) (fun b => b.2) := by
  refine ZF.of (by decide +kernel) (Nat.le_of_ble_eq_true rfl) ?_
  unfold f_X_act
  show ZO g 6 y_X_act zu0 0 [(0, .ref 1), (1, .int a0)] [] s _ _
  refine ZO.aload_n (pc := 0) 0 d_X_act_0 rfl rfl ?_
  refine ZO.getA (pc := 1) 201 d_X_act_1 zo_1 zf_X_19 rfl rfl ?_
  refine ZO.aload_n (pc := 4) 0 d_X_act_4 rfl rfl ?_
  refine ZO.getJ (pc := 5) d_X_act_5 zo_1 zf_X_115 rfl ?_
  refine ZO.aload_n (pc := 8) 0 d_X_act_8 rfl rfl ?_
  refine ZO.getA (pc := 9) 201 d_X_act_9 zo_1 zf_X_19 rfl rfl ?_
  refine ZO.cVI (pc := 12) (As := []) (rest := [.long (gl s 1 8), .ref 201]) d_X_act_12 zc_X_191 (by decide) zo_201 rfl rfl rfl (Nat.le_of_ble_eq_true rfl) (ok_T_spent g n s) (fun p1 ep1 => ?_)
  refine ZO.iload_n (pc := 15) 1 d_X_act_15 rfl rfl ?_
  refine ZO.cVI (pc := 16) (As := [.long (gl s 1 8), .int p1, .int a0]) (rest := []) d_X_act_16 zc_X_195 (by decide) zo_201 rfl rfl rfl (Nat.le_of_ble_eq_true rfl) (ok_T_refusal g n (gl s 1 8) p1 a0 s) (fun p2 ep2 => ?_)
  refine ZO.istore_n (pc := 19) (v := p2.1) (L' := [(0, .ref 1), (1, .int a0), (2, .int p2.1)]) [1, 2, 0] d_X_act_19 rfl (by decide) rfl ?_
  refine ZO.iload_n (pc := 20) 2 d_X_act_20 rfl rfl ?_
  refine ZO.if_eq (pc := 21) 28 d_X_act_21 (by decide) rfl (fun h3 => ?_) (fun h3 => ?_)
  · refine ZO.aload_n (pc := 28) 0 d_X_act_28 rfl rfl ?_
    refine ZO.iload_n (pc := 29) 1 d_X_act_29 rfl rfl ?_
    refine ZO.cVI (pc := 30) (As := [.int a0]) (rest := []) d_X_act_30 zc_X_199 (by decide) zo_1 rfl rfl rfl (Nat.le_of_ble_eq_true rfl) (ok_X_make g n a0 p2.2) (fun p4 ep4 => ?_)
    exact ZO.iret (pc := 33)  d_X_act_33 rfl rfl rfl
  · refine ZO.iload_n (pc := 24) 2 d_X_act_24 rfl rfl ?_
    refine ZO.goto (pc := 25) 33 d_X_act_25 (by decide) ?_
    exact ZO.iret (pc := 33)  d_X_act_33 rfl rfl rfl
def f_X_why (n : Nat) (a0 : Int32) (s : ZSt) : Option (Int32 × ZSt) :=
  bn (f_T_spent n s) (fun p1 =>
  bn (f_T_refusal n (gl s 1 8) p1 a0 s) (fun p2 =>
  some (p2.1, p2.2)))
set_option maxHeartbeats 4000000 in
set_option maxRecDepth 20000 in
theorem ok_X_why (g : ZG) (n : Nat) (a0 : Int32) (s : ZSt) : ZF g 4 y_X_why [.ref 1, .int a0] s (f_X_why n a0 s) (fun b => some (.int b.1)) (fun b => b.2) := by
  refine ZF.of (by decide +kernel) (Nat.le_of_ble_eq_true rfl) ?_
  unfold f_X_why
  show ZO g 4 y_X_why zu0 0 [(0, .ref 1), (1, .int a0)] [] s _ _
  refine ZO.aload_n (pc := 0) 0 d_X_why_0 rfl rfl ?_
  refine ZO.getA (pc := 1) 201 d_X_why_1 zo_1 zf_X_19 rfl rfl ?_
  refine ZO.aload_n (pc := 4) 0 d_X_why_4 rfl rfl ?_
  refine ZO.getJ (pc := 5) d_X_why_5 zo_1 zf_X_115 rfl ?_
  refine ZO.aload_n (pc := 8) 0 d_X_why_8 rfl rfl ?_
  refine ZO.getA (pc := 9) 201 d_X_why_9 zo_1 zf_X_19 rfl rfl ?_
  refine ZO.cVI (pc := 12) (As := []) (rest := [.long (gl s 1 8), .ref 201]) d_X_why_12 zc_X_191 (by decide) zo_201 rfl rfl rfl (Nat.le_of_ble_eq_true rfl) (ok_T_spent g n s) (fun p1 ep1 => ?_)
  refine ZO.iload_n (pc := 15) 1 d_X_why_15 rfl rfl ?_
  refine ZO.cVI (pc := 16) (As := [.long (gl s 1 8), .int p1, .int a0]) (rest := []) d_X_why_16 zc_X_195 (by decide) zo_201 rfl rfl rfl (Nat.le_of_ble_eq_true rfl) (ok_T_refusal g n (gl s 1 8) p1 a0 s) (fun p2 ep2 => ?_)
  exact ZO.iret (pc := 19)  d_X_why_19 rfl rfl rfl
def f_X_tell (a0 : Int32) (s : ZSt) : Option ZSt :=
  (if (12 : Int32) ≤ (gi s 1 13) then
  some s
else gd (inb (gi s 1 13) 12) (
    lt (sai s 212 (gi s 1 13) a0) (fun s3 =>
    lt (si s3 1 13 ((gi s3 1 13) + (1 : Int32))) (fun s4 =>
    some s4))))
set_option maxHeartbeats 4000000 in
set_option maxRecDepth 20000 in
theorem ok_X_tell (g : ZG) (a0 : Int32) (s : ZSt) : ZF g 0 y_X_tell [.ref 1, .int a0] s (f_X_tell a0 s) (fun _ => none) (fun b => b) := by
  refine ZF.of (by decide +kernel) (Nat.le_of_ble_eq_true rfl) ?_
  unfold f_X_tell
  show ZO g 0 y_X_tell zu0 0 [(0, .ref 1), (1, .int a0)] [] s _ _
  refine ZO.aload_n (pc := 0) 0 d_X_tell_0 rfl rfl ?_
  refine ZO.getI (pc := 1) d_X_tell_1 zo_1 zf_X_209 rfl ?_
  refine ZO.aload_n (pc := 4) 0 d_X_tell_4 rfl rfl ?_
  refine ZO.getA (pc := 5) 212 d_X_tell_5 zo_1 zf_X_60 rfl rfl ?_
  refine ZO.alen (pc := 8) (12 : Int32) d_X_tell_8 za_212 (by decide) ?_
  refine ZO.icmp_ge (pc := 9) 32 d_X_tell_9 (by decide) rfl (fun h1 => ?_) (fun h1 => ?_)
  · exact ZO.vret (pc := 32) d_X_tell_32 rfl rfl rfl
  · refine ZO.aload_n (pc := 12) 0 d_X_tell_12 rfl rfl ?_
    refine ZO.getA (pc := 13) 212 d_X_tell_13 zo_1 zf_X_60 rfl rfl ?_
    refine ZO.aload_n (pc := 16) 0 d_X_tell_16 rfl rfl ?_
    refine ZO.getI (pc := 17) d_X_tell_17 zo_1 zf_X_209 rfl ?_
    refine ZO.iload_n (pc := 20) 1 d_X_tell_20 rfl rfl ?_
    refine ZO.rgd (fun h2 => ?_)
    refine ZO.iast (pc := 21) d_X_tell_21 za_212 h2 ?_
    refine ZO.ltS (fun s3 => ?_)
    refine ZO.aload_n (pc := 22) 0 d_X_tell_22 rfl rfl ?_
    refine ZO.dup (pc := 23) d_X_tell_23 rfl ?_
    refine ZO.getI (pc := 24) d_X_tell_24 zo_1 zf_X_209 rfl ?_
    refine ZO.iconst (pc := 27) (1 : Int32) d_X_tell_27 (by decide) ?_
    refine ZO.iadd (pc := 28) d_X_tell_28 ?_
    refine ZO.putI (pc := 29) d_X_tell_29 zo_1 zp_X_209 rfl ?_
    refine ZO.ltS (fun s4 => ?_)
    exact ZO.vret (pc := 32) d_X_tell_32 rfl rfl rfl
def f_X_can (n : Nat) (s : ZSt) : Option (Int32 × ZSt) :=
  bn (f_T_spent n s) (fun p1 =>
  lt (si s 1 13 (0 : Int32)) (fun s2 =>
  lpN (fun j4 (x3 : Int32 × Int32 × ZSt) =>
  (if (7 : Int32) ≤ x3.2.1 then
    some (x3.1, x3.2.2)
  else (jn (fun (x6 : Int32 × ZSt) =>
        lpN (fun j8 (x7 : Int32 × Int32 × ZSt) =>
          (if (12 : Int32) ≤ x7.2.1 then
            lt (x3.2.1 + (1 : Int32)) (fun v10 =>
              j4 (x7.1, v10, x7.2.2))
          else (jn (fun (x11 : Int32 × ZSt) =>
                lt (x7.2.1 + (1 : Int32)) (fun v12 =>
                  j8 (x11.1, v12, x11.2))) (fun j13 =>
                if ((srI x6.1 x7.2.1) &&& (1 : Int32)) = 0 then
              j13 (x7.1, x7.2.2)
            else lt (x7.1 + (1 : Int32)) (fun v15 =>
                (if (8 : Int32) < v15 then
                j13 (v15, x7.2.2)
              else bn (f_X_tell ((x3.2.1 * (20 : Int32)) + x7.2.1) x7.2.2) (fun p17 =>
                  j13 (v15, p17)))))))) n (x3.1, (0 : Int32), x6.2)) (fun j18 =>
        if x3.2.1 = (3 : Int32) then
      j18 ((0 : Int32), x3.2.2)
    else bn (f_T_possible n (gl x3.2.2 1 8) p1 x3.2.1 x3.2.2) (fun p20 =>
        j18 (p20.1, p20.2)))))) n ((0 : Int32), (0 : Int32), s2)))
set_option maxHeartbeats 4000000 in
set_option maxRecDepth 20000 in
theorem ok_X_can (g : ZG) (n : Nat) (s : ZSt) : ZF g 4 y_X_can [.ref 1] s (f_X_can n s) (fun b => some (.int b.1)) (fun b => b.2) := by
  refine ZF.of (by decide +kernel) (Nat.le_of_ble_eq_true rfl) ?_
  unfold f_X_can
  show ZO g 4 y_X_can zu0 0 [(0, .ref 1)] [] s _ _
  refine ZO.aload_n (pc := 0) 0 d_X_can_0 rfl rfl ?_
  refine ZO.getA (pc := 1) 201 d_X_can_1 zo_1 zf_X_19 rfl rfl ?_
  refine ZO.cVI (pc := 4) (As := []) (rest := []) d_X_can_4 zc_X_191 (by decide) zo_201 rfl rfl rfl (Nat.le_of_ble_eq_true rfl) (ok_T_spent g n s) (fun p1 ep1 => ?_)
  refine ZO.istore_n (pc := 7) (v := p1) (L' := [(0, .ref 1), (1, .int p1)]) [1, 0] d_X_can_7 rfl (by decide) rfl ?_
  refine ZO.iconst (pc := 8) (0 : Int32) d_X_can_8 (by decide) ?_
  refine ZO.istore_n (pc := 9) (v := (0 : Int32)) (L' := [(0, .ref 1), (1, .int p1), (2, .int (0 : Int32))]) [1, 2, 0] d_X_can_9 rfl (by decide) rfl ?_
  refine ZO.aload_n (pc := 10) 0 d_X_can_10 rfl rfl ?_
  refine ZO.iconst (pc := 11) (0 : Int32) d_X_can_11 (by decide) ?_
  refine ZO.putI (pc := 12) d_X_can_12 zo_1 zp_X_209 rfl ?_
  refine ZO.ltS (fun s2 => ?_)
  refine ZO.iconst (pc := 15) (0 : Int32) d_X_can_15 (by decide) ?_
  refine ZO.istore_n (pc := 16) (v := (0 : Int32)) (L' := [(0, .ref 1), (1, .int p1), (2, .int (0 : Int32)), (3, .int (0 : Int32))]) [1, 2, 3, 0] d_X_can_16 rfl (by decide) rfl ?_
  refine ZO.loop (fun (x3 : Int32 × Int32 × ZSt) => ([(0, .ref 1), (1, .int p1), (2, .int x3.1), (3, .int x3.2.1)] : List (Nat × Value))) (fun (x3 : Int32 × Int32 × ZSt) => x3.2.2) [] (fun j4 x3 hj4 => ?_) rfl rfl rfl
  refine ZO.iload_n (pc := 17) 3 d_X_can_17 rfl rfl ?_
  refine ZO.bipush (pc := 18) (7 : Int32) d_X_can_18 (by decide) ?_
  refine ZO.icmp_ge (pc := 20) 99 d_X_can_20 (by decide) rfl (fun h5 => ?_) (fun h5 => ?_)
  · refine ZO.iload_n (pc := 99) 2 d_X_can_99 rfl rfl ?_
    exact ZO.iret (pc := 100)  d_X_can_100 rfl rfl rfl
  · refine ZO.iload_n (pc := 23) 3 d_X_can_23 rfl rfl ?_
    refine ZO.iconst (pc := 24) (3 : Int32) d_X_can_24 (by decide) ?_
    refine ZO.rjn (pcJ := 45) (LJ := fun (x6 : Int32 × ZSt) => ([(0, .ref 1), (1, .int p1), (2, .int x3.1), (3, .int x3.2.1)] : List (Nat × Value))) (SJ := fun (x6 : Int32 × ZSt) => ([.int x6.1] : List Value)) (σJ := fun (x6 : Int32 × ZSt) => x6.2) (fun x6 => ?_) (fun j18 hj18 => ?_)
    · refine ZO.istore (pc := 45) (v := x6.1) (L' := [(0, .ref 1), (1, .int p1), (2, .int x3.1), (3, .int x3.2.1), (4, .int x6.1)]) [1, 2, 3, 4, 0] d_X_can_45 (by decide) rfl ?_
      refine ZO.iconst (pc := 47) (0 : Int32) d_X_can_47 (by decide) ?_
      refine ZO.istore (pc := 48) (v := (0 : Int32)) (L' := [(0, .ref 1), (1, .int p1), (2, .int x3.1), (3, .int x3.2.1), (4, .int x6.1), (5, .int (0 : Int32))]) [1, 2, 3, 4, 5, 0] d_X_can_48 (by decide) rfl ?_
      refine ZO.loop (fun (x7 : Int32 × Int32 × ZSt) => ([(0, .ref 1), (1, .int p1), (2, .int x7.1), (3, .int x3.2.1), (4, .int x6.1), (5, .int x7.2.1)] : List (Nat × Value))) (fun (x7 : Int32 × Int32 × ZSt) => x7.2.2) [] (fun j8 x7 hj8 => ?_) rfl rfl rfl
      refine ZO.iload (pc := 50) 5 d_X_can_50 rfl ?_
      refine ZO.bipush (pc := 52) (12 : Int32) d_X_can_52 (by decide) ?_
      refine ZO.icmp_ge (pc := 54) 93 d_X_can_54 (by decide) rfl (fun h9 => ?_) (fun h9 => ?_)
      · refine ZO.iincL (pc := 93) (i := 3) (x3.2.1 + (1 : Int32)) (L' := fun v10 => [(0, .ref 1), (1, .int p1), (2, .int x7.1), (3, .int v10), (4, .int x6.1), (5, .int x7.2.1)]) [1, 2, 3, 0, 4, 5] d_X_can_93 rfl (by rfl) (by decide) (fun _ => rfl) (fun v10 => ?_)
        refine ZO.goto (pc := 96) 17 d_X_can_96 (by decide) ?_
        exact ZO.sub [0, 1, 2, 3] rfl (hj4 (x7.1, v10, x7.2.2))
      · refine ZO.iload (pc := 57) 4 d_X_can_57 rfl ?_
        refine ZO.iload (pc := 59) 5 d_X_can_59 rfl ?_
        refine ZO.ishr (pc := 61) d_X_can_61 ?_
        refine ZO.iconst (pc := 62) (1 : Int32) d_X_can_62 (by decide) ?_
        refine ZO.iand (pc := 63) d_X_can_63 ?_
        refine ZO.rjn (pcJ := 87) (LJ := fun (x11 : Int32 × ZSt) => ([(0, .ref 1), (1, .int p1), (2, .int x11.1), (3, .int x3.2.1), (4, .int x6.1), (5, .int x7.2.1)] : List (Nat × Value))) (SJ := fun (x11 : Int32 × ZSt) => ([] : List Value)) (σJ := fun (x11 : Int32 × ZSt) => x11.2) (fun x11 => ?_) (fun j13 hj13 => ?_)
        · refine ZO.iincL (pc := 87) (i := 5) (x7.2.1 + (1 : Int32)) (L' := fun v12 => [(0, .ref 1), (1, .int p1), (2, .int x11.1), (3, .int x3.2.1), (4, .int x6.1), (5, .int v12)]) [1, 2, 3, 4, 5, 0] d_X_can_87 rfl (by rfl) (by decide) (fun _ => rfl) (fun v12 => ?_)
          refine ZO.goto (pc := 90) 50 d_X_can_90 (by decide) ?_
          exact hj8 (x11.1, v12, x11.2)
        · refine ZO.if_eq (pc := 64) 87 d_X_can_64 (by decide) rfl (fun h14 => ?_) (fun h14 => ?_)
          · exact hj13 (x7.1, x7.2.2)
          · refine ZO.iincL (pc := 67) (i := 2) (x7.1 + (1 : Int32)) (L' := fun v15 => [(0, .ref 1), (1, .int p1), (2, .int v15), (3, .int x3.2.1), (4, .int x6.1), (5, .int x7.2.1)]) [1, 2, 0, 3, 4, 5] d_X_can_67 rfl (by rfl) (by decide) (fun _ => rfl) (fun v15 => ?_)
            refine ZO.iload_n (pc := 70) 2 d_X_can_70 rfl rfl ?_
            refine ZO.bipush (pc := 71) (8 : Int32) d_X_can_71 (by decide) ?_
            refine ZO.icmp_gt (pc := 73) 87 d_X_can_73 (by decide) rfl (fun h16 => ?_) (fun h16 => ?_)
            · exact hj13 (v15, x7.2.2)
            · refine ZO.aload_n (pc := 76) 0 d_X_can_76 rfl rfl ?_
              refine ZO.iload_n (pc := 77) 3 d_X_can_77 rfl rfl ?_
              refine ZO.bipush (pc := 78) (20 : Int32) d_X_can_78 (by decide) ?_
              refine ZO.imul (pc := 80) d_X_can_80 ?_
              refine ZO.iload (pc := 81) 5 d_X_can_81 rfl ?_
              refine ZO.iadd (pc := 83) d_X_can_83 ?_
              refine ZO.cVV (pc := 84) (As := [.int ((x3.2.1 * (20 : Int32)) + x7.2.1)]) (rest := []) d_X_can_84 zc_X_215 (by decide) zo_1 rfl rfl rfl (Nat.le_of_ble_eq_true rfl) (ok_X_tell g ((x3.2.1 * (20 : Int32)) + x7.2.1) x7.2.2) (fun p17 ep17 => ?_)
              exact hj13 (v15, p17)
    · refine ZO.icmp_ne (pc := 25) 32 d_X_can_25 (by decide) rfl (fun h19 => ?_) (fun h19 => ?_)
      · refine ZO.iconst (pc := 28) (0 : Int32) d_X_can_28 (by decide) ?_
        refine ZO.goto (pc := 29) 45 d_X_can_29 (by decide) ?_
        exact hj18 ((0 : Int32), x3.2.2)
      · refine ZO.aload_n (pc := 32) 0 d_X_can_32 rfl rfl ?_
        refine ZO.getA (pc := 33) 201 d_X_can_33 zo_1 zf_X_19 rfl rfl ?_
        refine ZO.aload_n (pc := 36) 0 d_X_can_36 rfl rfl ?_
        refine ZO.getJ (pc := 37) d_X_can_37 zo_1 zf_X_115 rfl ?_
        refine ZO.iload_n (pc := 40) 1 d_X_can_40 rfl rfl ?_
        refine ZO.iload_n (pc := 41) 3 d_X_can_41 rfl rfl ?_
        refine ZO.cVI (pc := 42) (As := [.long (gl x3.2.2 1 8), .int p1, .int x3.2.1]) (rest := []) d_X_can_42 zc_X_212 (by decide) zo_201 rfl rfl rfl (Nat.le_of_ble_eq_true rfl) (ok_T_possible g n (gl x3.2.2 1 8) p1 x3.2.1 x3.2.2) (fun p20 ep20 => ?_)
        exact hj18 (p20.1, p20.2)
def f_X_night (n : Nat) (a0 : Int32) (s : ZSt) : Option (Int32 × ZSt) :=
  (if (f_T_beyond a0 s) = true then
  some ((-1 : Int32), s)
else lpN (fun j3 (x2 : Int32 × ZSt) =>
    (if (3 : Int32) ≤ x2.1 then
      some ((f_X_anywhere (gl x2.2 1 8)), x2.2)
    else lt (sl x2.2 1 8 (f_X_with (gl x2.2 1 8) x2.1 ((f_X_on (gl x2.2 1 8) x2.1) &&& a0))) (fun s5 =>
        bn (f_T_settled n (gl s5 1 8) x2.1 s5) (fun p6 =>
        lt (sl p6.2 1 8 p6.1) (fun s7 =>
        lt (x2.1 + (1 : Int32)) (fun v8 =>
        j3 (v8, s7))))))) n ((0 : Int32), s))
set_option maxHeartbeats 4000000 in
set_option maxRecDepth 20000 in
theorem ok_X_night (g : ZG) (n : Nat) (a0 : Int32) (s : ZSt) : ZF g 4 y_X_night [.ref 1, .int a0] s (f_X_night n a0 s) (fun b => some (.int b.1)) (fun b => b.2) := by
  refine ZF.of (by decide +kernel) (Nat.le_of_ble_eq_true rfl) ?_
  unfold f_X_night
  show ZO g 4 y_X_night zu0 0 [(0, .ref 1), (1, .int a0)] [] s _ _
  refine ZO.aload_n (pc := 0) 0 d_X_night_0 rfl rfl ?_
  refine ZO.getA (pc := 1) 201 d_X_night_1 zo_1 zf_X_19 rfl rfl ?_
  refine ZO.iload_n (pc := 4) 1 d_X_night_4 rfl rfl ?_
  refine ZO.tVB (pc := 5) (As := [.int a0]) (rest := []) d_X_night_5 zc_X_218 (by decide) zo_201 rfl rfl rfl (Nat.le_of_ble_eq_true rfl) (ok_T_beyond g a0 s) ?_
  refine ZO.ifb_eq (pc := 8) 13 d_X_night_8 (by decide) rfl (fun h1 => ?_) (fun h1 => ?_)
  · refine ZO.iconst (pc := 11) (-1 : Int32) d_X_night_11 (by decide) ?_
    exact ZO.iret (pc := 12)  d_X_night_12 rfl rfl rfl
  · refine ZO.iconst (pc := 13) (0 : Int32) d_X_night_13 (by decide) ?_
    refine ZO.istore_n (pc := 14) (v := (0 : Int32)) (L' := [(0, .ref 1), (1, .int a0), (2, .int (0 : Int32))]) [1, 2, 0] d_X_night_14 rfl (by decide) rfl ?_
    refine ZO.loop (fun (x2 : Int32 × ZSt) => ([(0, .ref 1), (1, .int a0), (2, .int x2.1)] : List (Nat × Value))) (fun (x2 : Int32 × ZSt) => x2.2) [] (fun j3 x2 hj3 => ?_) rfl rfl rfl
    refine ZO.iload_n (pc := 15) 2 d_X_night_15 rfl rfl ?_
    refine ZO.iconst (pc := 16) (3 : Int32) d_X_night_16 (by decide) ?_
    refine ZO.icmp_ge (pc := 17) 64 d_X_night_17 (by decide) rfl (fun h4 => ?_) (fun h4 => ?_)
    · refine ZO.aload_n (pc := 64) 0 d_X_night_64 rfl rfl ?_
      refine ZO.getJ (pc := 65) d_X_night_65 zo_1 zf_X_115 rfl ?_
      refine ZO.tSI (pc := 68) (As := [.long (gl x2.2 1 8)]) (rest := []) d_X_night_68 zc_X_202 (by decide) rfl rfl (Nat.le_of_ble_eq_true rfl) (ok_X_anywhere g (gl x2.2 1 8) x2.2) ?_
      exact ZO.iret (pc := 71)  d_X_night_71 rfl rfl rfl
    · refine ZO.aload_n (pc := 20) 0 d_X_night_20 rfl rfl ?_
      refine ZO.aload_n (pc := 21) 0 d_X_night_21 rfl rfl ?_
      refine ZO.getJ (pc := 22) d_X_night_22 zo_1 zf_X_115 rfl ?_
      refine ZO.iload_n (pc := 25) 2 d_X_night_25 rfl rfl ?_
      refine ZO.aload_n (pc := 26) 0 d_X_night_26 rfl rfl ?_
      refine ZO.getJ (pc := 27) d_X_night_27 zo_1 zf_X_115 rfl ?_
      refine ZO.iload_n (pc := 30) 2 d_X_night_30 rfl rfl ?_
      refine ZO.tSI (pc := 31) (As := [.long (gl x2.2 1 8), .int x2.1]) (rest := [.int x2.1, .long (gl x2.2 1 8), .ref 1]) d_X_night_31 zc_X_178 (by decide) rfl rfl (Nat.le_of_ble_eq_true rfl) (ok_X_on g (gl x2.2 1 8) x2.1 x2.2) ?_
      refine ZO.iload_n (pc := 34) 1 d_X_night_34 rfl rfl ?_
      refine ZO.iand (pc := 35) d_X_night_35 ?_
      refine ZO.tSJ (pc := 36) (As := [.long (gl x2.2 1 8), .int x2.1, .int ((f_X_on (gl x2.2 1 8) x2.1) &&& a0)]) (rest := [.ref 1]) d_X_night_36 zc_X_221 (by decide) rfl rfl (Nat.le_of_ble_eq_true rfl) (ok_X_with g (gl x2.2 1 8) x2.1 ((f_X_on (gl x2.2 1 8) x2.1) &&& a0) x2.2) ?_
      refine ZO.putJ (pc := 39) d_X_night_39 zo_1 zp_X_115 rfl ?_
      refine ZO.ltS (fun s5 => ?_)
      refine ZO.aload_n (pc := 42) 0 d_X_night_42 rfl rfl ?_
      refine ZO.aload_n (pc := 43) 0 d_X_night_43 rfl rfl ?_
      refine ZO.getA (pc := 44) 201 d_X_night_44 zo_1 zf_X_19 rfl rfl ?_
      refine ZO.aload_n (pc := 47) 0 d_X_night_47 rfl rfl ?_
      refine ZO.getJ (pc := 48) d_X_night_48 zo_1 zf_X_115 rfl ?_
      refine ZO.iload_n (pc := 51) 2 d_X_night_51 rfl rfl ?_
      refine ZO.cVJ (pc := 52) (As := [.long (gl s5 1 8), .int x2.1]) (rest := [.ref 1]) d_X_night_52 zc_X_123 (by decide) zo_201 rfl rfl rfl (Nat.le_of_ble_eq_true rfl) (ok_T_settled g n (gl s5 1 8) x2.1 s5) (fun p6 ep6 => ?_)
      refine ZO.putJ (pc := 55) d_X_night_55 zo_1 zp_X_115 rfl ?_
      refine ZO.ltS (fun s7 => ?_)
      refine ZO.iincL (pc := 58) (i := 2) (x2.1 + (1 : Int32)) (L' := fun v8 => [(0, .ref 1), (1, .int a0), (2, .int v8)]) [1, 2, 0] d_X_night_58 rfl (by rfl) (by decide) (fun _ => rfl) (fun v8 => ?_)
      refine ZO.goto (pc := 61) 15 d_X_night_61 (by decide) ?_
      exact hj3 (v8, s7)
def f_X_spentBy (n : Nat) (a0 : Nat) (s : ZSt) : Option Int32 :=
  gd (z_isA 1 a0 12) (lpN (fun j2 (x1 : Int32 × Int32) =>
  (if (gi s 201 2) ≤ x1.2 then
    some x1.1
  else gd (inb x1.2 12) (
      (lt ((if (ai s a0 x1.2) < (gi s (z_ra 240 x1.2.toNatClampNeg) 3) then
      x1.1
    else (x1.1 ||| (shI (1 : Int32) x1.2))) : Int32) (fun x5 =>
        lt (x1.2 + (1 : Int32)) (fun v6 =>
          j2 (x5, v6))))))) n ((0 : Int32), (0 : Int32)))
set_option maxHeartbeats 4000000 in
set_option maxRecDepth 20000 in
theorem ok_X_spentBy (g : ZG) (n : Nat) (a0 : Nat) (s : ZSt) : ZF g 0 y_X_spentBy [.ref 1, .ref a0] s (f_X_spentBy n a0 s) (fun b => some (.int b)) (fun _ => s) := by
  refine ZF.of (by decide +kernel) (Nat.le_of_ble_eq_true rfl) ?_
  unfold f_X_spentBy
  show ZO g 0 y_X_spentBy zu0 0 [(0, .ref 1), (1, .ref a0)] [] s _ _
  refine ZO.rgd (fun ha0 => ?_)
  refine ZO.iconst (pc := 0) (0 : Int32) d_X_spentBy_0 (by decide) ?_
  refine ZO.istore_n (pc := 1) (v := (0 : Int32)) (L' := [(0, .ref 1), (1, .ref a0), (2, .int (0 : Int32))]) [1, 2, 0] d_X_spentBy_1 rfl (by decide) rfl ?_
  refine ZO.iconst (pc := 2) (0 : Int32) d_X_spentBy_2 (by decide) ?_
  refine ZO.istore_n (pc := 3) (v := (0 : Int32)) (L' := [(0, .ref 1), (1, .ref a0), (2, .int (0 : Int32)), (3, .int (0 : Int32))]) [1, 2, 3, 0] d_X_spentBy_3 rfl (by decide) rfl ?_
  refine ZO.loop (fun (x1 : Int32 × Int32) => ([(0, .ref 1), (1, .ref a0), (2, .int x1.1), (3, .int x1.2)] : List (Nat × Value))) (fun (x1 : Int32 × Int32) => s) [] (fun j2 x1 hj2 => ?_) rfl rfl rfl
  refine ZO.iload_n (pc := 4) 3 d_X_spentBy_4 rfl rfl ?_
  refine ZO.aload_n (pc := 5) 0 d_X_spentBy_5 rfl rfl ?_
  refine ZO.getA (pc := 6) 201 d_X_spentBy_6 zo_1 zf_X_19 rfl rfl ?_
  refine ZO.getI (pc := 9) d_X_spentBy_9 zo_201 zf_X_88 rfl ?_
  refine ZO.icmp_ge (pc := 12) 45 d_X_spentBy_12 (by decide) rfl (fun h3 => ?_) (fun h3 => ?_)
  · refine ZO.iload_n (pc := 45) 2 d_X_spentBy_45 rfl rfl ?_
    exact ZO.iret (pc := 46)  d_X_spentBy_46 rfl rfl rfl
  · refine ZO.aload_n (pc := 15) 1 d_X_spentBy_15 rfl rfl ?_
    refine ZO.iload_n (pc := 16) 3 d_X_spentBy_16 rfl rfl ?_
    refine ZO.rgd (fun h4 => ?_)
    refine ZO.iald (pc := 17) d_X_spentBy_17 ha0 h4 ?_
    refine ZO.aload_n (pc := 18) 0 d_X_spentBy_18 rfl rfl ?_
    refine ZO.getA (pc := 19) 201 d_X_spentBy_19 zo_1 zf_X_19 rfl rfl ?_
    refine ZO.getA (pc := 22) 240 d_X_spentBy_22 zo_201 zf_X_102 rfl rfl ?_
    refine ZO.iload_n (pc := 25) 3 d_X_spentBy_25 rfl rfl ?_
    refine ZO.aald (pc := 26) (q0 := 0) d_X_spentBy_26 (by decide) za_240 h4 ?_
    refine ZO.getI (pc := 27) d_X_spentBy_27 (zr_b h4) zf_X_138 rfl ?_
    refine ZO.phi (pcJ := 39) (LJ := fun (x5 : Int32) => ([(0, .ref 1), (1, .ref a0), (2, .int x5), (3, .int x1.2)] : List (Nat × Value))) (SJ := fun (x5 : Int32) => ([] : List Value)) (fun x5 => ?_) (fun t hj7 => ?_)
    · refine ZO.iincL (pc := 39) (i := 3) (x1.2 + (1 : Int32)) (L' := fun v6 => [(0, .ref 1), (1, .ref a0), (2, .int x5), (3, .int v6)]) [1, 2, 3, 0] d_X_spentBy_39 rfl (by rfl) (by decide) (fun _ => rfl) (fun v6 => ?_)
      refine ZO.goto (pc := 42) 4 d_X_spentBy_42 (by decide) ?_
      exact hj2 (x5, v6)
    · refine ZO.icmp_lt (pc := 30) 39 d_X_spentBy_30 (by decide) z_ite (fun h8 => ?_) (fun h8 => ?_)
      · exact hj7 x1.1 (by rw [if_pos h8])
      · refine ZO.iload_n (pc := 33) 2 d_X_spentBy_33 rfl rfl ?_
        refine ZO.iconst (pc := 34) (1 : Int32) d_X_spentBy_34 (by decide) ?_
        refine ZO.iload_n (pc := 35) 3 d_X_spentBy_35 rfl rfl ?_
        refine ZO.ishl (pc := 36) d_X_spentBy_36 ?_
        refine ZO.ior (pc := 37) d_X_spentBy_37 ?_
        refine ZO.istore_n (pc := 38) (v := (x1.1 ||| (shI (1 : Int32) x1.2))) (L' := [(0, .ref 1), (1, .ref a0), (2, .int (x1.1 ||| (shI (1 : Int32) x1.2))), (3, .int x1.2)]) [1, 2, 0, 3] d_X_spentBy_38 rfl (by decide) rfl ?_
        exact hj7 (x1.1 ||| (shI (1 : Int32) x1.2)) (by rw [if_neg h8])
def f_X_judge (n : Nat) (a0 : Int32) (a1 : Int32) (a2 : Int32) (s : ZSt) : Option (Int32 × ZSt) :=
  (if a0 < 0 then
  some ((-1 : Int32), s)
else (if a0 ≤ (8 : Int32) then
    lpN (fun j4 (x3 : Int32 × ZSt) =>
      (if (gi x3.2 201 2) ≤ x3.1 then
        lt (gl x3.2 1 8) (fun v6 =>
          jn (fun (x7 : Int64 × Int32 × ZSt) =>
          lt (si x7.2.2 1 13 (0 : Int32)) (fun s8 =>
            lpN (fun j10 (x9 : Int32 × ZSt) =>
            (if (3 : Int32) ≤ x9.1 then
              some (x7.2.1, x9.2)
            else bn (f_X_tell (f_X_on x7.1 x9.1) x9.2) (fun p12 =>
                lt (x9.1 + (1 : Int32)) (fun v13 =>
                j10 (v13, p12))))) n ((0 : Int32), s8))) (fun j14 =>
          lpN (fun j16 (x15 : Int64 × Int32 × Int32 × ZSt) =>
          (if a0 ≤ x15.2.2.1 then
            j14 (x15.1, x15.2.1, x15.2.2.2)
          else (if x15.2.1 = (-2 : Int32) then
              (lt ((if (4 : Int32) ≤ x15.2.2.1 then
                (usrI a2 ((8 : Int32) * (x15.2.2.1 - (4 : Int32))))
              else (usrI a1 ((8 : Int32) * x15.2.2.1))) : Int32) (fun x19 =>
                  lt (x19 &&& (255 : Int32)) (fun v20 =>
                    bn (f_X_spentBy n 216 x15.2.2.2) (fun p21 =>
                    bn (f_T_refusal n x15.1 p21 v20 x15.2.2.2) (fun p22 =>
                    (jn (fun (x23 : Int64 × Int32 × ZSt) =>
                      lt (x15.2.2.1 + (1 : Int32)) (fun v24 =>
                        j16 (x23.1, x23.2.1, v24, x23.2.2))) (fun j25 =>
                      if p22.1 = 0 then
                    (jn (fun (x27 : ZSt) =>
                        bn (f_T_after n x15.1 v20 x27) (fun p28 =>
                          j25 (p28.1, x15.2.1, p28.2))) (fun j29 =>
                        if (3 : Int32) ≤ (v20 / (20 : Int32)) then
                      j29 p22.2
                    else gd (inb (remI v20 (20 : Int32)) 12) (
                        lt (sai p22.2 216 (remI v20 (20 : Int32)) ((ai p22.2 216 (remI v20 (20 : Int32))) + (1 : Int32))) (fun s32 =>
                        j29 s32))))
                  else j25 (x15.1, x15.2.2.1, p22.2))))))))
            else j14 (x15.1, x15.2.1, x15.2.2.2)))) n (v6, (-2 : Int32), (0 : Int32), x3.2)))
      else gd (inb x3.1 12) (
          lt (sai x3.2 216 x3.1 (gi x3.2 (z_ra 240 x3.1.toNatClampNeg) 4)) (fun s36 =>
          lt (x3.1 + (1 : Int32)) (fun v37 =>
          j4 (v37, s36)))))) n ((0 : Int32), s)
  else some ((-1 : Int32), s)))
set_option maxHeartbeats 4000000 in
set_option maxRecDepth 20000 in
theorem ok_X_judge (g : ZG) (n : Nat) (a0 : Int32) (a1 : Int32) (a2 : Int32) (s : ZSt) : ZF g 5 y_X_judge [.ref 1, .int a0, .int a1, .int a2] s (f_X_judge n a0 a1 a2 s) (fun b => some (.int b.1)) (fun b => b.2) := by
  refine ZF.of (by decide +kernel) (Nat.le_of_ble_eq_true rfl) ?_
  unfold f_X_judge
  show ZO g 5 y_X_judge zu0 0 [(0, .ref 1), (1, .int a0), (2, .int a1), (3, .int a2)] [] s _ _
  refine ZO.iload_n (pc := 0) 1 d_X_judge_0 rfl rfl ?_
  refine ZO.if_lt (pc := 1) 10 d_X_judge_1 (by decide) rfl (fun h1 => ?_) (fun h1 => ?_)
  · refine ZO.iconst (pc := 10) (-1 : Int32) d_X_judge_10 (by decide) ?_
    exact ZO.iret (pc := 11)  d_X_judge_11 rfl rfl rfl
  · refine ZO.iload_n (pc := 4) 1 d_X_judge_4 rfl rfl ?_
    refine ZO.bipush (pc := 5) (8 : Int32) d_X_judge_5 (by decide) ?_
    refine ZO.icmp_le (pc := 7) 12 d_X_judge_7 (by decide) rfl (fun h2 => ?_) (fun h2 => ?_)
    · refine ZO.iconst (pc := 12) (0 : Int32) d_X_judge_12 (by decide) ?_
      refine ZO.istore (pc := 13) (v := (0 : Int32)) (L' := [(0, .ref 1), (1, .int a0), (2, .int a1), (3, .int a2), (4, .int (0 : Int32))]) [1, 2, 3, 4, 0] d_X_judge_13 (by decide) rfl ?_
      refine ZO.loop (fun (x3 : Int32 × ZSt) => ([(0, .ref 1), (1, .int a0), (2, .int a1), (3, .int a2), (4, .int x3.1)] : List (Nat × Value))) (fun (x3 : Int32 × ZSt) => x3.2) [] (fun j4 x3 hj4 => ?_) rfl rfl rfl
      refine ZO.iload (pc := 15) 4 d_X_judge_15 rfl ?_
      refine ZO.aload_n (pc := 17) 0 d_X_judge_17 rfl rfl ?_
      refine ZO.getA (pc := 18) 201 d_X_judge_18 zo_1 zf_X_19 rfl rfl ?_
      refine ZO.getI (pc := 21) d_X_judge_21 zo_201 zf_X_88 rfl ?_
      refine ZO.icmp_ge (pc := 24) 53 d_X_judge_24 (by decide) rfl (fun h5 => ?_) (fun h5 => ?_)
      · refine ZO.aload_n (pc := 53) 0 d_X_judge_53 rfl rfl ?_
        refine ZO.getJ (pc := 54) d_X_judge_54 zo_1 zf_X_115 rfl ?_
        refine ZO.ltJ (fun v6 => ?_)
        refine ZO.lstore (pc := 57) (v := v6) (L' := [(0, .ref 1), (1, .int a0), (2, .int a1), (3, .int a2), (4, .long v6)]) [1, 2, 3, 4, 0] d_X_judge_57 (by decide) rfl ?_
        refine ZO.bipush (pc := 59) (-2 : Int32) d_X_judge_59 (by decide) ?_
        refine ZO.istore (pc := 61) (v := (-2 : Int32)) (L' := [(0, .ref 1), (1, .int a0), (2, .int a1), (3, .int a2), (4, .long v6), (6, .int (-2 : Int32))]) [1, 2, 3, 4, 5, 0] d_X_judge_61 (by decide) rfl ?_
        refine ZO.iconst (pc := 63) (0 : Int32) d_X_judge_63 (by decide) ?_
        refine ZO.istore (pc := 64) (v := (0 : Int32)) (L' := [(0, .ref 1), (1, .int a0), (2, .int a1), (3, .int a2), (4, .long v6), (6, .int (-2 : Int32)), (7, .int (0 : Int32))]) [1, 2, 3, 4, 5, 6, 0] d_X_judge_64 (by decide) rfl ?_
        refine ZO.rjn (pcJ := 181) (LJ := fun (x7 : Int64 × Int32 × ZSt) => ([(0, .ref 1), (4, .long x7.1), (6, .int x7.2.1)] : List (Nat × Value))) (SJ := fun (x7 : Int64 × Int32 × ZSt) => ([] : List Value)) (σJ := fun (x7 : Int64 × Int32 × ZSt) => x7.2.2) (fun x7 => ?_) (fun j14 hj14 => ?_)
        · refine ZO.aload_n (pc := 181) 0 d_X_judge_181 rfl rfl ?_
          refine ZO.iconst (pc := 182) (0 : Int32) d_X_judge_182 (by decide) ?_
          refine ZO.putI (pc := 183) d_X_judge_183 zo_1 zp_X_209 rfl ?_
          refine ZO.ltS (fun s8 => ?_)
          refine ZO.iconst (pc := 186) (0 : Int32) d_X_judge_186 (by decide) ?_
          refine ZO.istore (pc := 187) (v := (0 : Int32)) (L' := [(0, .ref 1), (4, .long x7.1), (6, .int x7.2.1), (7, .int (0 : Int32))]) [1, 2, 3, 0] d_X_judge_187 (by decide) rfl ?_
          refine ZO.loop (fun (x9 : Int32 × ZSt) => ([(0, .ref 1), (4, .long x7.1), (6, .int x7.2.1), (7, .int x9.1)] : List (Nat × Value))) (fun (x9 : Int32 × ZSt) => x9.2) [] (fun j10 x9 hj10 => ?_) rfl rfl rfl
          refine ZO.iload (pc := 189) 3 d_X_judge_189 rfl ?_
          refine ZO.iconst (pc := 191) (3 : Int32) d_X_judge_191 (by decide) ?_
          refine ZO.icmp_ge (pc := 192) 212 d_X_judge_192 (by decide) rfl (fun h11 => ?_) (fun h11 => ?_)
          · refine ZO.iload (pc := 212) 2 d_X_judge_212 rfl ?_
            exact ZO.iret (pc := 214)  d_X_judge_214 rfl rfl rfl
          · refine ZO.aload_n (pc := 195) 0 d_X_judge_195 rfl rfl ?_
            refine ZO.lload (pc := 196) 1 d_X_judge_196 rfl ?_
            refine ZO.iload (pc := 198) 3 d_X_judge_198 rfl ?_
            refine ZO.tSI (pc := 200) (As := [.long x7.1, .int x9.1]) (rest := [.ref 1]) d_X_judge_200 zc_X_178 (by decide) rfl rfl (Nat.le_of_ble_eq_true rfl) (ok_X_on g x7.1 x9.1 x9.2) ?_
            refine ZO.cVV (pc := 203) (As := [.int (f_X_on x7.1 x9.1)]) (rest := []) d_X_judge_203 zc_X_215 (by decide) zo_1 rfl rfl rfl (Nat.le_of_ble_eq_true rfl) (ok_X_tell g (f_X_on x7.1 x9.1) x9.2) (fun p12 ep12 => ?_)
            refine ZO.iincL (pc := 206) (i := 3) (x9.1 + (1 : Int32)) (L' := fun v13 => [(0, .ref 1), (4, .long x7.1), (6, .int x7.2.1), (7, .int v13)]) [1, 2, 3, 0] d_X_judge_206 rfl (by rfl) (by decide) (fun _ => rfl) (fun v13 => ?_)
            refine ZO.goto (pc := 209) 189 d_X_judge_209 (by decide) ?_
            exact hj10 (v13, p12)
        · refine ZO.loop (fun (x15 : Int64 × Int32 × Int32 × ZSt) => ([(0, .ref 1), (1, .int a0), (2, .int a1), (3, .int a2), (4, .long x15.1), (6, .int x15.2.1), (7, .int x15.2.2.1)] : List (Nat × Value))) (fun (x15 : Int64 × Int32 × Int32 × ZSt) => x15.2.2.2) [] (fun j16 x15 hj16 => ?_) rfl rfl rfl
          refine ZO.iload (pc := 66) 6 d_X_judge_66 rfl ?_
          refine ZO.iload_n (pc := 68) 1 d_X_judge_68 rfl rfl ?_
          refine ZO.icmp_ge (pc := 69) 181 d_X_judge_69 (by decide) rfl (fun h17 => ?_) (fun h17 => ?_)
          · exact ZO.sub [0, 4, 5] rfl (hj14 (x15.1, x15.2.1, x15.2.2.2))
          · refine ZO.iload (pc := 72) 5 d_X_judge_72 rfl ?_
            refine ZO.bipush (pc := 74) (-2 : Int32) d_X_judge_74 (by decide) ?_
            refine ZO.icmp_ne (pc := 76) 181 d_X_judge_76 (by decide) rfl (fun h18 => ?_) (fun h18 => ?_)
            · refine ZO.iload (pc := 79) 6 d_X_judge_79 rfl ?_
              refine ZO.iconst (pc := 81) (4 : Int32) d_X_judge_81 (by decide) ?_
              refine ZO.phi (pcJ := 104) (LJ := fun (x19 : Int32) => ([(0, .ref 1), (1, .int a0), (2, .int a1), (3, .int a2), (4, .long x15.1), (6, .int x15.2.1), (7, .int x15.2.2.1)] : List (Nat × Value))) (SJ := fun (x19 : Int32) => ([.int x19] : List Value)) (fun x19 => ?_) (fun t hj33 => ?_)
              · refine ZO.sipush (pc := 104) (255 : Int32) d_X_judge_104 (by decide) ?_
                refine ZO.iand (pc := 107) d_X_judge_107 ?_
                refine ZO.ltI (fun v20 => ?_)
                refine ZO.istore (pc := 108) (v := v20) (L' := [(0, .ref 1), (1, .int a0), (2, .int a1), (3, .int a2), (4, .long x15.1), (6, .int x15.2.1), (7, .int x15.2.2.1), (8, .int v20)]) [1, 2, 3, 4, 5, 6, 7, 0] d_X_judge_108 (by decide) rfl ?_
                refine ZO.aload_n (pc := 110) 0 d_X_judge_110 rfl rfl ?_
                refine ZO.getA (pc := 111) 201 d_X_judge_111 zo_1 zf_X_19 rfl rfl ?_
                refine ZO.lload (pc := 114) 4 d_X_judge_114 rfl ?_
                refine ZO.aload_n (pc := 116) 0 d_X_judge_116 rfl rfl ?_
                refine ZO.aload_n (pc := 117) 0 d_X_judge_117 rfl rfl ?_
                refine ZO.getA (pc := 118) 216 d_X_judge_118 zo_1 zf_X_69 rfl rfl ?_
                refine ZO.cVI (pc := 121) (As := [.ref 216]) (rest := [.long x15.1, .ref 201]) d_X_judge_121 zc_X_225 (by decide) zo_1 rfl rfl rfl (Nat.le_of_ble_eq_true rfl) (ok_X_spentBy g n 216 x15.2.2.2) (fun p21 ep21 => ?_)
                refine ZO.iload (pc := 124) 7 d_X_judge_124 rfl ?_
                refine ZO.cVI (pc := 126) (As := [.long x15.1, .int p21, .int v20]) (rest := []) d_X_judge_126 zc_X_195 (by decide) zo_201 rfl rfl rfl (Nat.le_of_ble_eq_true rfl) (ok_T_refusal g n x15.1 p21 v20 x15.2.2.2) (fun p22 ep22 => ?_)
                refine ZO.rjn (pcJ := 175) (LJ := fun (x23 : Int64 × Int32 × ZSt) => ([(0, .ref 1), (1, .int a0), (2, .int a1), (3, .int a2), (4, .long x23.1), (6, .int x23.2.1), (7, .int x15.2.2.1)] : List (Nat × Value))) (SJ := fun (x23 : Int64 × Int32 × ZSt) => ([] : List Value)) (σJ := fun (x23 : Int64 × Int32 × ZSt) => x23.2.2) (fun x23 => ?_) (fun j25 hj25 => ?_)
                · refine ZO.iincL (pc := 175) (i := 6) (x15.2.2.1 + (1 : Int32)) (L' := fun v24 => [(0, .ref 1), (1, .int a0), (2, .int a1), (3, .int a2), (4, .long x23.1), (6, .int x23.2.1), (7, .int v24)]) [1, 2, 3, 4, 5, 6, 0] d_X_judge_175 rfl (by rfl) (by decide) (fun _ => rfl) (fun v24 => ?_)
                  refine ZO.goto (pc := 178) 66 d_X_judge_178 (by decide) ?_
                  exact hj16 (x23.1, x23.2.1, v24, x23.2.2)
                · refine ZO.if_eq (pc := 129) 139 d_X_judge_129 (by decide) rfl (fun h26 => ?_) (fun h26 => ?_)
                  · refine ZO.iload (pc := 139) 7 d_X_judge_139 rfl ?_
                    refine ZO.bipush (pc := 141) (20 : Int32) d_X_judge_141 (by decide) ?_
                    refine ZO.idiv (pc := 143) d_X_judge_143 (by decide) ?_
                    refine ZO.iconst (pc := 144) (3 : Int32) d_X_judge_144 (by decide) ?_
                    refine ZO.rjn (pcJ := 162) (LJ := fun (x27 : ZSt) => ([(0, .ref 1), (1, .int a0), (2, .int a1), (3, .int a2), (4, .long x15.1), (6, .int x15.2.1), (7, .int x15.2.2.1), (8, .int v20)] : List (Nat × Value))) (SJ := fun (x27 : ZSt) => ([] : List Value)) (σJ := fun (x27 : ZSt) => x27) (fun x27 => ?_) (fun j29 hj29 => ?_)
                    · refine ZO.aload_n (pc := 162) 0 d_X_judge_162 rfl rfl ?_
                      refine ZO.getA (pc := 163) 201 d_X_judge_163 zo_1 zf_X_19 rfl rfl ?_
                      refine ZO.lload (pc := 166) 4 d_X_judge_166 rfl ?_
                      refine ZO.iload (pc := 168) 7 d_X_judge_168 rfl ?_
                      refine ZO.cVJ (pc := 170) (As := [.long x15.1, .int v20]) (rest := []) d_X_judge_170 zc_X_206 (by decide) zo_201 rfl rfl rfl (Nat.le_of_ble_eq_true rfl) (ok_T_after g n x15.1 v20 x27) (fun p28 ep28 => ?_)
                      refine ZO.lstore (pc := 173) (v := p28.1) (L' := [(0, .ref 1), (1, .int a0), (2, .int a1), (3, .int a2), (4, .long p28.1), (6, .int x15.2.1), (7, .int x15.2.2.1), (8, .int v20)]) [1, 2, 3, 4, 0, 5, 6, 7] d_X_judge_173 (by decide) rfl ?_
                      exact ZO.sub [0, 1, 2, 3, 4, 5, 6] rfl (hj25 (p28.1, x15.2.1, p28.2))
                    · refine ZO.icmp_ge (pc := 145) 162 d_X_judge_145 (by decide) rfl (fun h30 => ?_) (fun h30 => ?_)
                      · exact hj29 p22.2
                      · refine ZO.aload_n (pc := 148) 0 d_X_judge_148 rfl rfl ?_
                        refine ZO.getA (pc := 149) 216 d_X_judge_149 zo_1 zf_X_69 rfl rfl ?_
                        refine ZO.iload (pc := 152) 7 d_X_judge_152 rfl ?_
                        refine ZO.bipush (pc := 154) (20 : Int32) d_X_judge_154 (by decide) ?_
                        refine ZO.irem (pc := 156) d_X_judge_156 (by decide) ?_
                        refine ZO.dup2 (pc := 157) d_X_judge_157 rfl rfl ?_
                        refine ZO.rgd (fun h31 => ?_)
                        refine ZO.iald (pc := 158) d_X_judge_158 za_216 h31 ?_
                        refine ZO.iconst (pc := 159) (1 : Int32) d_X_judge_159 (by decide) ?_
                        refine ZO.iadd (pc := 160) d_X_judge_160 ?_
                        refine ZO.iast (pc := 161) d_X_judge_161 za_216 h31 ?_
                        refine ZO.ltS (fun s32 => ?_)
                        exact hj29 s32
                  · refine ZO.iload (pc := 132) 6 d_X_judge_132 rfl ?_
                    refine ZO.istore (pc := 134) (v := x15.2.2.1) (L' := [(0, .ref 1), (1, .int a0), (2, .int a1), (3, .int a2), (4, .long x15.1), (6, .int x15.2.2.1), (7, .int x15.2.2.1), (8, .int v20)]) [1, 2, 3, 4, 5, 0, 6, 7] d_X_judge_134 (by decide) rfl ?_
                    refine ZO.goto (pc := 136) 175 d_X_judge_136 (by decide) ?_
                    exact ZO.sub [0, 1, 2, 3, 4, 5, 6] rfl (hj25 (x15.1, x15.2.2.1, p22.2))
              · refine ZO.icmp_ge (pc := 82) 95 d_X_judge_82 (by decide) z_ite (fun h34 => ?_) (fun h34 => ?_)
                · refine ZO.iload_n (pc := 95) 3 d_X_judge_95 rfl rfl ?_
                  refine ZO.bipush (pc := 96) (8 : Int32) d_X_judge_96 (by decide) ?_
                  refine ZO.iload (pc := 98) 6 d_X_judge_98 rfl ?_
                  refine ZO.iconst (pc := 100) (4 : Int32) d_X_judge_100 (by decide) ?_
                  refine ZO.isub (pc := 101) d_X_judge_101 ?_
                  refine ZO.imul (pc := 102) d_X_judge_102 ?_
                  refine ZO.iushr (pc := 103) d_X_judge_103 ?_
                  exact hj33 (usrI a2 ((8 : Int32) * (x15.2.2.1 - (4 : Int32)))) (by rw [if_pos h34])
                · refine ZO.iload_n (pc := 85) 2 d_X_judge_85 rfl rfl ?_
                  refine ZO.bipush (pc := 86) (8 : Int32) d_X_judge_86 (by decide) ?_
                  refine ZO.iload (pc := 88) 6 d_X_judge_88 rfl ?_
                  refine ZO.imul (pc := 90) d_X_judge_90 ?_
                  refine ZO.iushr (pc := 91) d_X_judge_91 ?_
                  refine ZO.goto (pc := 92) 104 d_X_judge_92 (by decide) ?_
                  exact hj33 (usrI a1 ((8 : Int32) * x15.2.2.1)) (by rw [if_neg h34])
            · exact ZO.sub [0, 4, 5] rfl (hj14 (x15.1, x15.2.1, x15.2.2.2))
      · refine ZO.aload_n (pc := 27) 0 d_X_judge_27 rfl rfl ?_
        refine ZO.getA (pc := 28) 216 d_X_judge_28 zo_1 zf_X_69 rfl rfl ?_
        refine ZO.iload (pc := 31) 4 d_X_judge_31 rfl ?_
        refine ZO.aload_n (pc := 33) 0 d_X_judge_33 rfl rfl ?_
        refine ZO.getA (pc := 34) 201 d_X_judge_34 zo_1 zf_X_19 rfl rfl ?_
        refine ZO.getA (pc := 37) 240 d_X_judge_37 zo_201 zf_X_102 rfl rfl ?_
        refine ZO.iload (pc := 40) 4 d_X_judge_40 rfl ?_
        refine ZO.rgd (fun h35 => ?_)
        refine ZO.aald (pc := 42) (q0 := 0) d_X_judge_42 (by decide) za_240 h35 ?_
        refine ZO.getI (pc := 43) d_X_judge_43 (zr_b h35) zf_X_166 rfl ?_
        refine ZO.iast (pc := 46) d_X_judge_46 za_216 h35 ?_
        refine ZO.ltS (fun s36 => ?_)
        refine ZO.iincL (pc := 47) (i := 4) (x3.1 + (1 : Int32)) (L' := fun v37 => [(0, .ref 1), (1, .int a0), (2, .int a1), (3, .int a2), (4, .int v37)]) [1, 2, 3, 4, 0] d_X_judge_47 rfl (by rfl) (by decide) (fun _ => rfl) (fun v37 => ?_)
        refine ZO.goto (pc := 50) 15 d_X_judge_50 (by decide) ?_
        exact hj4 (v37, s36)
    · refine ZO.iconst (pc := 10) (-1 : Int32) d_X_judge_10 (by decide) ?_
      exact ZO.iret (pc := 11)  d_X_judge_11 rfl rfl rfl
def f_X_reader (a0 : Int32) (a1 : Int32) (s : ZSt) : Option (Int32 × ZSt) :=
  (if (f_X_isTable a0) = true then
  (if (f_T_beyond a1 s) = true then
    some ((-1 : Int32), s)
  else (if (gi s 1 7) < (6 : Int32) then
      gd (inb (gi s 1 7) 6) (
        bn (f_R_begin (z_ra 205 (gi s 1 7).toNatClampNeg) a0 a1 s) (fun p5 =>
        lt (si p5 1 7 ((gi p5 1 7) + (1 : Int32))) (fun s6 =>
        some (((gi s6 1 7) - (1 : Int32)), s6))))
    else some ((-1 : Int32), s)))
else some ((-1 : Int32), s))
set_option maxHeartbeats 4000000 in
set_option maxRecDepth 20000 in
theorem ok_X_reader (g : ZG) (a0 : Int32) (a1 : Int32) (s : ZSt) : ZF g 1 y_X_reader [.ref 1, .int a0, .int a1] s (f_X_reader a0 a1 s) (fun b => some (.int b.1)) (fun b => b.2) := by
  refine ZF.of (by decide +kernel) (Nat.le_of_ble_eq_true rfl) ?_
  unfold f_X_reader
  show ZO g 1 y_X_reader zu0 0 [(0, .ref 1), (1, .int a0), (2, .int a1)] [] s _ _
  refine ZO.iload_n (pc := 0) 1 d_X_reader_0 rfl rfl ?_
  refine ZO.tSB (pc := 1) (As := [.int a0]) (rest := []) d_X_reader_1 zc_X_141 (by decide) rfl rfl (Nat.le_of_ble_eq_true rfl) (ok_X_isTable g a0 s) ?_
  refine ZO.ifb_eq (pc := 4) 27 d_X_reader_4 (by decide) rfl (fun h1 => ?_) (fun h1 => ?_)
  · refine ZO.aload_n (pc := 7) 0 d_X_reader_7 rfl rfl ?_
    refine ZO.getA (pc := 8) 201 d_X_reader_8 zo_1 zf_X_19 rfl rfl ?_
    refine ZO.iload_n (pc := 11) 2 d_X_reader_11 rfl rfl ?_
    refine ZO.tVB (pc := 12) (As := [.int a1]) (rest := []) d_X_reader_12 zc_X_218 (by decide) zo_201 rfl rfl rfl (Nat.le_of_ble_eq_true rfl) (ok_T_beyond g a1 s) ?_
    refine ZO.ifb_ne (pc := 15) 27 d_X_reader_15 (by decide) rfl (fun h2 => ?_) (fun h2 => ?_)
    · refine ZO.iconst (pc := 27) (-1 : Int32) d_X_reader_27 (by decide) ?_
      exact ZO.iret (pc := 28)  d_X_reader_28 rfl rfl rfl
    · refine ZO.aload_n (pc := 18) 0 d_X_reader_18 rfl rfl ?_
      refine ZO.getI (pc := 19) d_X_reader_19 zo_1 zf_X_229 rfl ?_
      refine ZO.bipush (pc := 22) (6 : Int32) d_X_reader_22 (by decide) ?_
      refine ZO.icmp_lt (pc := 24) 29 d_X_reader_24 (by decide) rfl (fun h3 => ?_) (fun h3 => ?_)
      · refine ZO.aload_n (pc := 29) 0 d_X_reader_29 rfl rfl ?_
        refine ZO.getA (pc := 30) 205 d_X_reader_30 zo_1 zf_X_46 rfl rfl ?_
        refine ZO.aload_n (pc := 33) 0 d_X_reader_33 rfl rfl ?_
        refine ZO.getI (pc := 34) d_X_reader_34 zo_1 zf_X_229 rfl ?_
        refine ZO.rgd (fun h4 => ?_)
        refine ZO.aald (pc := 37) (q0 := 1) d_X_reader_37 (by decide) za_205 h4 ?_
        refine ZO.iload_n (pc := 38) 1 d_X_reader_38 rfl rfl ?_
        refine ZO.iload_n (pc := 39) 2 d_X_reader_39 rfl rfl ?_
        refine ZO.cVV (pc := 40) (As := [.int a0, .int a1]) (rest := []) d_X_reader_40 zc_X_232 (by decide) (zr_r h4) rfl rfl rfl (Nat.le_of_ble_eq_true rfl) (ok_R_begin g (z_ra 205 (gi s 1 7).toNatClampNeg) a0 a1 s) (fun p5 ep5 => ?_)
        refine ZO.aload_n (pc := 43) 0 d_X_reader_43 rfl rfl ?_
        refine ZO.dup (pc := 44) d_X_reader_44 rfl ?_
        refine ZO.getI (pc := 45) d_X_reader_45 zo_1 zf_X_229 rfl ?_
        refine ZO.iconst (pc := 48) (1 : Int32) d_X_reader_48 (by decide) ?_
        refine ZO.iadd (pc := 49) d_X_reader_49 ?_
        refine ZO.putI (pc := 50) d_X_reader_50 zo_1 zp_X_229 rfl ?_
        refine ZO.ltS (fun s6 => ?_)
        refine ZO.aload_n (pc := 53) 0 d_X_reader_53 rfl rfl ?_
        refine ZO.getI (pc := 54) d_X_reader_54 zo_1 zf_X_229 rfl ?_
        refine ZO.iconst (pc := 57) (1 : Int32) d_X_reader_57 (by decide) ?_
        refine ZO.isub (pc := 58) d_X_reader_58 ?_
        exact ZO.iret (pc := 59)  d_X_reader_59 rfl rfl rfl
      · refine ZO.iconst (pc := 27) (-1 : Int32) d_X_reader_27 (by decide) ?_
        exact ZO.iret (pc := 28)  d_X_reader_28 rfl rfl rfl
  · refine ZO.iconst (pc := 27) (-1 : Int32) d_X_reader_27 (by decide) ?_
    exact ZO.iret (pc := 28)  d_X_reader_28 rfl rfl rfl
def f_X_isReader (a0 : Int32) (s : ZSt) : Bool :=
  (if a0 < 0 then
  false
else (if (gi s 1 7) ≤ a0 then
    false
  else true))
set_option maxHeartbeats 4000000 in
set_option maxRecDepth 20000 in
theorem ok_X_isReader (g : ZG) (a0 : Int32) (s : ZSt) : ZF g 0 y_X_isReader [.ref 1, .int a0] s (some (f_X_isReader a0 s)) (fun b => some (.int (b2i b))) (fun _ => s) := by
  refine ZF.of (by decide +kernel) (Nat.le_of_ble_eq_true rfl) ?_
  unfold f_X_isReader
  show ZO g 0 y_X_isReader zu0 0 [(0, .ref 1), (1, .int a0)] [] s _ _
  refine ZO.iload_n (pc := 0) 1 d_X_isReader_0 rfl rfl ?_
  refine ZO.if_lt (pc := 1) 16 d_X_isReader_1 (by decide) z_some (fun h1 => ?_) (fun h1 => ?_)
  · refine ZO.iconst (pc := 16) (0 : Int32) d_X_isReader_16 (by decide) ?_
    exact ZO.zret (pc := 17) (v := false) d_X_isReader_17 rfl rfl rfl
  · refine ZO.iload_n (pc := 4) 1 d_X_isReader_4 rfl rfl ?_
    refine ZO.aload_n (pc := 5) 0 d_X_isReader_5 rfl rfl ?_
    refine ZO.getI (pc := 6) d_X_isReader_6 zo_1 zf_X_229 rfl ?_
    refine ZO.icmp_ge (pc := 9) 16 d_X_isReader_9 (by decide) z_some (fun h2 => ?_) (fun h2 => ?_)
    · refine ZO.iconst (pc := 16) (0 : Int32) d_X_isReader_16 (by decide) ?_
      exact ZO.zret (pc := 17) (v := false) d_X_isReader_17 rfl rfl rfl
    · refine ZO.iconst (pc := 12) (1 : Int32) d_X_isReader_12 (by decide) ?_
      refine ZO.goto (pc := 13) 17 d_X_isReader_13 (by decide) ?_
      exact ZO.zret (pc := 17) (v := true) d_X_isReader_17 rfl rfl rfl
def f_X_sit (a0 : Int32) (a1 : Int32) (s : ZSt) : Option (Int32 × ZSt) :=
  (if (f_X_isReader a0 s) = true then
  (if (f_X_isTable a1) = true then
    gd (inb a0 6) (
      lt (gi s (z_ra 205 a0.toNatClampNeg) 1) (fun v4 =>
      lt (si s (z_ra 205 a0.toNatClampNeg) 1 a1) (fun s5 =>
      some (v4, s5))))
  else some ((-1 : Int32), s))
else some ((-1 : Int32), s))
set_option maxHeartbeats 4000000 in
set_option maxRecDepth 20000 in
theorem ok_X_sit (g : ZG) (a0 : Int32) (a1 : Int32) (s : ZSt) : ZF g 1 y_X_sit [.ref 1, .int a0, .int a1] s (f_X_sit a0 a1 s) (fun b => some (.int b.1)) (fun b => b.2) := by
  refine ZF.of (by decide +kernel) (Nat.le_of_ble_eq_true rfl) ?_
  unfold f_X_sit
  show ZO g 1 y_X_sit zu0 0 [(0, .ref 1), (1, .int a0), (2, .int a1)] [] s _ _
  refine ZO.aload_n (pc := 0) 0 d_X_sit_0 rfl rfl ?_
  refine ZO.iload_n (pc := 1) 1 d_X_sit_1 rfl rfl ?_
  refine ZO.tVB (pc := 2) (As := [.int a0]) (rest := []) d_X_sit_2 zc_X_236 (by decide) zo_1 rfl rfl rfl (Nat.le_of_ble_eq_true rfl) (ok_X_isReader g a0 s) ?_
  refine ZO.ifb_eq (pc := 5) 15 d_X_sit_5 (by decide) rfl (fun h1 => ?_) (fun h1 => ?_)
  · refine ZO.iload_n (pc := 8) 2 d_X_sit_8 rfl rfl ?_
    refine ZO.tSB (pc := 9) (As := [.int a1]) (rest := []) d_X_sit_9 zc_X_141 (by decide) rfl rfl (Nat.le_of_ble_eq_true rfl) (ok_X_isTable g a1 s) ?_
    refine ZO.ifb_ne (pc := 12) 17 d_X_sit_12 (by decide) rfl (fun h2 => ?_) (fun h2 => ?_)
    · refine ZO.aload_n (pc := 17) 0 d_X_sit_17 rfl rfl ?_
      refine ZO.getA (pc := 18) 205 d_X_sit_18 zo_1 zf_X_46 rfl rfl ?_
      refine ZO.iload_n (pc := 21) 1 d_X_sit_21 rfl rfl ?_
      refine ZO.rgd (fun h3 => ?_)
      refine ZO.aald (pc := 22) (q0 := 1) d_X_sit_22 (by decide) za_205 h3 ?_
      refine ZO.getI (pc := 23) d_X_sit_23 (zr_r h3) zf_X_239 rfl ?_
      refine ZO.ltI (fun v4 => ?_)
      refine ZO.istore_n (pc := 26) (v := v4) (L' := [(0, .ref 1), (1, .int a0), (2, .int a1), (3, .int v4)]) [1, 2, 3, 0] d_X_sit_26 rfl (by decide) rfl ?_
      refine ZO.aload_n (pc := 27) 0 d_X_sit_27 rfl rfl ?_
      refine ZO.getA (pc := 28) 205 d_X_sit_28 zo_1 zf_X_46 rfl rfl ?_
      refine ZO.iload_n (pc := 31) 1 d_X_sit_31 rfl rfl ?_
      refine ZO.aald (pc := 32) (q0 := 1) d_X_sit_32 (by decide) za_205 h3 ?_
      refine ZO.iload_n (pc := 33) 2 d_X_sit_33 rfl rfl ?_
      refine ZO.putI (pc := 34) d_X_sit_34 (zr_r h3) zp_X_239 rfl ?_
      refine ZO.ltS (fun s5 => ?_)
      refine ZO.iload_n (pc := 37) 3 d_X_sit_37 rfl rfl ?_
      exact ZO.iret (pc := 38)  d_X_sit_38 rfl rfl rfl
    · refine ZO.iconst (pc := 15) (-1 : Int32) d_X_sit_15 (by decide) ?_
      exact ZO.iret (pc := 16)  d_X_sit_16 rfl rfl rfl
  · refine ZO.iconst (pc := 15) (-1 : Int32) d_X_sit_15 (by decide) ?_
    exact ZO.iret (pc := 16)  d_X_sit_16 rfl rfl rfl
def f_X_finishBook (n : Nat) (a0 : Nat) (a1 : Int32) (s : ZSt) : Option ZSt :=
  gd (z_isO a0 3) ((jn (fun (x1 : ZSt) =>
    bn (f_T_settled n (gl x1 1 8) (gi x1 a0 1) x1) (fun p2 =>
      lt (sl p2.2 1 8 p2.1) (fun s3 =>
      some s3))) (fun j4 =>
    if ((srI (gi s a0 3) a1) &&& (1 : Int32)) = 0 then
  lt (si s a0 3 ((gi s a0 3) ||| (shI (1 : Int32) a1))) (fun s6 =>
    gd (inb a1 12) (
    lt (si s6 (z_ra 240 a1.toNatClampNeg) 5 ((gi s6 (z_ra 240 a1.toNatClampNeg) 5) + (1 : Int32))) (fun s8 =>
    bn (f_T_forget s8) (fun p9 =>
    j4 p9))))
else j4 s)))
set_option maxHeartbeats 4000000 in
set_option maxRecDepth 20000 in
theorem ok_X_finishBook (g : ZG) (n : Nat) (a0 : Nat) (a1 : Int32) (s : ZSt) : ZF g 4 y_X_finishBook [.ref 1, .ref a0, .int a1] s (f_X_finishBook n a0 a1 s) (fun _ => none) (fun b => b) := by
  refine ZF.of (by decide +kernel) (Nat.le_of_ble_eq_true rfl) ?_
  unfold f_X_finishBook
  show ZO g 4 y_X_finishBook zu0 0 [(0, .ref 1), (1, .ref a0), (2, .int a1)] [] s _ _
  refine ZO.rgd (fun ha0 => ?_)
  refine ZO.aload_n (pc := 0) 1 d_X_finishBook_0 rfl rfl ?_
  refine ZO.getI (pc := 1) d_X_finishBook_1 ha0 zf_X_246 rfl ?_
  refine ZO.iload_n (pc := 4) 2 d_X_finishBook_4 rfl rfl ?_
  refine ZO.ishr (pc := 5) d_X_finishBook_5 ?_
  refine ZO.iconst (pc := 6) (1 : Int32) d_X_finishBook_6 (by decide) ?_
  refine ZO.iand (pc := 7) d_X_finishBook_7 ?_
  refine ZO.rjn (pcJ := 48) (LJ := fun (x1 : ZSt) => ([(0, .ref 1), (1, .ref a0)] : List (Nat × Value))) (SJ := fun (x1 : ZSt) => ([] : List Value)) (σJ := fun (x1 : ZSt) => x1) (fun x1 => ?_) (fun j4 hj4 => ?_)
  · refine ZO.aload_n (pc := 48) 0 d_X_finishBook_48 rfl rfl ?_
    refine ZO.aload_n (pc := 49) 0 d_X_finishBook_49 rfl rfl ?_
    refine ZO.getA (pc := 50) 201 d_X_finishBook_50 zo_1 zf_X_19 rfl rfl ?_
    refine ZO.aload_n (pc := 53) 0 d_X_finishBook_53 rfl rfl ?_
    refine ZO.getJ (pc := 54) d_X_finishBook_54 zo_1 zf_X_115 rfl ?_
    refine ZO.aload_n (pc := 57) 1 d_X_finishBook_57 rfl rfl ?_
    refine ZO.getI (pc := 58) d_X_finishBook_58 ha0 zf_X_239 rfl ?_
    refine ZO.cVJ (pc := 61) (As := [.long (gl x1 1 8), .int (gi x1 a0 1)]) (rest := [.ref 1]) d_X_finishBook_61 zc_X_123 (by decide) zo_201 rfl rfl rfl (Nat.le_of_ble_eq_true rfl) (ok_T_settled g n (gl x1 1 8) (gi x1 a0 1) x1) (fun p2 ep2 => ?_)
    refine ZO.putJ (pc := 64) d_X_finishBook_64 zo_1 zp_X_115 rfl ?_
    refine ZO.ltS (fun s3 => ?_)
    exact ZO.vret (pc := 67) d_X_finishBook_67 rfl rfl rfl
  · refine ZO.if_ne (pc := 8) 48 d_X_finishBook_8 (by decide) rfl (fun h5 => ?_) (fun h5 => ?_)
    · refine ZO.aload_n (pc := 11) 1 d_X_finishBook_11 rfl rfl ?_
      refine ZO.dup (pc := 12) d_X_finishBook_12 rfl ?_
      refine ZO.getI (pc := 13) d_X_finishBook_13 ha0 zf_X_246 rfl ?_
      refine ZO.iconst (pc := 16) (1 : Int32) d_X_finishBook_16 (by decide) ?_
      refine ZO.iload_n (pc := 17) 2 d_X_finishBook_17 rfl rfl ?_
      refine ZO.ishl (pc := 18) d_X_finishBook_18 ?_
      refine ZO.ior (pc := 19) d_X_finishBook_19 ?_
      refine ZO.putI (pc := 20) d_X_finishBook_20 ha0 zp_X_246 rfl ?_
      refine ZO.ltS (fun s6 => ?_)
      refine ZO.aload_n (pc := 23) 0 d_X_finishBook_23 rfl rfl ?_
      refine ZO.getA (pc := 24) 201 d_X_finishBook_24 zo_1 zf_X_19 rfl rfl ?_
      refine ZO.getA (pc := 27) 240 d_X_finishBook_27 zo_201 zf_X_102 rfl rfl ?_
      refine ZO.iload_n (pc := 30) 2 d_X_finishBook_30 rfl rfl ?_
      refine ZO.rgd (fun h7 => ?_)
      refine ZO.aald (pc := 31) (q0 := 0) d_X_finishBook_31 (by decide) za_240 h7 ?_
      refine ZO.dup (pc := 32) d_X_finishBook_32 rfl ?_
      refine ZO.getI (pc := 33) d_X_finishBook_33 (zr_b h7) zf_X_169 rfl ?_
      refine ZO.iconst (pc := 36) (1 : Int32) d_X_finishBook_36 (by decide) ?_
      refine ZO.iadd (pc := 37) d_X_finishBook_37 ?_
      refine ZO.putI (pc := 38) d_X_finishBook_38 (zr_b h7) zp_X_169 rfl ?_
      refine ZO.ltS (fun s8 => ?_)
      refine ZO.aload_n (pc := 41) 0 d_X_finishBook_41 rfl rfl ?_
      refine ZO.getA (pc := 42) 201 d_X_finishBook_42 zo_1 zf_X_19 rfl rfl ?_
      refine ZO.cVV (pc := 45) (As := []) (rest := []) d_X_finishBook_45 zc_X_112 (by decide) zo_201 rfl rfl rfl (Nat.le_of_ble_eq_true rfl) (ok_T_forget g s8) (fun p9 ep9 => ?_)
      exact ZO.sub [0, 1] rfl (hj4 p9)
    · exact ZO.sub [0, 1] rfl (hj4 s)
def f_X_read (n : Nat) (a0 : Int32) (a1 : Int32) (s : ZSt) : Option (Int32 × ZSt) :=
  (if (f_X_isReader a0 s) = true then
  (if (f_T_has a1 s) = true then
    gd (inb a0 6) (
      (if ((srI (f_X_on (gl s 1 8) (gi s (z_ra 205 a0.toNatClampNeg) 1)) a1) &&& (1 : Int32)) = 0 then
      some ((-2 : Int32), s)
    else bn (f_X_finishBook n (z_ra 205 a0.toNatClampNeg) a1 s) (fun p5 =>
        gd (inb a1 12) (
        some ((gi p5 (z_ra 240 a1.toNatClampNeg) 5), p5)))))
  else some ((-1 : Int32), s))
else some ((-1 : Int32), s))
set_option maxHeartbeats 4000000 in
set_option maxRecDepth 20000 in
theorem ok_X_read (g : ZG) (n : Nat) (a0 : Int32) (a1 : Int32) (s : ZSt) : ZF g 5 y_X_read [.ref 1, .int a0, .int a1] s (f_X_read n a0 a1 s) (fun b => some (.int b.1)) (fun b => b.2) := by
  refine ZF.of (by decide +kernel) (Nat.le_of_ble_eq_true rfl) ?_
  unfold f_X_read
  show ZO g 5 y_X_read zu0 0 [(0, .ref 1), (1, .int a0), (2, .int a1)] [] s _ _
  refine ZO.aload_n (pc := 0) 0 d_X_read_0 rfl rfl ?_
  refine ZO.iload_n (pc := 1) 1 d_X_read_1 rfl rfl ?_
  refine ZO.tVB (pc := 2) (As := [.int a0]) (rest := []) d_X_read_2 zc_X_236 (by decide) zo_1 rfl rfl rfl (Nat.le_of_ble_eq_true rfl) (ok_X_isReader g a0 s) ?_
  refine ZO.ifb_eq (pc := 5) 19 d_X_read_5 (by decide) rfl (fun h1 => ?_) (fun h1 => ?_)
  · refine ZO.aload_n (pc := 8) 0 d_X_read_8 rfl rfl ?_
    refine ZO.getA (pc := 9) 201 d_X_read_9 zo_1 zf_X_19 rfl rfl ?_
    refine ZO.iload_n (pc := 12) 2 d_X_read_12 rfl rfl ?_
    refine ZO.tVB (pc := 13) (As := [.int a1]) (rest := []) d_X_read_13 zc_X_92 (by decide) zo_201 rfl rfl rfl (Nat.le_of_ble_eq_true rfl) (ok_T_has g a1 s) ?_
    refine ZO.ifb_ne (pc := 16) 21 d_X_read_16 (by decide) rfl (fun h2 => ?_) (fun h2 => ?_)
    · refine ZO.aload_n (pc := 21) 0 d_X_read_21 rfl rfl ?_
      refine ZO.getJ (pc := 22) d_X_read_22 zo_1 zf_X_115 rfl ?_
      refine ZO.aload_n (pc := 25) 0 d_X_read_25 rfl rfl ?_
      refine ZO.getA (pc := 26) 205 d_X_read_26 zo_1 zf_X_46 rfl rfl ?_
      refine ZO.iload_n (pc := 29) 1 d_X_read_29 rfl rfl ?_
      refine ZO.rgd (fun h3 => ?_)
      refine ZO.aald (pc := 30) (q0 := 1) d_X_read_30 (by decide) za_205 h3 ?_
      refine ZO.getI (pc := 31) d_X_read_31 (zr_r h3) zf_X_239 rfl ?_
      refine ZO.tSI (pc := 34) (As := [.long (gl s 1 8), .int (gi s (z_ra 205 a0.toNatClampNeg) 1)]) (rest := []) d_X_read_34 zc_X_178 (by decide) rfl rfl (Nat.le_of_ble_eq_true rfl) (ok_X_on g (gl s 1 8) (gi s (z_ra 205 a0.toNatClampNeg) 1) s) ?_
      refine ZO.iload_n (pc := 37) 2 d_X_read_37 rfl rfl ?_
      refine ZO.ishr (pc := 38) d_X_read_38 ?_
      refine ZO.iconst (pc := 39) (1 : Int32) d_X_read_39 (by decide) ?_
      refine ZO.iand (pc := 40) d_X_read_40 ?_
      refine ZO.if_ne (pc := 41) 47 d_X_read_41 (by decide) rfl (fun h4 => ?_) (fun h4 => ?_)
      · refine ZO.bipush (pc := 44) (-2 : Int32) d_X_read_44 (by decide) ?_
        exact ZO.iret (pc := 46)  d_X_read_46 rfl rfl rfl
      · refine ZO.aload_n (pc := 47) 0 d_X_read_47 rfl rfl ?_
        refine ZO.aload_n (pc := 48) 0 d_X_read_48 rfl rfl ?_
        refine ZO.getA (pc := 49) 205 d_X_read_49 zo_1 zf_X_46 rfl rfl ?_
        refine ZO.iload_n (pc := 52) 1 d_X_read_52 rfl rfl ?_
        refine ZO.aald (pc := 53) (q0 := 1) d_X_read_53 (by decide) za_205 h3 ?_
        refine ZO.iload_n (pc := 54) 2 d_X_read_54 rfl rfl ?_
        refine ZO.cVV (pc := 55) (As := [.ref (z_ra 205 a0.toNatClampNeg), .int a1]) (rest := []) d_X_read_55 zc_X_242 (by decide) zo_1 rfl rfl rfl (Nat.le_of_ble_eq_true rfl) (ok_X_finishBook g n (z_ra 205 a0.toNatClampNeg) a1 s) (fun p5 ep5 => ?_)
        refine ZO.aload_n (pc := 58) 0 d_X_read_58 rfl rfl ?_
        refine ZO.getA (pc := 59) 201 d_X_read_59 zo_1 zf_X_19 rfl rfl ?_
        refine ZO.getA (pc := 62) 240 d_X_read_62 zo_201 zf_X_102 rfl rfl ?_
        refine ZO.iload_n (pc := 65) 2 d_X_read_65 rfl rfl ?_
        refine ZO.rgd (fun h6 => ?_)
        refine ZO.aald (pc := 66) (q0 := 0) d_X_read_66 (by decide) za_240 h6 ?_
        refine ZO.getI (pc := 67) d_X_read_67 (zr_b h6) zf_X_169 rfl ?_
        exact ZO.iret (pc := 70)  d_X_read_70 rfl rfl rfl
    · refine ZO.iconst (pc := 19) (-1 : Int32) d_X_read_19 (by decide) ?_
      exact ZO.iret (pc := 20)  d_X_read_20 rfl rfl rfl
  · refine ZO.iconst (pc := 19) (-1 : Int32) d_X_read_19 (by decide) ?_
    exact ZO.iret (pc := 20)  d_X_read_20 rfl rfl rfl
def f_X_of (a0 : Int32) (a1 : Int32) (s : ZSt) : Option (Option Int32 × Nat × ZSt) :=
  (if (f_X_isReader a0 s) = true then
  gd (inb a0 6) (
    (if a1 = (0 : Int32) then
    some (some (gi s (z_ra 205 a0.toNatClampNeg) 1), 0, s)
  else if a1 = (1 : Int32) then
    some (some (gi s (z_ra 205 a0.toNatClampNeg) 2), 0, s)
  else if a1 = (2 : Int32) then
    some (some (gi s (z_ra 205 a0.toNatClampNeg) 3), 0, s)
  else if a1 = (3 : Int32) then
    bn (f_R_left (z_ra 205 a0.toNatClampNeg) s) (fun p7 =>
      some (some p7, 0, s))
  else some (none, 76, s)))
else some (none, 8, s))
set_option maxHeartbeats 4000000 in
set_option maxRecDepth 20000 in
theorem ok_X_of (g : ZG) (a0 : Int32) (a1 : Int32) (s : ZSt) (u : ZU) : ZO g 8 y_X_of u 0 (lv_args 0 [.ref 1, .int a0, .int a1]) [] s (f_X_of a0 a1 s) (fun b => (b.1.map (fun v => some (.int v)), b.2.2, b.2.1)) := by
  unfold f_X_of
  show ZO g 8 y_X_of u 0 [(0, .ref 1), (1, .int a0), (2, .int a1)] [] s _ _
  refine ZO.aload_n (pc := 0) 0 d_X_of_0 rfl rfl ?_
  refine ZO.iload_n (pc := 1) 1 d_X_of_1 rfl rfl ?_
  refine ZO.tVB (pc := 2) (As := [.int a0]) (rest := []) d_X_of_2 zc_X_236 (by decide) zo_1 rfl rfl rfl (Nat.le_of_ble_eq_true rfl) (ok_X_isReader g a0 s) ?_
  refine ZO.ifb_ne (pc := 5) 18 d_X_of_5 (by decide) rfl (fun h1 => ?_) (fun h1 => ?_)
  · refine ZO.aload_n (pc := 18) 0 d_X_of_18 rfl rfl ?_
    refine ZO.getA (pc := 19) 205 d_X_of_19 zo_1 zf_X_46 rfl rfl ?_
    refine ZO.iload_n (pc := 22) 1 d_X_of_22 rfl rfl ?_
    refine ZO.rgd (fun h2 => ?_)
    refine ZO.aald (pc := 23) (q0 := 1) d_X_of_23 (by decide) za_205 h2 ?_
    refine ZO.astore_n (pc := 24) (v := (z_ra 205 a0.toNatClampNeg)) (L' := [(0, .ref 1), (1, .int a0), (2, .int a1), (3, .ref (z_ra 205 a0.toNatClampNeg))]) [1, 2, 3, 0] d_X_of_24 rfl (by decide) rfl ?_
    refine ZO.iload_n (pc := 25) 2 d_X_of_25 rfl rfl ?_
    refine ZO.split (c0 := a1 = (0 : Int32)) rfl (fun h3 => ?_) (fun h3 => ?_)
    · refine ZO.tswI (pc := 26) 56 (0 : Int32) h3 d_X_of_26 (by decide) (by decide) (by decide) ?_
      refine ZO.aload_n (pc := 56) 3 d_X_of_56 rfl rfl ?_
      refine ZO.getI (pc := 57) d_X_of_57 (zr_r h2) zf_X_239 rfl ?_
      exact ZO.iret (pc := 60)  d_X_of_60 rfl rfl rfl
    refine ZO.split (c0 := a1 = (1 : Int32)) rfl (fun h4 => ?_) (fun h4 => ?_)
    · refine ZO.tswI (pc := 26) 61 (1 : Int32) h4 d_X_of_26 (by decide) (by decide) (by decide) ?_
      refine ZO.aload_n (pc := 61) 3 d_X_of_61 rfl rfl ?_
      refine ZO.getI (pc := 62) d_X_of_62 (zr_r h2) zf_X_251 rfl ?_
      exact ZO.iret (pc := 65)  d_X_of_65 rfl rfl rfl
    refine ZO.split (c0 := a1 = (2 : Int32)) rfl (fun h5 => ?_) (fun h5 => ?_)
    · refine ZO.tswI (pc := 26) 66 (2 : Int32) h5 d_X_of_26 (by decide) (by decide) (by decide) ?_
      refine ZO.aload_n (pc := 66) 3 d_X_of_66 rfl rfl ?_
      refine ZO.getI (pc := 67) d_X_of_67 (zr_r h2) zf_X_246 rfl ?_
      exact ZO.iret (pc := 70)  d_X_of_70 rfl rfl rfl
    refine ZO.split (c0 := a1 = (3 : Int32)) rfl (fun h6 => ?_) (fun h6 => ?_)
    · refine ZO.tswI (pc := 26) 71 (3 : Int32) h6 d_X_of_26 (by decide) (by decide) (by decide) ?_
      refine ZO.aload_n (pc := 71) 3 d_X_of_71 rfl rfl ?_
      refine ZO.cVI (pc := 72) (As := []) (rest := []) d_X_of_72 zc_X_254 (by decide) (zr_r h2) rfl rfl rfl (Nat.le_of_ble_eq_true rfl) (ok_R_left g (z_ra 205 a0.toNatClampNeg) s) (fun p7 ep7 => ?_)
      exact ZO.iret (pc := 75)  d_X_of_75 rfl rfl rfl
    refine ZO.tswO (pc := 26) 76 d_X_of_26 (by have q0 := lv_neT h3 (show (0 : Int32).toInt = 0 by decide); have q1 := lv_neT h4 (show (1 : Int32).toInt = 1 by decide); have q2 := lv_neT h5 (show (2 : Int32).toInt = 2 by decide); have q3 := lv_neT h6 (show (3 : Int32).toInt = 3 by decide); omega) (by decide) ?_
    exact ZO.thr (pc := 76) rfl rfl
  · exact ZO.thr (pc := 8) rfl rfl
def f_X_lineUp (n : Nat) (s : ZSt) : Option ZSt :=
  lpN (fun j2 (x1 : Int32 × ZSt) =>
  (if (gi x1.2 1 7) ≤ x1.1 then
    some x1.2
  else gd (inb x1.1 6) (
      bn (f_E_worth n 352 (f_X_on (gl x1.2 1 8) (gi x1.2 (z_ra 205 x1.1.toNatClampNeg) 1)) (f_J_bitCount (gi x1.2 (z_ra 205 x1.1.toNatClampNeg) 3)) (gi x1.2 (z_ra 205 x1.1.toNatClampNeg) 1) x1.2) (fun p5 =>
      lt (sai p5.2 215 x1.1 p5.1) (fun s6 =>
      jn (fun (x7 : Int32 × ZSt) =>
      gd (inb x7.1 6) (
        lt (sai x7.2 214 x7.1 x1.1) (fun s9 =>
        lt (x1.1 + (1 : Int32)) (fun v10 =>
        j2 (v10, s9))))) (fun j11 =>
      lpN (fun j13 (x12 : Int32 × ZSt) =>
      (if x12.1 ≤ 0 then
        j11 (x12.1, x12.2)
      else gd (inb (x12.1 - (1 : Int32)) 6) (
          gd (inb (ai x12.2 214 (x12.1 - (1 : Int32))) 6) (
          (if (ai x12.2 215 x1.1) ≤ (ai x12.2 215 (ai x12.2 214 (x12.1 - (1 : Int32)))) then
          j11 (x12.1, x12.2)
        else gd (inb x12.1 6) (
            lt (sai x12.2 214 x12.1 (ai x12.2 214 (x12.1 - (1 : Int32)))) (fun s19 =>
            lt (x12.1 + (-1 : Int32)) (fun v20 =>
            j13 (v20, s19))))))))) n (x1.1, s6))))))) n ((0 : Int32), s)
set_option maxHeartbeats 4000000 in
set_option maxRecDepth 20000 in
theorem ok_X_lineUp (g : ZG) (n : Nat) (s : ZSt) : ZF g 2 y_X_lineUp [.ref 1] s (f_X_lineUp n s) (fun _ => none) (fun b => b) := by
  refine ZF.of (by decide +kernel) (Nat.le_of_ble_eq_true rfl) ?_
  unfold f_X_lineUp
  show ZO g 2 y_X_lineUp zu0 0 [(0, .ref 1)] [] s _ _
  refine ZO.iconst (pc := 0) (0 : Int32) d_X_lineUp_0 (by decide) ?_
  refine ZO.istore_n (pc := 1) (v := (0 : Int32)) (L' := [(0, .ref 1), (1, .int (0 : Int32))]) [1, 0] d_X_lineUp_1 rfl (by decide) rfl ?_
  refine ZO.loop (fun (x1 : Int32 × ZSt) => ([(0, .ref 1), (1, .int x1.1)] : List (Nat × Value))) (fun (x1 : Int32 × ZSt) => x1.2) [] (fun j2 x1 hj2 => ?_) rfl rfl rfl
  refine ZO.iload_n (pc := 2) 1 d_X_lineUp_2 rfl rfl ?_
  refine ZO.aload_n (pc := 3) 0 d_X_lineUp_3 rfl rfl ?_
  refine ZO.getI (pc := 4) d_X_lineUp_4 zo_1 zf_X_229 rfl ?_
  refine ZO.icmp_ge (pc := 7) 113 d_X_lineUp_7 (by decide) rfl (fun h3 => ?_) (fun h3 => ?_)
  · exact ZO.vret (pc := 113) d_X_lineUp_113 rfl rfl rfl
  · refine ZO.aload_n (pc := 10) 0 d_X_lineUp_10 rfl rfl ?_
    refine ZO.getA (pc := 11) 205 d_X_lineUp_11 zo_1 zf_X_46 rfl rfl ?_
    refine ZO.iload_n (pc := 14) 1 d_X_lineUp_14 rfl rfl ?_
    refine ZO.rgd (fun h4 => ?_)
    refine ZO.aald (pc := 15) (q0 := 1) d_X_lineUp_15 (by decide) za_205 h4 ?_
    refine ZO.astore_n (pc := 16) (v := (z_ra 205 x1.1.toNatClampNeg)) (L' := [(0, .ref 1), (1, .int x1.1), (2, .ref (z_ra 205 x1.1.toNatClampNeg))]) [1, 2, 0] d_X_lineUp_16 rfl (by decide) rfl ?_
    refine ZO.aload_n (pc := 17) 0 d_X_lineUp_17 rfl rfl ?_
    refine ZO.getA (pc := 18) 215 d_X_lineUp_18 zo_1 zf_X_66 rfl rfl ?_
    refine ZO.iload_n (pc := 21) 1 d_X_lineUp_21 rfl rfl ?_
    refine ZO.aload_n (pc := 22) 0 d_X_lineUp_22 rfl rfl ?_
    refine ZO.getA (pc := 23) 352 d_X_lineUp_23 zo_1 zf_X_40 rfl rfl ?_
    refine ZO.aload_n (pc := 26) 0 d_X_lineUp_26 rfl rfl ?_
    refine ZO.getJ (pc := 27) d_X_lineUp_27 zo_1 zf_X_115 rfl ?_
    refine ZO.aload_n (pc := 30) 2 d_X_lineUp_30 rfl rfl ?_
    refine ZO.getI (pc := 31) d_X_lineUp_31 (zr_r h4) zf_X_239 rfl ?_
    refine ZO.tSI (pc := 34) (As := [.long (gl x1.2 1 8), .int (gi x1.2 (z_ra 205 x1.1.toNatClampNeg) 1)]) (rest := [.ref 352, .int x1.1, .ref 215]) d_X_lineUp_34 zc_X_178 (by decide) rfl rfl (Nat.le_of_ble_eq_true rfl) (ok_X_on g (gl x1.2 1 8) (gi x1.2 (z_ra 205 x1.1.toNatClampNeg) 1) x1.2) ?_
    refine ZO.aload_n (pc := 37) 2 d_X_lineUp_37 rfl rfl ?_
    refine ZO.getI (pc := 38) d_X_lineUp_38 (zr_r h4) zf_X_246 rfl ?_
    refine ZO.tSI (pc := 41) (As := [.int (gi x1.2 (z_ra 205 x1.1.toNatClampNeg) 3)]) (rest := [.int (f_X_on (gl x1.2 1 8) (gi x1.2 (z_ra 205 x1.1.toNatClampNeg) 1)), .ref 352, .int x1.1, .ref 215]) d_X_lineUp_41 zc_X_271 (by decide) rfl rfl (Nat.le_of_ble_eq_true rfl) (ok_J_bitCount g (gi x1.2 (z_ra 205 x1.1.toNatClampNeg) 3) x1.2) ?_
    refine ZO.aload_n (pc := 44) 2 d_X_lineUp_44 rfl rfl ?_
    refine ZO.getI (pc := 45) d_X_lineUp_45 (zr_r h4) zf_X_239 rfl ?_
    refine ZO.cVI (pc := 48) (As := [.int (f_X_on (gl x1.2 1 8) (gi x1.2 (z_ra 205 x1.1.toNatClampNeg) 1)), .int (f_J_bitCount (gi x1.2 (z_ra 205 x1.1.toNatClampNeg) 3)), .int (gi x1.2 (z_ra 205 x1.1.toNatClampNeg) 1)]) (rest := [.int x1.1, .ref 215]) d_X_lineUp_48 zc_X_187 (by decide) zo_352 rfl rfl rfl (Nat.le_of_ble_eq_true rfl) (ok_E_worth g n 352 (f_X_on (gl x1.2 1 8) (gi x1.2 (z_ra 205 x1.1.toNatClampNeg) 1)) (f_J_bitCount (gi x1.2 (z_ra 205 x1.1.toNatClampNeg) 3)) (gi x1.2 (z_ra 205 x1.1.toNatClampNeg) 1) x1.2) (fun p5 ep5 => ?_)
    refine ZO.iast (pc := 51) d_X_lineUp_51 za_215 h4 ?_
    refine ZO.ltS (fun s6 => ?_)
    refine ZO.iload_n (pc := 52) 1 d_X_lineUp_52 rfl rfl ?_
    refine ZO.istore_n (pc := 53) (v := x1.1) (L' := [(0, .ref 1), (1, .int x1.1), (2, .ref (z_ra 205 x1.1.toNatClampNeg)), (3, .int x1.1)]) [1, 2, 3, 0] d_X_lineUp_53 rfl (by decide) rfl ?_
    refine ZO.rjn (pcJ := 100) (LJ := fun (x7 : Int32 × ZSt) => ([(0, .ref 1), (1, .int x1.1), (3, .int x7.1)] : List (Nat × Value))) (SJ := fun (x7 : Int32 × ZSt) => ([] : List Value)) (σJ := fun (x7 : Int32 × ZSt) => x7.2) (fun x7 => ?_) (fun j11 hj11 => ?_)
    · refine ZO.aload_n (pc := 100) 0 d_X_lineUp_100 rfl rfl ?_
      refine ZO.getA (pc := 101) 214 d_X_lineUp_101 zo_1 zf_X_63 rfl rfl ?_
      refine ZO.iload_n (pc := 104) 2 d_X_lineUp_104 rfl rfl ?_
      refine ZO.iload_n (pc := 105) 1 d_X_lineUp_105 rfl rfl ?_
      refine ZO.rgd (fun h8 => ?_)
      refine ZO.iast (pc := 106) d_X_lineUp_106 za_214 h8 ?_
      refine ZO.ltS (fun s9 => ?_)
      refine ZO.iincL (pc := 107) (i := 1) (x1.1 + (1 : Int32)) (L' := fun v10 => [(0, .ref 1), (1, .int v10), (3, .int x7.1)]) [1, 0, 2] d_X_lineUp_107 rfl (by rfl) (by decide) (fun _ => rfl) (fun v10 => ?_)
      refine ZO.goto (pc := 110) 2 d_X_lineUp_110 (by decide) ?_
      exact ZO.sub [0, 1] rfl (hj2 (v10, s9))
    · refine ZO.sub (L' := [(0, .ref 1), (1, .int x1.1), (3, .int x1.1)]) [0, 1, 3] rfl ?_
      refine ZO.loop (fun (x12 : Int32 × ZSt) => ([(0, .ref 1), (1, .int x1.1), (3, .int x12.1)] : List (Nat × Value))) (fun (x12 : Int32 × ZSt) => x12.2) [] (fun j13 x12 hj13 => ?_) rfl rfl rfl
      refine ZO.iload_n (pc := 54) 2 d_X_lineUp_54 rfl rfl ?_
      refine ZO.if_le (pc := 55) 100 d_X_lineUp_55 (by decide) rfl (fun h14 => ?_) (fun h14 => ?_)
      · exact hj11 (x12.1, x12.2)
      · refine ZO.aload_n (pc := 58) 0 d_X_lineUp_58 rfl rfl ?_
        refine ZO.getA (pc := 59) 215 d_X_lineUp_59 zo_1 zf_X_66 rfl rfl ?_
        refine ZO.aload_n (pc := 62) 0 d_X_lineUp_62 rfl rfl ?_
        refine ZO.getA (pc := 63) 214 d_X_lineUp_63 zo_1 zf_X_63 rfl rfl ?_
        refine ZO.iload_n (pc := 66) 2 d_X_lineUp_66 rfl rfl ?_
        refine ZO.iconst (pc := 67) (1 : Int32) d_X_lineUp_67 (by decide) ?_
        refine ZO.isub (pc := 68) d_X_lineUp_68 ?_
        refine ZO.rgd (fun h15 => ?_)
        refine ZO.iald (pc := 69) d_X_lineUp_69 za_214 h15 ?_
        refine ZO.rgd (fun h16 => ?_)
        refine ZO.iald (pc := 70) d_X_lineUp_70 za_215 h16 ?_
        refine ZO.aload_n (pc := 71) 0 d_X_lineUp_71 rfl rfl ?_
        refine ZO.getA (pc := 72) 215 d_X_lineUp_72 zo_1 zf_X_66 rfl rfl ?_
        refine ZO.iload_n (pc := 75) 1 d_X_lineUp_75 rfl rfl ?_
        refine ZO.iald (pc := 76) d_X_lineUp_76 za_215 h4 ?_
        refine ZO.icmp_ge (pc := 77) 100 d_X_lineUp_77 (by decide) rfl (fun h17 => ?_) (fun h17 => ?_)
        · exact hj11 (x12.1, x12.2)
        · refine ZO.aload_n (pc := 80) 0 d_X_lineUp_80 rfl rfl ?_
          refine ZO.getA (pc := 81) 214 d_X_lineUp_81 zo_1 zf_X_63 rfl rfl ?_
          refine ZO.iload_n (pc := 84) 2 d_X_lineUp_84 rfl rfl ?_
          refine ZO.aload_n (pc := 85) 0 d_X_lineUp_85 rfl rfl ?_
          refine ZO.getA (pc := 86) 214 d_X_lineUp_86 zo_1 zf_X_63 rfl rfl ?_
          refine ZO.iload_n (pc := 89) 2 d_X_lineUp_89 rfl rfl ?_
          refine ZO.iconst (pc := 90) (1 : Int32) d_X_lineUp_90 (by decide) ?_
          refine ZO.isub (pc := 91) d_X_lineUp_91 ?_
          refine ZO.iald (pc := 92) d_X_lineUp_92 za_214 h15 ?_
          refine ZO.rgd (fun h18 => ?_)
          refine ZO.iast (pc := 93) d_X_lineUp_93 za_214 h18 ?_
          refine ZO.ltS (fun s19 => ?_)
          refine ZO.iincL (pc := 94) (i := 2) (x12.1 + (-1 : Int32)) (L' := fun v20 => [(0, .ref 1), (1, .int x1.1), (3, .int v20)]) [1, 2, 0] d_X_lineUp_94 rfl (by rfl) (by decide) (fun _ => rfl) (fun v20 => ?_)
          refine ZO.goto (pc := 97) 54 d_X_lineUp_97 (by decide) ?_
          exact hj13 (v20, s19)
def f_X_lowest (n : Nat) (a0 : Int32) : Option Int32 :=
  lpN (fun j2 (x1 : Int32) =>
  (if (12 : Int32) ≤ x1 then
    some (-1 : Int32)
  else (if ((srI a0 x1) &&& (1 : Int32)) = 0 then
      lt (x1 + (1 : Int32)) (fun v5 =>
        j2 v5)
    else some x1))) n (0 : Int32)
set_option maxHeartbeats 4000000 in
set_option maxRecDepth 20000 in
theorem ok_X_lowest (g : ZG) (n : Nat) (a0 : Int32) (s : ZSt) : ZF g 0 y_X_lowest [.int a0] s (f_X_lowest n a0) (fun b => some (.int b)) (fun _ => s) := by
  refine ZF.of (by decide +kernel) (Nat.le_of_ble_eq_true rfl) ?_
  unfold f_X_lowest
  show ZO g 0 y_X_lowest zu0 0 [(0, .int a0)] [] s _ _
  refine ZO.iconst (pc := 0) (0 : Int32) d_X_lowest_0 (by decide) ?_
  refine ZO.istore_n (pc := 1) (v := (0 : Int32)) (L' := [(0, .int a0), (1, .int (0 : Int32))]) [1, 0] d_X_lowest_1 rfl (by decide) rfl ?_
  refine ZO.loop (fun (x1 : Int32) => ([(0, .int a0), (1, .int x1)] : List (Nat × Value))) (fun (x1 : Int32) => s) [] (fun j2 x1 hj2 => ?_) rfl rfl rfl
  refine ZO.iload_n (pc := 2) 1 d_X_lowest_2 rfl rfl ?_
  refine ZO.bipush (pc := 3) (12 : Int32) d_X_lowest_3 (by decide) ?_
  refine ZO.icmp_ge (pc := 5) 24 d_X_lowest_5 (by decide) rfl (fun h3 => ?_) (fun h3 => ?_)
  · refine ZO.iconst (pc := 24) (-1 : Int32) d_X_lowest_24 (by decide) ?_
    exact ZO.iret (pc := 25)  d_X_lowest_25 rfl rfl rfl
  · refine ZO.iload_n (pc := 8) 0 d_X_lowest_8 rfl rfl ?_
    refine ZO.iload_n (pc := 9) 1 d_X_lowest_9 rfl rfl ?_
    refine ZO.ishr (pc := 10) d_X_lowest_10 ?_
    refine ZO.iconst (pc := 11) (1 : Int32) d_X_lowest_11 (by decide) ?_
    refine ZO.iand (pc := 12) d_X_lowest_12 ?_
    refine ZO.if_eq (pc := 13) 18 d_X_lowest_13 (by decide) rfl (fun h4 => ?_) (fun h4 => ?_)
    · refine ZO.iincL (pc := 18) (i := 1) (x1 + (1 : Int32)) (L' := fun v5 => [(0, .int a0), (1, .int v5)]) [1, 0] d_X_lowest_18 rfl (by rfl) (by decide) (fun _ => rfl) (fun v5 => ?_)
      refine ZO.goto (pc := 21) 2 d_X_lowest_21 (by decide) ?_
      exact hj2 v5
    · refine ZO.iload_n (pc := 16) 1 d_X_lowest_16 rfl rfl ?_
      exact ZO.iret (pc := 17)  d_X_lowest_17 rfl rfl rfl
def f_X_note (a0 : Int32) (a1 : Int32) (a2 : Int32) (s : ZSt) : Option ZSt :=
  gd (inb (remI (gi s 1 11) (60 : Int32)) 60) (
  lt (sai s 210 (remI (gi s 1 11) (60 : Int32)) ((((100 : Int32) * a0) + ((20 : Int32) * a1)) + a2)) (fun s2 =>
  lt (si s2 1 11 ((gi s2 1 11) + (1 : Int32))) (fun s3 =>
  some s3)))
set_option maxHeartbeats 4000000 in
set_option maxRecDepth 20000 in
theorem ok_X_note (g : ZG) (a0 : Int32) (a1 : Int32) (a2 : Int32) (s : ZSt) : ZF g 0 y_X_note [.ref 1, .int a0, .int a1, .int a2] s (f_X_note a0 a1 a2 s) (fun _ => none) (fun b => b) := by
  refine ZF.of (by decide +kernel) (Nat.le_of_ble_eq_true rfl) ?_
  unfold f_X_note
  show ZO g 0 y_X_note zu0 0 [(0, .ref 1), (1, .int a0), (2, .int a1), (3, .int a2)] [] s _ _
  refine ZO.aload_n (pc := 0) 0 d_X_note_0 rfl rfl ?_
  refine ZO.getA (pc := 1) 210 d_X_note_1 zo_1 zf_X_56 rfl rfl ?_
  refine ZO.aload_n (pc := 4) 0 d_X_note_4 rfl rfl ?_
  refine ZO.getI (pc := 5) d_X_note_5 zo_1 zf_X_287 rfl ?_
  refine ZO.bipush (pc := 8) (60 : Int32) d_X_note_8 (by decide) ?_
  refine ZO.irem (pc := 10) d_X_note_10 (by decide) ?_
  refine ZO.bipush (pc := 11) (100 : Int32) d_X_note_11 (by decide) ?_
  refine ZO.iload_n (pc := 13) 1 d_X_note_13 rfl rfl ?_
  refine ZO.imul (pc := 14) d_X_note_14 ?_
  refine ZO.bipush (pc := 15) (20 : Int32) d_X_note_15 (by decide) ?_
  refine ZO.iload_n (pc := 17) 2 d_X_note_17 rfl rfl ?_
  refine ZO.imul (pc := 18) d_X_note_18 ?_
  refine ZO.iadd (pc := 19) d_X_note_19 ?_
  refine ZO.iload_n (pc := 20) 3 d_X_note_20 rfl rfl ?_
  refine ZO.iadd (pc := 21) d_X_note_21 ?_
  refine ZO.rgd (fun h1 => ?_)
  refine ZO.iast (pc := 22) d_X_note_22 za_210 h1 ?_
  refine ZO.ltS (fun s2 => ?_)
  refine ZO.aload_n (pc := 23) 0 d_X_note_23 rfl rfl ?_
  refine ZO.dup (pc := 24) d_X_note_24 rfl ?_
  refine ZO.getI (pc := 25) d_X_note_25 zo_1 zf_X_287 rfl ?_
  refine ZO.iconst (pc := 28) (1 : Int32) d_X_note_28 (by decide) ?_
  refine ZO.iadd (pc := 29) d_X_note_29 ?_
  refine ZO.putI (pc := 30) d_X_note_30 zo_1 zp_X_287 rfl ?_
  refine ZO.ltS (fun s3 => ?_)
  exact ZO.vret (pc := 33) d_X_note_33 rfl rfl rfl
def f_X_leading (n : Nat) (a0 : Int32) (a1 : Int32) (a2 : Nat) (s : ZSt) : Option (Int32 × ZSt) :=
  gd (z_isO a2 3) (bn (f_R_left a2 s) (fun p1 =>
  bn (f_T_spent n s) (fun p2 =>
  lpN (fun j4 (x3 : Int32 × ZSt) =>
  (if (12 : Int32) ≤ x3.1 then
    some ((-1 : Int32), x3.2)
  else (if p1 = 0 then
      some ((-1 : Int32), x3.2)
    else (jn (fun (x7 : ZSt) =>
          lt (x3.1 + (1 : Int32)) (fun v8 =>
            j4 (v8, x7))) (fun j9 =>
          if ((srI a0 x3.1) &&& (1 : Int32)) = 0 then
        j9 x3.2
      else bn (f_T_after n (gl x3.2 1 8) ((a1 * (20 : Int32)) + x3.1) x3.2) (fun p11 =>
          bn (f_T_possible n p11.1 p2 (gi p11.2 a2 1) p11.2) (fun p12 =>
          (if (p1 &&& p12.1) = 0 then
          j9 p12.2
        else some (x3.1, p12.2))))))))) n ((0 : Int32), s))))
set_option maxHeartbeats 4000000 in
set_option maxRecDepth 20000 in
theorem ok_X_leading (g : ZG) (n : Nat) (a0 : Int32) (a1 : Int32) (a2 : Nat) (s : ZSt) : ZF g 5 y_X_leading [.ref 1, .int a0, .int a1, .ref a2] s (f_X_leading n a0 a1 a2 s) (fun b => some (.int b.1)) (fun b => b.2) := by
  refine ZF.of (by decide +kernel) (Nat.le_of_ble_eq_true rfl) ?_
  unfold f_X_leading
  show ZO g 5 y_X_leading zu0 0 [(0, .ref 1), (1, .int a0), (2, .int a1), (3, .ref a2)] [] s _ _
  refine ZO.rgd (fun ha2 => ?_)
  refine ZO.aload_n (pc := 0) 3 d_X_leading_0 rfl rfl ?_
  refine ZO.cVI (pc := 1) (As := []) (rest := []) d_X_leading_1 zc_X_254 (by decide) ha2 rfl rfl rfl (Nat.le_of_ble_eq_true rfl) (ok_R_left g a2 s) (fun p1 ep1 => ?_)
  refine ZO.istore (pc := 4) (v := p1) (L' := [(0, .ref 1), (1, .int a0), (2, .int a1), (3, .ref a2), (4, .int p1)]) [1, 2, 3, 4, 0] d_X_leading_4 (by decide) rfl ?_
  refine ZO.aload_n (pc := 6) 0 d_X_leading_6 rfl rfl ?_
  refine ZO.getA (pc := 7) 201 d_X_leading_7 zo_1 zf_X_19 rfl rfl ?_
  refine ZO.cVI (pc := 10) (As := []) (rest := []) d_X_leading_10 zc_X_191 (by decide) zo_201 rfl rfl rfl (Nat.le_of_ble_eq_true rfl) (ok_T_spent g n s) (fun p2 ep2 => ?_)
  refine ZO.istore (pc := 13) (v := p2) (L' := [(0, .ref 1), (1, .int a0), (2, .int a1), (3, .ref a2), (4, .int p1), (5, .int p2)]) [1, 2, 3, 4, 5, 0] d_X_leading_13 (by decide) rfl ?_
  refine ZO.iconst (pc := 15) (0 : Int32) d_X_leading_15 (by decide) ?_
  refine ZO.istore (pc := 16) (v := (0 : Int32)) (L' := [(0, .ref 1), (1, .int a0), (2, .int a1), (3, .ref a2), (4, .int p1), (5, .int p2), (6, .int (0 : Int32))]) [1, 2, 3, 4, 5, 6, 0] d_X_leading_16 (by decide) rfl ?_
  refine ZO.loop (fun (x3 : Int32 × ZSt) => ([(0, .ref 1), (1, .int a0), (2, .int a1), (3, .ref a2), (4, .int p1), (5, .int p2), (6, .int x3.1)] : List (Nat × Value))) (fun (x3 : Int32 × ZSt) => x3.2) [] (fun j4 x3 hj4 => ?_) rfl rfl rfl
  refine ZO.iload (pc := 18) 6 d_X_leading_18 rfl ?_
  refine ZO.bipush (pc := 20) (12 : Int32) d_X_leading_20 (by decide) ?_
  refine ZO.icmp_ge (pc := 22) 89 d_X_leading_22 (by decide) rfl (fun h5 => ?_) (fun h5 => ?_)
  · refine ZO.iconst (pc := 89) (-1 : Int32) d_X_leading_89 (by decide) ?_
    exact ZO.iret (pc := 90)  d_X_leading_90 rfl rfl rfl
  · refine ZO.iload (pc := 25) 4 d_X_leading_25 rfl ?_
    refine ZO.if_eq (pc := 27) 89 d_X_leading_27 (by decide) rfl (fun h6 => ?_) (fun h6 => ?_)
    · refine ZO.iconst (pc := 89) (-1 : Int32) d_X_leading_89 (by decide) ?_
      exact ZO.iret (pc := 90)  d_X_leading_90 rfl rfl rfl
    · refine ZO.iload_n (pc := 30) 1 d_X_leading_30 rfl rfl ?_
      refine ZO.iload (pc := 31) 6 d_X_leading_31 rfl ?_
      refine ZO.ishr (pc := 33) d_X_leading_33 ?_
      refine ZO.iconst (pc := 34) (1 : Int32) d_X_leading_34 (by decide) ?_
      refine ZO.iand (pc := 35) d_X_leading_35 ?_
      refine ZO.rjn (pcJ := 83) (LJ := fun (x7 : ZSt) => ([(0, .ref 1), (1, .int a0), (2, .int a1), (3, .ref a2), (4, .int p1), (5, .int p2), (6, .int x3.1)] : List (Nat × Value))) (SJ := fun (x7 : ZSt) => ([] : List Value)) (σJ := fun (x7 : ZSt) => x7) (fun x7 => ?_) (fun j9 hj9 => ?_)
      · refine ZO.iincL (pc := 83) (i := 6) (x3.1 + (1 : Int32)) (L' := fun v8 => [(0, .ref 1), (1, .int a0), (2, .int a1), (3, .ref a2), (4, .int p1), (5, .int p2), (6, .int v8)]) [1, 2, 3, 4, 5, 6, 0] d_X_leading_83 rfl (by rfl) (by decide) (fun _ => rfl) (fun v8 => ?_)
        refine ZO.goto (pc := 86) 18 d_X_leading_86 (by decide) ?_
        exact hj4 (v8, x7)
      · refine ZO.if_eq (pc := 36) 83 d_X_leading_36 (by decide) rfl (fun h10 => ?_) (fun h10 => ?_)
        · exact hj9 x3.2
        · refine ZO.aload_n (pc := 39) 0 d_X_leading_39 rfl rfl ?_
          refine ZO.getA (pc := 40) 201 d_X_leading_40 zo_1 zf_X_19 rfl rfl ?_
          refine ZO.aload_n (pc := 43) 0 d_X_leading_43 rfl rfl ?_
          refine ZO.getJ (pc := 44) d_X_leading_44 zo_1 zf_X_115 rfl ?_
          refine ZO.iload_n (pc := 47) 2 d_X_leading_47 rfl rfl ?_
          refine ZO.bipush (pc := 48) (20 : Int32) d_X_leading_48 (by decide) ?_
          refine ZO.imul (pc := 50) d_X_leading_50 ?_
          refine ZO.iload (pc := 51) 6 d_X_leading_51 rfl ?_
          refine ZO.iadd (pc := 53) d_X_leading_53 ?_
          refine ZO.cVJ (pc := 54) (As := [.long (gl x3.2 1 8), .int ((a1 * (20 : Int32)) + x3.1)]) (rest := []) d_X_leading_54 zc_X_206 (by decide) zo_201 rfl rfl rfl (Nat.le_of_ble_eq_true rfl) (ok_T_after g n (gl x3.2 1 8) ((a1 * (20 : Int32)) + x3.1) x3.2) (fun p11 ep11 => ?_)
          refine ZO.lstore (pc := 57) (v := p11.1) (L' := [(0, .ref 1), (1, .int a0), (2, .int a1), (3, .ref a2), (4, .int p1), (5, .int p2), (6, .int x3.1), (7, .long p11.1)]) [1, 2, 3, 4, 5, 6, 7, 0] d_X_leading_57 (by decide) rfl ?_
          refine ZO.iload (pc := 59) 4 d_X_leading_59 rfl ?_
          refine ZO.aload_n (pc := 61) 0 d_X_leading_61 rfl rfl ?_
          refine ZO.getA (pc := 62) 201 d_X_leading_62 zo_1 zf_X_19 rfl rfl ?_
          refine ZO.lload (pc := 65) 7 d_X_leading_65 rfl ?_
          refine ZO.iload (pc := 67) 5 d_X_leading_67 rfl ?_
          refine ZO.aload_n (pc := 69) 3 d_X_leading_69 rfl rfl ?_
          refine ZO.getI (pc := 70) d_X_leading_70 ha2 zf_X_239 rfl ?_
          refine ZO.cVI (pc := 73) (As := [.long p11.1, .int p2, .int (gi p11.2 a2 1)]) (rest := [.int p1]) d_X_leading_73 zc_X_212 (by decide) zo_201 rfl rfl rfl (Nat.le_of_ble_eq_true rfl) (ok_T_possible g n p11.1 p2 (gi p11.2 a2 1) p11.2) (fun p12 ep12 => ?_)
          refine ZO.iand (pc := 76) d_X_leading_76 ?_
          refine ZO.if_eq (pc := 77) 83 d_X_leading_77 (by decide) rfl (fun h13 => ?_) (fun h13 => ?_)
          · exact ZO.sub [0, 1, 2, 3, 4, 5, 6] rfl (hj9 p12.2)
          · refine ZO.iload (pc := 80) 6 d_X_leading_80 rfl ?_
            exact ZO.iret (pc := 82)  d_X_leading_82 rfl rfl rfl
def f_X_turn (n : Nat) (a0 : Int32) (s : ZSt) : Option (Bool × ZSt) :=
  gd (inb a0 6) (
  bn (f_R_left (z_ra 205 a0.toNatClampNeg) s) (fun p2 =>
  lt (gi s (z_ra 205 a0.toNatClampNeg) 1) (fun v3 =>
  bn (f_X_lowest n (p2 &&& (f_X_on (gl s 1 8) v3))) (fun p4 =>
  (if p4 = (-1 : Int32) then
  bn (f_T_spent n s) (fun p6 =>
    bn (f_T_possible n (gl s 1 8) p6 v3 s) (fun p7 =>
    bn (f_X_lowest n (p2 &&& p7.1)) (fun p8 =>
    (jn (fun (x9 : Int32 × ZSt) =>
      (if x9.1 = (-1 : Int32) then
        bn (f_X_leading n (f_X_on (gl x9.2 1 8) v3) (3 : Int32) (z_ra 205 a0.toNatClampNeg) x9.2) (fun p11 =>
          (if p11.1 = (-1 : Int32) then
          bn (f_X_note a0 (0 : Int32) (0 : Int32) p11.2) (fun p13 =>
            some (false, p13))
        else bn (f_X_make n ((60 : Int32) + p11.1) p11.2) (fun p14 =>
            bn (f_X_note a0 (3 : Int32) p11.1 p14.2) (fun p15 =>
            some (true, p15)))))
      else bn (f_X_make n ((v3 * (20 : Int32)) + x9.1) x9.2) (fun p16 =>
          bn (f_X_note a0 (2 : Int32) x9.1 p16.2) (fun p17 =>
          some (true, p17))))) (fun j18 =>
      if p8 = (-1 : Int32) then
    bn (f_X_leading n p7.1 v3 (z_ra 205 a0.toNatClampNeg) p7.2) (fun p20 =>
      j18 (p20.1, p20.2))
  else j18 (p8, p7.2))))))
else bn (f_X_finishBook n (z_ra 205 a0.toNatClampNeg) p4 s) (fun p21 =>
    bn (f_X_note a0 (1 : Int32) p4 p21) (fun p22 =>
    some (true, p22))))))))
set_option maxHeartbeats 4000000 in
set_option maxRecDepth 20000 in
theorem ok_X_turn (g : ZG) (n : Nat) (a0 : Int32) (s : ZSt) : ZF g 6 y_X_turn [.ref 1, .int a0] s (f_X_turn n a0 s) (fun b => some (.int (b2i b.1))) (fun b => b.2) := by
  refine ZF.of (by decide +kernel) (Nat.le_of_ble_eq_true rfl) ?_
  unfold f_X_turn
  show ZO g 6 y_X_turn zu0 0 [(0, .ref 1), (1, .int a0)] [] s _ _
  refine ZO.aload_n (pc := 0) 0 d_X_turn_0 rfl rfl ?_
  refine ZO.getA (pc := 1) 205 d_X_turn_1 zo_1 zf_X_46 rfl rfl ?_
  refine ZO.iload_n (pc := 4) 1 d_X_turn_4 rfl rfl ?_
  refine ZO.rgd (fun h1 => ?_)
  refine ZO.aald (pc := 5) (q0 := 1) d_X_turn_5 (by decide) za_205 h1 ?_
  refine ZO.astore_n (pc := 6) (v := (z_ra 205 a0.toNatClampNeg)) (L' := [(0, .ref 1), (1, .int a0), (2, .ref (z_ra 205 a0.toNatClampNeg))]) [1, 2, 0] d_X_turn_6 rfl (by decide) rfl ?_
  refine ZO.aload_n (pc := 7) 2 d_X_turn_7 rfl rfl ?_
  refine ZO.cVI (pc := 8) (As := []) (rest := []) d_X_turn_8 zc_X_254 (by decide) (zr_r h1) rfl rfl rfl (Nat.le_of_ble_eq_true rfl) (ok_R_left g (z_ra 205 a0.toNatClampNeg) s) (fun p2 ep2 => ?_)
  refine ZO.istore_n (pc := 11) (v := p2) (L' := [(0, .ref 1), (1, .int a0), (2, .ref (z_ra 205 a0.toNatClampNeg)), (3, .int p2)]) [1, 2, 3, 0] d_X_turn_11 rfl (by decide) rfl ?_
  refine ZO.aload_n (pc := 12) 2 d_X_turn_12 rfl rfl ?_
  refine ZO.getI (pc := 13) d_X_turn_13 (zr_r h1) zf_X_239 rfl ?_
  refine ZO.ltI (fun v3 => ?_)
  refine ZO.istore (pc := 16) (v := v3) (L' := [(0, .ref 1), (1, .int a0), (2, .ref (z_ra 205 a0.toNatClampNeg)), (3, .int p2), (4, .int v3)]) [1, 2, 3, 4, 0] d_X_turn_16 (by decide) rfl ?_
  refine ZO.iload_n (pc := 18) 3 d_X_turn_18 rfl rfl ?_
  refine ZO.aload_n (pc := 19) 0 d_X_turn_19 rfl rfl ?_
  refine ZO.getJ (pc := 20) d_X_turn_20 zo_1 zf_X_115 rfl ?_
  refine ZO.iload (pc := 23) 4 d_X_turn_23 rfl ?_
  refine ZO.tSI (pc := 25) (As := [.long (gl s 1 8), .int v3]) (rest := [.int p2]) d_X_turn_25 zc_X_178 (by decide) rfl rfl (Nat.le_of_ble_eq_true rfl) (ok_X_on g (gl s 1 8) v3 s) ?_
  refine ZO.iand (pc := 28) d_X_turn_28 ?_
  refine ZO.cSI (pc := 29) (As := [.int (p2 &&& (f_X_on (gl s 1 8) v3))]) (rest := []) d_X_turn_29 zc_X_276 (by decide) rfl rfl (Nat.le_of_ble_eq_true rfl) (ok_X_lowest g n (p2 &&& (f_X_on (gl s 1 8) v3)) s) (fun p4 ep4 => ?_)
  refine ZO.istore (pc := 32) (v := p4) (L' := [(0, .ref 1), (1, .int a0), (2, .ref (z_ra 205 a0.toNatClampNeg)), (3, .int p2), (4, .int v3), (5, .int p4)]) [1, 2, 3, 4, 5, 0] d_X_turn_32 (by decide) rfl ?_
  refine ZO.iload (pc := 34) 5 d_X_turn_34 rfl ?_
  refine ZO.iconst (pc := 36) (-1 : Int32) d_X_turn_36 (by decide) ?_
  refine ZO.icmp_eq (pc := 37) 57 d_X_turn_37 (by decide) rfl (fun h5 => ?_) (fun h5 => ?_)
  · refine ZO.aload_n (pc := 57) 0 d_X_turn_57 rfl rfl ?_
    refine ZO.getA (pc := 58) 201 d_X_turn_58 zo_1 zf_X_19 rfl rfl ?_
    refine ZO.aload_n (pc := 61) 0 d_X_turn_61 rfl rfl ?_
    refine ZO.getJ (pc := 62) d_X_turn_62 zo_1 zf_X_115 rfl ?_
    refine ZO.aload_n (pc := 65) 0 d_X_turn_65 rfl rfl ?_
    refine ZO.getA (pc := 66) 201 d_X_turn_66 zo_1 zf_X_19 rfl rfl ?_
    refine ZO.cVI (pc := 69) (As := []) (rest := [.long (gl s 1 8), .ref 201]) d_X_turn_69 zc_X_191 (by decide) zo_201 rfl rfl rfl (Nat.le_of_ble_eq_true rfl) (ok_T_spent g n s) (fun p6 ep6 => ?_)
    refine ZO.iload (pc := 72) 4 d_X_turn_72 rfl ?_
    refine ZO.cVI (pc := 74) (As := [.long (gl s 1 8), .int p6, .int v3]) (rest := []) d_X_turn_74 zc_X_212 (by decide) zo_201 rfl rfl rfl (Nat.le_of_ble_eq_true rfl) (ok_T_possible g n (gl s 1 8) p6 v3 s) (fun p7 ep7 => ?_)
    refine ZO.istore (pc := 77) (v := p7.1) (L' := [(0, .ref 1), (1, .int a0), (2, .ref (z_ra 205 a0.toNatClampNeg)), (3, .int p2), (4, .int v3), (5, .int p4), (6, .int p7.1)]) [1, 2, 3, 4, 5, 6, 0] d_X_turn_77 (by decide) rfl ?_
    refine ZO.iload_n (pc := 79) 3 d_X_turn_79 rfl rfl ?_
    refine ZO.iload (pc := 80) 6 d_X_turn_80 rfl ?_
    refine ZO.iand (pc := 82) d_X_turn_82 ?_
    refine ZO.cSI (pc := 83) (As := [.int (p2 &&& p7.1)]) (rest := []) d_X_turn_83 zc_X_276 (by decide) rfl rfl (Nat.le_of_ble_eq_true rfl) (ok_X_lowest g n (p2 &&& p7.1) p7.2) (fun p8 ep8 => ?_)
    refine ZO.istore (pc := 86) (v := p8) (L' := [(0, .ref 1), (1, .int a0), (2, .ref (z_ra 205 a0.toNatClampNeg)), (3, .int p2), (4, .int v3), (5, .int p8), (6, .int p7.1)]) [1, 2, 3, 4, 5, 0, 6] d_X_turn_86 (by decide) rfl ?_
    refine ZO.iload (pc := 88) 5 d_X_turn_88 rfl ?_
    refine ZO.iconst (pc := 90) (-1 : Int32) d_X_turn_90 (by decide) ?_
    refine ZO.rjn (pcJ := 105) (LJ := fun (x9 : Int32 × ZSt) => ([(0, .ref 1), (1, .int a0), (2, .ref (z_ra 205 a0.toNatClampNeg)), (4, .int v3), (5, .int x9.1)] : List (Nat × Value))) (SJ := fun (x9 : Int32 × ZSt) => ([] : List Value)) (σJ := fun (x9 : Int32 × ZSt) => x9.2) (fun x9 => ?_) (fun j18 hj18 => ?_)
    · refine ZO.iload (pc := 105) 4 d_X_turn_105 rfl ?_
      refine ZO.iconst (pc := 107) (-1 : Int32) d_X_turn_107 (by decide) ?_
      refine ZO.icmp_eq (pc := 108) 134 d_X_turn_108 (by decide) rfl (fun h10 => ?_) (fun h10 => ?_)
      · refine ZO.aload_n (pc := 134) 0 d_X_turn_134 rfl rfl ?_
        refine ZO.aload_n (pc := 135) 0 d_X_turn_135 rfl rfl ?_
        refine ZO.getJ (pc := 136) d_X_turn_136 zo_1 zf_X_115 rfl ?_
        refine ZO.iload (pc := 139) 3 d_X_turn_139 rfl ?_
        refine ZO.tSI (pc := 141) (As := [.long (gl x9.2 1 8), .int v3]) (rest := [.ref 1]) d_X_turn_141 zc_X_178 (by decide) rfl rfl (Nat.le_of_ble_eq_true rfl) (ok_X_on g (gl x9.2 1 8) v3 x9.2) ?_
        refine ZO.iconst (pc := 144) (3 : Int32) d_X_turn_144 (by decide) ?_
        refine ZO.aload_n (pc := 145) 2 d_X_turn_145 rfl rfl ?_
        refine ZO.cVI (pc := 146) (As := [.int (f_X_on (gl x9.2 1 8) v3), .int (3 : Int32), .ref (z_ra 205 a0.toNatClampNeg)]) (rest := []) d_X_turn_146 zc_X_283 (by decide) zo_1 rfl rfl rfl (Nat.le_of_ble_eq_true rfl) (ok_X_leading g n (f_X_on (gl x9.2 1 8) v3) (3 : Int32) (z_ra 205 a0.toNatClampNeg) x9.2) (fun p11 ep11 => ?_)
        refine ZO.istore (pc := 149) (v := p11.1) (L' := [(0, .ref 1), (1, .int a0), (2, .ref (z_ra 205 a0.toNatClampNeg)), (4, .int v3), (5, .int p11.1)]) [1, 2, 3, 4, 0] d_X_turn_149 (by decide) rfl ?_
        refine ZO.iload (pc := 151) 4 d_X_turn_151 rfl ?_
        refine ZO.iconst (pc := 153) (-1 : Int32) d_X_turn_153 (by decide) ?_
        refine ZO.icmp_eq (pc := 154) 177 d_X_turn_154 (by decide) rfl (fun h12 => ?_) (fun h12 => ?_)
        · refine ZO.aload_n (pc := 177) 0 d_X_turn_177 rfl rfl ?_
          refine ZO.iload_n (pc := 178) 1 d_X_turn_178 rfl rfl ?_
          refine ZO.iconst (pc := 179) (0 : Int32) d_X_turn_179 (by decide) ?_
          refine ZO.iconst (pc := 180) (0 : Int32) d_X_turn_180 (by decide) ?_
          refine ZO.cVV (pc := 181) (As := [.int a0, .int (0 : Int32), .int (0 : Int32)]) (rest := []) d_X_turn_181 zc_X_279 (by decide) zo_1 rfl rfl rfl (Nat.le_of_ble_eq_true rfl) (ok_X_note g a0 (0 : Int32) (0 : Int32) p11.2) (fun p13 ep13 => ?_)
          refine ZO.iconst (pc := 184) (0 : Int32) d_X_turn_184 (by decide) ?_
          exact ZO.zret (pc := 185) (v := false) d_X_turn_185 rfl rfl rfl
        · refine ZO.aload_n (pc := 157) 0 d_X_turn_157 rfl rfl ?_
          refine ZO.bipush (pc := 158) (60 : Int32) d_X_turn_158 (by decide) ?_
          refine ZO.iload (pc := 160) 4 d_X_turn_160 rfl ?_
          refine ZO.iadd (pc := 162) d_X_turn_162 ?_
          refine ZO.cVI (pc := 163) (As := [.int ((60 : Int32) + p11.1)]) (rest := []) d_X_turn_163 zc_X_199 (by decide) zo_1 rfl rfl rfl (Nat.le_of_ble_eq_true rfl) (ok_X_make g n ((60 : Int32) + p11.1) p11.2) (fun p14 ep14 => ?_)
          refine ZO.pop (pc := 166) d_X_turn_166 rfl ?_
          refine ZO.aload_n (pc := 167) 0 d_X_turn_167 rfl rfl ?_
          refine ZO.iload_n (pc := 168) 1 d_X_turn_168 rfl rfl ?_
          refine ZO.iconst (pc := 169) (3 : Int32) d_X_turn_169 (by decide) ?_
          refine ZO.iload (pc := 170) 4 d_X_turn_170 rfl ?_
          refine ZO.cVV (pc := 172) (As := [.int a0, .int (3 : Int32), .int p11.1]) (rest := []) d_X_turn_172 zc_X_279 (by decide) zo_1 rfl rfl rfl (Nat.le_of_ble_eq_true rfl) (ok_X_note g a0 (3 : Int32) p11.1 p14.2) (fun p15 ep15 => ?_)
          refine ZO.iconst (pc := 175) (1 : Int32) d_X_turn_175 (by decide) ?_
          exact ZO.zret (pc := 176) (v := true) d_X_turn_176 rfl rfl rfl
      · refine ZO.aload_n (pc := 111) 0 d_X_turn_111 rfl rfl ?_
        refine ZO.iload (pc := 112) 3 d_X_turn_112 rfl ?_
        refine ZO.bipush (pc := 114) (20 : Int32) d_X_turn_114 (by decide) ?_
        refine ZO.imul (pc := 116) d_X_turn_116 ?_
        refine ZO.iload (pc := 117) 4 d_X_turn_117 rfl ?_
        refine ZO.iadd (pc := 119) d_X_turn_119 ?_
        refine ZO.cVI (pc := 120) (As := [.int ((v3 * (20 : Int32)) + x9.1)]) (rest := []) d_X_turn_120 zc_X_199 (by decide) zo_1 rfl rfl rfl (Nat.le_of_ble_eq_true rfl) (ok_X_make g n ((v3 * (20 : Int32)) + x9.1) x9.2) (fun p16 ep16 => ?_)
        refine ZO.pop (pc := 123) d_X_turn_123 rfl ?_
        refine ZO.aload_n (pc := 124) 0 d_X_turn_124 rfl rfl ?_
        refine ZO.iload_n (pc := 125) 1 d_X_turn_125 rfl rfl ?_
        refine ZO.iconst (pc := 126) (2 : Int32) d_X_turn_126 (by decide) ?_
        refine ZO.iload (pc := 127) 4 d_X_turn_127 rfl ?_
        refine ZO.cVV (pc := 129) (As := [.int a0, .int (2 : Int32), .int x9.1]) (rest := []) d_X_turn_129 zc_X_279 (by decide) zo_1 rfl rfl rfl (Nat.le_of_ble_eq_true rfl) (ok_X_note g a0 (2 : Int32) x9.1 p16.2) (fun p17 ep17 => ?_)
        refine ZO.iconst (pc := 132) (1 : Int32) d_X_turn_132 (by decide) ?_
        exact ZO.zret (pc := 133) (v := true) d_X_turn_133 rfl rfl rfl
    · refine ZO.icmp_ne (pc := 91) 105 d_X_turn_91 (by decide) rfl (fun h19 => ?_) (fun h19 => ?_)
      · refine ZO.aload_n (pc := 94) 0 d_X_turn_94 rfl rfl ?_
        refine ZO.iload (pc := 95) 6 d_X_turn_95 rfl ?_
        refine ZO.iload (pc := 97) 4 d_X_turn_97 rfl ?_
        refine ZO.aload_n (pc := 99) 2 d_X_turn_99 rfl rfl ?_
        refine ZO.cVI (pc := 100) (As := [.int p7.1, .int v3, .ref (z_ra 205 a0.toNatClampNeg)]) (rest := []) d_X_turn_100 zc_X_283 (by decide) zo_1 rfl rfl rfl (Nat.le_of_ble_eq_true rfl) (ok_X_leading g n p7.1 v3 (z_ra 205 a0.toNatClampNeg) p7.2) (fun p20 ep20 => ?_)
        refine ZO.istore (pc := 103) (v := p20.1) (L' := [(0, .ref 1), (1, .int a0), (2, .ref (z_ra 205 a0.toNatClampNeg)), (3, .int p2), (4, .int v3), (5, .int p20.1), (6, .int p7.1)]) [1, 2, 3, 4, 5, 0, 6] d_X_turn_103 (by decide) rfl ?_
        exact ZO.sub [0, 1, 2, 4, 5] rfl (hj18 (p20.1, p20.2))
      · exact ZO.sub [0, 1, 2, 4, 5] rfl (hj18 (p8, p7.2))
  · refine ZO.aload_n (pc := 40) 0 d_X_turn_40 rfl rfl ?_
    refine ZO.aload_n (pc := 41) 2 d_X_turn_41 rfl rfl ?_
    refine ZO.iload (pc := 42) 5 d_X_turn_42 rfl ?_
    refine ZO.cVV (pc := 44) (As := [.ref (z_ra 205 a0.toNatClampNeg), .int p4]) (rest := []) d_X_turn_44 zc_X_242 (by decide) zo_1 rfl rfl rfl (Nat.le_of_ble_eq_true rfl) (ok_X_finishBook g n (z_ra 205 a0.toNatClampNeg) p4 s) (fun p21 ep21 => ?_)
    refine ZO.aload_n (pc := 47) 0 d_X_turn_47 rfl rfl ?_
    refine ZO.iload_n (pc := 48) 1 d_X_turn_48 rfl rfl ?_
    refine ZO.iconst (pc := 49) (1 : Int32) d_X_turn_49 (by decide) ?_
    refine ZO.iload (pc := 50) 5 d_X_turn_50 rfl ?_
    refine ZO.cVV (pc := 52) (As := [.int a0, .int (1 : Int32), .int p4]) (rest := []) d_X_turn_52 zc_X_279 (by decide) zo_1 rfl rfl rfl (Nat.le_of_ble_eq_true rfl) (ok_X_note g a0 (1 : Int32) p4 p21) (fun p22 ep22 => ?_)
    refine ZO.iconst (pc := 55) (1 : Int32) d_X_turn_55 (by decide) ?_
    exact ZO.zret (pc := 56) (v := true) d_X_turn_56 rfl rfl rfl
def f_X_satisfied (n : Nat) (s : ZSt) : Option Int32 :=
  lpN (fun j2 (x1 : Int32 × Int32) =>
  (if (gi s 1 7) ≤ x1.2 then
    some x1.1
  else gd (inb x1.2 6) (
      bn (f_R_left (z_ra 205 x1.2.toNatClampNeg) s) (fun p5 =>
      (lt ((if p5 = 0 then
      (x1.1 ||| (shI (1 : Int32) x1.2))
    else x1.1) : Int32) (fun x6 =>
        lt (x1.2 + (1 : Int32)) (fun v7 =>
          j2 (x6, v7)))))))) n ((0 : Int32), (0 : Int32))
set_option maxHeartbeats 4000000 in
set_option maxRecDepth 20000 in
theorem ok_X_satisfied (g : ZG) (n : Nat) (s : ZSt) : ZF g 1 y_X_satisfied [.ref 1] s (f_X_satisfied n s) (fun b => some (.int b)) (fun _ => s) := by
  refine ZF.of (by decide +kernel) (Nat.le_of_ble_eq_true rfl) ?_
  unfold f_X_satisfied
  show ZO g 1 y_X_satisfied zu0 0 [(0, .ref 1)] [] s _ _
  refine ZO.iconst (pc := 0) (0 : Int32) d_X_satisfied_0 (by decide) ?_
  refine ZO.istore_n (pc := 1) (v := (0 : Int32)) (L' := [(0, .ref 1), (1, .int (0 : Int32))]) [1, 0] d_X_satisfied_1 rfl (by decide) rfl ?_
  refine ZO.iconst (pc := 2) (0 : Int32) d_X_satisfied_2 (by decide) ?_
  refine ZO.istore_n (pc := 3) (v := (0 : Int32)) (L' := [(0, .ref 1), (1, .int (0 : Int32)), (2, .int (0 : Int32))]) [1, 2, 0] d_X_satisfied_3 rfl (by decide) rfl ?_
  refine ZO.loop (fun (x1 : Int32 × Int32) => ([(0, .ref 1), (1, .int x1.1), (2, .int x1.2)] : List (Nat × Value))) (fun (x1 : Int32 × Int32) => s) [] (fun j2 x1 hj2 => ?_) rfl rfl rfl
  refine ZO.iload_n (pc := 4) 2 d_X_satisfied_4 rfl rfl ?_
  refine ZO.aload_n (pc := 5) 0 d_X_satisfied_5 rfl rfl ?_
  refine ZO.getI (pc := 6) d_X_satisfied_6 zo_1 zf_X_229 rfl ?_
  refine ZO.icmp_ge (pc := 9) 36 d_X_satisfied_9 (by decide) rfl (fun h3 => ?_) (fun h3 => ?_)
  · refine ZO.iload_n (pc := 36) 1 d_X_satisfied_36 rfl rfl ?_
    exact ZO.iret (pc := 37)  d_X_satisfied_37 rfl rfl rfl
  · refine ZO.aload_n (pc := 12) 0 d_X_satisfied_12 rfl rfl ?_
    refine ZO.getA (pc := 13) 205 d_X_satisfied_13 zo_1 zf_X_46 rfl rfl ?_
    refine ZO.iload_n (pc := 16) 2 d_X_satisfied_16 rfl rfl ?_
    refine ZO.rgd (fun h4 => ?_)
    refine ZO.aald (pc := 17) (q0 := 1) d_X_satisfied_17 (by decide) za_205 h4 ?_
    refine ZO.cVI (pc := 18) (As := []) (rest := []) d_X_satisfied_18 zc_X_254 (by decide) (zr_r h4) rfl rfl rfl (Nat.le_of_ble_eq_true rfl) (ok_R_left g (z_ra 205 x1.2.toNatClampNeg) s) (fun p5 ep5 => ?_)
    refine ZO.phi (pcJ := 30) (LJ := fun (x6 : Int32) => ([(0, .ref 1), (1, .int x6), (2, .int x1.2)] : List (Nat × Value))) (SJ := fun (x6 : Int32) => ([] : List Value)) (fun x6 => ?_) (fun t hj8 => ?_)
    · refine ZO.iincL (pc := 30) (i := 2) (x1.2 + (1 : Int32)) (L' := fun v7 => [(0, .ref 1), (1, .int x6), (2, .int v7)]) [1, 2, 0] d_X_satisfied_30 rfl (by rfl) (by decide) (fun _ => rfl) (fun v7 => ?_)
      refine ZO.goto (pc := 33) 4 d_X_satisfied_33 (by decide) ?_
      exact hj2 (x6, v7)
    · refine ZO.if_ne (pc := 21) 30 d_X_satisfied_21 (by decide) z_ite (fun h9 => ?_) (fun h9 => ?_)
      · refine ZO.iload_n (pc := 24) 1 d_X_satisfied_24 rfl rfl ?_
        refine ZO.iconst (pc := 25) (1 : Int32) d_X_satisfied_25 (by decide) ?_
        refine ZO.iload_n (pc := 26) 2 d_X_satisfied_26 rfl rfl ?_
        refine ZO.ishl (pc := 27) d_X_satisfied_27 ?_
        refine ZO.ior (pc := 28) d_X_satisfied_28 ?_
        refine ZO.istore_n (pc := 29) (v := (x1.1 ||| (shI (1 : Int32) x1.2))) (L' := [(0, .ref 1), (1, .int (x1.1 ||| (shI (1 : Int32) x1.2))), (2, .int x1.2)]) [1, 0, 2] d_X_satisfied_29 rfl (by decide) rfl ?_
        exact hj8 (x1.1 ||| (shI (1 : Int32) x1.2)) (by rw [if_pos h9])
      · exact hj8 x1.1 (by rw [if_neg h9])
def f_X_hours (n : Nat) (a0 : Int32) (s : ZSt) : Option (Int32 × ZSt) :=
  (if a0 < 0 then
  some ((-1 : Int32), s)
else (if a0 ≤ (50 : Int32) then
    jn (fun (x3 : Int32 × Int32 × ZSt) =>
      lt (si x3.2.2 1 13 (0 : Int32)) (fun s4 =>
        (lt ((if x3.2.1 = 0 then
        (0 : Int32)
      else (1 : Int32)) : Int32) (fun x5 =>
          bn (f_X_tell x5 s4) (fun p6 =>
            bn (f_X_satisfied n p6) (fun p7 =>
            bn (f_X_tell p7 p6) (fun p8 =>
            some (x3.1, p8)))))))) (fun j11 =>
      lpN (fun j13 (x12 : Int32 × Int32 × ZSt) =>
      (if a0 ≤ x12.1 then
        j11 (x12.1, x12.2.1, x12.2.2)
      else (if x12.2.1 = 0 then
          bn (f_X_lineUp n x12.2.2) (fun p16 =>
            lpN (fun j18 (x17 : Int32 × Int32 × ZSt) =>
            (if (gi x17.2.2 1 7) ≤ x17.2.1 then
              lt (x12.1 + (1 : Int32)) (fun v20 =>
                lt (si x17.2.2 1 9 ((gi x17.2.2 1 9) + (1 : Int32))) (fun s21 =>
                j13 (v20, x17.1, s21)))
            else gd (inb x17.2.1 6) (
                bn (f_X_turn n (ai x17.2.2 214 x17.2.1) x17.2.2) (fun p23 =>
                (lt ((if p23.1 = true then
                (0 : Int32)
              else x17.1) : Int32) (fun x24 =>
                  lt (x17.2.1 + (1 : Int32)) (fun v25 =>
                    j18 (x24, v25, p23.2)))))))) n ((1 : Int32), (0 : Int32), p16))
        else j11 (x12.1, x12.2.1, x12.2.2)))) n ((0 : Int32), (0 : Int32), s))
  else some ((-1 : Int32), s)))
set_option maxHeartbeats 4000000 in
set_option maxRecDepth 20000 in
theorem ok_X_hours (g : ZG) (n : Nat) (a0 : Int32) (s : ZSt) : ZF g 7 y_X_hours [.ref 1, .int a0] s (f_X_hours n a0 s) (fun b => some (.int b.1)) (fun b => b.2) := by
  refine ZF.of (by decide +kernel) (Nat.le_of_ble_eq_true rfl) ?_
  unfold f_X_hours
  show ZO g 7 y_X_hours zu0 0 [(0, .ref 1), (1, .int a0)] [] s _ _
  refine ZO.iload_n (pc := 0) 1 d_X_hours_0 rfl rfl ?_
  refine ZO.if_lt (pc := 1) 10 d_X_hours_1 (by decide) rfl (fun h1 => ?_) (fun h1 => ?_)
  · refine ZO.iconst (pc := 10) (-1 : Int32) d_X_hours_10 (by decide) ?_
    exact ZO.iret (pc := 11)  d_X_hours_11 rfl rfl rfl
  · refine ZO.iload_n (pc := 4) 1 d_X_hours_4 rfl rfl ?_
    refine ZO.bipush (pc := 5) (50 : Int32) d_X_hours_5 (by decide) ?_
    refine ZO.icmp_le (pc := 7) 12 d_X_hours_7 (by decide) rfl (fun h2 => ?_) (fun h2 => ?_)
    · refine ZO.iconst (pc := 12) (0 : Int32) d_X_hours_12 (by decide) ?_
      refine ZO.istore_n (pc := 13) (v := (0 : Int32)) (L' := [(0, .ref 1), (1, .int a0), (2, .int (0 : Int32))]) [1, 2, 0] d_X_hours_13 rfl (by decide) rfl ?_
      refine ZO.iconst (pc := 14) (0 : Int32) d_X_hours_14 (by decide) ?_
      refine ZO.istore_n (pc := 15) (v := (0 : Int32)) (L' := [(0, .ref 1), (1, .int a0), (2, .int (0 : Int32)), (3, .int (0 : Int32))]) [1, 2, 3, 0] d_X_hours_15 rfl (by decide) rfl ?_
      refine ZO.rjn (pcJ := 81) (LJ := fun (x3 : Int32 × Int32 × ZSt) => ([(0, .ref 1), (2, .int x3.1), (3, .int x3.2.1)] : List (Nat × Value))) (SJ := fun (x3 : Int32 × Int32 × ZSt) => ([] : List Value)) (σJ := fun (x3 : Int32 × Int32 × ZSt) => x3.2.2) (fun x3 => ?_) (fun j11 hj11 => ?_)
      · refine ZO.aload_n (pc := 81) 0 d_X_hours_81 rfl rfl ?_
        refine ZO.iconst (pc := 82) (0 : Int32) d_X_hours_82 (by decide) ?_
        refine ZO.putI (pc := 83) d_X_hours_83 zo_1 zp_X_209 rfl ?_
        refine ZO.ltS (fun s4 => ?_)
        refine ZO.aload_n (pc := 86) 0 d_X_hours_86 rfl rfl ?_
        refine ZO.iload_n (pc := 87) 2 d_X_hours_87 rfl rfl ?_
        refine ZO.phi (pcJ := 96) (LJ := fun (x5 : Int32) => ([(0, .ref 1), (2, .int x3.1)] : List (Nat × Value))) (SJ := fun (x5 : Int32) => ([.int x5, .ref 1] : List Value)) (fun x5 => ?_) (fun t hj9 => ?_)
        · refine ZO.cVV (pc := 96) (As := [.int x5]) (rest := []) d_X_hours_96 zc_X_215 (by decide) zo_1 rfl rfl rfl (Nat.le_of_ble_eq_true rfl) (ok_X_tell g x5 s4) (fun p6 ep6 => ?_)
          refine ZO.aload_n (pc := 99) 0 d_X_hours_99 rfl rfl ?_
          refine ZO.aload_n (pc := 100) 0 d_X_hours_100 rfl rfl ?_
          refine ZO.cVI (pc := 101) (As := []) (rest := [.ref 1]) d_X_hours_101 zc_X_268 (by decide) zo_1 rfl rfl rfl (Nat.le_of_ble_eq_true rfl) (ok_X_satisfied g n p6) (fun p7 ep7 => ?_)
          refine ZO.cVV (pc := 104) (As := [.int p7]) (rest := []) d_X_hours_104 zc_X_215 (by decide) zo_1 rfl rfl rfl (Nat.le_of_ble_eq_true rfl) (ok_X_tell g p7 p6) (fun p8 ep8 => ?_)
          refine ZO.iload_n (pc := 107) 1 d_X_hours_107 rfl rfl ?_
          exact ZO.iret (pc := 108)  d_X_hours_108 rfl rfl rfl
        · refine ZO.if_eq (pc := 88) 95 d_X_hours_88 (by decide) z_ite (fun h10 => ?_) (fun h10 => ?_)
          · refine ZO.iconst (pc := 95) (0 : Int32) d_X_hours_95 (by decide) ?_
            exact ZO.sub [0, 1] rfl (hj9 (0 : Int32) (by rw [if_pos h10]))
          · refine ZO.iconst (pc := 91) (1 : Int32) d_X_hours_91 (by decide) ?_
            refine ZO.goto (pc := 92) 96 d_X_hours_92 (by decide) ?_
            exact ZO.sub [0, 1] rfl (hj9 (1 : Int32) (by rw [if_neg h10]))
      · refine ZO.loop (fun (x12 : Int32 × Int32 × ZSt) => ([(0, .ref 1), (1, .int a0), (2, .int x12.1), (3, .int x12.2.1)] : List (Nat × Value))) (fun (x12 : Int32 × Int32 × ZSt) => x12.2.2) [] (fun j13 x12 hj13 => ?_) rfl rfl rfl
        refine ZO.iload_n (pc := 16) 2 d_X_hours_16 rfl rfl ?_
        refine ZO.iload_n (pc := 17) 1 d_X_hours_17 rfl rfl ?_
        refine ZO.icmp_ge (pc := 18) 81 d_X_hours_18 (by decide) rfl (fun h14 => ?_) (fun h14 => ?_)
        · exact ZO.sub [0, 2, 3] rfl (hj11 (x12.1, x12.2.1, x12.2.2))
        · refine ZO.iload_n (pc := 21) 3 d_X_hours_21 rfl rfl ?_
          refine ZO.if_ne (pc := 22) 81 d_X_hours_22 (by decide) rfl (fun h15 => ?_) (fun h15 => ?_)
          · refine ZO.aload_n (pc := 25) 0 d_X_hours_25 rfl rfl ?_
            refine ZO.cVV (pc := 26) (As := []) (rest := []) d_X_hours_26 zc_X_259 (by decide) zo_1 rfl rfl rfl (Nat.le_of_ble_eq_true rfl) (ok_X_lineUp g n x12.2.2) (fun p16 ep16 => ?_)
            refine ZO.iconst (pc := 29) (1 : Int32) d_X_hours_29 (by decide) ?_
            refine ZO.istore_n (pc := 30) (v := (1 : Int32)) (L' := [(0, .ref 1), (1, .int a0), (2, .int x12.1), (3, .int (1 : Int32))]) [1, 2, 3, 0] d_X_hours_30 rfl (by decide) rfl ?_
            refine ZO.iconst (pc := 31) (0 : Int32) d_X_hours_31 (by decide) ?_
            refine ZO.istore (pc := 32) (v := (0 : Int32)) (L' := [(0, .ref 1), (1, .int a0), (2, .int x12.1), (3, .int (1 : Int32)), (4, .int (0 : Int32))]) [1, 2, 3, 4, 0] d_X_hours_32 (by decide) rfl ?_
            refine ZO.loop (fun (x17 : Int32 × Int32 × ZSt) => ([(0, .ref 1), (1, .int a0), (2, .int x12.1), (3, .int x17.1), (4, .int x17.2.1)] : List (Nat × Value))) (fun (x17 : Int32 × Int32 × ZSt) => x17.2.2) [] (fun j18 x17 hj18 => ?_) rfl rfl rfl
            refine ZO.iload (pc := 34) 4 d_X_hours_34 rfl ?_
            refine ZO.aload_n (pc := 36) 0 d_X_hours_36 rfl rfl ?_
            refine ZO.getI (pc := 37) d_X_hours_37 zo_1 zf_X_229 rfl ?_
            refine ZO.icmp_ge (pc := 40) 65 d_X_hours_40 (by decide) rfl (fun h19 => ?_) (fun h19 => ?_)
            · refine ZO.iincL (pc := 65) (i := 2) (x12.1 + (1 : Int32)) (L' := fun v20 => [(0, .ref 1), (1, .int a0), (2, .int v20), (3, .int x17.1), (4, .int x17.2.1)]) [1, 2, 0, 3, 4] d_X_hours_65 rfl (by rfl) (by decide) (fun _ => rfl) (fun v20 => ?_)
              refine ZO.aload_n (pc := 68) 0 d_X_hours_68 rfl rfl ?_
              refine ZO.dup (pc := 69) d_X_hours_69 rfl ?_
              refine ZO.getI (pc := 70) d_X_hours_70 zo_1 zf_X_265 rfl ?_
              refine ZO.iconst (pc := 73) (1 : Int32) d_X_hours_73 (by decide) ?_
              refine ZO.iadd (pc := 74) d_X_hours_74 ?_
              refine ZO.putI (pc := 75) d_X_hours_75 zo_1 zp_X_265 rfl ?_
              refine ZO.ltS (fun s21 => ?_)
              refine ZO.goto (pc := 78) 16 d_X_hours_78 (by decide) ?_
              exact ZO.sub [0, 1, 2, 3] rfl (hj13 (v20, x17.1, s21))
            · refine ZO.aload_n (pc := 43) 0 d_X_hours_43 rfl rfl ?_
              refine ZO.aload_n (pc := 44) 0 d_X_hours_44 rfl rfl ?_
              refine ZO.getA (pc := 45) 214 d_X_hours_45 zo_1 zf_X_63 rfl rfl ?_
              refine ZO.iload (pc := 48) 4 d_X_hours_48 rfl ?_
              refine ZO.rgd (fun h22 => ?_)
              refine ZO.iald (pc := 50) d_X_hours_50 za_214 h22 ?_
              refine ZO.cVB (pc := 51) (As := [.int (ai x17.2.2 214 x17.2.1)]) (rest := []) d_X_hours_51 zc_X_262 (by decide) zo_1 rfl rfl rfl (Nat.le_of_ble_eq_true rfl) (ok_X_turn g n (ai x17.2.2 214 x17.2.1) x17.2.2) (fun p23 ep23 => ?_)
              refine ZO.phi (pcJ := 59) (LJ := fun (x24 : Int32) => ([(0, .ref 1), (1, .int a0), (2, .int x12.1), (3, .int x24), (4, .int x17.2.1)] : List (Nat × Value))) (SJ := fun (x24 : Int32) => ([] : List Value)) (fun x24 => ?_) (fun t hj26 => ?_)
              · refine ZO.iincL (pc := 59) (i := 4) (x17.2.1 + (1 : Int32)) (L' := fun v25 => [(0, .ref 1), (1, .int a0), (2, .int x12.1), (3, .int x24), (4, .int v25)]) [1, 2, 3, 4, 0] d_X_hours_59 rfl (by rfl) (by decide) (fun _ => rfl) (fun v25 => ?_)
                refine ZO.goto (pc := 62) 34 d_X_hours_62 (by decide) ?_
                exact hj18 (x24, v25, p23.2)
              · refine ZO.ifb_eq (pc := 54) 59 d_X_hours_54 (by decide) z_ite (fun h27 => ?_) (fun h27 => ?_)
                · refine ZO.iconst (pc := 57) (0 : Int32) d_X_hours_57 (by decide) ?_
                  refine ZO.istore_n (pc := 58) (v := (0 : Int32)) (L' := [(0, .ref 1), (1, .int a0), (2, .int x12.1), (3, .int (0 : Int32)), (4, .int x17.2.1)]) [1, 2, 3, 0, 4] d_X_hours_58 rfl (by decide) rfl ?_
                  exact hj26 (0 : Int32) (by rw [if_pos h27])
                · exact hj26 x17.1 (by rw [if_neg (z_bf h27)])
          · exact ZO.sub [0, 2, 3] rfl (hj11 (x12.1, x12.2.1, x12.2.2))
    · refine ZO.iconst (pc := 10) (-1 : Int32) d_X_hours_10 (by decide) ?_
      exact ZO.iret (pc := 11)  d_X_hours_11 rfl rfl rfl
def f_X_logKept (s : ZSt) : Int32 :=
  (imin (gi s 1 11) (60 : Int32))
set_option maxHeartbeats 4000000 in
set_option maxRecDepth 20000 in
theorem ok_X_logKept (g : ZG) (s : ZSt) : ZF g 1 y_X_logKept [.ref 1] s (some (f_X_logKept s)) (fun b => some (.int b)) (fun _ => s) := by
  refine ZF.of (by decide +kernel) (Nat.le_of_ble_eq_true rfl) ?_
  unfold f_X_logKept
  show ZO g 1 y_X_logKept zu0 0 [(0, .ref 1)] [] s _ _
  refine ZO.aload_n (pc := 0) 0 d_X_logKept_0 rfl rfl ?_
  refine ZO.getI (pc := 1) d_X_logKept_1 zo_1 zf_X_287 rfl ?_
  refine ZO.bipush (pc := 4) (60 : Int32) d_X_logKept_4 (by decide) ?_
  refine ZO.imin (pc := 6) d_X_logKept_6 zm_X_151 (by decide) (Nat.le_of_ble_eq_true rfl) ?_
  exact ZO.iret (pc := 9)  d_X_logKept_9 rfl rfl rfl
def f_X_log (a0 : Int32) (s : ZSt) : Option Int32 :=
  (if 0 ≤ a0 then
  (if (f_X_logKept s) ≤ a0 then
    some (-2 : Int32)
  else gd (inb (remI (((gi s 1 11) - (1 : Int32)) - a0) (60 : Int32)) 60) (
      some (ai s 210 (remI (((gi s 1 11) - (1 : Int32)) - a0) (60 : Int32)))))
else some (-1 : Int32))
set_option maxHeartbeats 4000000 in
set_option maxRecDepth 20000 in
theorem ok_X_log (g : ZG) (a0 : Int32) (s : ZSt) : ZF g 2 y_X_log [.ref 1, .int a0] s (f_X_log a0 s) (fun b => some (.int b)) (fun _ => s) := by
  refine ZF.of (by decide +kernel) (Nat.le_of_ble_eq_true rfl) ?_
  unfold f_X_log
  show ZO g 2 y_X_log zu0 0 [(0, .ref 1), (1, .int a0)] [] s _ _
  refine ZO.iload_n (pc := 0) 1 d_X_log_0 rfl rfl ?_
  refine ZO.if_ge (pc := 1) 6 d_X_log_1 (by decide) rfl (fun h1 => ?_) (fun h1 => ?_)
  · refine ZO.iload_n (pc := 6) 1 d_X_log_6 rfl rfl ?_
    refine ZO.aload_n (pc := 7) 0 d_X_log_7 rfl rfl ?_
    refine ZO.tVI (pc := 8) (As := []) (rest := [.int a0]) d_X_log_8 zc_X_290 (by decide) zo_1 rfl rfl rfl (Nat.le_of_ble_eq_true rfl) (ok_X_logKept g s) ?_
    refine ZO.icmp_ge (pc := 11) 33 d_X_log_11 (by decide) rfl (fun h2 => ?_) (fun h2 => ?_)
    · refine ZO.bipush (pc := 33) (-2 : Int32) d_X_log_33 (by decide) ?_
      exact ZO.iret (pc := 35)  d_X_log_35 rfl rfl rfl
    · refine ZO.aload_n (pc := 14) 0 d_X_log_14 rfl rfl ?_
      refine ZO.getA (pc := 15) 210 d_X_log_15 zo_1 zf_X_56 rfl rfl ?_
      refine ZO.aload_n (pc := 18) 0 d_X_log_18 rfl rfl ?_
      refine ZO.getI (pc := 19) d_X_log_19 zo_1 zf_X_287 rfl ?_
      refine ZO.iconst (pc := 22) (1 : Int32) d_X_log_22 (by decide) ?_
      refine ZO.isub (pc := 23) d_X_log_23 ?_
      refine ZO.iload_n (pc := 24) 1 d_X_log_24 rfl rfl ?_
      refine ZO.isub (pc := 25) d_X_log_25 ?_
      refine ZO.bipush (pc := 26) (60 : Int32) d_X_log_26 (by decide) ?_
      refine ZO.irem (pc := 28) d_X_log_28 (by decide) ?_
      refine ZO.rgd (fun h3 => ?_)
      refine ZO.iald (pc := 29) d_X_log_29 za_210 h3 ?_
      refine ZO.goto (pc := 30) 35 d_X_log_30 (by decide) ?_
      exact ZO.iret (pc := 35)  d_X_log_35 rfl rfl rfl
  · refine ZO.iconst (pc := 4) (-1 : Int32) d_X_log_4 (by decide) ?_
    exact ZO.iret (pc := 5)  d_X_log_5 rfl rfl rfl
def f_X_order (n : Nat) (s : ZSt) : Option (Int32 × ZSt) :=
  bn (f_X_lineUp n s) (fun p1 =>
  lt (si p1 1 13 (0 : Int32)) (fun s2 =>
  lpN (fun j4 (x3 : Int32 × ZSt) =>
  (if (gi x3.2 1 7) ≤ x3.1 then
    some ((gi x3.2 1 7), x3.2)
  else gd (inb x3.1 6) (
      bn (f_X_tell (ai x3.2 214 x3.1) x3.2) (fun p7 =>
      lt (x3.1 + (1 : Int32)) (fun v8 =>
      j4 (v8, p7)))))) n ((0 : Int32), s2)))
set_option maxHeartbeats 4000000 in
set_option maxRecDepth 20000 in
theorem ok_X_order (g : ZG) (n : Nat) (s : ZSt) : ZF g 3 y_X_order [.ref 1] s (f_X_order n s) (fun b => some (.int b.1)) (fun b => b.2) := by
  refine ZF.of (by decide +kernel) (Nat.le_of_ble_eq_true rfl) ?_
  unfold f_X_order
  show ZO g 3 y_X_order zu0 0 [(0, .ref 1)] [] s _ _
  refine ZO.aload_n (pc := 0) 0 d_X_order_0 rfl rfl ?_
  refine ZO.cVV (pc := 1) (As := []) (rest := []) d_X_order_1 zc_X_259 (by decide) zo_1 rfl rfl rfl (Nat.le_of_ble_eq_true rfl) (ok_X_lineUp g n s) (fun p1 ep1 => ?_)
  refine ZO.aload_n (pc := 4) 0 d_X_order_4 rfl rfl ?_
  refine ZO.iconst (pc := 5) (0 : Int32) d_X_order_5 (by decide) ?_
  refine ZO.putI (pc := 6) d_X_order_6 zo_1 zp_X_209 rfl ?_
  refine ZO.ltS (fun s2 => ?_)
  refine ZO.iconst (pc := 9) (0 : Int32) d_X_order_9 (by decide) ?_
  refine ZO.istore_n (pc := 10) (v := (0 : Int32)) (L' := [(0, .ref 1), (1, .int (0 : Int32))]) [1, 0] d_X_order_10 rfl (by decide) rfl ?_
  refine ZO.loop (fun (x3 : Int32 × ZSt) => ([(0, .ref 1), (1, .int x3.1)] : List (Nat × Value))) (fun (x3 : Int32 × ZSt) => x3.2) [] (fun j4 x3 hj4 => ?_) rfl rfl rfl
  refine ZO.iload_n (pc := 11) 1 d_X_order_11 rfl rfl ?_
  refine ZO.aload_n (pc := 12) 0 d_X_order_12 rfl rfl ?_
  refine ZO.getI (pc := 13) d_X_order_13 zo_1 zf_X_229 rfl ?_
  refine ZO.icmp_ge (pc := 16) 35 d_X_order_16 (by decide) rfl (fun h5 => ?_) (fun h5 => ?_)
  · refine ZO.aload_n (pc := 35) 0 d_X_order_35 rfl rfl ?_
    refine ZO.getI (pc := 36) d_X_order_36 zo_1 zf_X_229 rfl ?_
    exact ZO.iret (pc := 39)  d_X_order_39 rfl rfl rfl
  · refine ZO.aload_n (pc := 19) 0 d_X_order_19 rfl rfl ?_
    refine ZO.aload_n (pc := 20) 0 d_X_order_20 rfl rfl ?_
    refine ZO.getA (pc := 21) 214 d_X_order_21 zo_1 zf_X_63 rfl rfl ?_
    refine ZO.iload_n (pc := 24) 1 d_X_order_24 rfl rfl ?_
    refine ZO.rgd (fun h6 => ?_)
    refine ZO.iald (pc := 25) d_X_order_25 za_214 h6 ?_
    refine ZO.cVV (pc := 26) (As := [.int (ai x3.2 214 x3.1)]) (rest := []) d_X_order_26 zc_X_215 (by decide) zo_1 rfl rfl rfl (Nat.le_of_ble_eq_true rfl) (ok_X_tell g (ai x3.2 214 x3.1) x3.2) (fun p7 ep7 => ?_)
    refine ZO.iincL (pc := 29) (i := 1) (x3.1 + (1 : Int32)) (L' := fun v8 => [(0, .ref 1), (1, .int v8)]) [1, 0] d_X_order_29 rfl (by rfl) (by decide) (fun _ => rfl) (fun v8 => ?_)
    refine ZO.goto (pc := 32) 11 d_X_order_32 (by decide) ?_
    exact hj4 (v8, p7)
def f_X_ringFrom (n : Nat) (a0 : Int32) (a1 : Int32) (s : ZSt) : Option (Int32 × ZSt) :=
  lt (sai s 218 (0 : Int32) (shI (1 : Int32) a0)) (fun s1 =>
  lpN (fun j3 (x2 : Int32 × ZSt) =>
  (if a1 < x2.1 then
    some ((0 : Int32), x2.2)
  else lpN (fun j6 (x5 : Int32 × Int32) =>
      (if a1 ≤ x5.2 then
        gd (inb x2.1 13) (
          lt (sai x2.2 218 x2.1 x5.1) (fun s9 =>
          (if ((srI x5.1 a0) &&& (1 : Int32)) = 0 then
          lt (x2.1 + (1 : Int32)) (fun v11 =>
            j3 (v11, s9))
        else some (x2.1, s9))))
      else gd (inb x5.2 12) (
          gd (inb (x2.1 - (1 : Int32)) 13) (
          (lt ((if ((ai x2.2 217 x5.2) &&& (ai x2.2 218 (x2.1 - (1 : Int32)))) = 0 then
          x5.1
        else (x5.1 ||| (shI (1 : Int32) x5.2))) : Int32) (fun x14 =>
            lt (x5.2 + (1 : Int32)) (fun v15 =>
              j6 (x14, v15)))))))) n ((0 : Int32), a0))) n ((1 : Int32), s1))
set_option maxHeartbeats 4000000 in
set_option maxRecDepth 20000 in
theorem ok_X_ringFrom (g : ZG) (n : Nat) (a0 : Int32) (a1 : Int32) (s : ZSt) : ZF g 0 y_X_ringFrom [.ref 1, .int a0, .int a1] s (f_X_ringFrom n a0 a1 s) (fun b => some (.int b.1)) (fun b => b.2) := by
  refine ZF.of (by decide +kernel) (Nat.le_of_ble_eq_true rfl) ?_
  unfold f_X_ringFrom
  show ZO g 0 y_X_ringFrom zu0 0 [(0, .ref 1), (1, .int a0), (2, .int a1)] [] s _ _
  refine ZO.aload_n (pc := 0) 0 d_X_ringFrom_0 rfl rfl ?_
  refine ZO.getA (pc := 1) 218 d_X_ringFrom_1 zo_1 zf_X_75 rfl rfl ?_
  refine ZO.iconst (pc := 4) (0 : Int32) d_X_ringFrom_4 (by decide) ?_
  refine ZO.iconst (pc := 5) (1 : Int32) d_X_ringFrom_5 (by decide) ?_
  refine ZO.iload_n (pc := 6) 1 d_X_ringFrom_6 rfl rfl ?_
  refine ZO.ishl (pc := 7) d_X_ringFrom_7 ?_
  refine ZO.iast (pc := 8) d_X_ringFrom_8 za_218 (by decide) ?_
  refine ZO.ltS (fun s1 => ?_)
  refine ZO.iconst (pc := 9) (1 : Int32) d_X_ringFrom_9 (by decide) ?_
  refine ZO.istore_n (pc := 10) (v := (1 : Int32)) (L' := [(0, .ref 1), (1, .int a0), (2, .int a1), (3, .int (1 : Int32))]) [1, 2, 3, 0] d_X_ringFrom_10 rfl (by decide) rfl ?_
  refine ZO.loop (fun (x2 : Int32 × ZSt) => ([(0, .ref 1), (1, .int a0), (2, .int a1), (3, .int x2.1)] : List (Nat × Value))) (fun (x2 : Int32 × ZSt) => x2.2) [] (fun j3 x2 hj3 => ?_) rfl rfl rfl
  refine ZO.iload_n (pc := 11) 3 d_X_ringFrom_11 rfl rfl ?_
  refine ZO.iload_n (pc := 12) 2 d_X_ringFrom_12 rfl rfl ?_
  refine ZO.icmp_gt (pc := 13) 87 d_X_ringFrom_13 (by decide) rfl (fun h4 => ?_) (fun h4 => ?_)
  · refine ZO.iconst (pc := 87) (0 : Int32) d_X_ringFrom_87 (by decide) ?_
    exact ZO.iret (pc := 88)  d_X_ringFrom_88 rfl rfl rfl
  · refine ZO.iconst (pc := 16) (0 : Int32) d_X_ringFrom_16 (by decide) ?_
    refine ZO.istore (pc := 17) (v := (0 : Int32)) (L' := [(0, .ref 1), (1, .int a0), (2, .int a1), (3, .int x2.1), (4, .int (0 : Int32))]) [1, 2, 3, 4, 0] d_X_ringFrom_17 (by decide) rfl ?_
    refine ZO.iload_n (pc := 19) 1 d_X_ringFrom_19 rfl rfl ?_
    refine ZO.istore (pc := 20) (v := a0) (L' := [(0, .ref 1), (1, .int a0), (2, .int a1), (3, .int x2.1), (4, .int (0 : Int32)), (5, .int a0)]) [1, 2, 3, 4, 5, 0] d_X_ringFrom_20 (by decide) rfl ?_
    refine ZO.loop (fun (x5 : Int32 × Int32) => ([(0, .ref 1), (1, .int a0), (2, .int a1), (3, .int x2.1), (4, .int x5.1), (5, .int x5.2)] : List (Nat × Value))) (fun (x5 : Int32 × Int32) => x2.2) [] (fun j6 x5 hj6 => ?_) rfl rfl rfl
    refine ZO.iload (pc := 22) 5 d_X_ringFrom_22 rfl ?_
    refine ZO.iload_n (pc := 24) 2 d_X_ringFrom_24 rfl rfl ?_
    refine ZO.icmp_ge (pc := 25) 62 d_X_ringFrom_25 (by decide) rfl (fun h7 => ?_) (fun h7 => ?_)
    · refine ZO.aload_n (pc := 62) 0 d_X_ringFrom_62 rfl rfl ?_
      refine ZO.getA (pc := 63) 218 d_X_ringFrom_63 zo_1 zf_X_75 rfl rfl ?_
      refine ZO.iload_n (pc := 66) 3 d_X_ringFrom_66 rfl rfl ?_
      refine ZO.iload (pc := 67) 4 d_X_ringFrom_67 rfl ?_
      refine ZO.rgd (fun h8 => ?_)
      refine ZO.iast (pc := 69) d_X_ringFrom_69 za_218 h8 ?_
      refine ZO.ltS (fun s9 => ?_)
      refine ZO.iload (pc := 70) 4 d_X_ringFrom_70 rfl ?_
      refine ZO.iload_n (pc := 72) 1 d_X_ringFrom_72 rfl rfl ?_
      refine ZO.ishr (pc := 73) d_X_ringFrom_73 ?_
      refine ZO.iconst (pc := 74) (1 : Int32) d_X_ringFrom_74 (by decide) ?_
      refine ZO.iand (pc := 75) d_X_ringFrom_75 ?_
      refine ZO.if_eq (pc := 76) 81 d_X_ringFrom_76 (by decide) rfl (fun h10 => ?_) (fun h10 => ?_)
      · refine ZO.iincL (pc := 81) (i := 3) (x2.1 + (1 : Int32)) (L' := fun v11 => [(0, .ref 1), (1, .int a0), (2, .int a1), (3, .int v11), (4, .int x5.1), (5, .int x5.2)]) [1, 2, 3, 0, 4, 5] d_X_ringFrom_81 rfl (by rfl) (by decide) (fun _ => rfl) (fun v11 => ?_)
        refine ZO.goto (pc := 84) 11 d_X_ringFrom_84 (by decide) ?_
        exact ZO.sub [0, 1, 2, 3] rfl (hj3 (v11, s9))
      · refine ZO.iload_n (pc := 79) 3 d_X_ringFrom_79 rfl rfl ?_
        exact ZO.iret (pc := 80)  d_X_ringFrom_80 rfl rfl rfl
    · refine ZO.aload_n (pc := 28) 0 d_X_ringFrom_28 rfl rfl ?_
      refine ZO.getA (pc := 29) 217 d_X_ringFrom_29 zo_1 zf_X_72 rfl rfl ?_
      refine ZO.iload (pc := 32) 5 d_X_ringFrom_32 rfl ?_
      refine ZO.rgd (fun h12 => ?_)
      refine ZO.iald (pc := 34) d_X_ringFrom_34 za_217 h12 ?_
      refine ZO.aload_n (pc := 35) 0 d_X_ringFrom_35 rfl rfl ?_
      refine ZO.getA (pc := 36) 218 d_X_ringFrom_36 zo_1 zf_X_75 rfl rfl ?_
      refine ZO.iload_n (pc := 39) 3 d_X_ringFrom_39 rfl rfl ?_
      refine ZO.iconst (pc := 40) (1 : Int32) d_X_ringFrom_40 (by decide) ?_
      refine ZO.isub (pc := 41) d_X_ringFrom_41 ?_
      refine ZO.rgd (fun h13 => ?_)
      refine ZO.iald (pc := 42) d_X_ringFrom_42 za_218 h13 ?_
      refine ZO.iand (pc := 43) d_X_ringFrom_43 ?_
      refine ZO.phi (pcJ := 56) (LJ := fun (x14 : Int32) => ([(0, .ref 1), (1, .int a0), (2, .int a1), (3, .int x2.1), (4, .int x14), (5, .int x5.2)] : List (Nat × Value))) (SJ := fun (x14 : Int32) => ([] : List Value)) (fun x14 => ?_) (fun t hj16 => ?_)
      · refine ZO.iincL (pc := 56) (i := 5) (x5.2 + (1 : Int32)) (L' := fun v15 => [(0, .ref 1), (1, .int a0), (2, .int a1), (3, .int x2.1), (4, .int x14), (5, .int v15)]) [1, 2, 3, 4, 5, 0] d_X_ringFrom_56 rfl (by rfl) (by decide) (fun _ => rfl) (fun v15 => ?_)
        refine ZO.goto (pc := 59) 22 d_X_ringFrom_59 (by decide) ?_
        exact hj6 (x14, v15)
      · refine ZO.if_eq (pc := 44) 56 d_X_ringFrom_44 (by decide) z_ite (fun h17 => ?_) (fun h17 => ?_)
        · exact hj16 x5.1 (by rw [if_pos h17])
        · refine ZO.iload (pc := 47) 4 d_X_ringFrom_47 rfl ?_
          refine ZO.iconst (pc := 49) (1 : Int32) d_X_ringFrom_49 (by decide) ?_
          refine ZO.iload (pc := 50) 5 d_X_ringFrom_50 rfl ?_
          refine ZO.ishl (pc := 52) d_X_ringFrom_52 ?_
          refine ZO.ior (pc := 53) d_X_ringFrom_53 ?_
          refine ZO.istore (pc := 54) (v := (x5.1 ||| (shI (1 : Int32) x5.2))) (L' := [(0, .ref 1), (1, .int a0), (2, .int a1), (3, .int x2.1), (4, .int (x5.1 ||| (shI (1 : Int32) x5.2))), (5, .int x5.2)]) [1, 2, 3, 4, 0, 5] d_X_ringFrom_54 (by decide) rfl ?_
          exact hj16 (x5.1 ||| (shI (1 : Int32) x5.2)) (by rw [if_neg h17])
def f_X_tellRing (n : Nat) (a0 : Int32) (s : ZSt) : Option (Int32 × ZSt) :=
  lpN (fun j2 (x1 : Int32 × Int32 × Int32 × ZSt) =>
  (if a0 ≤ x1.2.2.1 then
    (if x1.1 = 0 then
      some ((0 : Int32), x1.2.2.2)
    else bn (f_X_ringFrom n x1.2.1 a0 x1.2.2.2) (fun p5 =>
        lt (si p5.2 1 13 (0 : Int32)) (fun s6 =>
        lpN (fun j8 (x7 : Int32 × Int32 × ZSt) =>
        (if x7.2.1 ≤ 0 then
          some (x1.1, x7.2.2)
        else (if x7.1 = (-1 : Int32) then
            some (x1.1, x7.2.2)
          else bn (f_X_tell x7.1 x7.2.2) (fun p11 =>
              gd (inb x7.1 12) (
              gd (inb (x7.2.1 - (1 : Int32)) 13) (
              bn (f_X_lowest n ((ai p11 217 x7.1) &&& (ai p11 218 (x7.2.1 - (1 : Int32))))) (fun p14 =>
              lt (x7.2.1 + (-1 : Int32)) (fun v15 =>
              j8 (p14, v15, p11))))))))) n (x1.2.1, x1.1, s6))))
  else bn (f_X_ringFrom n x1.2.2.1 a0 x1.2.2.2) (fun p16 =>
      (lt ((if p16.1 ≤ 0 then
      (x1.1, x1.2.1)
    else (if x1.1 = 0 then
        (p16.1, x1.2.2.1)
      else (if x1.1 ≤ p16.1 then
          (x1.1, x1.2.1)
        else (p16.1, x1.2.2.1)))) : Int32 × Int32) (fun x17 =>
        lt (x1.2.2.1 + (1 : Int32)) (fun v18 =>
          j2 (x17.1, x17.2, v18, p16.2))))))) n ((0 : Int32), (0 : Int32), (0 : Int32), s)
set_option maxHeartbeats 4000000 in
set_option maxRecDepth 20000 in
theorem ok_X_tellRing (g : ZG) (n : Nat) (a0 : Int32) (s : ZSt) : ZF g 1 y_X_tellRing [.ref 1, .int a0] s (f_X_tellRing n a0 s) (fun b => some (.int b.1)) (fun b => b.2) := by
  refine ZF.of (by decide +kernel) (Nat.le_of_ble_eq_true rfl) ?_
  unfold f_X_tellRing
  show ZO g 1 y_X_tellRing zu0 0 [(0, .ref 1), (1, .int a0)] [] s _ _
  refine ZO.iconst (pc := 0) (0 : Int32) d_X_tellRing_0 (by decide) ?_
  refine ZO.istore_n (pc := 1) (v := (0 : Int32)) (L' := [(0, .ref 1), (1, .int a0), (2, .int (0 : Int32))]) [1, 2, 0] d_X_tellRing_1 rfl (by decide) rfl ?_
  refine ZO.iconst (pc := 2) (0 : Int32) d_X_tellRing_2 (by decide) ?_
  refine ZO.istore_n (pc := 3) (v := (0 : Int32)) (L' := [(0, .ref 1), (1, .int a0), (2, .int (0 : Int32)), (3, .int (0 : Int32))]) [1, 2, 3, 0] d_X_tellRing_3 rfl (by decide) rfl ?_
  refine ZO.iconst (pc := 4) (0 : Int32) d_X_tellRing_4 (by decide) ?_
  refine ZO.istore (pc := 5) (v := (0 : Int32)) (L' := [(0, .ref 1), (1, .int a0), (2, .int (0 : Int32)), (3, .int (0 : Int32)), (4, .int (0 : Int32))]) [1, 2, 3, 4, 0] d_X_tellRing_5 (by decide) rfl ?_
  refine ZO.loop (fun (x1 : Int32 × Int32 × Int32 × ZSt) => ([(0, .ref 1), (1, .int a0), (2, .int x1.1), (3, .int x1.2.1), (4, .int x1.2.2.1)] : List (Nat × Value))) (fun (x1 : Int32 × Int32 × Int32 × ZSt) => x1.2.2.2) [] (fun j2 x1 hj2 => ?_) rfl rfl rfl
  refine ZO.iload (pc := 7) 4 d_X_tellRing_7 rfl ?_
  refine ZO.iload_n (pc := 9) 1 d_X_tellRing_9 rfl rfl ?_
  refine ZO.icmp_ge (pc := 10) 49 d_X_tellRing_10 (by decide) rfl (fun h3 => ?_) (fun h3 => ?_)
  · refine ZO.iload_n (pc := 49) 2 d_X_tellRing_49 rfl rfl ?_
    refine ZO.if_ne (pc := 50) 55 d_X_tellRing_50 (by decide) rfl (fun h4 => ?_) (fun h4 => ?_)
    · refine ZO.iconst (pc := 53) (0 : Int32) d_X_tellRing_53 (by decide) ?_
      exact ZO.iret (pc := 54)  d_X_tellRing_54 rfl rfl rfl
    · refine ZO.aload_n (pc := 55) 0 d_X_tellRing_55 rfl rfl ?_
      refine ZO.iload_n (pc := 56) 3 d_X_tellRing_56 rfl rfl ?_
      refine ZO.iload_n (pc := 57) 1 d_X_tellRing_57 rfl rfl ?_
      refine ZO.cVI (pc := 58) (As := [.int x1.2.1, .int a0]) (rest := []) d_X_tellRing_58 zc_X_296 (by decide) zo_1 rfl rfl rfl (Nat.le_of_ble_eq_true rfl) (ok_X_ringFrom g n x1.2.1 a0 x1.2.2.2) (fun p5 ep5 => ?_)
      refine ZO.pop (pc := 61) d_X_tellRing_61 rfl ?_
      refine ZO.aload_n (pc := 62) 0 d_X_tellRing_62 rfl rfl ?_
      refine ZO.iconst (pc := 63) (0 : Int32) d_X_tellRing_63 (by decide) ?_
      refine ZO.putI (pc := 64) d_X_tellRing_64 zo_1 zp_X_209 rfl ?_
      refine ZO.ltS (fun s6 => ?_)
      refine ZO.iload_n (pc := 67) 3 d_X_tellRing_67 rfl rfl ?_
      refine ZO.istore (pc := 68) (v := x1.2.1) (L' := [(0, .ref 1), (1, .int a0), (2, .int x1.1), (3, .int x1.2.1), (4, .int x1.2.1)]) [1, 2, 3, 4, 0] d_X_tellRing_68 (by decide) rfl ?_
      refine ZO.iload_n (pc := 70) 2 d_X_tellRing_70 rfl rfl ?_
      refine ZO.istore (pc := 71) (v := x1.1) (L' := [(0, .ref 1), (1, .int a0), (2, .int x1.1), (3, .int x1.2.1), (4, .int x1.2.1), (5, .int x1.1)]) [1, 2, 3, 4, 5, 0] d_X_tellRing_71 (by decide) rfl ?_
      refine ZO.sub (L' := [(0, .ref 1), (2, .int x1.1), (4, .int x1.2.1), (5, .int x1.1)]) [0, 2, 4, 5] rfl ?_
      refine ZO.loop (fun (x7 : Int32 × Int32 × ZSt) => ([(0, .ref 1), (2, .int x1.1), (4, .int x7.1), (5, .int x7.2.1)] : List (Nat × Value))) (fun (x7 : Int32 × Int32 × ZSt) => x7.2.2) [] (fun j8 x7 hj8 => ?_) rfl rfl rfl
      refine ZO.iload (pc := 73) 3 d_X_tellRing_73 rfl ?_
      refine ZO.if_le (pc := 75) 118 d_X_tellRing_75 (by decide) rfl (fun h9 => ?_) (fun h9 => ?_)
      · refine ZO.iload_n (pc := 118) 1 d_X_tellRing_118 rfl rfl ?_
        exact ZO.iret (pc := 119)  d_X_tellRing_119 rfl rfl rfl
      · refine ZO.iload (pc := 78) 2 d_X_tellRing_78 rfl ?_
        refine ZO.iconst (pc := 80) (-1 : Int32) d_X_tellRing_80 (by decide) ?_
        refine ZO.icmp_eq (pc := 81) 118 d_X_tellRing_81 (by decide) rfl (fun h10 => ?_) (fun h10 => ?_)
        · refine ZO.iload_n (pc := 118) 1 d_X_tellRing_118 rfl rfl ?_
          exact ZO.iret (pc := 119)  d_X_tellRing_119 rfl rfl rfl
        · refine ZO.aload_n (pc := 84) 0 d_X_tellRing_84 rfl rfl ?_
          refine ZO.iload (pc := 85) 2 d_X_tellRing_85 rfl ?_
          refine ZO.cVV (pc := 87) (As := [.int x7.1]) (rest := []) d_X_tellRing_87 zc_X_215 (by decide) zo_1 rfl rfl rfl (Nat.le_of_ble_eq_true rfl) (ok_X_tell g x7.1 x7.2.2) (fun p11 ep11 => ?_)
          refine ZO.aload_n (pc := 90) 0 d_X_tellRing_90 rfl rfl ?_
          refine ZO.getA (pc := 91) 217 d_X_tellRing_91 zo_1 zf_X_72 rfl rfl ?_
          refine ZO.iload (pc := 94) 2 d_X_tellRing_94 rfl ?_
          refine ZO.rgd (fun h12 => ?_)
          refine ZO.iald (pc := 96) d_X_tellRing_96 za_217 h12 ?_
          refine ZO.aload_n (pc := 97) 0 d_X_tellRing_97 rfl rfl ?_
          refine ZO.getA (pc := 98) 218 d_X_tellRing_98 zo_1 zf_X_75 rfl rfl ?_
          refine ZO.iload (pc := 101) 3 d_X_tellRing_101 rfl ?_
          refine ZO.iconst (pc := 103) (1 : Int32) d_X_tellRing_103 (by decide) ?_
          refine ZO.isub (pc := 104) d_X_tellRing_104 ?_
          refine ZO.rgd (fun h13 => ?_)
          refine ZO.iald (pc := 105) d_X_tellRing_105 za_218 h13 ?_
          refine ZO.iand (pc := 106) d_X_tellRing_106 ?_
          refine ZO.cSI (pc := 107) (As := [.int ((ai p11 217 x7.1) &&& (ai p11 218 (x7.2.1 - (1 : Int32))))]) (rest := []) d_X_tellRing_107 zc_X_276 (by decide) rfl rfl (Nat.le_of_ble_eq_true rfl) (ok_X_lowest g n ((ai p11 217 x7.1) &&& (ai p11 218 (x7.2.1 - (1 : Int32)))) p11) (fun p14 ep14 => ?_)
          refine ZO.istore (pc := 110) (v := p14) (L' := [(0, .ref 1), (2, .int x1.1), (4, .int p14), (5, .int x7.2.1)]) [1, 2, 0, 3] d_X_tellRing_110 (by decide) rfl ?_
          refine ZO.iincL (pc := 112) (i := 3) (x7.2.1 + (-1 : Int32)) (L' := fun v15 => [(0, .ref 1), (2, .int x1.1), (4, .int p14), (5, .int v15)]) [1, 2, 3, 0] d_X_tellRing_112 rfl (by rfl) (by decide) (fun _ => rfl) (fun v15 => ?_)
          refine ZO.goto (pc := 115) 73 d_X_tellRing_115 (by decide) ?_
          exact hj8 (p14, v15, p11)
  · refine ZO.aload_n (pc := 13) 0 d_X_tellRing_13 rfl rfl ?_
    refine ZO.iload (pc := 14) 4 d_X_tellRing_14 rfl ?_
    refine ZO.iload_n (pc := 16) 1 d_X_tellRing_16 rfl rfl ?_
    refine ZO.cVI (pc := 17) (As := [.int x1.2.2.1, .int a0]) (rest := []) d_X_tellRing_17 zc_X_296 (by decide) zo_1 rfl rfl rfl (Nat.le_of_ble_eq_true rfl) (ok_X_ringFrom g n x1.2.2.1 a0 x1.2.2.2) (fun p16 ep16 => ?_)
    refine ZO.istore (pc := 20) (v := p16.1) (L' := [(0, .ref 1), (1, .int a0), (2, .int x1.1), (3, .int x1.2.1), (4, .int x1.2.2.1), (5, .int p16.1)]) [1, 2, 3, 4, 5, 0] d_X_tellRing_20 (by decide) rfl ?_
    refine ZO.iload (pc := 22) 5 d_X_tellRing_22 rfl ?_
    refine ZO.phi (pcJ := 43) (LJ := fun (x17 : Int32 × Int32) => ([(0, .ref 1), (1, .int a0), (2, .int x17.1), (3, .int x17.2), (4, .int x1.2.2.1)] : List (Nat × Value))) (SJ := fun (x17 : Int32 × Int32) => ([] : List Value)) (fun x17 => ?_) (fun t hj19 => ?_)
    · refine ZO.iincL (pc := 43) (i := 4) (x1.2.2.1 + (1 : Int32)) (L' := fun v18 => [(0, .ref 1), (1, .int a0), (2, .int x17.1), (3, .int x17.2), (4, .int v18)]) [1, 2, 3, 4, 0] d_X_tellRing_43 rfl (by rfl) (by decide) (fun _ => rfl) (fun v18 => ?_)
      refine ZO.goto (pc := 46) 7 d_X_tellRing_46 (by decide) ?_
      exact hj2 (x17.1, x17.2, v18, p16.2)
    · refine ZO.if_le (pc := 24) 43 d_X_tellRing_24 (by decide) z_ite (fun h20 => ?_) (fun h20 => ?_)
      · exact ZO.sub [0, 1, 2, 3, 4] rfl (hj19 (x1.1, x1.2.1) (by rw [if_pos h20]))
      · refine ZO.iload_n (pc := 27) 2 d_X_tellRing_27 rfl rfl ?_
        refine ZO.if_eq (pc := 28) 37 d_X_tellRing_28 (by decide) z_ite (fun h21 => ?_) (fun h21 => ?_)
        · refine ZO.iload (pc := 37) 5 d_X_tellRing_37 rfl ?_
          refine ZO.istore_n (pc := 39) (v := p16.1) (L' := [(0, .ref 1), (1, .int a0), (2, .int p16.1), (3, .int x1.2.1), (4, .int x1.2.2.1), (5, .int p16.1)]) [1, 2, 0, 3, 4, 5] d_X_tellRing_39 rfl (by decide) rfl ?_
          refine ZO.iload (pc := 40) 4 d_X_tellRing_40 rfl ?_
          refine ZO.istore_n (pc := 42) (v := x1.2.2.1) (L' := [(0, .ref 1), (1, .int a0), (2, .int p16.1), (3, .int x1.2.2.1), (4, .int x1.2.2.1), (5, .int p16.1)]) [1, 2, 3, 0, 4, 5] d_X_tellRing_42 rfl (by decide) rfl ?_
          exact ZO.sub [0, 1, 2, 3, 4] rfl (hj19 (p16.1, x1.2.2.1) (by rw [if_neg h20, if_pos h21]))
        · refine ZO.iload (pc := 31) 5 d_X_tellRing_31 rfl ?_
          refine ZO.iload_n (pc := 33) 2 d_X_tellRing_33 rfl rfl ?_
          refine ZO.icmp_ge (pc := 34) 43 d_X_tellRing_34 (by decide) z_ite (fun h22 => ?_) (fun h22 => ?_)
          · exact ZO.sub [0, 1, 2, 3, 4] rfl (hj19 (x1.1, x1.2.1) (by rw [if_neg h20, if_neg h21, if_pos h22]))
          · refine ZO.iload (pc := 37) 5 d_X_tellRing_37 rfl ?_
            refine ZO.istore_n (pc := 39) (v := p16.1) (L' := [(0, .ref 1), (1, .int a0), (2, .int p16.1), (3, .int x1.2.1), (4, .int x1.2.2.1), (5, .int p16.1)]) [1, 2, 0, 3, 4, 5] d_X_tellRing_39 rfl (by decide) rfl ?_
            refine ZO.iload (pc := 40) 4 d_X_tellRing_40 rfl ?_
            refine ZO.istore_n (pc := 42) (v := x1.2.2.1) (L' := [(0, .ref 1), (1, .int a0), (2, .int p16.1), (3, .int x1.2.2.1), (4, .int x1.2.2.1), (5, .int p16.1)]) [1, 2, 3, 0, 4, 5] d_X_tellRing_42 rfl (by decide) rfl ?_
            exact ZO.sub [0, 1, 2, 3, 4] rfl (hj19 (p16.1, x1.2.2.1) (by rw [if_neg h20, if_neg h21, if_neg h22]))
def f_X_ring (n : Nat) (s : ZSt) : Option (Int32 × ZSt) :=
  lpN (fun j2 (x1 : Int32 × ZSt) =>
  (if (gi x1.2 1 7) ≤ x1.1 then
    bn (f_X_tellRing n (gi x1.2 1 7) x1.2) (fun p4 =>
      some (p4.1, p4.2))
  else gd (inb x1.1 12) (
      lt (sai x1.2 217 x1.1 (0 : Int32)) (fun s6 =>
      lpN (fun j8 (x7 : Int32 × ZSt) =>
      (if (gi x7.2 1 7) ≤ x7.1 then
        lt (x1.1 + (1 : Int32)) (fun v10 =>
          j2 (v10, x7.2))
      else gd (inb x7.1 6) (
          lt (gi x7.2 (z_ra 205 x7.1.toNatClampNeg) 1) (fun v12 =>
          gd (inb x1.1 6) (
          (jn (fun (x14 : ZSt) =>
            lt (x7.1 + (1 : Int32)) (fun v15 =>
              j8 (v15, x14))) (fun j16 =>
            if v12 = (gi x7.2 (z_ra 205 x1.1.toNatClampNeg) 1) then
          j16 x7.2
        else bn (f_R_left (z_ra 205 x1.1.toNatClampNeg) x7.2) (fun p18 =>
            (if (p18 &&& (f_X_on (gl x7.2 1 8) v12)) = 0 then
            j16 x7.2
          else lt (sai x7.2 217 x1.1 ((ai x7.2 217 x1.1) ||| (shI (1 : Int32) x7.1))) (fun s20 =>
              j16 s20)))))))))) n ((0 : Int32), s6))))) n ((0 : Int32), s)
set_option maxHeartbeats 4000000 in
set_option maxRecDepth 20000 in
theorem ok_X_ring (g : ZG) (n : Nat) (s : ZSt) : ZF g 2 y_X_ring [.ref 1] s (f_X_ring n s) (fun b => some (.int b.1)) (fun b => b.2) := by
  refine ZF.of (by decide +kernel) (Nat.le_of_ble_eq_true rfl) ?_
  unfold f_X_ring
  show ZO g 2 y_X_ring zu0 0 [(0, .ref 1)] [] s _ _
  refine ZO.iconst (pc := 0) (0 : Int32) d_X_ring_0 (by decide) ?_
  refine ZO.istore_n (pc := 1) (v := (0 : Int32)) (L' := [(0, .ref 1), (1, .int (0 : Int32))]) [1, 0] d_X_ring_1 rfl (by decide) rfl ?_
  refine ZO.loop (fun (x1 : Int32 × ZSt) => ([(0, .ref 1), (1, .int x1.1)] : List (Nat × Value))) (fun (x1 : Int32 × ZSt) => x1.2) [] (fun j2 x1 hj2 => ?_) rfl rfl rfl
  refine ZO.iload_n (pc := 2) 1 d_X_ring_2 rfl rfl ?_
  refine ZO.aload_n (pc := 3) 0 d_X_ring_3 rfl rfl ?_
  refine ZO.getI (pc := 4) d_X_ring_4 zo_1 zf_X_229 rfl ?_
  refine ZO.icmp_ge (pc := 7) 95 d_X_ring_7 (by decide) rfl (fun h3 => ?_) (fun h3 => ?_)
  · refine ZO.aload_n (pc := 95) 0 d_X_ring_95 rfl rfl ?_
    refine ZO.aload_n (pc := 96) 0 d_X_ring_96 rfl rfl ?_
    refine ZO.getI (pc := 97) d_X_ring_97 zo_1 zf_X_229 rfl ?_
    refine ZO.cVI (pc := 100) (As := [.int (gi x1.2 1 7)]) (rest := []) d_X_ring_100 zc_X_293 (by decide) zo_1 rfl rfl rfl (Nat.le_of_ble_eq_true rfl) (ok_X_tellRing g n (gi x1.2 1 7) x1.2) (fun p4 ep4 => ?_)
    exact ZO.iret (pc := 103)  d_X_ring_103 rfl rfl rfl
  · refine ZO.aload_n (pc := 10) 0 d_X_ring_10 rfl rfl ?_
    refine ZO.getA (pc := 11) 217 d_X_ring_11 zo_1 zf_X_72 rfl rfl ?_
    refine ZO.iload_n (pc := 14) 1 d_X_ring_14 rfl rfl ?_
    refine ZO.iconst (pc := 15) (0 : Int32) d_X_ring_15 (by decide) ?_
    refine ZO.rgd (fun h5 => ?_)
    refine ZO.iast (pc := 16) d_X_ring_16 za_217 h5 ?_
    refine ZO.ltS (fun s6 => ?_)
    refine ZO.iconst (pc := 17) (0 : Int32) d_X_ring_17 (by decide) ?_
    refine ZO.istore_n (pc := 18) (v := (0 : Int32)) (L' := [(0, .ref 1), (1, .int x1.1), (2, .int (0 : Int32))]) [1, 2, 0] d_X_ring_18 rfl (by decide) rfl ?_
    refine ZO.loop (fun (x7 : Int32 × ZSt) => ([(0, .ref 1), (1, .int x1.1), (2, .int x7.1)] : List (Nat × Value))) (fun (x7 : Int32 × ZSt) => x7.2) [] (fun j8 x7 hj8 => ?_) rfl rfl rfl
    refine ZO.iload_n (pc := 19) 2 d_X_ring_19 rfl rfl ?_
    refine ZO.aload_n (pc := 20) 0 d_X_ring_20 rfl rfl ?_
    refine ZO.getI (pc := 21) d_X_ring_21 zo_1 zf_X_229 rfl ?_
    refine ZO.icmp_ge (pc := 24) 89 d_X_ring_24 (by decide) rfl (fun h9 => ?_) (fun h9 => ?_)
    · refine ZO.iincL (pc := 89) (i := 1) (x1.1 + (1 : Int32)) (L' := fun v10 => [(0, .ref 1), (1, .int v10), (2, .int x7.1)]) [1, 0, 2] d_X_ring_89 rfl (by rfl) (by decide) (fun _ => rfl) (fun v10 => ?_)
      refine ZO.goto (pc := 92) 2 d_X_ring_92 (by decide) ?_
      exact ZO.sub [0, 1] rfl (hj2 (v10, x7.2))
    · refine ZO.aload_n (pc := 27) 0 d_X_ring_27 rfl rfl ?_
      refine ZO.getA (pc := 28) 205 d_X_ring_28 zo_1 zf_X_46 rfl rfl ?_
      refine ZO.iload_n (pc := 31) 2 d_X_ring_31 rfl rfl ?_
      refine ZO.rgd (fun h11 => ?_)
      refine ZO.aald (pc := 32) (q0 := 1) d_X_ring_32 (by decide) za_205 h11 ?_
      refine ZO.getI (pc := 33) d_X_ring_33 (zr_r h11) zf_X_239 rfl ?_
      refine ZO.ltI (fun v12 => ?_)
      refine ZO.istore_n (pc := 36) (v := v12) (L' := [(0, .ref 1), (1, .int x1.1), (2, .int x7.1), (3, .int v12)]) [1, 2, 3, 0] d_X_ring_36 rfl (by decide) rfl ?_
      refine ZO.iload_n (pc := 37) 3 d_X_ring_37 rfl rfl ?_
      refine ZO.aload_n (pc := 38) 0 d_X_ring_38 rfl rfl ?_
      refine ZO.getA (pc := 39) 205 d_X_ring_39 zo_1 zf_X_46 rfl rfl ?_
      refine ZO.iload_n (pc := 42) 1 d_X_ring_42 rfl rfl ?_
      refine ZO.rgd (fun h13 => ?_)
      refine ZO.aald (pc := 43) (q0 := 1) d_X_ring_43 (by decide) za_205 h13 ?_
      refine ZO.getI (pc := 44) d_X_ring_44 (zr_r h13) zf_X_239 rfl ?_
      refine ZO.rjn (pcJ := 83) (LJ := fun (x14 : ZSt) => ([(0, .ref 1), (1, .int x1.1), (2, .int x7.1)] : List (Nat × Value))) (SJ := fun (x14 : ZSt) => ([] : List Value)) (σJ := fun (x14 : ZSt) => x14) (fun x14 => ?_) (fun j16 hj16 => ?_)
      · refine ZO.iincL (pc := 83) (i := 2) (x7.1 + (1 : Int32)) (L' := fun v15 => [(0, .ref 1), (1, .int x1.1), (2, .int v15)]) [1, 2, 0] d_X_ring_83 rfl (by rfl) (by decide) (fun _ => rfl) (fun v15 => ?_)
        refine ZO.goto (pc := 86) 19 d_X_ring_86 (by decide) ?_
        exact hj8 (v15, x14)
      · refine ZO.icmp_eq (pc := 47) 83 d_X_ring_47 (by decide) rfl (fun h17 => ?_) (fun h17 => ?_)
        · exact ZO.sub [0, 1, 2] rfl (hj16 x7.2)
        · refine ZO.aload_n (pc := 50) 0 d_X_ring_50 rfl rfl ?_
          refine ZO.getA (pc := 51) 205 d_X_ring_51 zo_1 zf_X_46 rfl rfl ?_
          refine ZO.iload_n (pc := 54) 1 d_X_ring_54 rfl rfl ?_
          refine ZO.aald (pc := 55) (q0 := 1) d_X_ring_55 (by decide) za_205 h13 ?_
          refine ZO.cVI (pc := 56) (As := []) (rest := []) d_X_ring_56 zc_X_254 (by decide) (zr_r h13) rfl rfl rfl (Nat.le_of_ble_eq_true rfl) (ok_R_left g (z_ra 205 x1.1.toNatClampNeg) x7.2) (fun p18 ep18 => ?_)
          refine ZO.aload_n (pc := 59) 0 d_X_ring_59 rfl rfl ?_
          refine ZO.getJ (pc := 60) d_X_ring_60 zo_1 zf_X_115 rfl ?_
          refine ZO.iload_n (pc := 63) 3 d_X_ring_63 rfl rfl ?_
          refine ZO.tSI (pc := 64) (As := [.long (gl x7.2 1 8), .int v12]) (rest := [.int p18]) d_X_ring_64 zc_X_178 (by decide) rfl rfl (Nat.le_of_ble_eq_true rfl) (ok_X_on g (gl x7.2 1 8) v12 x7.2) ?_
          refine ZO.iand (pc := 67) d_X_ring_67 ?_
          refine ZO.if_eq (pc := 68) 83 d_X_ring_68 (by decide) rfl (fun h19 => ?_) (fun h19 => ?_)
          · exact ZO.sub [0, 1, 2] rfl (hj16 x7.2)
          · refine ZO.aload_n (pc := 71) 0 d_X_ring_71 rfl rfl ?_
            refine ZO.getA (pc := 72) 217 d_X_ring_72 zo_1 zf_X_72 rfl rfl ?_
            refine ZO.iload_n (pc := 75) 1 d_X_ring_75 rfl rfl ?_
            refine ZO.dup2 (pc := 76) d_X_ring_76 rfl rfl ?_
            refine ZO.iald (pc := 77) d_X_ring_77 za_217 h5 ?_
            refine ZO.iconst (pc := 78) (1 : Int32) d_X_ring_78 (by decide) ?_
            refine ZO.iload_n (pc := 79) 2 d_X_ring_79 rfl rfl ?_
            refine ZO.ishl (pc := 80) d_X_ring_80 ?_
            refine ZO.ior (pc := 81) d_X_ring_81 ?_
            refine ZO.iast (pc := 82) d_X_ring_82 za_217 h5 ?_
            refine ZO.ltS (fun s20 => ?_)
            exact ZO.sub [0, 1, 2] rfl (hj16 s20)
def f_X_look (n : Nat) (a0 : Int32) (a1 : Int32) (s : ZSt) : Option ZSt :=
  lt ((f_T_all s) &&& ((shI (1 : Int32) a0) ^^^ (-1 : Int32))) (fun v1 =>
  bn (f_V_begin v1 s) (fun p2 =>
  lpN (fun j4 (x3 : Int32 × ZSt) =>
  (if v1 < x3.1 then
    some x3.2
  else (jn (fun (x6 : ZSt) =>
        lt (x3.1 + (1 : Int32)) (fun v7 =>
          j4 (v7, x6))) (fun j8 =>
        if (x3.1 &&& (v1 ^^^ (-1 : Int32))) = 0 then
      gd (inb a1 3) (
        (if (ai x3.2 241 a1) ≤ (f_J_bitCount x3.1) then
        j8 x3.2
      else bn (f_T_mayBy n a1 x3.1 x3.2) (fun p12 =>
          (if ((srI p12.1 a0) &&& (1 : Int32)) = 0 then
          j8 p12.2
        else bn (f_V_take x3.1 p12.2) (fun p14 =>
            j8 p14)))))
    else j8 x3.2)))) n ((0 : Int32), p2)))
set_option maxHeartbeats 4000000 in
set_option maxRecDepth 20000 in
theorem ok_X_look (g : ZG) (n : Nat) (a0 : Int32) (a1 : Int32) (s : ZSt) : ZF g 3 y_X_look [.ref 1, .int a0, .int a1] s (f_X_look n a0 a1 s) (fun _ => none) (fun b => b) := by
  refine ZF.of (by decide +kernel) (Nat.le_of_ble_eq_true rfl) ?_
  unfold f_X_look
  show ZO g 3 y_X_look zu0 0 [(0, .ref 1), (1, .int a0), (2, .int a1)] [] s _ _
  refine ZO.aload_n (pc := 0) 0 d_X_look_0 rfl rfl ?_
  refine ZO.getA (pc := 1) 201 d_X_look_1 zo_1 zf_X_19 rfl rfl ?_
  refine ZO.tVI (pc := 4) (As := []) (rest := []) d_X_look_4 zc_X_305 (by decide) zo_201 rfl rfl rfl (Nat.le_of_ble_eq_true rfl) (ok_T_all g s) ?_
  refine ZO.iconst (pc := 7) (1 : Int32) d_X_look_7 (by decide) ?_
  refine ZO.iload_n (pc := 8) 1 d_X_look_8 rfl rfl ?_
  refine ZO.ishl (pc := 9) d_X_look_9 ?_
  refine ZO.iconst (pc := 10) (-1 : Int32) d_X_look_10 (by decide) ?_
  refine ZO.ixor (pc := 11) d_X_look_11 ?_
  refine ZO.iand (pc := 12) d_X_look_12 ?_
  refine ZO.ltI (fun v1 => ?_)
  refine ZO.istore_n (pc := 13) (v := v1) (L' := [(0, .ref 1), (1, .int a0), (2, .int a1), (3, .int v1)]) [1, 2, 3, 0] d_X_look_13 rfl (by decide) rfl ?_
  refine ZO.aload_n (pc := 14) 0 d_X_look_14 rfl rfl ?_
  refine ZO.getA (pc := 15) 203 d_X_look_15 zo_1 zf_X_33 rfl rfl ?_
  refine ZO.iload_n (pc := 18) 3 d_X_look_18 rfl rfl ?_
  refine ZO.cVV (pc := 19) (As := [.int v1]) (rest := []) d_X_look_19 zc_X_320 (by decide) zo_203 rfl rfl rfl (Nat.le_of_ble_eq_true rfl) (ok_V_begin g v1 s) (fun p2 ep2 => ?_)
  refine ZO.iconst (pc := 22) (0 : Int32) d_X_look_22 (by decide) ?_
  refine ZO.istore (pc := 23) (v := (0 : Int32)) (L' := [(0, .ref 1), (1, .int a0), (2, .int a1), (3, .int v1), (4, .int (0 : Int32))]) [1, 2, 3, 4, 0] d_X_look_23 (by decide) rfl ?_
  refine ZO.loop (fun (x3 : Int32 × ZSt) => ([(0, .ref 1), (1, .int a0), (2, .int a1), (3, .int v1), (4, .int x3.1)] : List (Nat × Value))) (fun (x3 : Int32 × ZSt) => x3.2) [] (fun j4 x3 hj4 => ?_) rfl rfl rfl
  refine ZO.iload (pc := 25) 4 d_X_look_25 rfl ?_
  refine ZO.iload_n (pc := 27) 3 d_X_look_27 rfl rfl ?_
  refine ZO.icmp_gt (pc := 28) 89 d_X_look_28 (by decide) rfl (fun h5 => ?_) (fun h5 => ?_)
  · exact ZO.vret (pc := 89) d_X_look_89 rfl rfl rfl
  · refine ZO.iload (pc := 31) 4 d_X_look_31 rfl ?_
    refine ZO.iload_n (pc := 33) 3 d_X_look_33 rfl rfl ?_
    refine ZO.iconst (pc := 34) (-1 : Int32) d_X_look_34 (by decide) ?_
    refine ZO.ixor (pc := 35) d_X_look_35 ?_
    refine ZO.iand (pc := 36) d_X_look_36 ?_
    refine ZO.rjn (pcJ := 83) (LJ := fun (x6 : ZSt) => ([(0, .ref 1), (1, .int a0), (2, .int a1), (3, .int v1), (4, .int x3.1)] : List (Nat × Value))) (SJ := fun (x6 : ZSt) => ([] : List Value)) (σJ := fun (x6 : ZSt) => x6) (fun x6 => ?_) (fun j8 hj8 => ?_)
    · refine ZO.iincL (pc := 83) (i := 4) (x3.1 + (1 : Int32)) (L' := fun v7 => [(0, .ref 1), (1, .int a0), (2, .int a1), (3, .int v1), (4, .int v7)]) [1, 2, 3, 4, 0] d_X_look_83 rfl (by rfl) (by decide) (fun _ => rfl) (fun v7 => ?_)
      refine ZO.goto (pc := 86) 25 d_X_look_86 (by decide) ?_
      exact hj4 (v7, x6)
    · refine ZO.if_ne (pc := 37) 83 d_X_look_37 (by decide) rfl (fun h9 => ?_) (fun h9 => ?_)
      · refine ZO.iload (pc := 40) 4 d_X_look_40 rfl ?_
        refine ZO.tSI (pc := 42) (As := [.int x3.1]) (rest := []) d_X_look_42 zc_X_271 (by decide) rfl rfl (Nat.le_of_ble_eq_true rfl) (ok_J_bitCount g x3.1 x3.2) ?_
        refine ZO.aload_n (pc := 45) 0 d_X_look_45 rfl rfl ?_
        refine ZO.getA (pc := 46) 201 d_X_look_46 zo_1 zf_X_19 rfl rfl ?_
        refine ZO.getA (pc := 49) 241 d_X_look_49 zo_201 zf_X_144 rfl rfl ?_
        refine ZO.iload_n (pc := 52) 2 d_X_look_52 rfl rfl ?_
        refine ZO.rgd (fun h10 => ?_)
        refine ZO.iald (pc := 53) d_X_look_53 za_241 h10 ?_
        refine ZO.icmp_ge (pc := 54) 83 d_X_look_54 (by decide) rfl (fun h11 => ?_) (fun h11 => ?_)
        · exact hj8 x3.2
        · refine ZO.aload_n (pc := 57) 0 d_X_look_57 rfl rfl ?_
          refine ZO.getA (pc := 58) 201 d_X_look_58 zo_1 zf_X_19 rfl rfl ?_
          refine ZO.iload_n (pc := 61) 2 d_X_look_61 rfl rfl ?_
          refine ZO.iload (pc := 62) 4 d_X_look_62 rfl ?_
          refine ZO.cVI (pc := 64) (As := [.int a1, .int x3.1]) (rest := []) d_X_look_64 zc_X_322 (by decide) zo_201 rfl rfl rfl (Nat.le_of_ble_eq_true rfl) (ok_T_mayBy g n a1 x3.1 x3.2) (fun p12 ep12 => ?_)
          refine ZO.iload_n (pc := 67) 1 d_X_look_67 rfl rfl ?_
          refine ZO.ishr (pc := 68) d_X_look_68 ?_
          refine ZO.iconst (pc := 69) (1 : Int32) d_X_look_69 (by decide) ?_
          refine ZO.iand (pc := 70) d_X_look_70 ?_
          refine ZO.if_eq (pc := 71) 83 d_X_look_71 (by decide) rfl (fun h13 => ?_) (fun h13 => ?_)
          · exact hj8 p12.2
          · refine ZO.aload_n (pc := 74) 0 d_X_look_74 rfl rfl ?_
            refine ZO.getA (pc := 75) 203 d_X_look_75 zo_1 zf_X_33 rfl rfl ?_
            refine ZO.iload (pc := 78) 4 d_X_look_78 rfl ?_
            refine ZO.cVV (pc := 80) (As := [.int x3.1]) (rest := []) d_X_look_80 zc_X_325 (by decide) zo_203 rfl rfl rfl (Nat.le_of_ble_eq_true rfl) (ok_V_take g x3.1 p12.2) (fun p14 ep14 => ?_)
            exact hj8 p14
      · exact hj8 x3.2
def f_X_needs (n : Nat) (a0 : Int32) (a1 : Int32) (s : ZSt) : Option (Int32 × ZSt) :=
  (if (f_T_has a0 s) = true then
  (if (f_X_isTable a1) = true then
    bn (f_X_look n a0 a1 s) (fun p3 =>
      some ((gi p3 203 0), p3))
  else some ((-1 : Int32), s))
else some ((-1 : Int32), s))
set_option maxHeartbeats 4000000 in
set_option maxRecDepth 20000 in
theorem ok_X_needs (g : ZG) (n : Nat) (a0 : Int32) (a1 : Int32) (s : ZSt) : ZF g 4 y_X_needs [.ref 1, .int a0, .int a1] s (f_X_needs n a0 a1 s) (fun b => some (.int b.1)) (fun b => b.2) := by
  refine ZF.of (by decide +kernel) (Nat.le_of_ble_eq_true rfl) ?_
  unfold f_X_needs
  show ZO g 4 y_X_needs zu0 0 [(0, .ref 1), (1, .int a0), (2, .int a1)] [] s _ _
  refine ZO.aload_n (pc := 0) 0 d_X_needs_0 rfl rfl ?_
  refine ZO.getA (pc := 1) 201 d_X_needs_1 zo_1 zf_X_19 rfl rfl ?_
  refine ZO.iload_n (pc := 4) 1 d_X_needs_4 rfl rfl ?_
  refine ZO.tVB (pc := 5) (As := [.int a0]) (rest := []) d_X_needs_5 zc_X_92 (by decide) zo_201 rfl rfl rfl (Nat.le_of_ble_eq_true rfl) (ok_T_has g a0 s) ?_
  refine ZO.ifb_eq (pc := 8) 18 d_X_needs_8 (by decide) rfl (fun h1 => ?_) (fun h1 => ?_)
  · refine ZO.iload_n (pc := 11) 2 d_X_needs_11 rfl rfl ?_
    refine ZO.tSB (pc := 12) (As := [.int a1]) (rest := []) d_X_needs_12 zc_X_141 (by decide) rfl rfl (Nat.le_of_ble_eq_true rfl) (ok_X_isTable g a1 s) ?_
    refine ZO.ifb_ne (pc := 15) 20 d_X_needs_15 (by decide) rfl (fun h2 => ?_) (fun h2 => ?_)
    · refine ZO.aload_n (pc := 20) 0 d_X_needs_20 rfl rfl ?_
      refine ZO.iload_n (pc := 21) 1 d_X_needs_21 rfl rfl ?_
      refine ZO.iload_n (pc := 22) 2 d_X_needs_22 rfl rfl ?_
      refine ZO.cVV (pc := 23) (As := [.int a0, .int a1]) (rest := []) d_X_needs_23 zc_X_299 (by decide) zo_1 rfl rfl rfl (Nat.le_of_ble_eq_true rfl) (ok_X_look g n a0 a1 s) (fun p3 ep3 => ?_)
      refine ZO.aload_n (pc := 26) 0 d_X_needs_26 rfl rfl ?_
      refine ZO.getA (pc := 27) 203 d_X_needs_27 zo_1 zf_X_33 rfl rfl ?_
      refine ZO.getI (pc := 30) d_X_needs_30 zo_203 zf_X_302 rfl ?_
      exact ZO.iret (pc := 33)  d_X_needs_33 rfl rfl rfl
    · refine ZO.iconst (pc := 18) (-1 : Int32) d_X_needs_18 (by decide) ?_
      exact ZO.iret (pc := 19)  d_X_needs_19 rfl rfl rfl
  · refine ZO.iconst (pc := 18) (-1 : Int32) d_X_needs_18 (by decide) ?_
    exact ZO.iret (pc := 19)  d_X_needs_19 rfl rfl rfl
def f_X_bars (n : Nat) (a0 : Int32) (a1 : Int32) (s : ZSt) : Option (Int32 × ZSt) :=
  (if (f_T_has a0 s) = true then
  (if (f_X_isTable a1) = true then
    bn (f_X_look n a0 a1 s) (fun p3 =>
      some ((((f_T_all p3) &&& ((shI (1 : Int32) a0) ^^^ (-1 : Int32))) &&& ((gi p3 203 1) ^^^ (-1 : Int32))), p3))
  else some ((-1 : Int32), s))
else some ((-1 : Int32), s))
set_option maxHeartbeats 4000000 in
set_option maxRecDepth 20000 in
theorem ok_X_bars (g : ZG) (n : Nat) (a0 : Int32) (a1 : Int32) (s : ZSt) : ZF g 4 y_X_bars [.ref 1, .int a0, .int a1] s (f_X_bars n a0 a1 s) (fun b => some (.int b.1)) (fun b => b.2) := by
  refine ZF.of (by decide +kernel) (Nat.le_of_ble_eq_true rfl) ?_
  unfold f_X_bars
  show ZO g 4 y_X_bars zu0 0 [(0, .ref 1), (1, .int a0), (2, .int a1)] [] s _ _
  refine ZO.aload_n (pc := 0) 0 d_X_bars_0 rfl rfl ?_
  refine ZO.getA (pc := 1) 201 d_X_bars_1 zo_1 zf_X_19 rfl rfl ?_
  refine ZO.iload_n (pc := 4) 1 d_X_bars_4 rfl rfl ?_
  refine ZO.tVB (pc := 5) (As := [.int a0]) (rest := []) d_X_bars_5 zc_X_92 (by decide) zo_201 rfl rfl rfl (Nat.le_of_ble_eq_true rfl) (ok_T_has g a0 s) ?_
  refine ZO.ifb_eq (pc := 8) 18 d_X_bars_8 (by decide) rfl (fun h1 => ?_) (fun h1 => ?_)
  · refine ZO.iload_n (pc := 11) 2 d_X_bars_11 rfl rfl ?_
    refine ZO.tSB (pc := 12) (As := [.int a1]) (rest := []) d_X_bars_12 zc_X_141 (by decide) rfl rfl (Nat.le_of_ble_eq_true rfl) (ok_X_isTable g a1 s) ?_
    refine ZO.ifb_ne (pc := 15) 20 d_X_bars_15 (by decide) rfl (fun h2 => ?_) (fun h2 => ?_)
    · refine ZO.aload_n (pc := 20) 0 d_X_bars_20 rfl rfl ?_
      refine ZO.iload_n (pc := 21) 1 d_X_bars_21 rfl rfl ?_
      refine ZO.iload_n (pc := 22) 2 d_X_bars_22 rfl rfl ?_
      refine ZO.cVV (pc := 23) (As := [.int a0, .int a1]) (rest := []) d_X_bars_23 zc_X_299 (by decide) zo_1 rfl rfl rfl (Nat.le_of_ble_eq_true rfl) (ok_X_look g n a0 a1 s) (fun p3 ep3 => ?_)
      refine ZO.aload_n (pc := 26) 0 d_X_bars_26 rfl rfl ?_
      refine ZO.getA (pc := 27) 201 d_X_bars_27 zo_1 zf_X_19 rfl rfl ?_
      refine ZO.tVI (pc := 30) (As := []) (rest := []) d_X_bars_30 zc_X_305 (by decide) zo_201 rfl rfl rfl (Nat.le_of_ble_eq_true rfl) (ok_T_all g p3) ?_
      refine ZO.iconst (pc := 33) (1 : Int32) d_X_bars_33 (by decide) ?_
      refine ZO.iload_n (pc := 34) 1 d_X_bars_34 rfl rfl ?_
      refine ZO.ishl (pc := 35) d_X_bars_35 ?_
      refine ZO.iconst (pc := 36) (-1 : Int32) d_X_bars_36 (by decide) ?_
      refine ZO.ixor (pc := 37) d_X_bars_37 ?_
      refine ZO.iand (pc := 38) d_X_bars_38 ?_
      refine ZO.aload_n (pc := 39) 0 d_X_bars_39 rfl rfl ?_
      refine ZO.getA (pc := 40) 203 d_X_bars_40 zo_1 zf_X_33 rfl rfl ?_
      refine ZO.getI (pc := 43) d_X_bars_43 zo_203 zf_X_308 rfl ?_
      refine ZO.iconst (pc := 46) (-1 : Int32) d_X_bars_46 (by decide) ?_
      refine ZO.ixor (pc := 47) d_X_bars_47 ?_
      refine ZO.iand (pc := 48) d_X_bars_48 ?_
      exact ZO.iret (pc := 49)  d_X_bars_49 rfl rfl rfl
    · refine ZO.iconst (pc := 18) (-1 : Int32) d_X_bars_18 (by decide) ?_
      exact ZO.iret (pc := 19)  d_X_bars_19 rfl rfl rfl
  · refine ZO.iconst (pc := 18) (-1 : Int32) d_X_bars_18 (by decide) ?_
    exact ZO.iret (pc := 19)  d_X_bars_19 rfl rfl rfl
def f_X_least (n : Nat) (a0 : Int32) (a1 : Int32) (s : ZSt) : Option (Int32 × ZSt) :=
  (if (f_T_has a0 s) = true then
  (if (f_X_isTable a1) = true then
    bn (f_X_look n a0 a1 s) (fun p3 =>
      (if (gi p3 203 4) = 0 then
      some ((-2 : Int32), p3)
    else lt (si p3 1 13 (0 : Int32)) (fun s5 =>
        bn (f_X_tell (gi s5 203 3) s5) (fun p6 =>
        bn (f_X_tell (gi p6 203 4) p6) (fun p7 =>
        some ((gi p7 203 2), p7))))))
  else some ((-1 : Int32), s))
else some ((-1 : Int32), s))
set_option maxHeartbeats 4000000 in
set_option maxRecDepth 20000 in
theorem ok_X_least (g : ZG) (n : Nat) (a0 : Int32) (a1 : Int32) (s : ZSt) : ZF g 4 y_X_least [.ref 1, .int a0, .int a1] s (f_X_least n a0 a1 s) (fun b => some (.int b.1)) (fun b => b.2) := by
  refine ZF.of (by decide +kernel) (Nat.le_of_ble_eq_true rfl) ?_
  unfold f_X_least
  show ZO g 4 y_X_least zu0 0 [(0, .ref 1), (1, .int a0), (2, .int a1)] [] s _ _
  refine ZO.aload_n (pc := 0) 0 d_X_least_0 rfl rfl ?_
  refine ZO.getA (pc := 1) 201 d_X_least_1 zo_1 zf_X_19 rfl rfl ?_
  refine ZO.iload_n (pc := 4) 1 d_X_least_4 rfl rfl ?_
  refine ZO.tVB (pc := 5) (As := [.int a0]) (rest := []) d_X_least_5 zc_X_92 (by decide) zo_201 rfl rfl rfl (Nat.le_of_ble_eq_true rfl) (ok_T_has g a0 s) ?_
  refine ZO.ifb_eq (pc := 8) 18 d_X_least_8 (by decide) rfl (fun h1 => ?_) (fun h1 => ?_)
  · refine ZO.iload_n (pc := 11) 2 d_X_least_11 rfl rfl ?_
    refine ZO.tSB (pc := 12) (As := [.int a1]) (rest := []) d_X_least_12 zc_X_141 (by decide) rfl rfl (Nat.le_of_ble_eq_true rfl) (ok_X_isTable g a1 s) ?_
    refine ZO.ifb_ne (pc := 15) 20 d_X_least_15 (by decide) rfl (fun h2 => ?_) (fun h2 => ?_)
    · refine ZO.aload_n (pc := 20) 0 d_X_least_20 rfl rfl ?_
      refine ZO.iload_n (pc := 21) 1 d_X_least_21 rfl rfl ?_
      refine ZO.iload_n (pc := 22) 2 d_X_least_22 rfl rfl ?_
      refine ZO.cVV (pc := 23) (As := [.int a0, .int a1]) (rest := []) d_X_least_23 zc_X_299 (by decide) zo_1 rfl rfl rfl (Nat.le_of_ble_eq_true rfl) (ok_X_look g n a0 a1 s) (fun p3 ep3 => ?_)
      refine ZO.aload_n (pc := 26) 0 d_X_least_26 rfl rfl ?_
      refine ZO.getA (pc := 27) 203 d_X_least_27 zo_1 zf_X_33 rfl rfl ?_
      refine ZO.getI (pc := 30) d_X_least_30 zo_203 zf_X_311 rfl ?_
      refine ZO.if_ne (pc := 33) 39 d_X_least_33 (by decide) rfl (fun h4 => ?_) (fun h4 => ?_)
      · refine ZO.bipush (pc := 36) (-2 : Int32) d_X_least_36 (by decide) ?_
        exact ZO.iret (pc := 38)  d_X_least_38 rfl rfl rfl
      · refine ZO.aload_n (pc := 39) 0 d_X_least_39 rfl rfl ?_
        refine ZO.iconst (pc := 40) (0 : Int32) d_X_least_40 (by decide) ?_
        refine ZO.putI (pc := 41) d_X_least_41 zo_1 zp_X_209 rfl ?_
        refine ZO.ltS (fun s5 => ?_)
        refine ZO.aload_n (pc := 44) 0 d_X_least_44 rfl rfl ?_
        refine ZO.aload_n (pc := 45) 0 d_X_least_45 rfl rfl ?_
        refine ZO.getA (pc := 46) 203 d_X_least_46 zo_1 zf_X_33 rfl rfl ?_
        refine ZO.getI (pc := 49) d_X_least_49 zo_203 zf_X_314 rfl ?_
        refine ZO.cVV (pc := 52) (As := [.int (gi s5 203 3)]) (rest := []) d_X_least_52 zc_X_215 (by decide) zo_1 rfl rfl rfl (Nat.le_of_ble_eq_true rfl) (ok_X_tell g (gi s5 203 3) s5) (fun p6 ep6 => ?_)
        refine ZO.aload_n (pc := 55) 0 d_X_least_55 rfl rfl ?_
        refine ZO.aload_n (pc := 56) 0 d_X_least_56 rfl rfl ?_
        refine ZO.getA (pc := 57) 203 d_X_least_57 zo_1 zf_X_33 rfl rfl ?_
        refine ZO.getI (pc := 60) d_X_least_60 zo_203 zf_X_311 rfl ?_
        refine ZO.cVV (pc := 63) (As := [.int (gi p6 203 4)]) (rest := []) d_X_least_63 zc_X_215 (by decide) zo_1 rfl rfl rfl (Nat.le_of_ble_eq_true rfl) (ok_X_tell g (gi p6 203 4) p6) (fun p7 ep7 => ?_)
        refine ZO.aload_n (pc := 66) 0 d_X_least_66 rfl rfl ?_
        refine ZO.getA (pc := 67) 203 d_X_least_67 zo_1 zf_X_33 rfl rfl ?_
        refine ZO.getI (pc := 70) d_X_least_70 zo_203 zf_X_317 rfl ?_
        exact ZO.iret (pc := 73)  d_X_least_73 rfl rfl rfl
    · refine ZO.iconst (pc := 18) (-1 : Int32) d_X_least_18 (by decide) ?_
      exact ZO.iret (pc := 19)  d_X_least_19 rfl rfl rfl
  · refine ZO.iconst (pc := 18) (-1 : Int32) d_X_least_18 (by decide) ?_
    exact ZO.iret (pc := 19)  d_X_least_19 rfl rfl rfl
def f_X_knot (n : Nat) (a0 : Int32) (s : ZSt) : Option (Int32 × ZSt) :=
  (if (f_X_isTable a0) = true then
  lpN (fun j3 (x2 : Int32 × ZSt) =>
    (if (gi x2.2 201 2) ≤ x2.1 then
      bn (f_X_tellRing n (gi x2.2 201 2) x2.2) (fun p5 =>
        some (p5.1, p5.2))
    else bn (f_X_look n x2.1 a0 x2.2) (fun p6 =>
        (lt ((if (gi p6 203 4) = 0 then
        (shI (1 : Int32) x2.1)
      else (gi p6 203 0)) : Int32) (fun x7 =>
          gd (inb x2.1 12) (
            lt (sai p6 217 x2.1 x7) (fun s9 =>
            lt (x2.1 + (1 : Int32)) (fun v10 =>
            j3 (v10, s9))))))))) n ((0 : Int32), s)
else some ((-1 : Int32), s))
set_option maxHeartbeats 4000000 in
set_option maxRecDepth 20000 in
theorem ok_X_knot (g : ZG) (n : Nat) (a0 : Int32) (s : ZSt) : ZF g 4 y_X_knot [.ref 1, .int a0] s (f_X_knot n a0 s) (fun b => some (.int b.1)) (fun b => b.2) := by
  refine ZF.of (by decide +kernel) (Nat.le_of_ble_eq_true rfl) ?_
  unfold f_X_knot
  show ZO g 4 y_X_knot zu0 0 [(0, .ref 1), (1, .int a0)] [] s _ _
  refine ZO.iload_n (pc := 0) 1 d_X_knot_0 rfl rfl ?_
  refine ZO.tSB (pc := 1) (As := [.int a0]) (rest := []) d_X_knot_1 zc_X_141 (by decide) rfl rfl (Nat.le_of_ble_eq_true rfl) (ok_X_isTable g a0 s) ?_
  refine ZO.ifb_ne (pc := 4) 9 d_X_knot_4 (by decide) rfl (fun h1 => ?_) (fun h1 => ?_)
  · refine ZO.iconst (pc := 9) (0 : Int32) d_X_knot_9 (by decide) ?_
    refine ZO.istore_n (pc := 10) (v := (0 : Int32)) (L' := [(0, .ref 1), (1, .int a0), (2, .int (0 : Int32))]) [1, 2, 0] d_X_knot_10 rfl (by decide) rfl ?_
    refine ZO.loop (fun (x2 : Int32 × ZSt) => ([(0, .ref 1), (1, .int a0), (2, .int x2.1)] : List (Nat × Value))) (fun (x2 : Int32 × ZSt) => x2.2) [] (fun j3 x2 hj3 => ?_) rfl rfl rfl
    refine ZO.iload_n (pc := 11) 2 d_X_knot_11 rfl rfl ?_
    refine ZO.aload_n (pc := 12) 0 d_X_knot_12 rfl rfl ?_
    refine ZO.getA (pc := 13) 201 d_X_knot_13 zo_1 zf_X_19 rfl rfl ?_
    refine ZO.getI (pc := 16) d_X_knot_16 zo_201 zf_X_88 rfl ?_
    refine ZO.icmp_ge (pc := 19) 63 d_X_knot_19 (by decide) rfl (fun h4 => ?_) (fun h4 => ?_)
    · refine ZO.aload_n (pc := 63) 0 d_X_knot_63 rfl rfl ?_
      refine ZO.aload_n (pc := 64) 0 d_X_knot_64 rfl rfl ?_
      refine ZO.getA (pc := 65) 201 d_X_knot_65 zo_1 zf_X_19 rfl rfl ?_
      refine ZO.getI (pc := 68) d_X_knot_68 zo_201 zf_X_88 rfl ?_
      refine ZO.cVI (pc := 71) (As := [.int (gi x2.2 201 2)]) (rest := []) d_X_knot_71 zc_X_293 (by decide) zo_1 rfl rfl rfl (Nat.le_of_ble_eq_true rfl) (ok_X_tellRing g n (gi x2.2 201 2) x2.2) (fun p5 ep5 => ?_)
      exact ZO.iret (pc := 74)  d_X_knot_74 rfl rfl rfl
    · refine ZO.aload_n (pc := 22) 0 d_X_knot_22 rfl rfl ?_
      refine ZO.iload_n (pc := 23) 2 d_X_knot_23 rfl rfl ?_
      refine ZO.iload_n (pc := 24) 1 d_X_knot_24 rfl rfl ?_
      refine ZO.cVV (pc := 25) (As := [.int x2.1, .int a0]) (rest := []) d_X_knot_25 zc_X_299 (by decide) zo_1 rfl rfl rfl (Nat.le_of_ble_eq_true rfl) (ok_X_look g n x2.1 a0 x2.2) (fun p6 ep6 => ?_)
      refine ZO.aload_n (pc := 28) 0 d_X_knot_28 rfl rfl ?_
      refine ZO.getA (pc := 29) 217 d_X_knot_29 zo_1 zf_X_72 rfl rfl ?_
      refine ZO.iload_n (pc := 32) 2 d_X_knot_32 rfl rfl ?_
      refine ZO.aload_n (pc := 33) 0 d_X_knot_33 rfl rfl ?_
      refine ZO.getA (pc := 34) 203 d_X_knot_34 zo_1 zf_X_33 rfl rfl ?_
      refine ZO.getI (pc := 37) d_X_knot_37 zo_203 zf_X_311 rfl ?_
      refine ZO.phi (pcJ := 56) (LJ := fun (x7 : Int32) => ([(0, .ref 1), (1, .int a0), (2, .int x2.1)] : List (Nat × Value))) (SJ := fun (x7 : Int32) => ([.int x7, .int x2.1, .ref 217] : List Value)) (fun x7 => ?_) (fun t hj11 => ?_)
      · refine ZO.rgd (fun h8 => ?_)
        refine ZO.iast (pc := 56) d_X_knot_56 za_217 h8 ?_
        refine ZO.ltS (fun s9 => ?_)
        refine ZO.iincL (pc := 57) (i := 2) (x2.1 + (1 : Int32)) (L' := fun v10 => [(0, .ref 1), (1, .int a0), (2, .int v10)]) [1, 2, 0] d_X_knot_57 rfl (by rfl) (by decide) (fun _ => rfl) (fun v10 => ?_)
        refine ZO.goto (pc := 60) 11 d_X_knot_60 (by decide) ?_
        exact hj3 (v10, s9)
      · refine ZO.if_ne (pc := 40) 49 d_X_knot_40 (by decide) z_ite (fun h12 => ?_) (fun h12 => ?_)
        · refine ZO.iconst (pc := 43) (1 : Int32) d_X_knot_43 (by decide) ?_
          refine ZO.iload_n (pc := 44) 2 d_X_knot_44 rfl rfl ?_
          refine ZO.ishl (pc := 45) d_X_knot_45 ?_
          refine ZO.goto (pc := 46) 56 d_X_knot_46 (by decide) ?_
          exact hj11 (shI (1 : Int32) x2.1) (by rw [if_pos h12])
        · refine ZO.aload_n (pc := 49) 0 d_X_knot_49 rfl rfl ?_
          refine ZO.getA (pc := 50) 203 d_X_knot_50 zo_1 zf_X_33 rfl rfl ?_
          refine ZO.getI (pc := 53) d_X_knot_53 zo_203 zf_X_302 rfl ?_
          exact hj11 (gi p6 203 0) (by rw [if_neg h12])
  · refine ZO.iconst (pc := 7) (-1 : Int32) d_X_knot_7 (by decide) ?_
    exact ZO.iret (pc := 8)  d_X_knot_8 rfl rfl rfl
def f_X_hold (n : Nat) (a0 : Int32) (s : ZSt) : Option (Int32 × ZSt) :=
  (if (f_X_isTable a0) = true then
  lpN (fun j3 (x2 : Int32 × Int32 × Int32 × ZSt) =>
    (if (f_T_all x2.2.2.2) < x2.2.2.1 then
      lt (si x2.2.2.2 1 13 (0 : Int32)) (fun s5 =>
        bn (f_X_tell x2.2.1 s5) (fun p6 =>
        some (x2.1, p6)))
    else gd (inb a0 3) (
        (jn (fun (x8 : Int32 × Int32 × ZSt) =>
          lt (x2.2.2.1 + (1 : Int32)) (fun v9 =>
            j3 (x8.1, x8.2.1, v9, x8.2.2))) (fun j10 =>
          if (ai x2.2.2.2 241 a0) < (f_J_bitCount x2.2.2.1) then
        j10 (x2.1, x2.2.1, x2.2.2.2)
      else bn (f_T_mayBy n a0 x2.2.2.1 x2.2.2.2) (fun p12 =>
          (if (x2.2.2.1 &&& (p12.1 ^^^ (-1 : Int32))) = 0 then
          lt (x2.1 + (1 : Int32)) (fun v14 =>
            (if (f_J_bitCount x2.2.2.1) ≤ (f_J_bitCount x2.2.1) then
            j10 (v14, x2.2.1, p12.2)
          else j10 (v14, x2.2.2.1, p12.2)))
        else j10 (x2.1, x2.2.1, p12.2)))))))) n ((0 : Int32), (0 : Int32), (0 : Int32), s)
else some ((-1 : Int32), s))
set_option maxHeartbeats 4000000 in
set_option maxRecDepth 20000 in
theorem ok_X_hold (g : ZG) (n : Nat) (a0 : Int32) (s : ZSt) : ZF g 3 y_X_hold [.ref 1, .int a0] s (f_X_hold n a0 s) (fun b => some (.int b.1)) (fun b => b.2) := by
  refine ZF.of (by decide +kernel) (Nat.le_of_ble_eq_true rfl) ?_
  unfold f_X_hold
  show ZO g 3 y_X_hold zu0 0 [(0, .ref 1), (1, .int a0)] [] s _ _
  refine ZO.iload_n (pc := 0) 1 d_X_hold_0 rfl rfl ?_
  refine ZO.tSB (pc := 1) (As := [.int a0]) (rest := []) d_X_hold_1 zc_X_141 (by decide) rfl rfl (Nat.le_of_ble_eq_true rfl) (ok_X_isTable g a0 s) ?_
  refine ZO.ifb_ne (pc := 4) 9 d_X_hold_4 (by decide) rfl (fun h1 => ?_) (fun h1 => ?_)
  · refine ZO.iconst (pc := 9) (0 : Int32) d_X_hold_9 (by decide) ?_
    refine ZO.istore_n (pc := 10) (v := (0 : Int32)) (L' := [(0, .ref 1), (1, .int a0), (2, .int (0 : Int32))]) [1, 2, 0] d_X_hold_10 rfl (by decide) rfl ?_
    refine ZO.iconst (pc := 11) (0 : Int32) d_X_hold_11 (by decide) ?_
    refine ZO.istore_n (pc := 12) (v := (0 : Int32)) (L' := [(0, .ref 1), (1, .int a0), (2, .int (0 : Int32)), (3, .int (0 : Int32))]) [1, 2, 3, 0] d_X_hold_12 rfl (by decide) rfl ?_
    refine ZO.iconst (pc := 13) (0 : Int32) d_X_hold_13 (by decide) ?_
    refine ZO.istore (pc := 14) (v := (0 : Int32)) (L' := [(0, .ref 1), (1, .int a0), (2, .int (0 : Int32)), (3, .int (0 : Int32)), (4, .int (0 : Int32))]) [1, 2, 3, 4, 0] d_X_hold_14 (by decide) rfl ?_
    refine ZO.loop (fun (x2 : Int32 × Int32 × Int32 × ZSt) => ([(0, .ref 1), (1, .int a0), (2, .int x2.1), (3, .int x2.2.1), (4, .int x2.2.2.1)] : List (Nat × Value))) (fun (x2 : Int32 × Int32 × Int32 × ZSt) => x2.2.2.2) [] (fun j3 x2 hj3 => ?_) rfl rfl rfl
    refine ZO.iload (pc := 16) 4 d_X_hold_16 rfl ?_
    refine ZO.aload_n (pc := 18) 0 d_X_hold_18 rfl rfl ?_
    refine ZO.getA (pc := 19) 201 d_X_hold_19 zo_1 zf_X_19 rfl rfl ?_
    refine ZO.tVI (pc := 22) (As := []) (rest := [.int x2.2.2.1]) d_X_hold_22 zc_X_305 (by decide) zo_201 rfl rfl rfl (Nat.le_of_ble_eq_true rfl) (ok_T_all g x2.2.2.2) ?_
    refine ZO.icmp_gt (pc := 25) 87 d_X_hold_25 (by decide) rfl (fun h4 => ?_) (fun h4 => ?_)
    · refine ZO.aload_n (pc := 87) 0 d_X_hold_87 rfl rfl ?_
      refine ZO.iconst (pc := 88) (0 : Int32) d_X_hold_88 (by decide) ?_
      refine ZO.putI (pc := 89) d_X_hold_89 zo_1 zp_X_209 rfl ?_
      refine ZO.ltS (fun s5 => ?_)
      refine ZO.aload_n (pc := 92) 0 d_X_hold_92 rfl rfl ?_
      refine ZO.iload_n (pc := 93) 3 d_X_hold_93 rfl rfl ?_
      refine ZO.cVV (pc := 94) (As := [.int x2.2.1]) (rest := []) d_X_hold_94 zc_X_215 (by decide) zo_1 rfl rfl rfl (Nat.le_of_ble_eq_true rfl) (ok_X_tell g x2.2.1 s5) (fun p6 ep6 => ?_)
      refine ZO.iload_n (pc := 97) 2 d_X_hold_97 rfl rfl ?_
      exact ZO.iret (pc := 98)  d_X_hold_98 rfl rfl rfl
    · refine ZO.iload (pc := 28) 4 d_X_hold_28 rfl ?_
      refine ZO.tSI (pc := 30) (As := [.int x2.2.2.1]) (rest := []) d_X_hold_30 zc_X_271 (by decide) rfl rfl (Nat.le_of_ble_eq_true rfl) (ok_J_bitCount g x2.2.2.1 x2.2.2.2) ?_
      refine ZO.aload_n (pc := 33) 0 d_X_hold_33 rfl rfl ?_
      refine ZO.getA (pc := 34) 201 d_X_hold_34 zo_1 zf_X_19 rfl rfl ?_
      refine ZO.getA (pc := 37) 241 d_X_hold_37 zo_201 zf_X_144 rfl rfl ?_
      refine ZO.iload_n (pc := 40) 1 d_X_hold_40 rfl rfl ?_
      refine ZO.rgd (fun h7 => ?_)
      refine ZO.iald (pc := 41) d_X_hold_41 za_241 h7 ?_
      refine ZO.rjn (pcJ := 81) (LJ := fun (x8 : Int32 × Int32 × ZSt) => ([(0, .ref 1), (1, .int a0), (2, .int x8.1), (3, .int x8.2.1), (4, .int x2.2.2.1)] : List (Nat × Value))) (SJ := fun (x8 : Int32 × Int32 × ZSt) => ([] : List Value)) (σJ := fun (x8 : Int32 × Int32 × ZSt) => x8.2.2) (fun x8 => ?_) (fun j10 hj10 => ?_)
      · refine ZO.iincL (pc := 81) (i := 4) (x2.2.2.1 + (1 : Int32)) (L' := fun v9 => [(0, .ref 1), (1, .int a0), (2, .int x8.1), (3, .int x8.2.1), (4, .int v9)]) [1, 2, 3, 4, 0] d_X_hold_81 rfl (by rfl) (by decide) (fun _ => rfl) (fun v9 => ?_)
        refine ZO.goto (pc := 84) 16 d_X_hold_84 (by decide) ?_
        exact hj3 (x8.1, x8.2.1, v9, x8.2.2)
      · refine ZO.icmp_gt (pc := 42) 81 d_X_hold_42 (by decide) rfl (fun h11 => ?_) (fun h11 => ?_)
        · exact hj10 (x2.1, x2.2.1, x2.2.2.2)
        · refine ZO.iload (pc := 45) 4 d_X_hold_45 rfl ?_
          refine ZO.aload_n (pc := 47) 0 d_X_hold_47 rfl rfl ?_
          refine ZO.getA (pc := 48) 201 d_X_hold_48 zo_1 zf_X_19 rfl rfl ?_
          refine ZO.iload_n (pc := 51) 1 d_X_hold_51 rfl rfl ?_
          refine ZO.iload (pc := 52) 4 d_X_hold_52 rfl ?_
          refine ZO.cVI (pc := 54) (As := [.int a0, .int x2.2.2.1]) (rest := [.int x2.2.2.1]) d_X_hold_54 zc_X_322 (by decide) zo_201 rfl rfl rfl (Nat.le_of_ble_eq_true rfl) (ok_T_mayBy g n a0 x2.2.2.1 x2.2.2.2) (fun p12 ep12 => ?_)
          refine ZO.iconst (pc := 57) (-1 : Int32) d_X_hold_57 (by decide) ?_
          refine ZO.ixor (pc := 58) d_X_hold_58 ?_
          refine ZO.iand (pc := 59) d_X_hold_59 ?_
          refine ZO.if_ne (pc := 60) 81 d_X_hold_60 (by decide) rfl (fun h13 => ?_) (fun h13 => ?_)
          · refine ZO.iincL (pc := 63) (i := 2) (x2.1 + (1 : Int32)) (L' := fun v14 => [(0, .ref 1), (1, .int a0), (2, .int v14), (3, .int x2.2.1), (4, .int x2.2.2.1)]) [1, 2, 0, 3, 4] d_X_hold_63 rfl (by rfl) (by decide) (fun _ => rfl) (fun v14 => ?_)
            refine ZO.iload (pc := 66) 4 d_X_hold_66 rfl ?_
            refine ZO.tSI (pc := 68) (As := [.int x2.2.2.1]) (rest := []) d_X_hold_68 zc_X_271 (by decide) rfl rfl (Nat.le_of_ble_eq_true rfl) (ok_J_bitCount g x2.2.2.1 p12.2) ?_
            refine ZO.iload_n (pc := 71) 3 d_X_hold_71 rfl rfl ?_
            refine ZO.tSI (pc := 72) (As := [.int x2.2.1]) (rest := [.int (f_J_bitCount x2.2.2.1)]) d_X_hold_72 zc_X_271 (by decide) rfl rfl (Nat.le_of_ble_eq_true rfl) (ok_J_bitCount g x2.2.1 p12.2) ?_
            refine ZO.icmp_le (pc := 75) 81 d_X_hold_75 (by decide) rfl (fun h15 => ?_) (fun h15 => ?_)
            · exact hj10 (v14, x2.2.1, p12.2)
            · refine ZO.iload (pc := 78) 4 d_X_hold_78 rfl ?_
              refine ZO.istore_n (pc := 80) (v := x2.2.2.1) (L' := [(0, .ref 1), (1, .int a0), (2, .int v14), (3, .int x2.2.2.1), (4, .int x2.2.2.1)]) [1, 2, 3, 0, 4] d_X_hold_80 rfl (by decide) rfl ?_
              exact hj10 (v14, x2.2.2.1, p12.2)
          · exact hj10 (x2.1, x2.2.1, p12.2)
  · refine ZO.iconst (pc := 7) (-1 : Int32) d_X_hold_7 (by decide) ?_
    exact ZO.iret (pc := 8)  d_X_hold_8 rfl rfl rfl
def f_X_searchTable (n : Nat) (a0 : Int32) (s : ZSt) : Option ZSt :=
  bn (f_S_clear n s) (fun p1 =>
  bn (f_S_seed n (0 : Int64) p1) (fun p2 =>
  bn (f_S_spread n a0 p2) (fun p3 =>
  some p3.2)))
set_option maxHeartbeats 4000000 in
set_option maxRecDepth 20000 in
theorem ok_X_searchTable (g : ZG) (n : Nat) (a0 : Int32) (s : ZSt) : ZF g 6 y_X_searchTable [.ref 1, .int a0] s (f_X_searchTable n a0 s) (fun _ => none) (fun b => b) := by
  refine ZF.of (by decide +kernel) (Nat.le_of_ble_eq_true rfl) ?_
  unfold f_X_searchTable
  show ZO g 6 y_X_searchTable zu0 0 [(0, .ref 1), (1, .int a0)] [] s _ _
  refine ZO.aload_n (pc := 0) 0 d_X_searchTable_0 rfl rfl ?_
  refine ZO.getA (pc := 1) 202 d_X_searchTable_1 zo_1 zf_X_26 rfl rfl ?_
  refine ZO.cVV (pc := 4) (As := []) (rest := []) d_X_searchTable_4 zc_X_334 (by decide) zo_202 rfl rfl rfl (Nat.le_of_ble_eq_true rfl) (ok_S_clear g n s) (fun p1 ep1 => ?_)
  refine ZO.aload_n (pc := 7) 0 d_X_searchTable_7 rfl rfl ?_
  refine ZO.getA (pc := 8) 202 d_X_searchTable_8 zo_1 zf_X_26 rfl rfl ?_
  refine ZO.lconst (pc := 11) (0 : Int64) d_X_searchTable_11 (by decide) ?_
  refine ZO.cVV (pc := 12) (As := [.long (0 : Int64)]) (rest := []) d_X_searchTable_12 zc_X_335 (by decide) zo_202 rfl rfl rfl (Nat.le_of_ble_eq_true rfl) (ok_S_seed g n (0 : Int64) p1) (fun p2 ep2 => ?_)
  refine ZO.aload_n (pc := 15) 0 d_X_searchTable_15 rfl rfl ?_
  refine ZO.getA (pc := 16) 202 d_X_searchTable_16 zo_1 zf_X_26 rfl rfl ?_
  refine ZO.aload_n (pc := 19) 0 d_X_searchTable_19 rfl rfl ?_
  refine ZO.getA (pc := 20) 201 d_X_searchTable_20 zo_1 zf_X_19 rfl rfl ?_
  refine ZO.iload_n (pc := 23) 1 d_X_searchTable_23 rfl rfl ?_
  refine ZO.cVB (pc := 24) (As := [.ref 201, .int a0]) (rest := []) d_X_searchTable_24 zc_X_339 (by decide) zo_202 rfl rfl rfl (Nat.le_of_ble_eq_true rfl) (ok_S_spread g n a0 p2) (fun p3 ep3 => ?_)
  refine ZO.pop (pc := 27) d_X_searchTable_27 rfl ?_
  exact ZO.vret (pc := 28) d_X_searchTable_28 rfl rfl rfl
def f_X_tellReach (n : Nat) (s : ZSt) : Option (Int32 × ZSt) :=
  lt (si s 1 13 (0 : Int32)) (fun s1 =>
  bn (f_S_union n s1) (fun p2 =>
  bn (f_X_tell p2 s1) (fun p3 =>
  bn (f_S_farthest p3) (fun p4 =>
  bn (f_X_tell p4 p3) (fun p5 =>
  some ((gi p5 202 5), p5))))))
set_option maxHeartbeats 4000000 in
set_option maxRecDepth 20000 in
theorem ok_X_tellReach (g : ZG) (n : Nat) (s : ZSt) : ZF g 3 y_X_tellReach [.ref 1] s (f_X_tellReach n s) (fun b => some (.int b.1)) (fun b => b.2) := by
  refine ZF.of (by decide +kernel) (Nat.le_of_ble_eq_true rfl) ?_
  unfold f_X_tellReach
  show ZO g 3 y_X_tellReach zu0 0 [(0, .ref 1)] [] s _ _
  refine ZO.aload_n (pc := 0) 0 d_X_tellReach_0 rfl rfl ?_
  refine ZO.iconst (pc := 1) (0 : Int32) d_X_tellReach_1 (by decide) ?_
  refine ZO.putI (pc := 2) d_X_tellReach_2 zo_1 zp_X_209 rfl ?_
  refine ZO.ltS (fun s1 => ?_)
  refine ZO.aload_n (pc := 5) 0 d_X_tellReach_5 rfl rfl ?_
  refine ZO.aload_n (pc := 6) 0 d_X_tellReach_6 rfl rfl ?_
  refine ZO.getA (pc := 7) 202 d_X_tellReach_7 zo_1 zf_X_26 rfl rfl ?_
  refine ZO.cVI (pc := 10) (As := []) (rest := [.ref 1]) d_X_tellReach_10 zc_X_343 (by decide) zo_202 rfl rfl rfl (Nat.le_of_ble_eq_true rfl) (ok_S_union g n s1) (fun p2 ep2 => ?_)
  refine ZO.cVV (pc := 13) (As := [.int p2]) (rest := []) d_X_tellReach_13 zc_X_215 (by decide) zo_1 rfl rfl rfl (Nat.le_of_ble_eq_true rfl) (ok_X_tell g p2 s1) (fun p3 ep3 => ?_)
  refine ZO.aload_n (pc := 16) 0 d_X_tellReach_16 rfl rfl ?_
  refine ZO.aload_n (pc := 17) 0 d_X_tellReach_17 rfl rfl ?_
  refine ZO.getA (pc := 18) 202 d_X_tellReach_18 zo_1 zf_X_26 rfl rfl ?_
  refine ZO.cVI (pc := 21) (As := []) (rest := [.ref 1]) d_X_tellReach_21 zc_X_346 (by decide) zo_202 rfl rfl rfl (Nat.le_of_ble_eq_true rfl) (ok_S_farthest g p3) (fun p4 ep4 => ?_)
  refine ZO.cVV (pc := 24) (As := [.int p4]) (rest := []) d_X_tellReach_24 zc_X_215 (by decide) zo_1 rfl rfl rfl (Nat.le_of_ble_eq_true rfl) (ok_X_tell g p4 p3) (fun p5 ep5 => ?_)
  refine ZO.aload_n (pc := 27) 0 d_X_tellReach_27 rfl rfl ?_
  refine ZO.getA (pc := 28) 202 d_X_tellReach_28 zo_1 zf_X_26 rfl rfl ?_
  refine ZO.getI (pc := 31) d_X_tellReach_31 zo_202 zf_X_349 rfl ?_
  exact ZO.iret (pc := 34)  d_X_tellReach_34 rfl rfl rfl
def f_X_comes (n : Nat) (a0 : Int32) (s : ZSt) : Option (Int32 × ZSt) :=
  (if (f_X_isTable a0) = true then
  bn (f_X_searchTable n a0 s) (fun p2 =>
    bn (f_X_tellReach n p2) (fun p3 =>
    some (p3.1, p3.2)))
else some ((-1 : Int32), s))
set_option maxHeartbeats 4000000 in
set_option maxRecDepth 20000 in
theorem ok_X_comes (g : ZG) (n : Nat) (a0 : Int32) (s : ZSt) : ZF g 7 y_X_comes [.ref 1, .int a0] s (f_X_comes n a0 s) (fun b => some (.int b.1)) (fun b => b.2) := by
  refine ZF.of (by decide +kernel) (Nat.le_of_ble_eq_true rfl) ?_
  unfold f_X_comes
  show ZO g 7 y_X_comes zu0 0 [(0, .ref 1), (1, .int a0)] [] s _ _
  refine ZO.iload_n (pc := 0) 1 d_X_comes_0 rfl rfl ?_
  refine ZO.tSB (pc := 1) (As := [.int a0]) (rest := []) d_X_comes_1 zc_X_141 (by decide) rfl rfl (Nat.le_of_ble_eq_true rfl) (ok_X_isTable g a0 s) ?_
  refine ZO.ifb_ne (pc := 4) 9 d_X_comes_4 (by decide) rfl (fun h1 => ?_) (fun h1 => ?_)
  · refine ZO.aload_n (pc := 9) 0 d_X_comes_9 rfl rfl ?_
    refine ZO.iload_n (pc := 10) 1 d_X_comes_10 rfl rfl ?_
    refine ZO.cVV (pc := 11) (As := [.int a0]) (rest := []) d_X_comes_11 zc_X_328 (by decide) zo_1 rfl rfl rfl (Nat.le_of_ble_eq_true rfl) (ok_X_searchTable g n a0 s) (fun p2 ep2 => ?_)
    refine ZO.aload_n (pc := 14) 0 d_X_comes_14 rfl rfl ?_
    refine ZO.cVI (pc := 15) (As := []) (rest := []) d_X_comes_15 zc_X_331 (by decide) zo_1 rfl rfl rfl (Nat.le_of_ble_eq_true rfl) (ok_X_tellReach g n p2) (fun p3 ep3 => ?_)
    exact ZO.iret (pc := 18)  d_X_comes_18 rfl rfl rfl
  · refine ZO.iconst (pc := 7) (-1 : Int32) d_X_comes_7 (by decide) ?_
    exact ZO.iret (pc := 8)  d_X_comes_8 rfl rfl rfl
def f_X_tellWay (n : Nat) (a0 : Int32) (s : ZSt) : Option (Int32 × ZSt) :=
  (if a0 = (-1 : Int32) then
  some ((-2 : Int32), s)
else gd (inb a0 5000) (
    lt (ai s 263 a0) (fun v3 =>
    lt (si s 1 13 (imin v3 (10 : Int32))) (fun s4 =>
    lt (v3 - (1 : Int32)) (fun v5 =>
    lpN (fun j7 (x6 : Int32 × Int32 × ZSt) =>
    (if x6.2.1 < 0 then
      some (v3, x6.2.2)
    else (if x6.1 = (-1 : Int32) then
        some (v3, x6.2.2)
      else (jn (fun (x10 : ZSt) =>
            gd (inb x6.1 5000) (
              lt (ai x10 261 x6.1) (fun v12 =>
              lt (x6.2.1 + (-1 : Int32)) (fun v13 =>
              j7 (v12, v13, x10))))) (fun j14 =>
            if (gi x6.2.2 1 13) ≤ x6.2.1 then
          j14 x6.2.2
        else gd (inb x6.1 5000) (
            gd (inb x6.2.1 12) (
            lt (sai x6.2.2 212 x6.2.1 (ai x6.2.2 262 x6.1)) (fun s18 =>
            j14 s18)))))))) n (a0, v5, s4))))))
set_option maxHeartbeats 4000000 in
set_option maxRecDepth 20000 in
theorem ok_X_tellWay (g : ZG) (n : Nat) (a0 : Int32) (s : ZSt) : ZF g 1 y_X_tellWay [.ref 1, .int a0] s (f_X_tellWay n a0 s) (fun b => some (.int b.1)) (fun b => b.2) := by
  refine ZF.of (by decide +kernel) (Nat.le_of_ble_eq_true rfl) ?_
  unfold f_X_tellWay
  show ZO g 1 y_X_tellWay zu0 0 [(0, .ref 1), (1, .int a0)] [] s _ _
  refine ZO.iload_n (pc := 0) 1 d_X_tellWay_0 rfl rfl ?_
  refine ZO.iconst (pc := 1) (-1 : Int32) d_X_tellWay_1 (by decide) ?_
  refine ZO.icmp_ne (pc := 2) 8 d_X_tellWay_2 (by decide) rfl (fun h1 => ?_) (fun h1 => ?_)
  · refine ZO.bipush (pc := 5) (-2 : Int32) d_X_tellWay_5 (by decide) ?_
    exact ZO.iret (pc := 7)  d_X_tellWay_7 rfl rfl rfl
  · refine ZO.aload_n (pc := 8) 0 d_X_tellWay_8 rfl rfl ?_
    refine ZO.getA (pc := 9) 202 d_X_tellWay_9 zo_1 zf_X_26 rfl rfl ?_
    refine ZO.getA (pc := 12) 263 d_X_tellWay_12 zo_202 zf_X_356 rfl rfl ?_
    refine ZO.iload_n (pc := 15) 1 d_X_tellWay_15 rfl rfl ?_
    refine ZO.rgd (fun h2 => ?_)
    refine ZO.iald (pc := 16) d_X_tellWay_16 za_263 h2 ?_
    refine ZO.ltI (fun v3 => ?_)
    refine ZO.istore_n (pc := 17) (v := v3) (L' := [(0, .ref 1), (1, .int a0), (2, .int v3)]) [1, 2, 0] d_X_tellWay_17 rfl (by decide) rfl ?_
    refine ZO.aload_n (pc := 18) 0 d_X_tellWay_18 rfl rfl ?_
    refine ZO.iload_n (pc := 19) 2 d_X_tellWay_19 rfl rfl ?_
    refine ZO.bipush (pc := 20) (10 : Int32) d_X_tellWay_20 (by decide) ?_
    refine ZO.imin (pc := 22) d_X_tellWay_22 zm_X_151 (by decide) (Nat.le_of_ble_eq_true rfl) ?_
    refine ZO.putI (pc := 25) d_X_tellWay_25 zo_1 zp_X_209 rfl ?_
    refine ZO.ltS (fun s4 => ?_)
    refine ZO.iload_n (pc := 28) 1 d_X_tellWay_28 rfl rfl ?_
    refine ZO.istore_n (pc := 29) (v := a0) (L' := [(0, .ref 1), (1, .int a0), (2, .int v3), (3, .int a0)]) [1, 2, 3, 0] d_X_tellWay_29 rfl (by decide) rfl ?_
    refine ZO.iload_n (pc := 30) 2 d_X_tellWay_30 rfl rfl ?_
    refine ZO.iconst (pc := 31) (1 : Int32) d_X_tellWay_31 (by decide) ?_
    refine ZO.isub (pc := 32) d_X_tellWay_32 ?_
    refine ZO.ltI (fun v5 => ?_)
    refine ZO.istore (pc := 33) (v := v5) (L' := [(0, .ref 1), (1, .int a0), (2, .int v3), (3, .int a0), (4, .int v5)]) [1, 2, 3, 4, 0] d_X_tellWay_33 (by decide) rfl ?_
    refine ZO.sub (L' := [(0, .ref 1), (2, .int v3), (3, .int a0), (4, .int v5)]) [0, 2, 3, 4] rfl ?_
    refine ZO.loop (fun (x6 : Int32 × Int32 × ZSt) => ([(0, .ref 1), (2, .int v3), (3, .int x6.1), (4, .int x6.2.1)] : List (Nat × Value))) (fun (x6 : Int32 × Int32 × ZSt) => x6.2.2) [] (fun j7 x6 hj7 => ?_) rfl rfl rfl
    refine ZO.iload (pc := 35) 3 d_X_tellWay_35 rfl ?_
    refine ZO.if_lt (pc := 37) 86 d_X_tellWay_37 (by decide) rfl (fun h8 => ?_) (fun h8 => ?_)
    · refine ZO.iload_n (pc := 86) 1 d_X_tellWay_86 rfl rfl ?_
      exact ZO.iret (pc := 87)  d_X_tellWay_87 rfl rfl rfl
    · refine ZO.iload_n (pc := 40) 2 d_X_tellWay_40 rfl rfl ?_
      refine ZO.iconst (pc := 41) (-1 : Int32) d_X_tellWay_41 (by decide) ?_
      refine ZO.icmp_eq (pc := 42) 86 d_X_tellWay_42 (by decide) rfl (fun h9 => ?_) (fun h9 => ?_)
      · refine ZO.iload_n (pc := 86) 1 d_X_tellWay_86 rfl rfl ?_
        exact ZO.iret (pc := 87)  d_X_tellWay_87 rfl rfl rfl
      · refine ZO.iload (pc := 45) 3 d_X_tellWay_45 rfl ?_
        refine ZO.aload_n (pc := 47) 0 d_X_tellWay_47 rfl rfl ?_
        refine ZO.getI (pc := 48) d_X_tellWay_48 zo_1 zf_X_209 rfl ?_
        refine ZO.rjn (pcJ := 70) (LJ := fun (x10 : ZSt) => ([(0, .ref 1), (2, .int v3), (3, .int x6.1), (4, .int x6.2.1)] : List (Nat × Value))) (SJ := fun (x10 : ZSt) => ([] : List Value)) (σJ := fun (x10 : ZSt) => x10) (fun x10 => ?_) (fun j14 hj14 => ?_)
        · refine ZO.aload_n (pc := 70) 0 d_X_tellWay_70 rfl rfl ?_
          refine ZO.getA (pc := 71) 202 d_X_tellWay_71 zo_1 zf_X_26 rfl rfl ?_
          refine ZO.getA (pc := 74) 261 d_X_tellWay_74 zo_202 zf_X_362 rfl rfl ?_
          refine ZO.iload_n (pc := 77) 2 d_X_tellWay_77 rfl rfl ?_
          refine ZO.rgd (fun h11 => ?_)
          refine ZO.iald (pc := 78) d_X_tellWay_78 za_261 h11 ?_
          refine ZO.ltI (fun v12 => ?_)
          refine ZO.istore_n (pc := 79) (v := v12) (L' := [(0, .ref 1), (2, .int v3), (3, .int v12), (4, .int x6.2.1)]) [1, 2, 0, 3] d_X_tellWay_79 rfl (by decide) rfl ?_
          refine ZO.iincL (pc := 80) (i := 3) (x6.2.1 + (-1 : Int32)) (L' := fun v13 => [(0, .ref 1), (2, .int v3), (3, .int v12), (4, .int v13)]) [1, 2, 3, 0] d_X_tellWay_80 rfl (by rfl) (by decide) (fun _ => rfl) (fun v13 => ?_)
          refine ZO.goto (pc := 83) 35 d_X_tellWay_83 (by decide) ?_
          exact hj7 (v12, v13, x10)
        · refine ZO.icmp_ge (pc := 51) 70 d_X_tellWay_51 (by decide) rfl (fun h15 => ?_) (fun h15 => ?_)
          · exact hj14 x6.2.2
          · refine ZO.aload_n (pc := 54) 0 d_X_tellWay_54 rfl rfl ?_
            refine ZO.getA (pc := 55) 212 d_X_tellWay_55 zo_1 zf_X_60 rfl rfl ?_
            refine ZO.iload (pc := 58) 3 d_X_tellWay_58 rfl ?_
            refine ZO.aload_n (pc := 60) 0 d_X_tellWay_60 rfl rfl ?_
            refine ZO.getA (pc := 61) 202 d_X_tellWay_61 zo_1 zf_X_26 rfl rfl ?_
            refine ZO.getA (pc := 64) 262 d_X_tellWay_64 zo_202 zf_X_359 rfl rfl ?_
            refine ZO.iload_n (pc := 67) 2 d_X_tellWay_67 rfl rfl ?_
            refine ZO.rgd (fun h16 => ?_)
            refine ZO.iald (pc := 68) d_X_tellWay_68 za_262 h16 ?_
            refine ZO.rgd (fun h17 => ?_)
            refine ZO.iast (pc := 69) d_X_tellWay_69 za_212 h17 ?_
            refine ZO.ltS (fun s18 => ?_)
            exact hj14 s18
def f_X_together (n : Nat) (a0 : Int32) (a1 : Int32) (s : ZSt) : Option (Int32 × ZSt) :=
  (if (f_X_isTable a0) = true then
  (if (f_T_beyond a1 s) = true then
    some ((-1 : Int32), s)
  else bn (f_X_searchTable n a0 s) (fun p3 =>
      bn (f_S_firstWith n a1 p3) (fun p4 =>
      bn (f_X_tellWay n p4 p3) (fun p5 =>
      some (p5.1, p5.2)))))
else some ((-1 : Int32), s))
set_option maxHeartbeats 4000000 in
set_option maxRecDepth 20000 in
theorem ok_X_together (g : ZG) (n : Nat) (a0 : Int32) (a1 : Int32) (s : ZSt) : ZF g 7 y_X_together [.ref 1, .int a0, .int a1] s (f_X_together n a0 a1 s) (fun b => some (.int b.1)) (fun b => b.2) := by
  refine ZF.of (by decide +kernel) (Nat.le_of_ble_eq_true rfl) ?_
  unfold f_X_together
  show ZO g 7 y_X_together zu0 0 [(0, .ref 1), (1, .int a0), (2, .int a1)] [] s _ _
  refine ZO.iload_n (pc := 0) 1 d_X_together_0 rfl rfl ?_
  refine ZO.tSB (pc := 1) (As := [.int a0]) (rest := []) d_X_together_1 zc_X_141 (by decide) rfl rfl (Nat.le_of_ble_eq_true rfl) (ok_X_isTable g a0 s) ?_
  refine ZO.ifb_eq (pc := 4) 18 d_X_together_4 (by decide) rfl (fun h1 => ?_) (fun h1 => ?_)
  · refine ZO.aload_n (pc := 7) 0 d_X_together_7 rfl rfl ?_
    refine ZO.getA (pc := 8) 201 d_X_together_8 zo_1 zf_X_19 rfl rfl ?_
    refine ZO.iload_n (pc := 11) 2 d_X_together_11 rfl rfl ?_
    refine ZO.tVB (pc := 12) (As := [.int a1]) (rest := []) d_X_together_12 zc_X_218 (by decide) zo_201 rfl rfl rfl (Nat.le_of_ble_eq_true rfl) (ok_T_beyond g a1 s) ?_
    refine ZO.ifb_eq (pc := 15) 20 d_X_together_15 (by decide) rfl (fun h2 => ?_) (fun h2 => ?_)
    · refine ZO.iconst (pc := 18) (-1 : Int32) d_X_together_18 (by decide) ?_
      exact ZO.iret (pc := 19)  d_X_together_19 rfl rfl rfl
    · refine ZO.aload_n (pc := 20) 0 d_X_together_20 rfl rfl ?_
      refine ZO.iload_n (pc := 21) 1 d_X_together_21 rfl rfl ?_
      refine ZO.cVV (pc := 22) (As := [.int a0]) (rest := []) d_X_together_22 zc_X_328 (by decide) zo_1 rfl rfl rfl (Nat.le_of_ble_eq_true rfl) (ok_X_searchTable g n a0 s) (fun p3 ep3 => ?_)
      refine ZO.aload_n (pc := 25) 0 d_X_together_25 rfl rfl ?_
      refine ZO.aload_n (pc := 26) 0 d_X_together_26 rfl rfl ?_
      refine ZO.getA (pc := 27) 202 d_X_together_27 zo_1 zf_X_26 rfl rfl ?_
      refine ZO.iload_n (pc := 30) 2 d_X_together_30 rfl rfl ?_
      refine ZO.cVI (pc := 31) (As := [.int a1]) (rest := [.ref 1]) d_X_together_31 zc_X_350 (by decide) zo_202 rfl rfl rfl (Nat.le_of_ble_eq_true rfl) (ok_S_firstWith g n a1 p3) (fun p4 ep4 => ?_)
      refine ZO.cVI (pc := 34) (As := [.int p4]) (rest := []) d_X_together_34 zc_X_353 (by decide) zo_1 rfl rfl rfl (Nat.le_of_ble_eq_true rfl) (ok_X_tellWay g n p4 p3) (fun p5 ep5 => ?_)
      exact ZO.iret (pc := 37)  d_X_together_37 rfl rfl rfl
  · refine ZO.iconst (pc := 18) (-1 : Int32) d_X_together_18 (by decide) ?_
    exact ZO.iret (pc := 19)  d_X_together_19 rfl rfl rfl
def f_X_frees (n : Nat) (a0 : Int32) (s : ZSt) : Option (Int32 × ZSt) :=
  (if (f_X_isTable a0) = true then
  (if (gi s 201 2) = 0 then
    some ((-2 : Int32), s)
  else bn (f_T_spent n s) (fun p3 =>
      lpN (fun j5 (x4 : Int32 × Int32 × Int32 × ZSt) =>
      (if (gi x4.2.2.2 201 2) ≤ x4.2.2.1 then
        lt (si x4.2.2.2 1 13 (0 : Int32)) (fun s7 =>
          bn (f_X_tell (f_J_bitCount x4.2.1) s7) (fun p8 =>
          bn (f_X_tell x4.2.1 p8) (fun p9 =>
          some (x4.1, p9))))
      else bn (f_T_possible n (f_X_with (0 : Int64) a0 (shI (1 : Int32) x4.2.2.1)) p3 a0 x4.2.2.2) (fun p10 =>
          (lt ((if x4.2.2.1 = 0 then
          (x4.2.2.1, p10.1)
        else (if (f_J_bitCount p10.1) ≤ (f_J_bitCount x4.2.1) then
            (x4.1, x4.2.1)
          else (x4.2.2.1, p10.1))) : Int32 × Int32) (fun x11 =>
            lt (x4.2.2.1 + (1 : Int32)) (fun v12 =>
              j5 (x11.1, x11.2, v12, p10.2))))))) n ((0 : Int32), (0 : Int32), (0 : Int32), s)))
else some ((-1 : Int32), s))
set_option maxHeartbeats 4000000 in
set_option maxRecDepth 20000 in
theorem ok_X_frees (g : ZG) (n : Nat) (a0 : Int32) (s : ZSt) : ZF g 4 y_X_frees [.ref 1, .int a0] s (f_X_frees n a0 s) (fun b => some (.int b.1)) (fun b => b.2) := by
  refine ZF.of (by decide +kernel) (Nat.le_of_ble_eq_true rfl) ?_
  unfold f_X_frees
  show ZO g 4 y_X_frees zu0 0 [(0, .ref 1), (1, .int a0)] [] s _ _
  refine ZO.iload_n (pc := 0) 1 d_X_frees_0 rfl rfl ?_
  refine ZO.tSB (pc := 1) (As := [.int a0]) (rest := []) d_X_frees_1 zc_X_141 (by decide) rfl rfl (Nat.le_of_ble_eq_true rfl) (ok_X_isTable g a0 s) ?_
  refine ZO.ifb_ne (pc := 4) 9 d_X_frees_4 (by decide) rfl (fun h1 => ?_) (fun h1 => ?_)
  · refine ZO.aload_n (pc := 9) 0 d_X_frees_9 rfl rfl ?_
    refine ZO.getA (pc := 10) 201 d_X_frees_10 zo_1 zf_X_19 rfl rfl ?_
    refine ZO.getI (pc := 13) d_X_frees_13 zo_201 zf_X_88 rfl ?_
    refine ZO.if_ne (pc := 16) 22 d_X_frees_16 (by decide) rfl (fun h2 => ?_) (fun h2 => ?_)
    · refine ZO.bipush (pc := 19) (-2 : Int32) d_X_frees_19 (by decide) ?_
      exact ZO.iret (pc := 21)  d_X_frees_21 rfl rfl rfl
    · refine ZO.aload_n (pc := 22) 0 d_X_frees_22 rfl rfl ?_
      refine ZO.getA (pc := 23) 201 d_X_frees_23 zo_1 zf_X_19 rfl rfl ?_
      refine ZO.cVI (pc := 26) (As := []) (rest := []) d_X_frees_26 zc_X_191 (by decide) zo_201 rfl rfl rfl (Nat.le_of_ble_eq_true rfl) (ok_T_spent g n s) (fun p3 ep3 => ?_)
      refine ZO.istore_n (pc := 29) (v := p3) (L' := [(0, .ref 1), (1, .int a0), (2, .int p3)]) [1, 2, 0] d_X_frees_29 rfl (by decide) rfl ?_
      refine ZO.iconst (pc := 30) (0 : Int32) d_X_frees_30 (by decide) ?_
      refine ZO.istore_n (pc := 31) (v := (0 : Int32)) (L' := [(0, .ref 1), (1, .int a0), (2, .int p3), (3, .int (0 : Int32))]) [1, 2, 3, 0] d_X_frees_31 rfl (by decide) rfl ?_
      refine ZO.iconst (pc := 32) (0 : Int32) d_X_frees_32 (by decide) ?_
      refine ZO.istore (pc := 33) (v := (0 : Int32)) (L' := [(0, .ref 1), (1, .int a0), (2, .int p3), (3, .int (0 : Int32)), (4, .int (0 : Int32))]) [1, 2, 3, 4, 0] d_X_frees_33 (by decide) rfl ?_
      refine ZO.iconst (pc := 35) (0 : Int32) d_X_frees_35 (by decide) ?_
      refine ZO.istore (pc := 36) (v := (0 : Int32)) (L' := [(0, .ref 1), (1, .int a0), (2, .int p3), (3, .int (0 : Int32)), (4, .int (0 : Int32)), (5, .int (0 : Int32))]) [1, 2, 3, 4, 5, 0] d_X_frees_36 (by decide) rfl ?_
      refine ZO.loop (fun (x4 : Int32 × Int32 × Int32 × ZSt) => ([(0, .ref 1), (1, .int a0), (2, .int p3), (3, .int x4.1), (4, .int x4.2.1), (5, .int x4.2.2.1)] : List (Nat × Value))) (fun (x4 : Int32 × Int32 × Int32 × ZSt) => x4.2.2.2) [] (fun j5 x4 hj5 => ?_) rfl rfl rfl
      refine ZO.iload (pc := 38) 5 d_X_frees_38 rfl ?_
      refine ZO.aload_n (pc := 40) 0 d_X_frees_40 rfl rfl ?_
      refine ZO.getA (pc := 41) 201 d_X_frees_41 zo_1 zf_X_19 rfl rfl ?_
      refine ZO.getI (pc := 44) d_X_frees_44 zo_201 zf_X_88 rfl ?_
      refine ZO.icmp_ge (pc := 47) 101 d_X_frees_47 (by decide) rfl (fun h6 => ?_) (fun h6 => ?_)
      · refine ZO.aload_n (pc := 101) 0 d_X_frees_101 rfl rfl ?_
        refine ZO.iconst (pc := 102) (0 : Int32) d_X_frees_102 (by decide) ?_
        refine ZO.putI (pc := 103) d_X_frees_103 zo_1 zp_X_209 rfl ?_
        refine ZO.ltS (fun s7 => ?_)
        refine ZO.aload_n (pc := 106) 0 d_X_frees_106 rfl rfl ?_
        refine ZO.iload (pc := 107) 4 d_X_frees_107 rfl ?_
        refine ZO.tSI (pc := 109) (As := [.int x4.2.1]) (rest := [.ref 1]) d_X_frees_109 zc_X_271 (by decide) rfl rfl (Nat.le_of_ble_eq_true rfl) (ok_J_bitCount g x4.2.1 s7) ?_
        refine ZO.cVV (pc := 112) (As := [.int (f_J_bitCount x4.2.1)]) (rest := []) d_X_frees_112 zc_X_215 (by decide) zo_1 rfl rfl rfl (Nat.le_of_ble_eq_true rfl) (ok_X_tell g (f_J_bitCount x4.2.1) s7) (fun p8 ep8 => ?_)
        refine ZO.aload_n (pc := 115) 0 d_X_frees_115 rfl rfl ?_
        refine ZO.iload (pc := 116) 4 d_X_frees_116 rfl ?_
        refine ZO.cVV (pc := 118) (As := [.int x4.2.1]) (rest := []) d_X_frees_118 zc_X_215 (by decide) zo_1 rfl rfl rfl (Nat.le_of_ble_eq_true rfl) (ok_X_tell g x4.2.1 p8) (fun p9 ep9 => ?_)
        refine ZO.iload_n (pc := 121) 3 d_X_frees_121 rfl rfl ?_
        exact ZO.iret (pc := 122)  d_X_frees_122 rfl rfl rfl
      · refine ZO.aload_n (pc := 50) 0 d_X_frees_50 rfl rfl ?_
        refine ZO.getA (pc := 51) 201 d_X_frees_51 zo_1 zf_X_19 rfl rfl ?_
        refine ZO.lconst (pc := 54) (0 : Int64) d_X_frees_54 (by decide) ?_
        refine ZO.iload_n (pc := 55) 1 d_X_frees_55 rfl rfl ?_
        refine ZO.iconst (pc := 56) (1 : Int32) d_X_frees_56 (by decide) ?_
        refine ZO.iload (pc := 57) 5 d_X_frees_57 rfl ?_
        refine ZO.ishl (pc := 59) d_X_frees_59 ?_
        refine ZO.tSJ (pc := 60) (As := [.long (0 : Int64), .int a0, .int (shI (1 : Int32) x4.2.2.1)]) (rest := [.ref 201]) d_X_frees_60 zc_X_221 (by decide) rfl rfl (Nat.le_of_ble_eq_true rfl) (ok_X_with g (0 : Int64) a0 (shI (1 : Int32) x4.2.2.1) x4.2.2.2) ?_
        refine ZO.iload_n (pc := 63) 2 d_X_frees_63 rfl rfl ?_
        refine ZO.iload_n (pc := 64) 1 d_X_frees_64 rfl rfl ?_
        refine ZO.cVI (pc := 65) (As := [.long (f_X_with (0 : Int64) a0 (shI (1 : Int32) x4.2.2.1)), .int p3, .int a0]) (rest := []) d_X_frees_65 zc_X_212 (by decide) zo_201 rfl rfl rfl (Nat.le_of_ble_eq_true rfl) (ok_T_possible g n (f_X_with (0 : Int64) a0 (shI (1 : Int32) x4.2.2.1)) p3 a0 x4.2.2.2) (fun p10 ep10 => ?_)
        refine ZO.istore (pc := 68) (v := p10.1) (L' := [(0, .ref 1), (1, .int a0), (2, .int p3), (3, .int x4.1), (4, .int x4.2.1), (5, .int x4.2.2.1), (6, .int p10.1)]) [1, 2, 3, 4, 5, 6, 0] d_X_frees_68 (by decide) rfl ?_
        refine ZO.iload (pc := 70) 5 d_X_frees_70 rfl ?_
        refine ZO.phi (pcJ := 95) (LJ := fun (x11 : Int32 × Int32) => ([(0, .ref 1), (1, .int a0), (2, .int p3), (3, .int x11.1), (4, .int x11.2), (5, .int x4.2.2.1)] : List (Nat × Value))) (SJ := fun (x11 : Int32 × Int32) => ([] : List Value)) (fun x11 => ?_) (fun t hj13 => ?_)
        · refine ZO.iincL (pc := 95) (i := 5) (x4.2.2.1 + (1 : Int32)) (L' := fun v12 => [(0, .ref 1), (1, .int a0), (2, .int p3), (3, .int x11.1), (4, .int x11.2), (5, .int v12)]) [1, 2, 3, 4, 5, 0] d_X_frees_95 rfl (by rfl) (by decide) (fun _ => rfl) (fun v12 => ?_)
          refine ZO.goto (pc := 98) 38 d_X_frees_98 (by decide) ?_
          exact hj5 (x11.1, x11.2, v12, p10.2)
        · refine ZO.if_eq (pc := 72) 88 d_X_frees_72 (by decide) z_ite (fun h14 => ?_) (fun h14 => ?_)
          · refine ZO.iload (pc := 88) 5 d_X_frees_88 rfl ?_
            refine ZO.istore_n (pc := 90) (v := x4.2.2.1) (L' := [(0, .ref 1), (1, .int a0), (2, .int p3), (3, .int x4.2.2.1), (4, .int x4.2.1), (5, .int x4.2.2.1), (6, .int p10.1)]) [1, 2, 3, 0, 4, 5, 6] d_X_frees_90 rfl (by decide) rfl ?_
            refine ZO.iload (pc := 91) 6 d_X_frees_91 rfl ?_
            refine ZO.istore (pc := 93) (v := p10.1) (L' := [(0, .ref 1), (1, .int a0), (2, .int p3), (3, .int x4.2.2.1), (4, .int p10.1), (5, .int x4.2.2.1), (6, .int p10.1)]) [1, 2, 3, 4, 0, 5, 6] d_X_frees_93 (by decide) rfl ?_
            exact ZO.sub [0, 1, 2, 3, 4, 5] rfl (hj13 (x4.2.2.1, p10.1) (by rw [if_pos h14]))
          · refine ZO.iload (pc := 75) 6 d_X_frees_75 rfl ?_
            refine ZO.tSI (pc := 77) (As := [.int p10.1]) (rest := []) d_X_frees_77 zc_X_271 (by decide) rfl rfl (Nat.le_of_ble_eq_true rfl) (ok_J_bitCount g p10.1 p10.2) ?_
            refine ZO.iload (pc := 80) 4 d_X_frees_80 rfl ?_
            refine ZO.tSI (pc := 82) (As := [.int x4.2.1]) (rest := [.int (f_J_bitCount p10.1)]) d_X_frees_82 zc_X_271 (by decide) rfl rfl (Nat.le_of_ble_eq_true rfl) (ok_J_bitCount g x4.2.1 p10.2) ?_
            refine ZO.icmp_le (pc := 85) 95 d_X_frees_85 (by decide) z_ite (fun h15 => ?_) (fun h15 => ?_)
            · exact ZO.sub [0, 1, 2, 3, 4, 5] rfl (hj13 (x4.1, x4.2.1) (by rw [if_neg h14, if_pos h15]))
            · refine ZO.iload (pc := 88) 5 d_X_frees_88 rfl ?_
              refine ZO.istore_n (pc := 90) (v := x4.2.2.1) (L' := [(0, .ref 1), (1, .int a0), (2, .int p3), (3, .int x4.2.2.1), (4, .int x4.2.1), (5, .int x4.2.2.1), (6, .int p10.1)]) [1, 2, 3, 0, 4, 5, 6] d_X_frees_90 rfl (by decide) rfl ?_
              refine ZO.iload (pc := 91) 6 d_X_frees_91 rfl ?_
              refine ZO.istore (pc := 93) (v := p10.1) (L' := [(0, .ref 1), (1, .int a0), (2, .int p3), (3, .int x4.2.2.1), (4, .int p10.1), (5, .int x4.2.2.1), (6, .int p10.1)]) [1, 2, 3, 4, 0, 5, 6] d_X_frees_93 (by decide) rfl ?_
              exact ZO.sub [0, 1, 2, 3, 4, 5] rfl (hj13 (x4.2.2.1, p10.1) (by rw [if_neg h14, if_neg h15]))
  · refine ZO.iconst (pc := 7) (-1 : Int32) d_X_frees_7 (by decide) ?_
    exact ZO.iret (pc := 8)  d_X_frees_8 rfl rfl rfl
def f_X_keeps (n : Nat) (a0 : Int32) (a1 : Int32) (s : ZSt) : Option (Int32 × ZSt) :=
  (if (f_X_isTable a0) = true then
  (if (f_T_beyond a1 s) = true then
    some ((-1 : Int32), s)
  else gd (inb a0 3) (
      lt (ai s 241 a0) (fun v4 =>
      bn (f_S_clear n s) (fun p5 =>
      lpN (fun j7 (x6 : Int32 × ZSt) =>
      (if (f_T_all x6.2) < x6.1 then
        bn (f_S_spread n a0 x6.2) (fun p9 =>
          bn (f_S_gather n p9.2) (fun p10 =>
          lpN (fun j12 (x11 : Int32 × Int32 × ZSt) =>
          (if (f_T_all x11.2.2) < x11.2.1 then
            (if x11.1 = (-1 : Int32) then
              some ((-2 : Int32), x11.2.2)
            else lt (si x11.2.2 1 13 (0 : Int32)) (fun s15 =>
                bn (f_X_tell x11.1 s15) (fun p16 =>
                some ((f_J_bitCount x11.1), p16))))
          else lt (f_J_bitCount x11.2.1) (fun v17 =>
              (jn (fun (x18 : Int32 × ZSt) =>
                lt (x11.2.1 + (1 : Int32)) (fun v19 =>
                  j12 (x18.1, v19, x18.2))) (fun j20 =>
                if v4 < v17 then
              j20 (x11.1, x11.2.2)
            else (jn (fun (x22 : Unit) =>
                  bn (f_T_settled n (f_X_with (0 : Int64) a0 x11.2.1) a0 x11.2.2) (fun p23 =>
                    bn (f_S_indexOf n p23.1 p23.2) (fun p24 =>
                    (if p24 = (-1 : Int32) then
                    j20 (x11.1, p23.2)
                  else gd (inb p24 5000) (
                      (if (a1 &&& ((ai p23.2 264 p24) ^^^ (-1 : Int32))) = 0 then
                      j20 (x11.2.1, p23.2)
                    else j20 (x11.1, p23.2))))))) (fun j28 =>
                  if x11.1 = (-1 : Int32) then
                j28 ()
              else (if (f_J_bitCount x11.1) ≤ v17 then
                  j20 (x11.1, x11.2.2)
                else j28 ())))))))) n ((-1 : Int32), (0 : Int32), p10)))
      else (jn (fun (x31 : ZSt) =>
            lt (x6.1 + (1 : Int32)) (fun v32 =>
              j7 (v32, x31))) (fun j33 =>
            if v4 < (f_J_bitCount x6.1) then
          j33 x6.2
        else bn (f_T_settled n (f_X_with (0 : Int64) a0 x6.1) a0 x6.2) (fun p35 =>
            bn (f_S_seed n p35.1 p35.2) (fun p36 =>
            j33 p36)))))) n ((0 : Int32), p5)))))
else some ((-1 : Int32), s))
set_option maxHeartbeats 4000000 in
set_option maxRecDepth 20000 in
theorem ok_X_keeps (g : ZG) (n : Nat) (a0 : Int32) (a1 : Int32) (s : ZSt) : ZF g 6 y_X_keeps [.ref 1, .int a0, .int a1] s (f_X_keeps n a0 a1 s) (fun b => some (.int b.1)) (fun b => b.2) := by
  refine ZF.of (by decide +kernel) (Nat.le_of_ble_eq_true rfl) ?_
  unfold f_X_keeps
  show ZO g 6 y_X_keeps zu0 0 [(0, .ref 1), (1, .int a0), (2, .int a1)] [] s _ _
  refine ZO.iload_n (pc := 0) 1 d_X_keeps_0 rfl rfl ?_
  refine ZO.tSB (pc := 1) (As := [.int a0]) (rest := []) d_X_keeps_1 zc_X_141 (by decide) rfl rfl (Nat.le_of_ble_eq_true rfl) (ok_X_isTable g a0 s) ?_
  refine ZO.ifb_eq (pc := 4) 18 d_X_keeps_4 (by decide) rfl (fun h1 => ?_) (fun h1 => ?_)
  · refine ZO.aload_n (pc := 7) 0 d_X_keeps_7 rfl rfl ?_
    refine ZO.getA (pc := 8) 201 d_X_keeps_8 zo_1 zf_X_19 rfl rfl ?_
    refine ZO.iload_n (pc := 11) 2 d_X_keeps_11 rfl rfl ?_
    refine ZO.tVB (pc := 12) (As := [.int a1]) (rest := []) d_X_keeps_12 zc_X_218 (by decide) zo_201 rfl rfl rfl (Nat.le_of_ble_eq_true rfl) (ok_T_beyond g a1 s) ?_
    refine ZO.ifb_eq (pc := 15) 20 d_X_keeps_15 (by decide) rfl (fun h2 => ?_) (fun h2 => ?_)
    · refine ZO.iconst (pc := 18) (-1 : Int32) d_X_keeps_18 (by decide) ?_
      exact ZO.iret (pc := 19)  d_X_keeps_19 rfl rfl rfl
    · refine ZO.aload_n (pc := 20) 0 d_X_keeps_20 rfl rfl ?_
      refine ZO.getA (pc := 21) 201 d_X_keeps_21 zo_1 zf_X_19 rfl rfl ?_
      refine ZO.getA (pc := 24) 241 d_X_keeps_24 zo_201 zf_X_144 rfl rfl ?_
      refine ZO.iload_n (pc := 27) 1 d_X_keeps_27 rfl rfl ?_
      refine ZO.rgd (fun h3 => ?_)
      refine ZO.iald (pc := 28) d_X_keeps_28 za_241 h3 ?_
      refine ZO.ltI (fun v4 => ?_)
      refine ZO.istore_n (pc := 29) (v := v4) (L' := [(0, .ref 1), (1, .int a0), (2, .int a1), (3, .int v4)]) [1, 2, 3, 0] d_X_keeps_29 rfl (by decide) rfl ?_
      refine ZO.aload_n (pc := 30) 0 d_X_keeps_30 rfl rfl ?_
      refine ZO.getA (pc := 31) 202 d_X_keeps_31 zo_1 zf_X_26 rfl rfl ?_
      refine ZO.cVV (pc := 34) (As := []) (rest := []) d_X_keeps_34 zc_X_334 (by decide) zo_202 rfl rfl rfl (Nat.le_of_ble_eq_true rfl) (ok_S_clear g n s) (fun p5 ep5 => ?_)
      refine ZO.iconst (pc := 37) (0 : Int32) d_X_keeps_37 (by decide) ?_
      refine ZO.istore (pc := 38) (v := (0 : Int32)) (L' := [(0, .ref 1), (1, .int a0), (2, .int a1), (3, .int v4), (4, .int (0 : Int32))]) [1, 2, 3, 4, 0] d_X_keeps_38 (by decide) rfl ?_
      refine ZO.loop (fun (x6 : Int32 × ZSt) => ([(0, .ref 1), (1, .int a0), (2, .int a1), (3, .int v4), (4, .int x6.1)] : List (Nat × Value))) (fun (x6 : Int32 × ZSt) => x6.2) [] (fun j7 x6 hj7 => ?_) rfl rfl rfl
      refine ZO.iload (pc := 40) 4 d_X_keeps_40 rfl ?_
      refine ZO.aload_n (pc := 42) 0 d_X_keeps_42 rfl rfl ?_
      refine ZO.getA (pc := 43) 201 d_X_keeps_43 zo_1 zf_X_19 rfl rfl ?_
      refine ZO.tVI (pc := 46) (As := []) (rest := [.int x6.1]) d_X_keeps_46 zc_X_305 (by decide) zo_201 rfl rfl rfl (Nat.le_of_ble_eq_true rfl) (ok_T_all g x6.2) ?_
      refine ZO.icmp_gt (pc := 49) 89 d_X_keeps_49 (by decide) rfl (fun h8 => ?_) (fun h8 => ?_)
      · refine ZO.aload_n (pc := 89) 0 d_X_keeps_89 rfl rfl ?_
        refine ZO.getA (pc := 90) 202 d_X_keeps_90 zo_1 zf_X_26 rfl rfl ?_
        refine ZO.aload_n (pc := 93) 0 d_X_keeps_93 rfl rfl ?_
        refine ZO.getA (pc := 94) 201 d_X_keeps_94 zo_1 zf_X_19 rfl rfl ?_
        refine ZO.iload_n (pc := 97) 1 d_X_keeps_97 rfl rfl ?_
        refine ZO.cVB (pc := 98) (As := [.ref 201, .int a0]) (rest := []) d_X_keeps_98 zc_X_339 (by decide) zo_202 rfl rfl rfl (Nat.le_of_ble_eq_true rfl) (ok_S_spread g n a0 x6.2) (fun p9 ep9 => ?_)
        refine ZO.pop (pc := 101) d_X_keeps_101 rfl ?_
        refine ZO.aload_n (pc := 102) 0 d_X_keeps_102 rfl rfl ?_
        refine ZO.getA (pc := 103) 202 d_X_keeps_103 zo_1 zf_X_26 rfl rfl ?_
        refine ZO.cVV (pc := 106) (As := []) (rest := []) d_X_keeps_106 zc_X_365 (by decide) zo_202 rfl rfl rfl (Nat.le_of_ble_eq_true rfl) (ok_S_gather g n p9.2) (fun p10 ep10 => ?_)
        refine ZO.iconst (pc := 109) (-1 : Int32) d_X_keeps_109 (by decide) ?_
        refine ZO.istore (pc := 110) (v := (-1 : Int32)) (L' := [(0, .ref 1), (1, .int a0), (2, .int a1), (3, .int v4), (4, .int (-1 : Int32))]) [1, 2, 3, 4, 0] d_X_keeps_110 (by decide) rfl ?_
        refine ZO.iconst (pc := 112) (0 : Int32) d_X_keeps_112 (by decide) ?_
        refine ZO.istore (pc := 113) (v := (0 : Int32)) (L' := [(0, .ref 1), (1, .int a0), (2, .int a1), (3, .int v4), (4, .int (-1 : Int32)), (5, .int (0 : Int32))]) [1, 2, 3, 4, 5, 0] d_X_keeps_113 (by decide) rfl ?_
        refine ZO.loop (fun (x11 : Int32 × Int32 × ZSt) => ([(0, .ref 1), (1, .int a0), (2, .int a1), (3, .int v4), (4, .int x11.1), (5, .int x11.2.1)] : List (Nat × Value))) (fun (x11 : Int32 × Int32 × ZSt) => x11.2.2) [] (fun j12 x11 hj12 => ?_) rfl rfl rfl
        refine ZO.iload (pc := 115) 5 d_X_keeps_115 rfl ?_
        refine ZO.aload_n (pc := 117) 0 d_X_keeps_117 rfl rfl ?_
        refine ZO.getA (pc := 118) 201 d_X_keeps_118 zo_1 zf_X_19 rfl rfl ?_
        refine ZO.tVI (pc := 121) (As := []) (rest := [.int x11.2.1]) d_X_keeps_121 zc_X_305 (by decide) zo_201 rfl rfl rfl (Nat.le_of_ble_eq_true rfl) (ok_T_all g x11.2.2) ?_
        refine ZO.icmp_gt (pc := 124) 213 d_X_keeps_124 (by decide) rfl (fun h13 => ?_) (fun h13 => ?_)
        · refine ZO.iload (pc := 213) 4 d_X_keeps_213 rfl ?_
          refine ZO.iconst (pc := 215) (-1 : Int32) d_X_keeps_215 (by decide) ?_
          refine ZO.icmp_ne (pc := 216) 222 d_X_keeps_216 (by decide) rfl (fun h14 => ?_) (fun h14 => ?_)
          · refine ZO.bipush (pc := 219) (-2 : Int32) d_X_keeps_219 (by decide) ?_
            exact ZO.iret (pc := 221)  d_X_keeps_221 rfl rfl rfl
          · refine ZO.aload_n (pc := 222) 0 d_X_keeps_222 rfl rfl ?_
            refine ZO.iconst (pc := 223) (0 : Int32) d_X_keeps_223 (by decide) ?_
            refine ZO.putI (pc := 224) d_X_keeps_224 zo_1 zp_X_209 rfl ?_
            refine ZO.ltS (fun s15 => ?_)
            refine ZO.aload_n (pc := 227) 0 d_X_keeps_227 rfl rfl ?_
            refine ZO.iload (pc := 228) 4 d_X_keeps_228 rfl ?_
            refine ZO.cVV (pc := 230) (As := [.int x11.1]) (rest := []) d_X_keeps_230 zc_X_215 (by decide) zo_1 rfl rfl rfl (Nat.le_of_ble_eq_true rfl) (ok_X_tell g x11.1 s15) (fun p16 ep16 => ?_)
            refine ZO.iload (pc := 233) 4 d_X_keeps_233 rfl ?_
            refine ZO.tSI (pc := 235) (As := [.int x11.1]) (rest := []) d_X_keeps_235 zc_X_271 (by decide) rfl rfl (Nat.le_of_ble_eq_true rfl) (ok_J_bitCount g x11.1 p16) ?_
            exact ZO.iret (pc := 238)  d_X_keeps_238 rfl rfl rfl
        · refine ZO.iload (pc := 127) 5 d_X_keeps_127 rfl ?_
          refine ZO.tSI (pc := 129) (As := [.int x11.2.1]) (rest := []) d_X_keeps_129 zc_X_271 (by decide) rfl rfl (Nat.le_of_ble_eq_true rfl) (ok_J_bitCount g x11.2.1 x11.2.2) ?_
          refine ZO.ltI (fun v17 => ?_)
          refine ZO.istore (pc := 132) (v := v17) (L' := [(0, .ref 1), (1, .int a0), (2, .int a1), (3, .int v4), (4, .int x11.1), (5, .int x11.2.1), (6, .int v17)]) [1, 2, 3, 4, 5, 6, 0] d_X_keeps_132 (by decide) rfl ?_
          refine ZO.iload (pc := 134) 6 d_X_keeps_134 rfl ?_
          refine ZO.iload_n (pc := 136) 3 d_X_keeps_136 rfl rfl ?_
          refine ZO.rjn (pcJ := 207) (LJ := fun (x18 : Int32 × ZSt) => ([(0, .ref 1), (1, .int a0), (2, .int a1), (3, .int v4), (4, .int x18.1), (5, .int x11.2.1)] : List (Nat × Value))) (SJ := fun (x18 : Int32 × ZSt) => ([] : List Value)) (σJ := fun (x18 : Int32 × ZSt) => x18.2) (fun x18 => ?_) (fun j20 hj20 => ?_)
          · refine ZO.iincL (pc := 207) (i := 5) (x11.2.1 + (1 : Int32)) (L' := fun v19 => [(0, .ref 1), (1, .int a0), (2, .int a1), (3, .int v4), (4, .int x18.1), (5, .int v19)]) [1, 2, 3, 4, 5, 0] d_X_keeps_207 rfl (by rfl) (by decide) (fun _ => rfl) (fun v19 => ?_)
            refine ZO.goto (pc := 210) 115 d_X_keeps_210 (by decide) ?_
            exact hj12 (x18.1, v19, x18.2)
          · refine ZO.icmp_gt (pc := 137) 207 d_X_keeps_137 (by decide) rfl (fun h21 => ?_) (fun h21 => ?_)
            · exact ZO.sub [0, 1, 2, 3, 4, 5] rfl (hj20 (x11.1, x11.2.2))
            · refine ZO.iload (pc := 140) 4 d_X_keeps_140 rfl ?_
              refine ZO.iconst (pc := 142) (-1 : Int32) d_X_keeps_142 (by decide) ?_
              refine ZO.rjn (pcJ := 156) (LJ := fun (x22 : Unit) => ([(0, .ref 1), (1, .int a0), (2, .int a1), (3, .int v4), (4, .int x11.1), (5, .int x11.2.1)] : List (Nat × Value))) (SJ := fun (x22 : Unit) => ([] : List Value)) (σJ := fun (x22 : Unit) => x11.2.2) (fun x22 => ?_) (fun j28 hj28 => ?_)
              · refine ZO.aload_n (pc := 156) 0 d_X_keeps_156 rfl rfl ?_
                refine ZO.getA (pc := 157) 202 d_X_keeps_157 zo_1 zf_X_26 rfl rfl ?_
                refine ZO.aload_n (pc := 160) 0 d_X_keeps_160 rfl rfl ?_
                refine ZO.getA (pc := 161) 201 d_X_keeps_161 zo_1 zf_X_19 rfl rfl ?_
                refine ZO.lconst (pc := 164) (0 : Int64) d_X_keeps_164 (by decide) ?_
                refine ZO.iload_n (pc := 165) 1 d_X_keeps_165 rfl rfl ?_
                refine ZO.iload (pc := 166) 5 d_X_keeps_166 rfl ?_
                refine ZO.tSJ (pc := 168) (As := [.long (0 : Int64), .int a0, .int x11.2.1]) (rest := [.ref 201, .ref 202]) d_X_keeps_168 zc_X_221 (by decide) rfl rfl (Nat.le_of_ble_eq_true rfl) (ok_X_with g (0 : Int64) a0 x11.2.1 x11.2.2) ?_
                refine ZO.iload_n (pc := 171) 1 d_X_keeps_171 rfl rfl ?_
                refine ZO.cVJ (pc := 172) (As := [.long (f_X_with (0 : Int64) a0 x11.2.1), .int a0]) (rest := [.ref 202]) d_X_keeps_172 zc_X_123 (by decide) zo_201 rfl rfl rfl (Nat.le_of_ble_eq_true rfl) (ok_T_settled g n (f_X_with (0 : Int64) a0 x11.2.1) a0 x11.2.2) (fun p23 ep23 => ?_)
                refine ZO.cVI (pc := 175) (As := [.long p23.1]) (rest := []) d_X_keeps_175 zc_X_368 (by decide) zo_202 rfl rfl rfl (Nat.le_of_ble_eq_true rfl) (ok_S_indexOf g n p23.1 p23.2) (fun p24 ep24 => ?_)
                refine ZO.istore (pc := 178) (v := p24) (L' := [(0, .ref 1), (1, .int a0), (2, .int a1), (3, .int v4), (4, .int x11.1), (5, .int x11.2.1), (7, .int p24)]) [1, 2, 3, 4, 5, 6, 0] d_X_keeps_178 (by decide) rfl ?_
                refine ZO.iload (pc := 180) 6 d_X_keeps_180 rfl ?_
                refine ZO.iconst (pc := 182) (-1 : Int32) d_X_keeps_182 (by decide) ?_
                refine ZO.icmp_eq (pc := 183) 207 d_X_keeps_183 (by decide) rfl (fun h25 => ?_) (fun h25 => ?_)
                · exact ZO.sub [0, 1, 2, 3, 4, 5] rfl (hj20 (x11.1, p23.2))
                · refine ZO.iload_n (pc := 186) 2 d_X_keeps_186 rfl rfl ?_
                  refine ZO.aload_n (pc := 187) 0 d_X_keeps_187 rfl rfl ?_
                  refine ZO.getA (pc := 188) 202 d_X_keeps_188 zo_1 zf_X_26 rfl rfl ?_
                  refine ZO.getA (pc := 191) 264 d_X_keeps_191 zo_202 zf_X_371 rfl rfl ?_
                  refine ZO.iload (pc := 194) 6 d_X_keeps_194 rfl ?_
                  refine ZO.rgd (fun h26 => ?_)
                  refine ZO.iald (pc := 196) d_X_keeps_196 za_264 h26 ?_
                  refine ZO.iconst (pc := 197) (-1 : Int32) d_X_keeps_197 (by decide) ?_
                  refine ZO.ixor (pc := 198) d_X_keeps_198 ?_
                  refine ZO.iand (pc := 199) d_X_keeps_199 ?_
                  refine ZO.if_ne (pc := 200) 207 d_X_keeps_200 (by decide) rfl (fun h27 => ?_) (fun h27 => ?_)
                  · refine ZO.iload (pc := 203) 5 d_X_keeps_203 rfl ?_
                    refine ZO.istore (pc := 205) (v := x11.2.1) (L' := [(0, .ref 1), (1, .int a0), (2, .int a1), (3, .int v4), (4, .int x11.2.1), (5, .int x11.2.1), (7, .int p24)]) [1, 2, 3, 4, 0, 5, 6] d_X_keeps_205 (by decide) rfl ?_
                    exact ZO.sub [0, 1, 2, 3, 4, 5] rfl (hj20 (x11.2.1, p23.2))
                  · exact ZO.sub [0, 1, 2, 3, 4, 5] rfl (hj20 (x11.1, p23.2))
              · refine ZO.icmp_eq (pc := 143) 156 d_X_keeps_143 (by decide) rfl (fun h29 => ?_) (fun h29 => ?_)
                · exact ZO.sub [0, 1, 2, 3, 4, 5] rfl (hj28 ())
                · refine ZO.iload (pc := 146) 6 d_X_keeps_146 rfl ?_
                  refine ZO.iload (pc := 148) 4 d_X_keeps_148 rfl ?_
                  refine ZO.tSI (pc := 150) (As := [.int x11.1]) (rest := [.int v17]) d_X_keeps_150 zc_X_271 (by decide) rfl rfl (Nat.le_of_ble_eq_true rfl) (ok_J_bitCount g x11.1 x11.2.2) ?_
                  refine ZO.icmp_ge (pc := 153) 207 d_X_keeps_153 (by decide) rfl (fun h30 => ?_) (fun h30 => ?_)
                  · exact ZO.sub [0, 1, 2, 3, 4, 5] rfl (hj20 (x11.1, x11.2.2))
                  · exact ZO.sub [0, 1, 2, 3, 4, 5] rfl (hj28 ())
      · refine ZO.iload (pc := 52) 4 d_X_keeps_52 rfl ?_
        refine ZO.tSI (pc := 54) (As := [.int x6.1]) (rest := []) d_X_keeps_54 zc_X_271 (by decide) rfl rfl (Nat.le_of_ble_eq_true rfl) (ok_J_bitCount g x6.1 x6.2) ?_
        refine ZO.iload_n (pc := 57) 3 d_X_keeps_57 rfl rfl ?_
        refine ZO.rjn (pcJ := 83) (LJ := fun (x31 : ZSt) => ([(0, .ref 1), (1, .int a0), (2, .int a1), (3, .int v4), (4, .int x6.1)] : List (Nat × Value))) (SJ := fun (x31 : ZSt) => ([] : List Value)) (σJ := fun (x31 : ZSt) => x31) (fun x31 => ?_) (fun j33 hj33 => ?_)
        · refine ZO.iincL (pc := 83) (i := 4) (x6.1 + (1 : Int32)) (L' := fun v32 => [(0, .ref 1), (1, .int a0), (2, .int a1), (3, .int v4), (4, .int v32)]) [1, 2, 3, 4, 0] d_X_keeps_83 rfl (by rfl) (by decide) (fun _ => rfl) (fun v32 => ?_)
          refine ZO.goto (pc := 86) 40 d_X_keeps_86 (by decide) ?_
          exact hj7 (v32, x31)
        · refine ZO.icmp_gt (pc := 58) 83 d_X_keeps_58 (by decide) rfl (fun h34 => ?_) (fun h34 => ?_)
          · exact hj33 x6.2
          · refine ZO.aload_n (pc := 61) 0 d_X_keeps_61 rfl rfl ?_
            refine ZO.getA (pc := 62) 202 d_X_keeps_62 zo_1 zf_X_26 rfl rfl ?_
            refine ZO.aload_n (pc := 65) 0 d_X_keeps_65 rfl rfl ?_
            refine ZO.getA (pc := 66) 201 d_X_keeps_66 zo_1 zf_X_19 rfl rfl ?_
            refine ZO.lconst (pc := 69) (0 : Int64) d_X_keeps_69 (by decide) ?_
            refine ZO.iload_n (pc := 70) 1 d_X_keeps_70 rfl rfl ?_
            refine ZO.iload (pc := 71) 4 d_X_keeps_71 rfl ?_
            refine ZO.tSJ (pc := 73) (As := [.long (0 : Int64), .int a0, .int x6.1]) (rest := [.ref 201, .ref 202]) d_X_keeps_73 zc_X_221 (by decide) rfl rfl (Nat.le_of_ble_eq_true rfl) (ok_X_with g (0 : Int64) a0 x6.1 x6.2) ?_
            refine ZO.iload_n (pc := 76) 1 d_X_keeps_76 rfl rfl ?_
            refine ZO.cVJ (pc := 77) (As := [.long (f_X_with (0 : Int64) a0 x6.1), .int a0]) (rest := [.ref 202]) d_X_keeps_77 zc_X_123 (by decide) zo_201 rfl rfl rfl (Nat.le_of_ble_eq_true rfl) (ok_T_settled g n (f_X_with (0 : Int64) a0 x6.1) a0 x6.2) (fun p35 ep35 => ?_)
            refine ZO.cVV (pc := 80) (As := [.long p35.1]) (rest := []) d_X_keeps_80 zc_X_335 (by decide) zo_202 rfl rfl rfl (Nat.le_of_ble_eq_true rfl) (ok_S_seed g n p35.1 p35.2) (fun p36 ep36 => ?_)
            exact hj33 p36
  · refine ZO.iconst (pc := 18) (-1 : Int32) d_X_keeps_18 (by decide) ?_
    exact ZO.iret (pc := 19)  d_X_keeps_19 rfl rfl rfl
def f_X_tellMissing (a0 : Int32) (s : ZSt) : Option (Int32 × ZSt) :=
  lt (si s 1 13 (0 : Int32)) (fun s1 =>
  (if a0 = 0 then
  some ((1 : Int32), s1)
else bn (f_X_tell a0 s1) (fun p3 =>
    some ((0 : Int32), p3))))
set_option maxHeartbeats 4000000 in
set_option maxRecDepth 20000 in
theorem ok_X_tellMissing (g : ZG) (a0 : Int32) (s : ZSt) : ZF g 1 y_X_tellMissing [.ref 1, .int a0] s (f_X_tellMissing a0 s) (fun b => some (.int b.1)) (fun b => b.2) := by
  refine ZF.of (by decide +kernel) (Nat.le_of_ble_eq_true rfl) ?_
  unfold f_X_tellMissing
  show ZO g 1 y_X_tellMissing zu0 0 [(0, .ref 1), (1, .int a0)] [] s _ _
  refine ZO.aload_n (pc := 0) 0 d_X_tellMissing_0 rfl rfl ?_
  refine ZO.iconst (pc := 1) (0 : Int32) d_X_tellMissing_1 (by decide) ?_
  refine ZO.putI (pc := 2) d_X_tellMissing_2 zo_1 zp_X_209 rfl ?_
  refine ZO.ltS (fun s1 => ?_)
  refine ZO.iload_n (pc := 5) 1 d_X_tellMissing_5 rfl rfl ?_
  refine ZO.if_ne (pc := 6) 11 d_X_tellMissing_6 (by decide) rfl (fun h2 => ?_) (fun h2 => ?_)
  · refine ZO.iconst (pc := 9) (1 : Int32) d_X_tellMissing_9 (by decide) ?_
    exact ZO.iret (pc := 10)  d_X_tellMissing_10 rfl rfl rfl
  · refine ZO.aload_n (pc := 11) 0 d_X_tellMissing_11 rfl rfl ?_
    refine ZO.iload_n (pc := 12) 1 d_X_tellMissing_12 rfl rfl ?_
    refine ZO.cVV (pc := 13) (As := [.int a0]) (rest := []) d_X_tellMissing_13 zc_X_215 (by decide) zo_1 rfl rfl rfl (Nat.le_of_ble_eq_true rfl) (ok_X_tell g a0 s1) (fun p3 ep3 => ?_)
    refine ZO.iconst (pc := 16) (0 : Int32) d_X_tellMissing_16 (by decide) ?_
    exact ZO.iret (pc := 17)  d_X_tellMissing_17 rfl rfl rfl
def f_X_finish (n : Nat) (a0 : Int32) (a1 : Int32) (s : ZSt) : Option (Int32 × ZSt) :=
  (if (f_X_isTable a0) = true then
  (if (srI a1 (gi s 1 7)) = 0 then
    lpN (fun j4 (x3 : Int32 × Int32) =>
      (if (gi s 1 7) ≤ x3.2 then
        bn (f_X_searchTable n a0 s) (fun p6 =>
          bn (f_S_union n p6) (fun p7 =>
          bn (f_X_tellMissing (x3.1 &&& (p7 ^^^ (-1 : Int32))) p6) (fun p8 =>
          some (p8.1, p8.2))))
      else (jn (fun (x9 : Int32) =>
            lt (x3.2 + (1 : Int32)) (fun v10 =>
              j4 (x9, v10))) (fun j11 =>
            if ((srI a1 x3.2) &&& (1 : Int32)) = 0 then
          j11 x3.1
        else gd (inb x3.2 6) (
            bn (f_R_left (z_ra 205 x3.2.toNatClampNeg) s) (fun p14 =>
            lt (x3.1 ||| p14) (fun v15 =>
            j11 v15))))))) n ((0 : Int32), (0 : Int32))
  else some ((-1 : Int32), s))
else some ((-1 : Int32), s))
set_option maxHeartbeats 4000000 in
set_option maxRecDepth 20000 in
theorem ok_X_finish (g : ZG) (n : Nat) (a0 : Int32) (a1 : Int32) (s : ZSt) : ZF g 7 y_X_finish [.ref 1, .int a0, .int a1] s (f_X_finish n a0 a1 s) (fun b => some (.int b.1)) (fun b => b.2) := by
  refine ZF.of (by decide +kernel) (Nat.le_of_ble_eq_true rfl) ?_
  unfold f_X_finish
  show ZO g 7 y_X_finish zu0 0 [(0, .ref 1), (1, .int a0), (2, .int a1)] [] s _ _
  refine ZO.iload_n (pc := 0) 1 d_X_finish_0 rfl rfl ?_
  refine ZO.tSB (pc := 1) (As := [.int a0]) (rest := []) d_X_finish_1 zc_X_141 (by decide) rfl rfl (Nat.le_of_ble_eq_true rfl) (ok_X_isTable g a0 s) ?_
  refine ZO.ifb_eq (pc := 4) 16 d_X_finish_4 (by decide) rfl (fun h1 => ?_) (fun h1 => ?_)
  · refine ZO.iload_n (pc := 7) 2 d_X_finish_7 rfl rfl ?_
    refine ZO.aload_n (pc := 8) 0 d_X_finish_8 rfl rfl ?_
    refine ZO.getI (pc := 9) d_X_finish_9 zo_1 zf_X_229 rfl ?_
    refine ZO.ishr (pc := 12) d_X_finish_12 ?_
    refine ZO.if_eq (pc := 13) 18 d_X_finish_13 (by decide) rfl (fun h2 => ?_) (fun h2 => ?_)
    · refine ZO.iconst (pc := 18) (0 : Int32) d_X_finish_18 (by decide) ?_
      refine ZO.istore_n (pc := 19) (v := (0 : Int32)) (L' := [(0, .ref 1), (1, .int a0), (2, .int a1), (3, .int (0 : Int32))]) [1, 2, 3, 0] d_X_finish_19 rfl (by decide) rfl ?_
      refine ZO.iconst (pc := 20) (0 : Int32) d_X_finish_20 (by decide) ?_
      refine ZO.istore (pc := 21) (v := (0 : Int32)) (L' := [(0, .ref 1), (1, .int a0), (2, .int a1), (3, .int (0 : Int32)), (4, .int (0 : Int32))]) [1, 2, 3, 4, 0] d_X_finish_21 (by decide) rfl ?_
      refine ZO.loop (fun (x3 : Int32 × Int32) => ([(0, .ref 1), (1, .int a0), (2, .int a1), (3, .int x3.1), (4, .int x3.2)] : List (Nat × Value))) (fun (x3 : Int32 × Int32) => s) [] (fun j4 x3 hj4 => ?_) rfl rfl rfl
      refine ZO.iload (pc := 23) 4 d_X_finish_23 rfl ?_
      refine ZO.aload_n (pc := 25) 0 d_X_finish_25 rfl rfl ?_
      refine ZO.getI (pc := 26) d_X_finish_26 zo_1 zf_X_229 rfl ?_
      refine ZO.icmp_ge (pc := 29) 60 d_X_finish_29 (by decide) rfl (fun h5 => ?_) (fun h5 => ?_)
      · refine ZO.aload_n (pc := 60) 0 d_X_finish_60 rfl rfl ?_
        refine ZO.iload_n (pc := 61) 1 d_X_finish_61 rfl rfl ?_
        refine ZO.cVV (pc := 62) (As := [.int a0]) (rest := []) d_X_finish_62 zc_X_328 (by decide) zo_1 rfl rfl rfl (Nat.le_of_ble_eq_true rfl) (ok_X_searchTable g n a0 s) (fun p6 ep6 => ?_)
        refine ZO.aload_n (pc := 65) 0 d_X_finish_65 rfl rfl ?_
        refine ZO.iload_n (pc := 66) 3 d_X_finish_66 rfl rfl ?_
        refine ZO.aload_n (pc := 67) 0 d_X_finish_67 rfl rfl ?_
        refine ZO.getA (pc := 68) 202 d_X_finish_68 zo_1 zf_X_26 rfl rfl ?_
        refine ZO.cVI (pc := 71) (As := []) (rest := [.int x3.1, .ref 1]) d_X_finish_71 zc_X_343 (by decide) zo_202 rfl rfl rfl (Nat.le_of_ble_eq_true rfl) (ok_S_union g n p6) (fun p7 ep7 => ?_)
        refine ZO.iconst (pc := 74) (-1 : Int32) d_X_finish_74 (by decide) ?_
        refine ZO.ixor (pc := 75) d_X_finish_75 ?_
        refine ZO.iand (pc := 76) d_X_finish_76 ?_
        refine ZO.cVI (pc := 77) (As := [.int (x3.1 &&& (p7 ^^^ (-1 : Int32)))]) (rest := []) d_X_finish_77 zc_X_374 (by decide) zo_1 rfl rfl rfl (Nat.le_of_ble_eq_true rfl) (ok_X_tellMissing g (x3.1 &&& (p7 ^^^ (-1 : Int32))) p6) (fun p8 ep8 => ?_)
        exact ZO.iret (pc := 80)  d_X_finish_80 rfl rfl rfl
      · refine ZO.iload_n (pc := 32) 2 d_X_finish_32 rfl rfl ?_
        refine ZO.iload (pc := 33) 4 d_X_finish_33 rfl ?_
        refine ZO.ishr (pc := 35) d_X_finish_35 ?_
        refine ZO.iconst (pc := 36) (1 : Int32) d_X_finish_36 (by decide) ?_
        refine ZO.iand (pc := 37) d_X_finish_37 ?_
        refine ZO.rjn (pcJ := 54) (LJ := fun (x9 : Int32) => ([(0, .ref 1), (1, .int a0), (2, .int a1), (3, .int x9), (4, .int x3.2)] : List (Nat × Value))) (SJ := fun (x9 : Int32) => ([] : List Value)) (σJ := fun (x9 : Int32) => s) (fun x9 => ?_) (fun j11 hj11 => ?_)
        · refine ZO.iincL (pc := 54) (i := 4) (x3.2 + (1 : Int32)) (L' := fun v10 => [(0, .ref 1), (1, .int a0), (2, .int a1), (3, .int x9), (4, .int v10)]) [1, 2, 3, 4, 0] d_X_finish_54 rfl (by rfl) (by decide) (fun _ => rfl) (fun v10 => ?_)
          refine ZO.goto (pc := 57) 23 d_X_finish_57 (by decide) ?_
          exact hj4 (x9, v10)
        · refine ZO.if_eq (pc := 38) 54 d_X_finish_38 (by decide) rfl (fun h12 => ?_) (fun h12 => ?_)
          · exact hj11 x3.1
          · refine ZO.iload_n (pc := 41) 3 d_X_finish_41 rfl rfl ?_
            refine ZO.aload_n (pc := 42) 0 d_X_finish_42 rfl rfl ?_
            refine ZO.getA (pc := 43) 205 d_X_finish_43 zo_1 zf_X_46 rfl rfl ?_
            refine ZO.iload (pc := 46) 4 d_X_finish_46 rfl ?_
            refine ZO.rgd (fun h13 => ?_)
            refine ZO.aald (pc := 48) (q0 := 1) d_X_finish_48 (by decide) za_205 h13 ?_
            refine ZO.cVI (pc := 49) (As := []) (rest := [.int x3.1]) d_X_finish_49 zc_X_254 (by decide) (zr_r h13) rfl rfl rfl (Nat.le_of_ble_eq_true rfl) (ok_R_left g (z_ra 205 x3.2.toNatClampNeg) s) (fun p14 ep14 => ?_)
            refine ZO.ior (pc := 52) d_X_finish_52 ?_
            refine ZO.ltI (fun v15 => ?_)
            refine ZO.istore_n (pc := 53) (v := v15) (L' := [(0, .ref 1), (1, .int a0), (2, .int a1), (3, .int v15), (4, .int x3.2)]) [1, 2, 3, 0, 4] d_X_finish_53 rfl (by decide) rfl ?_
            exact hj11 v15
    · refine ZO.iconst (pc := 16) (-1 : Int32) d_X_finish_16 (by decide) ?_
      exact ZO.iret (pc := 17)  d_X_finish_17 rfl rfl rfl
  · refine ZO.iconst (pc := 16) (-1 : Int32) d_X_finish_16 (by decide) ?_
    exact ZO.iret (pc := 17)  d_X_finish_17 rfl rfl rfl
def f_X_searchFrom (n : Nat) (a0 : Int64) (s : ZSt) : Option (Bool × ZSt) :=
  bn (f_S_clear n s) (fun p1 =>
  bn (f_S_seed n a0 p1) (fun p2 =>
  bn (f_S_spread n (-1 : Int32) p2) (fun p3 =>
  some (p3.1, p3.2))))
set_option maxHeartbeats 4000000 in
set_option maxRecDepth 20000 in
theorem ok_X_searchFrom (g : ZG) (n : Nat) (a0 : Int64) (s : ZSt) : ZF g 6 y_X_searchFrom [.ref 1, .long a0] s (f_X_searchFrom n a0 s) (fun b => some (.int (b2i b.1))) (fun b => b.2) := by
  refine ZF.of (by decide +kernel) (Nat.le_of_ble_eq_true rfl) ?_
  unfold f_X_searchFrom
  show ZO g 6 y_X_searchFrom zu0 0 [(0, .ref 1), (1, .long a0)] [] s _ _
  refine ZO.aload_n (pc := 0) 0 d_X_searchFrom_0 rfl rfl ?_
  refine ZO.getA (pc := 1) 202 d_X_searchFrom_1 zo_1 zf_X_26 rfl rfl ?_
  refine ZO.cVV (pc := 4) (As := []) (rest := []) d_X_searchFrom_4 zc_X_334 (by decide) zo_202 rfl rfl rfl (Nat.le_of_ble_eq_true rfl) (ok_S_clear g n s) (fun p1 ep1 => ?_)
  refine ZO.aload_n (pc := 7) 0 d_X_searchFrom_7 rfl rfl ?_
  refine ZO.getA (pc := 8) 202 d_X_searchFrom_8 zo_1 zf_X_26 rfl rfl ?_
  refine ZO.lload_n (pc := 11) 1 d_X_searchFrom_11 rfl rfl ?_
  refine ZO.cVV (pc := 12) (As := [.long a0]) (rest := []) d_X_searchFrom_12 zc_X_335 (by decide) zo_202 rfl rfl rfl (Nat.le_of_ble_eq_true rfl) (ok_S_seed g n a0 p1) (fun p2 ep2 => ?_)
  refine ZO.aload_n (pc := 15) 0 d_X_searchFrom_15 rfl rfl ?_
  refine ZO.getA (pc := 16) 202 d_X_searchFrom_16 zo_1 zf_X_26 rfl rfl ?_
  refine ZO.aload_n (pc := 19) 0 d_X_searchFrom_19 rfl rfl ?_
  refine ZO.getA (pc := 20) 201 d_X_searchFrom_20 zo_1 zf_X_19 rfl rfl ?_
  refine ZO.iconst (pc := 23) (-1 : Int32) d_X_searchFrom_23 (by decide) ?_
  refine ZO.cVB (pc := 24) (As := [.ref 201, .int (-1 : Int32)]) (rest := []) d_X_searchFrom_24 zc_X_339 (by decide) zo_202 rfl rfl rfl (Nat.le_of_ble_eq_true rfl) (ok_S_spread g n (-1 : Int32) p2) (fun p3 ep3 => ?_)
  exact ZO.zret (pc := 27) (v := p3.1) d_X_searchFrom_27 rfl rfl rfl
def f_X_reach (n : Nat) (s : ZSt) : Option (Int32 × ZSt) :=
  bn (f_X_searchFrom n (gl s 1 8) s) (fun p1 =>
  (if p1.1 = true then
  bn (f_X_tellReach n p1.2) (fun p3 =>
    some (p3.1, p3.2))
else some ((-3 : Int32), p1.2)))
set_option maxHeartbeats 4000000 in
set_option maxRecDepth 20000 in
theorem ok_X_reach (g : ZG) (n : Nat) (s : ZSt) : ZF g 7 y_X_reach [.ref 1] s (f_X_reach n s) (fun b => some (.int b.1)) (fun b => b.2) := by
  refine ZF.of (by decide +kernel) (Nat.le_of_ble_eq_true rfl) ?_
  unfold f_X_reach
  show ZO g 7 y_X_reach zu0 0 [(0, .ref 1)] [] s _ _
  refine ZO.aload_n (pc := 0) 0 d_X_reach_0 rfl rfl ?_
  refine ZO.aload_n (pc := 1) 0 d_X_reach_1 rfl rfl ?_
  refine ZO.getJ (pc := 2) d_X_reach_2 zo_1 zf_X_115 rfl ?_
  refine ZO.cVB (pc := 5) (As := [.long (gl s 1 8)]) (rest := []) d_X_reach_5 zc_X_377 (by decide) zo_1 rfl rfl rfl (Nat.le_of_ble_eq_true rfl) (ok_X_searchFrom g n (gl s 1 8) s) (fun p1 ep1 => ?_)
  refine ZO.ifb_eq (pc := 8) 18 d_X_reach_8 (by decide) rfl (fun h2 => ?_) (fun h2 => ?_)
  · refine ZO.aload_n (pc := 11) 0 d_X_reach_11 rfl rfl ?_
    refine ZO.cVI (pc := 12) (As := []) (rest := []) d_X_reach_12 zc_X_331 (by decide) zo_1 rfl rfl rfl (Nat.le_of_ble_eq_true rfl) (ok_X_tellReach g n p1.2) (fun p3 ep3 => ?_)
    refine ZO.goto (pc := 15) 20 d_X_reach_15 (by decide) ?_
    exact ZO.iret (pc := 20)  d_X_reach_20 rfl rfl rfl
  · refine ZO.bipush (pc := 18) (-3 : Int32) d_X_reach_18 (by decide) ?_
    exact ZO.iret (pc := 20)  d_X_reach_20 rfl rfl rfl
def f_X_soonest (n : Nat) (a0 : Int32) (s : ZSt) : Option (Int32 × ZSt) :=
  (if (f_T_has a0 s) = true then
  bn (f_X_searchFrom n (gl s 1 8) s) (fun p2 =>
    (if p2.1 = true then
    bn (f_S_firstWith n (shI (1 : Int32) a0) p2.2) (fun p4 =>
      bn (f_X_tellWay n p4 p2.2) (fun p5 =>
      some (p5.1, p5.2)))
  else some ((-3 : Int32), p2.2)))
else some ((-1 : Int32), s))
set_option maxHeartbeats 4000000 in
set_option maxRecDepth 20000 in
theorem ok_X_soonest (g : ZG) (n : Nat) (a0 : Int32) (s : ZSt) : ZF g 7 y_X_soonest [.ref 1, .int a0] s (f_X_soonest n a0 s) (fun b => some (.int b.1)) (fun b => b.2) := by
  refine ZF.of (by decide +kernel) (Nat.le_of_ble_eq_true rfl) ?_
  unfold f_X_soonest
  show ZO g 7 y_X_soonest zu0 0 [(0, .ref 1), (1, .int a0)] [] s _ _
  refine ZO.aload_n (pc := 0) 0 d_X_soonest_0 rfl rfl ?_
  refine ZO.getA (pc := 1) 201 d_X_soonest_1 zo_1 zf_X_19 rfl rfl ?_
  refine ZO.iload_n (pc := 4) 1 d_X_soonest_4 rfl rfl ?_
  refine ZO.tVB (pc := 5) (As := [.int a0]) (rest := []) d_X_soonest_5 zc_X_92 (by decide) zo_201 rfl rfl rfl (Nat.le_of_ble_eq_true rfl) (ok_T_has g a0 s) ?_
  refine ZO.ifb_ne (pc := 8) 13 d_X_soonest_8 (by decide) rfl (fun h1 => ?_) (fun h1 => ?_)
  · refine ZO.aload_n (pc := 13) 0 d_X_soonest_13 rfl rfl ?_
    refine ZO.aload_n (pc := 14) 0 d_X_soonest_14 rfl rfl ?_
    refine ZO.getJ (pc := 15) d_X_soonest_15 zo_1 zf_X_115 rfl ?_
    refine ZO.cVB (pc := 18) (As := [.long (gl s 1 8)]) (rest := []) d_X_soonest_18 zc_X_377 (by decide) zo_1 rfl rfl rfl (Nat.le_of_ble_eq_true rfl) (ok_X_searchFrom g n (gl s 1 8) s) (fun p2 ep2 => ?_)
    refine ZO.ifb_eq (pc := 21) 41 d_X_soonest_21 (by decide) rfl (fun h3 => ?_) (fun h3 => ?_)
    · refine ZO.aload_n (pc := 24) 0 d_X_soonest_24 rfl rfl ?_
      refine ZO.aload_n (pc := 25) 0 d_X_soonest_25 rfl rfl ?_
      refine ZO.getA (pc := 26) 202 d_X_soonest_26 zo_1 zf_X_26 rfl rfl ?_
      refine ZO.iconst (pc := 29) (1 : Int32) d_X_soonest_29 (by decide) ?_
      refine ZO.iload_n (pc := 30) 1 d_X_soonest_30 rfl rfl ?_
      refine ZO.ishl (pc := 31) d_X_soonest_31 ?_
      refine ZO.cVI (pc := 32) (As := [.int (shI (1 : Int32) a0)]) (rest := [.ref 1]) d_X_soonest_32 zc_X_350 (by decide) zo_202 rfl rfl rfl (Nat.le_of_ble_eq_true rfl) (ok_S_firstWith g n (shI (1 : Int32) a0) p2.2) (fun p4 ep4 => ?_)
      refine ZO.cVI (pc := 35) (As := [.int p4]) (rest := []) d_X_soonest_35 zc_X_353 (by decide) zo_1 rfl rfl rfl (Nat.le_of_ble_eq_true rfl) (ok_X_tellWay g n p4 p2.2) (fun p5 ep5 => ?_)
      refine ZO.goto (pc := 38) 43 d_X_soonest_38 (by decide) ?_
      exact ZO.iret (pc := 43)  d_X_soonest_43 rfl rfl rfl
    · refine ZO.bipush (pc := 41) (-3 : Int32) d_X_soonest_41 (by decide) ?_
      exact ZO.iret (pc := 43)  d_X_soonest_43 rfl rfl rfl
  · refine ZO.iconst (pc := 11) (-1 : Int32) d_X_soonest_11 (by decide) ?_
    exact ZO.iret (pc := 12)  d_X_soonest_12 rfl rfl rfl
def f_X_till (n : Nat) (a0 : Int32) (a1 : Int32) (a2 : Int32) (s : ZSt) : Option (Int32 × ZSt) :=
  (if (f_T_beyond a0 s) = true then
  some ((-1 : Int32), s)
else (if (f_T_beyond a1 s) = true then
    some ((-1 : Int32), s)
  else (if (f_T_beyond a2 s) = true then
      some ((-1 : Int32), s)
    else (if (((a0 &&& a1) ||| (a0 &&& a2)) ||| (a1 &&& a2)) = 0 then
        bn (f_X_searchFrom n (gl s 1 8) s) (fun p5 =>
          (if p5.1 = true then
          bn (f_S_indexOf n (f_X_with (f_X_with (f_X_with (0 : Int64) (0 : Int32) a0) (1 : Int32) a1) (2 : Int32) a2) p5.2) (fun p7 =>
            bn (f_X_tellWay n p7 p5.2) (fun p8 =>
            some (p8.1, p8.2)))
        else some ((-3 : Int32), p5.2)))
      else some ((-1 : Int32), s)))))
set_option maxHeartbeats 4000000 in
set_option maxRecDepth 20000 in
theorem ok_X_till (g : ZG) (n : Nat) (a0 : Int32) (a1 : Int32) (a2 : Int32) (s : ZSt) : ZF g 7 y_X_till [.ref 1, .int a0, .int a1, .int a2] s (f_X_till n a0 a1 a2 s) (fun b => some (.int b.1)) (fun b => b.2) := by
  refine ZF.of (by decide +kernel) (Nat.le_of_ble_eq_true rfl) ?_
  unfold f_X_till
  show ZO g 7 y_X_till zu0 0 [(0, .ref 1), (1, .int a0), (2, .int a1), (3, .int a2)] [] s _ _
  refine ZO.aload_n (pc := 0) 0 d_X_till_0 rfl rfl ?_
  refine ZO.getA (pc := 1) 201 d_X_till_1 zo_1 zf_X_19 rfl rfl ?_
  refine ZO.iload_n (pc := 4) 1 d_X_till_4 rfl rfl ?_
  refine ZO.tVB (pc := 5) (As := [.int a0]) (rest := []) d_X_till_5 zc_X_218 (by decide) zo_201 rfl rfl rfl (Nat.le_of_ble_eq_true rfl) (ok_T_beyond g a0 s) ?_
  refine ZO.ifb_ne (pc := 8) 47 d_X_till_8 (by decide) rfl (fun h1 => ?_) (fun h1 => ?_)
  · refine ZO.iconst (pc := 47) (-1 : Int32) d_X_till_47 (by decide) ?_
    exact ZO.iret (pc := 48)  d_X_till_48 rfl rfl rfl
  · refine ZO.aload_n (pc := 11) 0 d_X_till_11 rfl rfl ?_
    refine ZO.getA (pc := 12) 201 d_X_till_12 zo_1 zf_X_19 rfl rfl ?_
    refine ZO.iload_n (pc := 15) 2 d_X_till_15 rfl rfl ?_
    refine ZO.tVB (pc := 16) (As := [.int a1]) (rest := []) d_X_till_16 zc_X_218 (by decide) zo_201 rfl rfl rfl (Nat.le_of_ble_eq_true rfl) (ok_T_beyond g a1 s) ?_
    refine ZO.ifb_ne (pc := 19) 47 d_X_till_19 (by decide) rfl (fun h2 => ?_) (fun h2 => ?_)
    · refine ZO.iconst (pc := 47) (-1 : Int32) d_X_till_47 (by decide) ?_
      exact ZO.iret (pc := 48)  d_X_till_48 rfl rfl rfl
    · refine ZO.aload_n (pc := 22) 0 d_X_till_22 rfl rfl ?_
      refine ZO.getA (pc := 23) 201 d_X_till_23 zo_1 zf_X_19 rfl rfl ?_
      refine ZO.iload_n (pc := 26) 3 d_X_till_26 rfl rfl ?_
      refine ZO.tVB (pc := 27) (As := [.int a2]) (rest := []) d_X_till_27 zc_X_218 (by decide) zo_201 rfl rfl rfl (Nat.le_of_ble_eq_true rfl) (ok_T_beyond g a2 s) ?_
      refine ZO.ifb_ne (pc := 30) 47 d_X_till_30 (by decide) rfl (fun h3 => ?_) (fun h3 => ?_)
      · refine ZO.iconst (pc := 47) (-1 : Int32) d_X_till_47 (by decide) ?_
        exact ZO.iret (pc := 48)  d_X_till_48 rfl rfl rfl
      · refine ZO.iload_n (pc := 33) 1 d_X_till_33 rfl rfl ?_
        refine ZO.iload_n (pc := 34) 2 d_X_till_34 rfl rfl ?_
        refine ZO.iand (pc := 35) d_X_till_35 ?_
        refine ZO.iload_n (pc := 36) 1 d_X_till_36 rfl rfl ?_
        refine ZO.iload_n (pc := 37) 3 d_X_till_37 rfl rfl ?_
        refine ZO.iand (pc := 38) d_X_till_38 ?_
        refine ZO.ior (pc := 39) d_X_till_39 ?_
        refine ZO.iload_n (pc := 40) 2 d_X_till_40 rfl rfl ?_
        refine ZO.iload_n (pc := 41) 3 d_X_till_41 rfl rfl ?_
        refine ZO.iand (pc := 42) d_X_till_42 ?_
        refine ZO.ior (pc := 43) d_X_till_43 ?_
        refine ZO.if_eq (pc := 44) 49 d_X_till_44 (by decide) rfl (fun h4 => ?_) (fun h4 => ?_)
        · refine ZO.aload_n (pc := 49) 0 d_X_till_49 rfl rfl ?_
          refine ZO.aload_n (pc := 50) 0 d_X_till_50 rfl rfl ?_
          refine ZO.getJ (pc := 51) d_X_till_51 zo_1 zf_X_115 rfl ?_
          refine ZO.cVB (pc := 54) (As := [.long (gl s 1 8)]) (rest := []) d_X_till_54 zc_X_377 (by decide) zo_1 rfl rfl rfl (Nat.le_of_ble_eq_true rfl) (ok_X_searchFrom g n (gl s 1 8) s) (fun p5 ep5 => ?_)
          refine ZO.ifb_ne (pc := 57) 63 d_X_till_57 (by decide) rfl (fun h6 => ?_) (fun h6 => ?_)
          · refine ZO.aload_n (pc := 63) 0 d_X_till_63 rfl rfl ?_
            refine ZO.aload_n (pc := 64) 0 d_X_till_64 rfl rfl ?_
            refine ZO.getA (pc := 65) 202 d_X_till_65 zo_1 zf_X_26 rfl rfl ?_
            refine ZO.lconst (pc := 68) (0 : Int64) d_X_till_68 (by decide) ?_
            refine ZO.iconst (pc := 69) (0 : Int32) d_X_till_69 (by decide) ?_
            refine ZO.iload_n (pc := 70) 1 d_X_till_70 rfl rfl ?_
            refine ZO.tSJ (pc := 71) (As := [.long (0 : Int64), .int (0 : Int32), .int a0]) (rest := [.ref 202, .ref 1]) d_X_till_71 zc_X_221 (by decide) rfl rfl (Nat.le_of_ble_eq_true rfl) (ok_X_with g (0 : Int64) (0 : Int32) a0 p5.2) ?_
            refine ZO.iconst (pc := 74) (1 : Int32) d_X_till_74 (by decide) ?_
            refine ZO.iload_n (pc := 75) 2 d_X_till_75 rfl rfl ?_
            refine ZO.tSJ (pc := 76) (As := [.long (f_X_with (0 : Int64) (0 : Int32) a0), .int (1 : Int32), .int a1]) (rest := [.ref 202, .ref 1]) d_X_till_76 zc_X_221 (by decide) rfl rfl (Nat.le_of_ble_eq_true rfl) (ok_X_with g (f_X_with (0 : Int64) (0 : Int32) a0) (1 : Int32) a1 p5.2) ?_
            refine ZO.iconst (pc := 79) (2 : Int32) d_X_till_79 (by decide) ?_
            refine ZO.iload_n (pc := 80) 3 d_X_till_80 rfl rfl ?_
            refine ZO.tSJ (pc := 81) (As := [.long (f_X_with (f_X_with (0 : Int64) (0 : Int32) a0) (1 : Int32) a1), .int (2 : Int32), .int a2]) (rest := [.ref 202, .ref 1]) d_X_till_81 zc_X_221 (by decide) rfl rfl (Nat.le_of_ble_eq_true rfl) (ok_X_with g (f_X_with (f_X_with (0 : Int64) (0 : Int32) a0) (1 : Int32) a1) (2 : Int32) a2 p5.2) ?_
            refine ZO.cVI (pc := 84) (As := [.long (f_X_with (f_X_with (f_X_with (0 : Int64) (0 : Int32) a0) (1 : Int32) a1) (2 : Int32) a2)]) (rest := [.ref 1]) d_X_till_84 zc_X_368 (by decide) zo_202 rfl rfl rfl (Nat.le_of_ble_eq_true rfl) (ok_S_indexOf g n (f_X_with (f_X_with (f_X_with (0 : Int64) (0 : Int32) a0) (1 : Int32) a1) (2 : Int32) a2) p5.2) (fun p7 ep7 => ?_)
            refine ZO.cVI (pc := 87) (As := [.int p7]) (rest := []) d_X_till_87 zc_X_353 (by decide) zo_1 rfl rfl rfl (Nat.le_of_ble_eq_true rfl) (ok_X_tellWay g n p7 p5.2) (fun p8 ep8 => ?_)
            exact ZO.iret (pc := 90)  d_X_till_90 rfl rfl rfl
          · refine ZO.bipush (pc := 60) (-3 : Int32) d_X_till_60 (by decide) ?_
            exact ZO.iret (pc := 62)  d_X_till_62 rfl rfl rfl
        · refine ZO.iconst (pc := 47) (-1 : Int32) d_X_till_47 (by decide) ?_
          exact ZO.iret (pc := 48)  d_X_till_48 rfl rfl rfl
def f_X_lost (n : Nat) (s : ZSt) : Option (Int32 × ZSt) :=
  lt (f_X_anywhere (gl s 1 8)) (fun v1 =>
  (if v1 = 0 then
  some ((0 : Int32), s)
else bn (f_X_searchFrom n (0 : Int64) s) (fun p3 =>
    (if p3.1 = true then
    lpN (fun j6 (x5 : Int32 × Int32 × Int32 × ZSt) =>
      (if (12 : Int32) ≤ x5.2.2.1 then
        lpN (fun j9 (x8 : Int32 × Int32 × ZSt) =>
          (if (12 : Int32) ≤ x8.2.1 then
            some (x8.1, x8.2.2)
          else (jn (fun (x11 : Int32 × ZSt) =>
                lt (x8.2.1 + (1 : Int32)) (fun v12 =>
                  j9 (x11.1, v12, x11.2))) (fun j13 =>
                if ((srI x5.1 x8.2.1) &&& (1 : Int32)) = 0 then
              j13 (x8.1, x8.2.2)
            else bn (f_T_after n (gl x8.2.2 1 8) ((60 : Int32) + x8.2.1) x8.2.2) (fun p15 =>
                bn (f_X_searchFrom n p15.1 p15.2) (fun p16 =>
                (if p16.1 = true then
                bn (f_S_union n p16.2) (fun p18 =>
                  lt (x8.1 ||| ((shI (1 : Int32) x8.2.1) &&& (p18 ^^^ (-1 : Int32)))) (fun v19 =>
                  j13 (v19, p16.2)))
              else some ((-3 : Int32), p16.2)))))))) n (x5.2.1, (0 : Int32), x5.2.2.2)
      else (jn (fun (x20 : Int32 × Int32 × ZSt) =>
            lt (x5.2.2.1 + (1 : Int32)) (fun v21 =>
              j6 (x20.1, x20.2.1, v21, x20.2.2))) (fun j22 =>
            if ((srI v1 x5.2.2.1) &&& (1 : Int32)) = 0 then
          j22 (x5.1, x5.2.1, x5.2.2.2)
        else bn (f_T_after n (gl x5.2.2.2 1 8) ((60 : Int32) + x5.2.2.1) x5.2.2.2) (fun p24 =>
            bn (f_S_indexOf n p24.1 p24.2) (fun p25 =>
            (if p25 = (-1 : Int32) then
            lt (x5.1 ||| (shI (1 : Int32) x5.2.2.1)) (fun v27 =>
              j22 (v27, x5.2.1, p24.2))
          else bn (f_S_union n p24.2) (fun p28 =>
              lt (x5.2.1 ||| ((shI (1 : Int32) x5.2.2.1) &&& (p28 ^^^ (-1 : Int32)))) (fun v29 =>
              j22 (x5.1, v29, p24.2)))))))))) n ((0 : Int32), (0 : Int32), (0 : Int32), p3.2)
  else some ((-3 : Int32), p3.2)))))
set_option maxHeartbeats 4000000 in
set_option maxRecDepth 20000 in
theorem ok_X_lost (g : ZG) (n : Nat) (s : ZSt) : ZF g 7 y_X_lost [.ref 1] s (f_X_lost n s) (fun b => some (.int b.1)) (fun b => b.2) := by
  refine ZF.of (by decide +kernel) (Nat.le_of_ble_eq_true rfl) ?_
  unfold f_X_lost
  show ZO g 7 y_X_lost zu0 0 [(0, .ref 1)] [] s _ _
  refine ZO.aload_n (pc := 0) 0 d_X_lost_0 rfl rfl ?_
  refine ZO.getJ (pc := 1) d_X_lost_1 zo_1 zf_X_115 rfl ?_
  refine ZO.tSI (pc := 4) (As := [.long (gl s 1 8)]) (rest := []) d_X_lost_4 zc_X_202 (by decide) rfl rfl (Nat.le_of_ble_eq_true rfl) (ok_X_anywhere g (gl s 1 8) s) ?_
  refine ZO.ltI (fun v1 => ?_)
  refine ZO.istore_n (pc := 7) (v := v1) (L' := [(0, .ref 1), (1, .int v1)]) [1, 0] d_X_lost_7 rfl (by decide) rfl ?_
  refine ZO.iload_n (pc := 8) 1 d_X_lost_8 rfl rfl ?_
  refine ZO.if_ne (pc := 9) 14 d_X_lost_9 (by decide) rfl (fun h2 => ?_) (fun h2 => ?_)
  · refine ZO.iconst (pc := 12) (0 : Int32) d_X_lost_12 (by decide) ?_
    exact ZO.iret (pc := 13)  d_X_lost_13 rfl rfl rfl
  · refine ZO.aload_n (pc := 14) 0 d_X_lost_14 rfl rfl ?_
    refine ZO.lconst (pc := 15) (0 : Int64) d_X_lost_15 (by decide) ?_
    refine ZO.cVB (pc := 16) (As := [.long (0 : Int64)]) (rest := []) d_X_lost_16 zc_X_377 (by decide) zo_1 rfl rfl rfl (Nat.le_of_ble_eq_true rfl) (ok_X_searchFrom g n (0 : Int64) s) (fun p3 ep3 => ?_)
    refine ZO.ifb_ne (pc := 19) 25 d_X_lost_19 (by decide) rfl (fun h4 => ?_) (fun h4 => ?_)
    · refine ZO.iconst (pc := 25) (0 : Int32) d_X_lost_25 (by decide) ?_
      refine ZO.istore_n (pc := 26) (v := (0 : Int32)) (L' := [(0, .ref 1), (1, .int v1), (2, .int (0 : Int32))]) [1, 2, 0] d_X_lost_26 rfl (by decide) rfl ?_
      refine ZO.iconst (pc := 27) (0 : Int32) d_X_lost_27 (by decide) ?_
      refine ZO.istore_n (pc := 28) (v := (0 : Int32)) (L' := [(0, .ref 1), (1, .int v1), (2, .int (0 : Int32)), (3, .int (0 : Int32))]) [1, 2, 3, 0] d_X_lost_28 rfl (by decide) rfl ?_
      refine ZO.iconst (pc := 29) (0 : Int32) d_X_lost_29 (by decide) ?_
      refine ZO.istore (pc := 30) (v := (0 : Int32)) (L' := [(0, .ref 1), (1, .int v1), (2, .int (0 : Int32)), (3, .int (0 : Int32)), (4, .int (0 : Int32))]) [1, 2, 3, 4, 0] d_X_lost_30 (by decide) rfl ?_
      refine ZO.loop (fun (x5 : Int32 × Int32 × Int32 × ZSt) => ([(0, .ref 1), (1, .int v1), (2, .int x5.1), (3, .int x5.2.1), (4, .int x5.2.2.1)] : List (Nat × Value))) (fun (x5 : Int32 × Int32 × Int32 × ZSt) => x5.2.2.2) [] (fun j6 x5 hj6 => ?_) rfl rfl rfl
      refine ZO.iload (pc := 32) 4 d_X_lost_32 rfl ?_
      refine ZO.bipush (pc := 34) (12 : Int32) d_X_lost_34 (by decide) ?_
      refine ZO.icmp_ge (pc := 36) 108 d_X_lost_36 (by decide) rfl (fun h7 => ?_) (fun h7 => ?_)
      · refine ZO.iconst (pc := 108) (0 : Int32) d_X_lost_108 (by decide) ?_
        refine ZO.istore (pc := 109) (v := (0 : Int32)) (L' := [(0, .ref 1), (1, .int v1), (2, .int x5.1), (3, .int x5.2.1), (4, .int (0 : Int32))]) [1, 2, 3, 4, 0] d_X_lost_109 (by decide) rfl ?_
        refine ZO.sub (L' := [(0, .ref 1), (2, .int x5.1), (3, .int x5.2.1), (4, .int (0 : Int32))]) [0, 2, 3, 4] rfl ?_
        refine ZO.loop (fun (x8 : Int32 × Int32 × ZSt) => ([(0, .ref 1), (2, .int x5.1), (3, .int x8.1), (4, .int x8.2.1)] : List (Nat × Value))) (fun (x8 : Int32 × Int32 × ZSt) => x8.2.2) [] (fun j9 x8 hj9 => ?_) rfl rfl rfl
        refine ZO.iload (pc := 111) 3 d_X_lost_111 rfl ?_
        refine ZO.bipush (pc := 113) (12 : Int32) d_X_lost_113 (by decide) ?_
        refine ZO.icmp_ge (pc := 115) 176 d_X_lost_115 (by decide) rfl (fun h10 => ?_) (fun h10 => ?_)
        · refine ZO.iload_n (pc := 176) 2 d_X_lost_176 rfl rfl ?_
          exact ZO.iret (pc := 177)  d_X_lost_177 rfl rfl rfl
        · refine ZO.iload_n (pc := 118) 1 d_X_lost_118 rfl rfl ?_
          refine ZO.iload (pc := 119) 3 d_X_lost_119 rfl ?_
          refine ZO.ishr (pc := 121) d_X_lost_121 ?_
          refine ZO.iconst (pc := 122) (1 : Int32) d_X_lost_122 (by decide) ?_
          refine ZO.iand (pc := 123) d_X_lost_123 ?_
          refine ZO.rjn (pcJ := 170) (LJ := fun (x11 : Int32 × ZSt) => ([(0, .ref 1), (2, .int x5.1), (3, .int x11.1), (4, .int x8.2.1)] : List (Nat × Value))) (SJ := fun (x11 : Int32 × ZSt) => ([] : List Value)) (σJ := fun (x11 : Int32 × ZSt) => x11.2) (fun x11 => ?_) (fun j13 hj13 => ?_)
          · refine ZO.iincL (pc := 170) (i := 3) (x8.2.1 + (1 : Int32)) (L' := fun v12 => [(0, .ref 1), (2, .int x5.1), (3, .int x11.1), (4, .int v12)]) [1, 2, 3, 0] d_X_lost_170 rfl (by rfl) (by decide) (fun _ => rfl) (fun v12 => ?_)
            refine ZO.goto (pc := 173) 111 d_X_lost_173 (by decide) ?_
            exact hj9 (x11.1, v12, x11.2)
          · refine ZO.if_eq (pc := 124) 170 d_X_lost_124 (by decide) rfl (fun h14 => ?_) (fun h14 => ?_)
            · exact hj13 (x8.1, x8.2.2)
            · refine ZO.aload_n (pc := 127) 0 d_X_lost_127 rfl rfl ?_
              refine ZO.aload_n (pc := 128) 0 d_X_lost_128 rfl rfl ?_
              refine ZO.getA (pc := 129) 201 d_X_lost_129 zo_1 zf_X_19 rfl rfl ?_
              refine ZO.aload_n (pc := 132) 0 d_X_lost_132 rfl rfl ?_
              refine ZO.getJ (pc := 133) d_X_lost_133 zo_1 zf_X_115 rfl ?_
              refine ZO.bipush (pc := 136) (60 : Int32) d_X_lost_136 (by decide) ?_
              refine ZO.iload (pc := 138) 3 d_X_lost_138 rfl ?_
              refine ZO.iadd (pc := 140) d_X_lost_140 ?_
              refine ZO.cVJ (pc := 141) (As := [.long (gl x8.2.2 1 8), .int ((60 : Int32) + x8.2.1)]) (rest := [.ref 1]) d_X_lost_141 zc_X_206 (by decide) zo_201 rfl rfl rfl (Nat.le_of_ble_eq_true rfl) (ok_T_after g n (gl x8.2.2 1 8) ((60 : Int32) + x8.2.1) x8.2.2) (fun p15 ep15 => ?_)
              refine ZO.cVB (pc := 144) (As := [.long p15.1]) (rest := []) d_X_lost_144 zc_X_377 (by decide) zo_1 rfl rfl rfl (Nat.le_of_ble_eq_true rfl) (ok_X_searchFrom g n p15.1 p15.2) (fun p16 ep16 => ?_)
              refine ZO.ifb_ne (pc := 147) 153 d_X_lost_147 (by decide) rfl (fun h17 => ?_) (fun h17 => ?_)
              · refine ZO.iload_n (pc := 153) 2 d_X_lost_153 rfl rfl ?_
                refine ZO.iconst (pc := 154) (1 : Int32) d_X_lost_154 (by decide) ?_
                refine ZO.iload (pc := 155) 3 d_X_lost_155 rfl ?_
                refine ZO.ishl (pc := 157) d_X_lost_157 ?_
                refine ZO.aload_n (pc := 158) 0 d_X_lost_158 rfl rfl ?_
                refine ZO.getA (pc := 159) 202 d_X_lost_159 zo_1 zf_X_26 rfl rfl ?_
                refine ZO.cVI (pc := 162) (As := []) (rest := [.int (shI (1 : Int32) x8.2.1), .int x8.1]) d_X_lost_162 zc_X_343 (by decide) zo_202 rfl rfl rfl (Nat.le_of_ble_eq_true rfl) (ok_S_union g n p16.2) (fun p18 ep18 => ?_)
                refine ZO.iconst (pc := 165) (-1 : Int32) d_X_lost_165 (by decide) ?_
                refine ZO.ixor (pc := 166) d_X_lost_166 ?_
                refine ZO.iand (pc := 167) d_X_lost_167 ?_
                refine ZO.ior (pc := 168) d_X_lost_168 ?_
                refine ZO.ltI (fun v19 => ?_)
                refine ZO.istore_n (pc := 169) (v := v19) (L' := [(0, .ref 1), (2, .int x5.1), (3, .int v19), (4, .int x8.2.1)]) [1, 2, 0, 3] d_X_lost_169 rfl (by decide) rfl ?_
                exact hj13 (v19, p16.2)
              · refine ZO.bipush (pc := 150) (-3 : Int32) d_X_lost_150 (by decide) ?_
                exact ZO.iret (pc := 152)  d_X_lost_152 rfl rfl rfl
      · refine ZO.iload_n (pc := 39) 1 d_X_lost_39 rfl rfl ?_
        refine ZO.iload (pc := 40) 4 d_X_lost_40 rfl ?_
        refine ZO.ishr (pc := 42) d_X_lost_42 ?_
        refine ZO.iconst (pc := 43) (1 : Int32) d_X_lost_43 (by decide) ?_
        refine ZO.iand (pc := 44) d_X_lost_44 ?_
        refine ZO.rjn (pcJ := 102) (LJ := fun (x20 : Int32 × Int32 × ZSt) => ([(0, .ref 1), (1, .int v1), (2, .int x20.1), (3, .int x20.2.1), (4, .int x5.2.2.1)] : List (Nat × Value))) (SJ := fun (x20 : Int32 × Int32 × ZSt) => ([] : List Value)) (σJ := fun (x20 : Int32 × Int32 × ZSt) => x20.2.2) (fun x20 => ?_) (fun j22 hj22 => ?_)
        · refine ZO.iincL (pc := 102) (i := 4) (x5.2.2.1 + (1 : Int32)) (L' := fun v21 => [(0, .ref 1), (1, .int v1), (2, .int x20.1), (3, .int x20.2.1), (4, .int v21)]) [1, 2, 3, 4, 0] d_X_lost_102 rfl (by rfl) (by decide) (fun _ => rfl) (fun v21 => ?_)
          refine ZO.goto (pc := 105) 32 d_X_lost_105 (by decide) ?_
          exact hj6 (x20.1, x20.2.1, v21, x20.2.2)
        · refine ZO.if_eq (pc := 45) 102 d_X_lost_45 (by decide) rfl (fun h23 => ?_) (fun h23 => ?_)
          · exact hj22 (x5.1, x5.2.1, x5.2.2.2)
          · refine ZO.aload_n (pc := 48) 0 d_X_lost_48 rfl rfl ?_
            refine ZO.getA (pc := 49) 202 d_X_lost_49 zo_1 zf_X_26 rfl rfl ?_
            refine ZO.aload_n (pc := 52) 0 d_X_lost_52 rfl rfl ?_
            refine ZO.getA (pc := 53) 201 d_X_lost_53 zo_1 zf_X_19 rfl rfl ?_
            refine ZO.aload_n (pc := 56) 0 d_X_lost_56 rfl rfl ?_
            refine ZO.getJ (pc := 57) d_X_lost_57 zo_1 zf_X_115 rfl ?_
            refine ZO.bipush (pc := 60) (60 : Int32) d_X_lost_60 (by decide) ?_
            refine ZO.iload (pc := 62) 4 d_X_lost_62 rfl ?_
            refine ZO.iadd (pc := 64) d_X_lost_64 ?_
            refine ZO.cVJ (pc := 65) (As := [.long (gl x5.2.2.2 1 8), .int ((60 : Int32) + x5.2.2.1)]) (rest := [.ref 202]) d_X_lost_65 zc_X_206 (by decide) zo_201 rfl rfl rfl (Nat.le_of_ble_eq_true rfl) (ok_T_after g n (gl x5.2.2.2 1 8) ((60 : Int32) + x5.2.2.1) x5.2.2.2) (fun p24 ep24 => ?_)
            refine ZO.cVI (pc := 68) (As := [.long p24.1]) (rest := []) d_X_lost_68 zc_X_368 (by decide) zo_202 rfl rfl rfl (Nat.le_of_ble_eq_true rfl) (ok_S_indexOf g n p24.1 p24.2) (fun p25 ep25 => ?_)
            refine ZO.iconst (pc := 71) (-1 : Int32) d_X_lost_71 (by decide) ?_
            refine ZO.icmp_ne (pc := 72) 85 d_X_lost_72 (by decide) rfl (fun h26 => ?_) (fun h26 => ?_)
            · refine ZO.iload_n (pc := 75) 2 d_X_lost_75 rfl rfl ?_
              refine ZO.iconst (pc := 76) (1 : Int32) d_X_lost_76 (by decide) ?_
              refine ZO.iload (pc := 77) 4 d_X_lost_77 rfl ?_
              refine ZO.ishl (pc := 79) d_X_lost_79 ?_
              refine ZO.ior (pc := 80) d_X_lost_80 ?_
              refine ZO.ltI (fun v27 => ?_)
              refine ZO.istore_n (pc := 81) (v := v27) (L' := [(0, .ref 1), (1, .int v1), (2, .int v27), (3, .int x5.2.1), (4, .int x5.2.2.1)]) [1, 2, 0, 3, 4] d_X_lost_81 rfl (by decide) rfl ?_
              refine ZO.goto (pc := 82) 102 d_X_lost_82 (by decide) ?_
              exact hj22 (v27, x5.2.1, p24.2)
            · refine ZO.iload_n (pc := 85) 3 d_X_lost_85 rfl rfl ?_
              refine ZO.iconst (pc := 86) (1 : Int32) d_X_lost_86 (by decide) ?_
              refine ZO.iload (pc := 87) 4 d_X_lost_87 rfl ?_
              refine ZO.ishl (pc := 89) d_X_lost_89 ?_
              refine ZO.aload_n (pc := 90) 0 d_X_lost_90 rfl rfl ?_
              refine ZO.getA (pc := 91) 202 d_X_lost_91 zo_1 zf_X_26 rfl rfl ?_
              refine ZO.cVI (pc := 94) (As := []) (rest := [.int (shI (1 : Int32) x5.2.2.1), .int x5.2.1]) d_X_lost_94 zc_X_343 (by decide) zo_202 rfl rfl rfl (Nat.le_of_ble_eq_true rfl) (ok_S_union g n p24.2) (fun p28 ep28 => ?_)
              refine ZO.iconst (pc := 97) (-1 : Int32) d_X_lost_97 (by decide) ?_
              refine ZO.ixor (pc := 98) d_X_lost_98 ?_
              refine ZO.iand (pc := 99) d_X_lost_99 ?_
              refine ZO.ior (pc := 100) d_X_lost_100 ?_
              refine ZO.ltI (fun v29 => ?_)
              refine ZO.istore_n (pc := 101) (v := v29) (L' := [(0, .ref 1), (1, .int v1), (2, .int x5.1), (3, .int v29), (4, .int x5.2.2.1)]) [1, 2, 3, 0, 4] d_X_lost_101 rfl (by decide) rfl ?_
              exact hj22 (x5.1, v29, p24.2)
    · refine ZO.bipush (pc := 22) (-3 : Int32) d_X_lost_22 (by decide) ?_
      exact ZO.iret (pc := 24)  d_X_lost_24 rfl rfl rfl
def f_X_free (n : Nat) (s : ZSt) : Option (Int32 × ZSt) :=
  bn (f_X_searchFrom n (gl s 1 8) s) (fun p1 =>
  (if p1.1 = true then
  bn (f_S_gather n p1.2) (fun p3 =>
    bn (f_S_union n p3) (fun p4 =>
    lt (si p3 1 13 (0 : Int32)) (fun s5 =>
    lpN (fun j7 (x6 : Int32) =>
    (if (gi s5 202 5) ≤ x6 then
      some ((1 : Int32), s5)
    else gd (inb x6 5000) (
        (if (ai s5 264 x6) = p4 then
        lt (x6 + (1 : Int32)) (fun v11 =>
          j7 v11)
      else bn (f_X_tell (ai s5 263 x6) s5) (fun p12 =>
          bn (f_X_tell (p4 &&& ((ai p12 264 x6) ^^^ (-1 : Int32))) p12) (fun p13 =>
          some ((0 : Int32), p13))))))) n (0 : Int32))))
else some ((-3 : Int32), p1.2)))
set_option maxHeartbeats 4000000 in
set_option maxRecDepth 20000 in
theorem ok_X_free (g : ZG) (n : Nat) (s : ZSt) : ZF g 7 y_X_free [.ref 1] s (f_X_free n s) (fun b => some (.int b.1)) (fun b => b.2) := by
  refine ZF.of (by decide +kernel) (Nat.le_of_ble_eq_true rfl) ?_
  unfold f_X_free
  show ZO g 7 y_X_free zu0 0 [(0, .ref 1)] [] s _ _
  refine ZO.aload_n (pc := 0) 0 d_X_free_0 rfl rfl ?_
  refine ZO.aload_n (pc := 1) 0 d_X_free_1 rfl rfl ?_
  refine ZO.getJ (pc := 2) d_X_free_2 zo_1 zf_X_115 rfl ?_
  refine ZO.cVB (pc := 5) (As := [.long (gl s 1 8)]) (rest := []) d_X_free_5 zc_X_377 (by decide) zo_1 rfl rfl rfl (Nat.le_of_ble_eq_true rfl) (ok_X_searchFrom g n (gl s 1 8) s) (fun p1 ep1 => ?_)
  refine ZO.ifb_ne (pc := 8) 14 d_X_free_8 (by decide) rfl (fun h2 => ?_) (fun h2 => ?_)
  · refine ZO.aload_n (pc := 14) 0 d_X_free_14 rfl rfl ?_
    refine ZO.getA (pc := 15) 202 d_X_free_15 zo_1 zf_X_26 rfl rfl ?_
    refine ZO.cVV (pc := 18) (As := []) (rest := []) d_X_free_18 zc_X_365 (by decide) zo_202 rfl rfl rfl (Nat.le_of_ble_eq_true rfl) (ok_S_gather g n p1.2) (fun p3 ep3 => ?_)
    refine ZO.aload_n (pc := 21) 0 d_X_free_21 rfl rfl ?_
    refine ZO.getA (pc := 22) 202 d_X_free_22 zo_1 zf_X_26 rfl rfl ?_
    refine ZO.cVI (pc := 25) (As := []) (rest := []) d_X_free_25 zc_X_343 (by decide) zo_202 rfl rfl rfl (Nat.le_of_ble_eq_true rfl) (ok_S_union g n p3) (fun p4 ep4 => ?_)
    refine ZO.istore_n (pc := 28) (v := p4) (L' := [(0, .ref 1), (1, .int p4)]) [1, 0] d_X_free_28 rfl (by decide) rfl ?_
    refine ZO.aload_n (pc := 29) 0 d_X_free_29 rfl rfl ?_
    refine ZO.iconst (pc := 30) (0 : Int32) d_X_free_30 (by decide) ?_
    refine ZO.putI (pc := 31) d_X_free_31 zo_1 zp_X_209 rfl ?_
    refine ZO.ltS (fun s5 => ?_)
    refine ZO.iconst (pc := 34) (0 : Int32) d_X_free_34 (by decide) ?_
    refine ZO.istore_n (pc := 35) (v := (0 : Int32)) (L' := [(0, .ref 1), (1, .int p4), (2, .int (0 : Int32))]) [1, 2, 0] d_X_free_35 rfl (by decide) rfl ?_
    refine ZO.loop (fun (x6 : Int32) => ([(0, .ref 1), (1, .int p4), (2, .int x6)] : List (Nat × Value))) (fun (x6 : Int32) => s5) [] (fun j7 x6 hj7 => ?_) rfl rfl rfl
    refine ZO.iload_n (pc := 36) 2 d_X_free_36 rfl rfl ?_
    refine ZO.aload_n (pc := 37) 0 d_X_free_37 rfl rfl ?_
    refine ZO.getA (pc := 38) 202 d_X_free_38 zo_1 zf_X_26 rfl rfl ?_
    refine ZO.getI (pc := 41) d_X_free_41 zo_202 zf_X_349 rfl ?_
    refine ZO.icmp_ge (pc := 44) 98 d_X_free_44 (by decide) rfl (fun h8 => ?_) (fun h8 => ?_)
    · refine ZO.iconst (pc := 98) (1 : Int32) d_X_free_98 (by decide) ?_
      exact ZO.iret (pc := 99)  d_X_free_99 rfl rfl rfl
    · refine ZO.aload_n (pc := 47) 0 d_X_free_47 rfl rfl ?_
      refine ZO.getA (pc := 48) 202 d_X_free_48 zo_1 zf_X_26 rfl rfl ?_
      refine ZO.getA (pc := 51) 264 d_X_free_51 zo_202 zf_X_371 rfl rfl ?_
      refine ZO.iload_n (pc := 54) 2 d_X_free_54 rfl rfl ?_
      refine ZO.rgd (fun h9 => ?_)
      refine ZO.iald (pc := 55) d_X_free_55 za_264 h9 ?_
      refine ZO.iload_n (pc := 56) 1 d_X_free_56 rfl rfl ?_
      refine ZO.icmp_eq (pc := 57) 92 d_X_free_57 (by decide) rfl (fun h10 => ?_) (fun h10 => ?_)
      · refine ZO.iincL (pc := 92) (i := 2) (x6 + (1 : Int32)) (L' := fun v11 => [(0, .ref 1), (1, .int p4), (2, .int v11)]) [1, 2, 0] d_X_free_92 rfl (by rfl) (by decide) (fun _ => rfl) (fun v11 => ?_)
        refine ZO.goto (pc := 95) 36 d_X_free_95 (by decide) ?_
        exact hj7 v11
      · refine ZO.aload_n (pc := 60) 0 d_X_free_60 rfl rfl ?_
        refine ZO.aload_n (pc := 61) 0 d_X_free_61 rfl rfl ?_
        refine ZO.getA (pc := 62) 202 d_X_free_62 zo_1 zf_X_26 rfl rfl ?_
        refine ZO.getA (pc := 65) 263 d_X_free_65 zo_202 zf_X_356 rfl rfl ?_
        refine ZO.iload_n (pc := 68) 2 d_X_free_68 rfl rfl ?_
        refine ZO.iald (pc := 69) d_X_free_69 za_263 h9 ?_
        refine ZO.cVV (pc := 70) (As := [.int (ai s5 263 x6)]) (rest := []) d_X_free_70 zc_X_215 (by decide) zo_1 rfl rfl rfl (Nat.le_of_ble_eq_true rfl) (ok_X_tell g (ai s5 263 x6) s5) (fun p12 ep12 => ?_)
        refine ZO.aload_n (pc := 73) 0 d_X_free_73 rfl rfl ?_
        refine ZO.iload_n (pc := 74) 1 d_X_free_74 rfl rfl ?_
        refine ZO.aload_n (pc := 75) 0 d_X_free_75 rfl rfl ?_
        refine ZO.getA (pc := 76) 202 d_X_free_76 zo_1 zf_X_26 rfl rfl ?_
        refine ZO.getA (pc := 79) 264 d_X_free_79 zo_202 zf_X_371 rfl rfl ?_
        refine ZO.iload_n (pc := 82) 2 d_X_free_82 rfl rfl ?_
        refine ZO.iald (pc := 83) d_X_free_83 za_264 h9 ?_
        refine ZO.iconst (pc := 84) (-1 : Int32) d_X_free_84 (by decide) ?_
        refine ZO.ixor (pc := 85) d_X_free_85 ?_
        refine ZO.iand (pc := 86) d_X_free_86 ?_
        refine ZO.cVV (pc := 87) (As := [.int (p4 &&& ((ai p12 264 x6) ^^^ (-1 : Int32)))]) (rest := []) d_X_free_87 zc_X_215 (by decide) zo_1 rfl rfl rfl (Nat.le_of_ble_eq_true rfl) (ok_X_tell g (p4 &&& ((ai p12 264 x6) ^^^ (-1 : Int32))) p12) (fun p13 ep13 => ?_)
        refine ZO.iconst (pc := 90) (0 : Int32) d_X_free_90 (by decide) ?_
        exact ZO.iret (pc := 91)  d_X_free_91 rfl rfl rfl
  · refine ZO.bipush (pc := 11) (-3 : Int32) d_X_free_11 (by decide) ?_
    exact ZO.iret (pc := 13)  d_X_free_13 rfl rfl rfl
def f_X_keep (n : Nat) (a0 : Int32) (s : ZSt) : Option (Bool × ZSt) :=
  (if a0 < 0 then
  some (false, s)
else (if a0 < (3 : Int32) then
    gd (inb a0 3) (
      lt (si s (z_ra 206 a0.toNatClampNeg) 0 (b2i true)) (fun s4 =>
      lt (sl s4 (z_ra 206 a0.toNatClampNeg) 1 (gl s4 1 8)) (fun s5 =>
      lt (si s5 (z_ra 206 a0.toNatClampNeg) 2 (gi s5 1 9)) (fun s6 =>
      lt (si s6 (z_ra 206 a0.toNatClampNeg) 3 (gi s6 1 11)) (fun s7 =>
      lt (si s7 (z_ra 206 a0.toNatClampNeg) 4 (gi s7 1 7)) (fun s8 =>
      lt (cpyA s8 210 ((z_ra 206 a0.toNatClampNeg) + 10) (60 : Int32).toNatClampNeg) (fun s9 =>
      lpN (fun j11 (x10 : Int32 × ZSt) =>
      (if (12 : Int32) ≤ x10.1 then
        lpN (fun j14 (x13 : Int32 × ZSt) =>
          (if (6 : Int32) ≤ x13.1 then
            some (true, x13.2)
          else gd (inb x13.1 6) (
              lt (sai x13.2 ((z_ra 206 a0.toNatClampNeg) + 20) x13.1 (gi x13.2 (z_ra 205 x13.1.toNatClampNeg) 1)) (fun s17 =>
              lt (sai s17 ((z_ra 206 a0.toNatClampNeg) + 25) x13.1 (gi s17 (z_ra 205 x13.1.toNatClampNeg) 3)) (fun s18 =>
              lt (x13.1 + (1 : Int32)) (fun v19 =>
              j14 (v19, s18))))))) n ((0 : Int32), x10.2)
      else gd (inb x10.1 12) (
          lt (sai x10.2 ((z_ra 206 a0.toNatClampNeg) + 15) x10.1 (gi x10.2 (z_ra 240 x10.1.toNatClampNeg) 4)) (fun s21 =>
          lt (x10.1 + (1 : Int32)) (fun v22 =>
          j11 (v22, s21)))))) n ((0 : Int32), s9))))))))
  else some (false, s)))
set_option maxHeartbeats 4000000 in
set_option maxRecDepth 20000 in
theorem ok_X_keep (g : ZG) (n : Nat) (a0 : Int32) (s : ZSt) : ZF g 1 y_X_keep [.ref 1, .int a0] s (f_X_keep n a0 s) (fun b => some (.int (b2i b.1))) (fun b => b.2) := by
  refine ZF.of (by decide +kernel) (Nat.le_of_ble_eq_true rfl) ?_
  unfold f_X_keep
  show ZO g 1 y_X_keep zu0 0 [(0, .ref 1), (1, .int a0)] [] s _ _
  refine ZO.iload_n (pc := 0) 1 d_X_keep_0 rfl rfl ?_
  refine ZO.if_lt (pc := 1) 9 d_X_keep_1 (by decide) rfl (fun h1 => ?_) (fun h1 => ?_)
  · refine ZO.iconst (pc := 9) (0 : Int32) d_X_keep_9 (by decide) ?_
    exact ZO.zret (pc := 10) (v := false) d_X_keep_10 rfl rfl rfl
  · refine ZO.iload_n (pc := 4) 1 d_X_keep_4 rfl rfl ?_
    refine ZO.iconst (pc := 5) (3 : Int32) d_X_keep_5 (by decide) ?_
    refine ZO.icmp_lt (pc := 6) 11 d_X_keep_6 (by decide) rfl (fun h2 => ?_) (fun h2 => ?_)
    · refine ZO.aload_n (pc := 11) 0 d_X_keep_11 rfl rfl ?_
      refine ZO.getA (pc := 12) 206 d_X_keep_12 zo_1 zf_X_52 rfl rfl ?_
      refine ZO.iload_n (pc := 15) 1 d_X_keep_15 rfl rfl ?_
      refine ZO.rgd (fun h3 => ?_)
      refine ZO.aald (pc := 16) (q0 := 2) d_X_keep_16 (by decide) za_206 h3 ?_
      refine ZO.astore_n (pc := 17) (v := (z_ra 206 a0.toNatClampNeg)) (L' := [(0, .ref 1), (1, .int a0), (2, .ref (z_ra 206 a0.toNatClampNeg))]) [1, 2, 0] d_X_keep_17 rfl (by decide) rfl ?_
      refine ZO.aload_n (pc := 18) 2 d_X_keep_18 rfl rfl ?_
      refine ZO.iconst (pc := 19) (1 : Int32) d_X_keep_19 (by decide) ?_
      refine ZO.putB (pc := 20) (x := true) d_X_keep_20 (zr_k h3) zp_X_381 rfl ?_
      refine ZO.ltS (fun s4 => ?_)
      refine ZO.aload_n (pc := 23) 2 d_X_keep_23 rfl rfl ?_
      refine ZO.aload_n (pc := 24) 0 d_X_keep_24 rfl rfl ?_
      refine ZO.getJ (pc := 25) d_X_keep_25 zo_1 zf_X_115 rfl ?_
      refine ZO.putJ (pc := 28) d_X_keep_28 (zr_k h3) zp_X_385 rfl ?_
      refine ZO.ltS (fun s5 => ?_)
      refine ZO.aload_n (pc := 31) 2 d_X_keep_31 rfl rfl ?_
      refine ZO.aload_n (pc := 32) 0 d_X_keep_32 rfl rfl ?_
      refine ZO.getI (pc := 33) d_X_keep_33 zo_1 zf_X_265 rfl ?_
      refine ZO.putI (pc := 36) d_X_keep_36 (zr_k h3) zp_X_388 rfl ?_
      refine ZO.ltS (fun s6 => ?_)
      refine ZO.aload_n (pc := 39) 2 d_X_keep_39 rfl rfl ?_
      refine ZO.aload_n (pc := 40) 0 d_X_keep_40 rfl rfl ?_
      refine ZO.getI (pc := 41) d_X_keep_41 zo_1 zf_X_287 rfl ?_
      refine ZO.putI (pc := 44) d_X_keep_44 (zr_k h3) zp_X_391 rfl ?_
      refine ZO.ltS (fun s7 => ?_)
      refine ZO.aload_n (pc := 47) 2 d_X_keep_47 rfl rfl ?_
      refine ZO.aload_n (pc := 48) 0 d_X_keep_48 rfl rfl ?_
      refine ZO.getI (pc := 49) d_X_keep_49 zo_1 zf_X_229 rfl ?_
      refine ZO.putI (pc := 52) d_X_keep_52 (zr_k h3) zp_X_392 rfl ?_
      refine ZO.ltS (fun s8 => ?_)
      refine ZO.aload_n (pc := 55) 0 d_X_keep_55 rfl rfl ?_
      refine ZO.getA (pc := 56) 210 d_X_keep_56 zo_1 zf_X_56 rfl rfl ?_
      refine ZO.iconst (pc := 59) (0 : Int32) d_X_keep_59 (by decide) ?_
      refine ZO.aload_n (pc := 60) 2 d_X_keep_60 rfl rfl ?_
      refine ZO.getA (pc := 61) ((z_ra 206 a0.toNatClampNeg) + 10) d_X_keep_61 (zr_k h3) zf_X_394 rfl rfl ?_
      refine ZO.iconst (pc := 64) (0 : Int32) d_X_keep_64 (by decide) ?_
      refine ZO.bipush (pc := 65) (60 : Int32) d_X_keep_65 (by decide) ?_
      refine ZO.acopy (pc := 67) (nn := (60 : Int32)) d_X_keep_67 zy_X_395 za_210 (zk_l (zr_k h3)) (by decide) (by decide) rfl ?_
      refine ZO.ltS (fun s9 => ?_)
      refine ZO.iconst (pc := 70) (0 : Int32) d_X_keep_70 (by decide) ?_
      refine ZO.istore_n (pc := 71) (v := (0 : Int32)) (L' := [(0, .ref 1), (1, .int a0), (2, .ref (z_ra 206 a0.toNatClampNeg)), (3, .int (0 : Int32))]) [1, 2, 3, 0] d_X_keep_71 rfl (by decide) rfl ?_
      refine ZO.sub (L' := [(0, .ref 1), (2, .ref (z_ra 206 a0.toNatClampNeg)), (3, .int (0 : Int32))]) [0, 2, 3] rfl ?_
      refine ZO.loop (fun (x10 : Int32 × ZSt) => ([(0, .ref 1), (2, .ref (z_ra 206 a0.toNatClampNeg)), (3, .int x10.1)] : List (Nat × Value))) (fun (x10 : Int32 × ZSt) => x10.2) [] (fun j11 x10 hj11 => ?_) rfl rfl rfl
      refine ZO.iload_n (pc := 72) 2 d_X_keep_72 rfl rfl ?_
      refine ZO.bipush (pc := 73) (12 : Int32) d_X_keep_73 (by decide) ?_
      refine ZO.icmp_ge (pc := 75) 102 d_X_keep_75 (by decide) rfl (fun h12 => ?_) (fun h12 => ?_)
      · refine ZO.iconst (pc := 102) (0 : Int32) d_X_keep_102 (by decide) ?_
        refine ZO.istore_n (pc := 103) (v := (0 : Int32)) (L' := [(0, .ref 1), (2, .ref (z_ra 206 a0.toNatClampNeg)), (3, .int (0 : Int32))]) [1, 2, 0] d_X_keep_103 rfl (by decide) rfl ?_
        refine ZO.loop (fun (x13 : Int32 × ZSt) => ([(0, .ref 1), (2, .ref (z_ra 206 a0.toNatClampNeg)), (3, .int x13.1)] : List (Nat × Value))) (fun (x13 : Int32 × ZSt) => x13.2) [] (fun j14 x13 hj14 => ?_) rfl rfl rfl
        refine ZO.iload_n (pc := 104) 2 d_X_keep_104 rfl rfl ?_
        refine ZO.bipush (pc := 105) (6 : Int32) d_X_keep_105 (by decide) ?_
        refine ZO.icmp_ge (pc := 107) 146 d_X_keep_107 (by decide) rfl (fun h15 => ?_) (fun h15 => ?_)
        · refine ZO.iconst (pc := 146) (1 : Int32) d_X_keep_146 (by decide) ?_
          exact ZO.zret (pc := 147) (v := true) d_X_keep_147 rfl rfl rfl
        · refine ZO.aload_n (pc := 110) 1 d_X_keep_110 rfl rfl ?_
          refine ZO.getA (pc := 111) ((z_ra 206 a0.toNatClampNeg) + 20) d_X_keep_111 (zr_k h3) zf_X_403 rfl rfl ?_
          refine ZO.iload_n (pc := 114) 2 d_X_keep_114 rfl rfl ?_
          refine ZO.aload_n (pc := 115) 0 d_X_keep_115 rfl rfl ?_
          refine ZO.getA (pc := 116) 205 d_X_keep_116 zo_1 zf_X_46 rfl rfl ?_
          refine ZO.iload_n (pc := 119) 2 d_X_keep_119 rfl rfl ?_
          refine ZO.rgd (fun h16 => ?_)
          refine ZO.aald (pc := 120) (q0 := 1) d_X_keep_120 (by decide) za_205 h16 ?_
          refine ZO.getI (pc := 121) d_X_keep_121 (zr_r h16) zf_X_239 rfl ?_
          refine ZO.iast (pc := 124) d_X_keep_124 (zk_t (zr_k h3)) h16 ?_
          refine ZO.ltS (fun s17 => ?_)
          refine ZO.aload_n (pc := 125) 1 d_X_keep_125 rfl rfl ?_
          refine ZO.getA (pc := 126) ((z_ra 206 a0.toNatClampNeg) + 25) d_X_keep_126 (zr_k h3) zf_X_405 rfl rfl ?_
          refine ZO.iload_n (pc := 129) 2 d_X_keep_129 rfl rfl ?_
          refine ZO.aload_n (pc := 130) 0 d_X_keep_130 rfl rfl ?_
          refine ZO.getA (pc := 131) 205 d_X_keep_131 zo_1 zf_X_46 rfl rfl ?_
          refine ZO.iload_n (pc := 134) 2 d_X_keep_134 rfl rfl ?_
          refine ZO.aald (pc := 135) (q0 := 1) d_X_keep_135 (by decide) za_205 h16 ?_
          refine ZO.getI (pc := 136) d_X_keep_136 (zr_r h16) zf_X_246 rfl ?_
          refine ZO.iast (pc := 139) d_X_keep_139 (zk_r (zr_k h3)) h16 ?_
          refine ZO.ltS (fun s18 => ?_)
          refine ZO.iincL (pc := 140) (i := 2) (x13.1 + (1 : Int32)) (L' := fun v19 => [(0, .ref 1), (2, .ref (z_ra 206 a0.toNatClampNeg)), (3, .int v19)]) [1, 2, 0] d_X_keep_140 rfl (by rfl) (by decide) (fun _ => rfl) (fun v19 => ?_)
          refine ZO.goto (pc := 143) 104 d_X_keep_143 (by decide) ?_
          exact hj14 (v19, s18)
      · refine ZO.aload_n (pc := 78) 1 d_X_keep_78 rfl rfl ?_
        refine ZO.getA (pc := 79) ((z_ra 206 a0.toNatClampNeg) + 15) d_X_keep_79 (zr_k h3) zf_X_401 rfl rfl ?_
        refine ZO.iload_n (pc := 82) 2 d_X_keep_82 rfl rfl ?_
        refine ZO.aload_n (pc := 83) 0 d_X_keep_83 rfl rfl ?_
        refine ZO.getA (pc := 84) 201 d_X_keep_84 zo_1 zf_X_19 rfl rfl ?_
        refine ZO.getA (pc := 87) 240 d_X_keep_87 zo_201 zf_X_102 rfl rfl ?_
        refine ZO.iload_n (pc := 90) 2 d_X_keep_90 rfl rfl ?_
        refine ZO.rgd (fun h20 => ?_)
        refine ZO.aald (pc := 91) (q0 := 0) d_X_keep_91 (by decide) za_240 h20 ?_
        refine ZO.getI (pc := 92) d_X_keep_92 (zr_b h20) zf_X_166 rfl ?_
        refine ZO.iast (pc := 95) d_X_keep_95 (zk_o (zr_k h3)) h20 ?_
        refine ZO.ltS (fun s21 => ?_)
        refine ZO.iincL (pc := 96) (i := 2) (x10.1 + (1 : Int32)) (L' := fun v22 => [(0, .ref 1), (2, .ref (z_ra 206 a0.toNatClampNeg)), (3, .int v22)]) [1, 2, 0] d_X_keep_96 rfl (by rfl) (by decide) (fun _ => rfl) (fun v22 => ?_)
        refine ZO.goto (pc := 99) 72 d_X_keep_99 (by decide) ?_
        exact hj11 (v22, s21)
    · refine ZO.iconst (pc := 9) (0 : Int32) d_X_keep_9 (by decide) ?_
      exact ZO.zret (pc := 10) (v := false) d_X_keep_10 rfl rfl rfl
def f_X_again (n : Nat) (a0 : Int32) (s : ZSt) : Option (Bool × ZSt) :=
  (if a0 < 0 then
  some (false, s)
else (if (3 : Int32) ≤ a0 then
    some (false, s)
  else gd (inb a0 3) (
      (if (gi s (z_ra 206 a0.toNatClampNeg) 0) = 0 then
      some (false, s)
    else lt (sl s 1 8 (gl s (z_ra 206 a0.toNatClampNeg) 1)) (fun s5 =>
        lt (si s5 1 9 (gi s5 (z_ra 206 a0.toNatClampNeg) 2)) (fun s6 =>
        lt (si s6 1 11 (gi s6 (z_ra 206 a0.toNatClampNeg) 3)) (fun s7 =>
        lt (cpyA s7 ((z_ra 206 a0.toNatClampNeg) + 10) 210 (60 : Int32).toNatClampNeg) (fun s8 =>
        lpN (fun j10 (x9 : Int32 × ZSt) =>
        (if (12 : Int32) ≤ x9.1 then
          lpN (fun j13 (x12 : Int32 × ZSt) =>
            (if (gi x12.2 1 7) ≤ x12.1 then
              bn (f_T_forget x12.2) (fun p15 =>
                some (true, p15))
            else (lt ((if x12.1 < (gi x12.2 (z_ra 206 a0.toNatClampNeg) 4) then
                (0 : Int32)
              else (1 : Int32)) : Int32) (fun x16 =>
                  gd (inb x12.1 6) (
                    (jn (fun (x18 : Int32) =>
                      lt (si x12.2 (z_ra 205 x12.1.toNatClampNeg) 1 x18) (fun s19 =>
                        (jn (fun (x20 : Int32) =>
                          lt (si s19 (z_ra 205 x12.1.toNatClampNeg) 3 x20) (fun s21 =>
                            bn (f_T_countIn n (gi s21 (z_ra 205 x12.1.toNatClampNeg) 3) s21) (fun p22 =>
                            lt (x12.1 + (1 : Int32)) (fun v23 =>
                            j13 (v23, p22))))) (fun j24 =>
                          if x16 = 0 then
                        j24 (ai s19 ((z_ra 206 a0.toNatClampNeg) + 25) x12.1)
                      else j24 (0 : Int32))))) (fun j26 =>
                      if x16 = 0 then
                    j26 (ai x12.2 ((z_ra 206 a0.toNatClampNeg) + 20) x12.1)
                  else j26 (gi x12.2 (z_ra 205 x12.1.toNatClampNeg) 0)))))))) n ((0 : Int32), x9.2)
        else gd (inb x9.1 12) (
            lt (si x9.2 (z_ra 240 x9.1.toNatClampNeg) 4 (ai x9.2 ((z_ra 206 a0.toNatClampNeg) + 15) x9.1)) (fun s31 =>
            lt (si s31 (z_ra 240 x9.1.toNatClampNeg) 5 (0 : Int32)) (fun s32 =>
            lt (x9.1 + (1 : Int32)) (fun v33 =>
            j10 (v33, s32))))))) n ((0 : Int32), s8)))))))))
set_option maxHeartbeats 4000000 in
set_option maxRecDepth 20000 in
theorem ok_X_again (g : ZG) (n : Nat) (a0 : Int32) (s : ZSt) : ZF g 1 y_X_again [.ref 1, .int a0] s (f_X_again n a0 s) (fun b => some (.int (b2i b.1))) (fun b => b.2) := by
  refine ZF.of (by decide +kernel) (Nat.le_of_ble_eq_true rfl) ?_
  unfold f_X_again
  show ZO g 1 y_X_again zu0 0 [(0, .ref 1), (1, .int a0)] [] s _ _
  refine ZO.iload_n (pc := 0) 1 d_X_again_0 rfl rfl ?_
  refine ZO.if_lt (pc := 1) 21 d_X_again_1 (by decide) rfl (fun h1 => ?_) (fun h1 => ?_)
  · refine ZO.iconst (pc := 21) (0 : Int32) d_X_again_21 (by decide) ?_
    exact ZO.zret (pc := 22) (v := false) d_X_again_22 rfl rfl rfl
  · refine ZO.iload_n (pc := 4) 1 d_X_again_4 rfl rfl ?_
    refine ZO.iconst (pc := 5) (3 : Int32) d_X_again_5 (by decide) ?_
    refine ZO.icmp_ge (pc := 6) 21 d_X_again_6 (by decide) rfl (fun h2 => ?_) (fun h2 => ?_)
    · refine ZO.iconst (pc := 21) (0 : Int32) d_X_again_21 (by decide) ?_
      exact ZO.zret (pc := 22) (v := false) d_X_again_22 rfl rfl rfl
    · refine ZO.aload_n (pc := 9) 0 d_X_again_9 rfl rfl ?_
      refine ZO.getA (pc := 10) 206 d_X_again_10 zo_1 zf_X_52 rfl rfl ?_
      refine ZO.iload_n (pc := 13) 1 d_X_again_13 rfl rfl ?_
      refine ZO.rgd (fun h3 => ?_)
      refine ZO.aald (pc := 14) (q0 := 2) d_X_again_14 (by decide) za_206 h3 ?_
      refine ZO.getI (pc := 15) d_X_again_15 (zr_k h3) zf_X_381 rfl ?_
      refine ZO.if_ne (pc := 18) 23 d_X_again_18 (by decide) rfl (fun h4 => ?_) (fun h4 => ?_)
      · refine ZO.iconst (pc := 21) (0 : Int32) d_X_again_21 (by decide) ?_
        exact ZO.zret (pc := 22) (v := false) d_X_again_22 rfl rfl rfl
      · refine ZO.aload_n (pc := 23) 0 d_X_again_23 rfl rfl ?_
        refine ZO.getA (pc := 24) 206 d_X_again_24 zo_1 zf_X_52 rfl rfl ?_
        refine ZO.iload_n (pc := 27) 1 d_X_again_27 rfl rfl ?_
        refine ZO.aald (pc := 28) (q0 := 2) d_X_again_28 (by decide) za_206 h3 ?_
        refine ZO.astore_n (pc := 29) (v := (z_ra 206 a0.toNatClampNeg)) (L' := [(0, .ref 1), (1, .int a0), (2, .ref (z_ra 206 a0.toNatClampNeg))]) [1, 2, 0] d_X_again_29 rfl (by decide) rfl ?_
        refine ZO.aload_n (pc := 30) 0 d_X_again_30 rfl rfl ?_
        refine ZO.aload_n (pc := 31) 2 d_X_again_31 rfl rfl ?_
        refine ZO.getJ (pc := 32) d_X_again_32 (zr_k h3) zf_X_385 rfl ?_
        refine ZO.putJ (pc := 35) d_X_again_35 zo_1 zp_X_115 rfl ?_
        refine ZO.ltS (fun s5 => ?_)
        refine ZO.aload_n (pc := 38) 0 d_X_again_38 rfl rfl ?_
        refine ZO.aload_n (pc := 39) 2 d_X_again_39 rfl rfl ?_
        refine ZO.getI (pc := 40) d_X_again_40 (zr_k h3) zf_X_388 rfl ?_
        refine ZO.putI (pc := 43) d_X_again_43 zo_1 zp_X_265 rfl ?_
        refine ZO.ltS (fun s6 => ?_)
        refine ZO.aload_n (pc := 46) 0 d_X_again_46 rfl rfl ?_
        refine ZO.aload_n (pc := 47) 2 d_X_again_47 rfl rfl ?_
        refine ZO.getI (pc := 48) d_X_again_48 (zr_k h3) zf_X_391 rfl ?_
        refine ZO.putI (pc := 51) d_X_again_51 zo_1 zp_X_287 rfl ?_
        refine ZO.ltS (fun s7 => ?_)
        refine ZO.aload_n (pc := 54) 2 d_X_again_54 rfl rfl ?_
        refine ZO.getA (pc := 55) ((z_ra 206 a0.toNatClampNeg) + 10) d_X_again_55 (zr_k h3) zf_X_394 rfl rfl ?_
        refine ZO.iconst (pc := 58) (0 : Int32) d_X_again_58 (by decide) ?_
        refine ZO.aload_n (pc := 59) 0 d_X_again_59 rfl rfl ?_
        refine ZO.getA (pc := 60) 210 d_X_again_60 zo_1 zf_X_56 rfl rfl ?_
        refine ZO.iconst (pc := 63) (0 : Int32) d_X_again_63 (by decide) ?_
        refine ZO.bipush (pc := 64) (60 : Int32) d_X_again_64 (by decide) ?_
        refine ZO.acopy (pc := 66) (nn := (60 : Int32)) d_X_again_66 zy_X_395 (zk_l (zr_k h3)) za_210 (by decide) (by decide) rfl ?_
        refine ZO.ltS (fun s8 => ?_)
        refine ZO.iconst (pc := 69) (0 : Int32) d_X_again_69 (by decide) ?_
        refine ZO.istore_n (pc := 70) (v := (0 : Int32)) (L' := [(0, .ref 1), (1, .int a0), (2, .ref (z_ra 206 a0.toNatClampNeg)), (3, .int (0 : Int32))]) [1, 2, 3, 0] d_X_again_70 rfl (by decide) rfl ?_
        refine ZO.sub (L' := [(0, .ref 1), (2, .ref (z_ra 206 a0.toNatClampNeg)), (3, .int (0 : Int32))]) [0, 2, 3] rfl ?_
        refine ZO.loop (fun (x9 : Int32 × ZSt) => ([(0, .ref 1), (2, .ref (z_ra 206 a0.toNatClampNeg)), (3, .int x9.1)] : List (Nat × Value))) (fun (x9 : Int32 × ZSt) => x9.2) [] (fun j10 x9 hj10 => ?_) rfl rfl rfl
        refine ZO.iload_n (pc := 71) 2 d_X_again_71 rfl rfl ?_
        refine ZO.bipush (pc := 72) (12 : Int32) d_X_again_72 (by decide) ?_
        refine ZO.icmp_ge (pc := 74) 114 d_X_again_74 (by decide) rfl (fun h11 => ?_) (fun h11 => ?_)
        · refine ZO.iconst (pc := 114) (0 : Int32) d_X_again_114 (by decide) ?_
          refine ZO.istore_n (pc := 115) (v := (0 : Int32)) (L' := [(0, .ref 1), (2, .ref (z_ra 206 a0.toNatClampNeg)), (3, .int (0 : Int32))]) [1, 2, 0] d_X_again_115 rfl (by decide) rfl ?_
          refine ZO.loop (fun (x12 : Int32 × ZSt) => ([(0, .ref 1), (2, .ref (z_ra 206 a0.toNatClampNeg)), (3, .int x12.1)] : List (Nat × Value))) (fun (x12 : Int32 × ZSt) => x12.2) [] (fun j13 x12 hj13 => ?_) rfl rfl rfl
          refine ZO.iload_n (pc := 116) 2 d_X_again_116 rfl rfl ?_
          refine ZO.aload_n (pc := 117) 0 d_X_again_117 rfl rfl ?_
          refine ZO.getI (pc := 118) d_X_again_118 zo_1 zf_X_229 rfl ?_
          refine ZO.icmp_ge (pc := 121) 217 d_X_again_121 (by decide) rfl (fun h14 => ?_) (fun h14 => ?_)
          · refine ZO.aload_n (pc := 217) 0 d_X_again_217 rfl rfl ?_
            refine ZO.getA (pc := 218) 201 d_X_again_218 zo_1 zf_X_19 rfl rfl ?_
            refine ZO.cVV (pc := 221) (As := []) (rest := []) d_X_again_221 zc_X_112 (by decide) zo_201 rfl rfl rfl (Nat.le_of_ble_eq_true rfl) (ok_T_forget g x12.2) (fun p15 ep15 => ?_)
            refine ZO.iconst (pc := 224) (1 : Int32) d_X_again_224 (by decide) ?_
            exact ZO.zret (pc := 225) (v := true) d_X_again_225 rfl rfl rfl
          · refine ZO.iload_n (pc := 124) 2 d_X_again_124 rfl rfl ?_
            refine ZO.aload_n (pc := 125) 1 d_X_again_125 rfl rfl ?_
            refine ZO.getI (pc := 126) d_X_again_126 (zr_k h3) zf_X_392 rfl ?_
            refine ZO.phi (pcJ := 137) (LJ := fun (x16 : Int32) => ([(0, .ref 1), (2, .ref (z_ra 206 a0.toNatClampNeg)), (3, .int x12.1)] : List (Nat × Value))) (SJ := fun (x16 : Int32) => ([.int x16] : List Value)) (fun x16 => ?_) (fun t hj28 => ?_)
            · refine ZO.istore (pc := 137) (v := x16) (L' := [(0, .ref 1), (2, .ref (z_ra 206 a0.toNatClampNeg)), (3, .int x12.1), (4, .int x16)]) [1, 2, 3, 0] d_X_again_137 (by decide) rfl ?_
              refine ZO.aload_n (pc := 139) 0 d_X_again_139 rfl rfl ?_
              refine ZO.getA (pc := 140) 205 d_X_again_140 zo_1 zf_X_46 rfl rfl ?_
              refine ZO.iload_n (pc := 143) 2 d_X_again_143 rfl rfl ?_
              refine ZO.rgd (fun h17 => ?_)
              refine ZO.aald (pc := 144) (q0 := 1) d_X_again_144 (by decide) za_205 h17 ?_
              refine ZO.iload (pc := 145) 3 d_X_again_145 rfl ?_
              refine ZO.rjn (pcJ := 168) (LJ := fun (x18 : Int32) => ([(0, .ref 1), (2, .ref (z_ra 206 a0.toNatClampNeg)), (3, .int x12.1), (4, .int x16)] : List (Nat × Value))) (SJ := fun (x18 : Int32) => ([.int x18, .ref (z_ra 205 x12.1.toNatClampNeg)] : List Value)) (σJ := fun (x18 : Int32) => x12.2) (fun x18 => ?_) (fun j26 hj26 => ?_)
              · refine ZO.putI (pc := 168) d_X_again_168 (zr_r h17) zp_X_239 rfl ?_
                refine ZO.ltS (fun s19 => ?_)
                refine ZO.aload_n (pc := 171) 0 d_X_again_171 rfl rfl ?_
                refine ZO.getA (pc := 172) 205 d_X_again_172 zo_1 zf_X_46 rfl rfl ?_
                refine ZO.iload_n (pc := 175) 2 d_X_again_175 rfl rfl ?_
                refine ZO.aald (pc := 176) (q0 := 1) d_X_again_176 (by decide) za_205 h17 ?_
                refine ZO.iload (pc := 177) 3 d_X_again_177 rfl ?_
                refine ZO.rjn (pcJ := 192) (LJ := fun (x20 : Int32) => ([(0, .ref 1), (2, .ref (z_ra 206 a0.toNatClampNeg)), (3, .int x12.1)] : List (Nat × Value))) (SJ := fun (x20 : Int32) => ([.int x20, .ref (z_ra 205 x12.1.toNatClampNeg)] : List Value)) (σJ := fun (x20 : Int32) => s19) (fun x20 => ?_) (fun j24 hj24 => ?_)
                · refine ZO.putI (pc := 192) d_X_again_192 (zr_r h17) zp_X_246 rfl ?_
                  refine ZO.ltS (fun s21 => ?_)
                  refine ZO.aload_n (pc := 195) 0 d_X_again_195 rfl rfl ?_
                  refine ZO.getA (pc := 196) 201 d_X_again_196 zo_1 zf_X_19 rfl rfl ?_
                  refine ZO.aload_n (pc := 199) 0 d_X_again_199 rfl rfl ?_
                  refine ZO.getA (pc := 200) 205 d_X_again_200 zo_1 zf_X_46 rfl rfl ?_
                  refine ZO.iload_n (pc := 203) 2 d_X_again_203 rfl rfl ?_
                  refine ZO.aald (pc := 204) (q0 := 1) d_X_again_204 (by decide) za_205 h17 ?_
                  refine ZO.getI (pc := 205) d_X_again_205 (zr_r h17) zf_X_246 rfl ?_
                  refine ZO.cVV (pc := 208) (As := [.int (gi s21 (z_ra 205 x12.1.toNatClampNeg) 3)]) (rest := []) d_X_again_208 zc_X_410 (by decide) zo_201 rfl rfl rfl (Nat.le_of_ble_eq_true rfl) (ok_T_countIn g n (gi s21 (z_ra 205 x12.1.toNatClampNeg) 3) s21) (fun p22 ep22 => ?_)
                  refine ZO.iincL (pc := 211) (i := 2) (x12.1 + (1 : Int32)) (L' := fun v23 => [(0, .ref 1), (2, .ref (z_ra 206 a0.toNatClampNeg)), (3, .int v23)]) [1, 2, 0] d_X_again_211 rfl (by rfl) (by decide) (fun _ => rfl) (fun v23 => ?_)
                  refine ZO.goto (pc := 214) 116 d_X_again_214 (by decide) ?_
                  exact hj13 (v23, p22)
                · refine ZO.if_eq (pc := 179) 186 d_X_again_179 (by decide) rfl (fun h25 => ?_) (fun h25 => ?_)
                  · refine ZO.aload_n (pc := 186) 1 d_X_again_186 rfl rfl ?_
                    refine ZO.getA (pc := 187) ((z_ra 206 a0.toNatClampNeg) + 25) d_X_again_187 (zr_k h3) zf_X_405 rfl rfl ?_
                    refine ZO.iload_n (pc := 190) 2 d_X_again_190 rfl rfl ?_
                    refine ZO.iald (pc := 191) d_X_again_191 (zk_r (zr_k h3)) h17 ?_
                    exact ZO.sub [0, 1, 2] rfl (hj24 (ai s19 ((z_ra 206 a0.toNatClampNeg) + 25) x12.1))
                  · refine ZO.iconst (pc := 182) (0 : Int32) d_X_again_182 (by decide) ?_
                    refine ZO.goto (pc := 183) 192 d_X_again_183 (by decide) ?_
                    exact ZO.sub [0, 1, 2] rfl (hj24 (0 : Int32))
              · refine ZO.if_eq (pc := 147) 162 d_X_again_147 (by decide) rfl (fun h27 => ?_) (fun h27 => ?_)
                · refine ZO.aload_n (pc := 162) 1 d_X_again_162 rfl rfl ?_
                  refine ZO.getA (pc := 163) ((z_ra 206 a0.toNatClampNeg) + 20) d_X_again_163 (zr_k h3) zf_X_403 rfl rfl ?_
                  refine ZO.iload_n (pc := 166) 2 d_X_again_166 rfl rfl ?_
                  refine ZO.iald (pc := 167) d_X_again_167 (zk_t (zr_k h3)) h17 ?_
                  exact hj26 (ai x12.2 ((z_ra 206 a0.toNatClampNeg) + 20) x12.1)
                · refine ZO.aload_n (pc := 150) 0 d_X_again_150 rfl rfl ?_
                  refine ZO.getA (pc := 151) 205 d_X_again_151 zo_1 zf_X_46 rfl rfl ?_
                  refine ZO.iload_n (pc := 154) 2 d_X_again_154 rfl rfl ?_
                  refine ZO.aald (pc := 155) (q0 := 1) d_X_again_155 (by decide) za_205 h17 ?_
                  refine ZO.getI (pc := 156) d_X_again_156 (zr_r h17) zf_X_407 rfl ?_
                  refine ZO.goto (pc := 159) 168 d_X_again_159 (by decide) ?_
                  exact hj26 (gi x12.2 (z_ra 205 x12.1.toNatClampNeg) 0)
            · refine ZO.icmp_lt (pc := 129) 136 d_X_again_129 (by decide) z_ite (fun h29 => ?_) (fun h29 => ?_)
              · refine ZO.iconst (pc := 136) (0 : Int32) d_X_again_136 (by decide) ?_
                exact hj28 (0 : Int32) (by rw [if_pos h29])
              · refine ZO.iconst (pc := 132) (1 : Int32) d_X_again_132 (by decide) ?_
                refine ZO.goto (pc := 133) 137 d_X_again_133 (by decide) ?_
                exact hj28 (1 : Int32) (by rw [if_neg h29])
        · refine ZO.aload_n (pc := 77) 0 d_X_again_77 rfl rfl ?_
          refine ZO.getA (pc := 78) 201 d_X_again_78 zo_1 zf_X_19 rfl rfl ?_
          refine ZO.getA (pc := 81) 240 d_X_again_81 zo_201 zf_X_102 rfl rfl ?_
          refine ZO.iload_n (pc := 84) 2 d_X_again_84 rfl rfl ?_
          refine ZO.rgd (fun h30 => ?_)
          refine ZO.aald (pc := 85) (q0 := 0) d_X_again_85 (by decide) za_240 h30 ?_
          refine ZO.aload_n (pc := 86) 1 d_X_again_86 rfl rfl ?_
          refine ZO.getA (pc := 87) ((z_ra 206 a0.toNatClampNeg) + 15) d_X_again_87 (zr_k h3) zf_X_401 rfl rfl ?_
          refine ZO.iload_n (pc := 90) 2 d_X_again_90 rfl rfl ?_
          refine ZO.iald (pc := 91) d_X_again_91 (zk_o (zr_k h3)) h30 ?_
          refine ZO.putI (pc := 92) d_X_again_92 (zr_b h30) zp_X_166 rfl ?_
          refine ZO.ltS (fun s31 => ?_)
          refine ZO.aload_n (pc := 95) 0 d_X_again_95 rfl rfl ?_
          refine ZO.getA (pc := 96) 201 d_X_again_96 zo_1 zf_X_19 rfl rfl ?_
          refine ZO.getA (pc := 99) 240 d_X_again_99 zo_201 zf_X_102 rfl rfl ?_
          refine ZO.iload_n (pc := 102) 2 d_X_again_102 rfl rfl ?_
          refine ZO.aald (pc := 103) (q0 := 0) d_X_again_103 (by decide) za_240 h30 ?_
          refine ZO.iconst (pc := 104) (0 : Int32) d_X_again_104 (by decide) ?_
          refine ZO.putI (pc := 105) d_X_again_105 (zr_b h30) zp_X_169 rfl ?_
          refine ZO.ltS (fun s32 => ?_)
          refine ZO.iincL (pc := 108) (i := 2) (x9.1 + (1 : Int32)) (L' := fun v33 => [(0, .ref 1), (2, .ref (z_ra 206 a0.toNatClampNeg)), (3, .int v33)]) [1, 2, 0] d_X_again_108 rfl (by rfl) (by decide) (fun _ => rfl) (fun v33 => ?_)
          refine ZO.goto (pc := 111) 71 d_X_again_111 (by decide) ?_
          exact hj10 (v33, s32)
def f_X_count (a0 : Int32) (s : ZSt) : Int32 :=
  (if a0 = (0 : Int32) then
  (gi s 201 2)
else if a0 = (1 : Int32) then
  (gi s 1 7)
else if a0 = (2 : Int32) then
  (gi s 1 9)
else if a0 = (3 : Int32) then
  (f_X_anywhere (gl s 1 8))
else if a0 = (4 : Int32) then
  (f_X_logKept s)
else if a0 = (5 : Int32) then
  (gi s 1 13)
else if a0 = (6 : Int32) then
  (gi s 200 3)
else (-1 : Int32))
set_option maxHeartbeats 4000000 in
set_option maxRecDepth 20000 in
theorem ok_X_count (g : ZG) (a0 : Int32) (s : ZSt) : ZF g 2 y_X_count [.ref 1, .int a0] s (some (f_X_count a0 s)) (fun b => some (.int b)) (fun _ => s) := by
  refine ZF.of (by decide +kernel) (Nat.le_of_ble_eq_true rfl) ?_
  unfold f_X_count
  show ZO g 2 y_X_count zu0 0 [(0, .ref 1), (1, .int a0)] [] s _ _
  refine ZO.iload_n (pc := 0) 1 d_X_count_0 rfl rfl ?_
  refine ZO.split (c0 := a0 = (0 : Int32)) z_some (fun h1 => ?_) (fun h1 => ?_)
  · refine ZO.tswI (pc := 1) 44 (0 : Int32) h1 d_X_count_1 (by decide) (by decide) (by decide) ?_
    refine ZO.aload_n (pc := 44) 0 d_X_count_44 rfl rfl ?_
    refine ZO.getA (pc := 45) 201 d_X_count_45 zo_1 zf_X_19 rfl rfl ?_
    refine ZO.getI (pc := 48) d_X_count_48 zo_201 zf_X_88 rfl ?_
    exact ZO.iret (pc := 51)  d_X_count_51 rfl rfl rfl
  refine ZO.split (c0 := a0 = (1 : Int32)) z_some (fun h2 => ?_) (fun h2 => ?_)
  · refine ZO.tswI (pc := 1) 52 (1 : Int32) h2 d_X_count_1 (by decide) (by decide) (by decide) ?_
    refine ZO.aload_n (pc := 52) 0 d_X_count_52 rfl rfl ?_
    refine ZO.getI (pc := 53) d_X_count_53 zo_1 zf_X_229 rfl ?_
    exact ZO.iret (pc := 56)  d_X_count_56 rfl rfl rfl
  refine ZO.split (c0 := a0 = (2 : Int32)) z_some (fun h3 => ?_) (fun h3 => ?_)
  · refine ZO.tswI (pc := 1) 57 (2 : Int32) h3 d_X_count_1 (by decide) (by decide) (by decide) ?_
    refine ZO.aload_n (pc := 57) 0 d_X_count_57 rfl rfl ?_
    refine ZO.getI (pc := 58) d_X_count_58 zo_1 zf_X_265 rfl ?_
    exact ZO.iret (pc := 61)  d_X_count_61 rfl rfl rfl
  refine ZO.split (c0 := a0 = (3 : Int32)) z_some (fun h4 => ?_) (fun h4 => ?_)
  · refine ZO.tswI (pc := 1) 62 (3 : Int32) h4 d_X_count_1 (by decide) (by decide) (by decide) ?_
    refine ZO.aload_n (pc := 62) 0 d_X_count_62 rfl rfl ?_
    refine ZO.getJ (pc := 63) d_X_count_63 zo_1 zf_X_115 rfl ?_
    refine ZO.tSI (pc := 66) (As := [.long (gl s 1 8)]) (rest := []) d_X_count_66 zc_X_202 (by decide) rfl rfl (Nat.le_of_ble_eq_true rfl) (ok_X_anywhere g (gl s 1 8) s) ?_
    exact ZO.iret (pc := 69)  d_X_count_69 rfl rfl rfl
  refine ZO.split (c0 := a0 = (4 : Int32)) z_some (fun h5 => ?_) (fun h5 => ?_)
  · refine ZO.tswI (pc := 1) 70 (4 : Int32) h5 d_X_count_1 (by decide) (by decide) (by decide) ?_
    refine ZO.aload_n (pc := 70) 0 d_X_count_70 rfl rfl ?_
    refine ZO.tVI (pc := 71) (As := []) (rest := []) d_X_count_71 zc_X_290 (by decide) zo_1 rfl rfl rfl (Nat.le_of_ble_eq_true rfl) (ok_X_logKept g s) ?_
    exact ZO.iret (pc := 74)  d_X_count_74 rfl rfl rfl
  refine ZO.split (c0 := a0 = (5 : Int32)) z_some (fun h6 => ?_) (fun h6 => ?_)
  · refine ZO.tswI (pc := 1) 75 (5 : Int32) h6 d_X_count_1 (by decide) (by decide) (by decide) ?_
    refine ZO.aload_n (pc := 75) 0 d_X_count_75 rfl rfl ?_
    refine ZO.getI (pc := 76) d_X_count_76 zo_1 zf_X_209 rfl ?_
    exact ZO.iret (pc := 79)  d_X_count_79 rfl rfl rfl
  refine ZO.split (c0 := a0 = (6 : Int32)) z_some (fun h7 => ?_) (fun h7 => ?_)
  · refine ZO.tswI (pc := 1) 80 (6 : Int32) h7 d_X_count_1 (by decide) (by decide) (by decide) ?_
    refine ZO.aload_n (pc := 80) 0 d_X_count_80 rfl rfl ?_
    refine ZO.getA (pc := 81) 200 d_X_count_81 zo_1 zf_X_12 rfl rfl ?_
    refine ZO.getI (pc := 84) d_X_count_84 zo_200 zf_X_127 rfl ?_
    exact ZO.iret (pc := 87)  d_X_count_87 rfl rfl rfl
  refine ZO.tswO (pc := 1) 88 d_X_count_1 (by have q0 := lv_neT h1 (show (0 : Int32).toInt = 0 by decide); have q1 := lv_neT h2 (show (1 : Int32).toInt = 1 by decide); have q2 := lv_neT h3 (show (2 : Int32).toInt = 2 by decide); have q3 := lv_neT h4 (show (3 : Int32).toInt = 3 by decide); have q4 := lv_neT h5 (show (4 : Int32).toInt = 4 by decide); have q5 := lv_neT h6 (show (5 : Int32).toInt = 5 by decide); have q6 := lv_neT h7 (show (6 : Int32).toInt = 6 by decide); omega) (by decide) ?_
  refine ZO.iconst (pc := 88) (-1 : Int32) d_X_count_88 (by decide) ?_
  exact ZO.iret (pc := 89)  d_X_count_89 rfl rfl rfl
def f_X_row (a0 : Int32) (s : ZSt) : Option (Option Int32 × Nat × ZSt) :=
  (jn (fun (x1 : Unit) =>
    some (none, 12, s)) (fun j2 =>
    if a0 < 0 then
  j2 ()
else (if a0 < (gi s 1 13) then
    gd (inb a0 12) (
      some (some (ai s 212 a0), 0, s))
  else j2 ())))
set_option maxHeartbeats 4000000 in
set_option maxRecDepth 20000 in
theorem ok_X_row (g : ZG) (a0 : Int32) (s : ZSt) (u : ZU) : ZO g 8 y_X_row u 0 (lv_args 0 [.ref 1, .int a0]) [] s (f_X_row a0 s) (fun b => (b.1.map (fun v => some (.int v)), b.2.2, b.2.1)) := by
  unfold f_X_row
  show ZO g 8 y_X_row u 0 [(0, .ref 1), (1, .int a0)] [] s _ _
  refine ZO.iload_n (pc := 0) 1 d_X_row_0 rfl rfl ?_
  refine ZO.rjn (pcJ := 12) (LJ := fun (x1 : Unit) => ([] : List (Nat × Value))) (SJ := fun (x1 : Unit) => ([] : List Value)) (σJ := fun (x1 : Unit) => s) (fun x1 => ?_) (fun j2 hj2 => ?_)
  · exact ZO.thr (pc := 12) rfl rfl
  · refine ZO.if_lt (pc := 1) 12 d_X_row_1 (by decide) rfl (fun h3 => ?_) (fun h3 => ?_)
    · exact ZO.sub [] rfl (hj2 ())
    · refine ZO.iload_n (pc := 4) 1 d_X_row_4 rfl rfl ?_
      refine ZO.aload_n (pc := 5) 0 d_X_row_5 rfl rfl ?_
      refine ZO.getI (pc := 6) d_X_row_6 zo_1 zf_X_209 rfl ?_
      refine ZO.icmp_lt (pc := 9) 23 d_X_row_9 (by decide) rfl (fun h4 => ?_) (fun h4 => ?_)
      · refine ZO.aload_n (pc := 23) 0 d_X_row_23 rfl rfl ?_
        refine ZO.getA (pc := 24) 212 d_X_row_24 zo_1 zf_X_60 rfl rfl ?_
        refine ZO.iload_n (pc := 27) 1 d_X_row_27 rfl rfl ?_
        refine ZO.rgd (fun h5 => ?_)
        refine ZO.iald (pc := 28) d_X_row_28 za_212 h5 ?_
        exact ZO.iret (pc := 29)  d_X_row_29 rfl rfl rfl
      · exact ZO.sub [] rfl (hj2 ())
