def f_M_rings (F_M_rings : Int32 → Int32 → Int32 → ZSt → Option (Bool × ZSt)) (n : Nat) (a0 : Int32) (a1 : Int32) (a2 : Int32) (s : ZSt) : Option (Bool × ZSt) :=
  gd (inb (a0 - (1 : Int32)) 12) (
  lt (ai s 131 (a0 - (1 : Int32))) (fun v2 =>
  (if a0 = a1 then
  gd (inb v2 12) (
    some ((f_M_has (ai s 130 v2) (ai s 131 (0 : Int32))), s))
else lt ((ai s 131 (0 : Int32)) + (1 : Int32)) (fun v5 =>
    lpN (fun j7 (x6 : Int32 × ZSt) =>
    (if (12 : Int32) ≤ x6.1 then
      some (false, x6.2)
    else gd (inb v2 12) (
        (jn (fun (x10 : ZSt) =>
          lt (x6.1 + (1 : Int32)) (fun v11 =>
            j7 (v11, x10))) (fun j12 =>
          if (f_M_has (ai x6.2 130 v2) x6.1) = true then
        (if (f_M_has a2 x6.1) = true then
          j12 x6.2
        else gd (inb a0 12) (
            lt (sai x6.2 131 a0 x6.1) (fun s16 =>
            bn (F_M_rings (a0 + (1 : Int32)) a1 (a2 ||| (shI (1 : Int32) x6.1)) s16) (fun p17 =>
            (if p17.1 = true then
            some (true, p17.2)
          else j12 p17.2)))))
      else j12 x6.2))))) n (v5, s)))))
set_option maxHeartbeats 4000000 in
set_option maxRecDepth 20000 in
theorem ok_M_rings (g : ZG) (dd : Nat) (hdd : 0 ≤ dd) (F_M_rings : Int32 → Int32 → Int32 → ZSt → Option (Bool × ZSt)) (dd_M_rings : Nat) (hdd_M_rings : dd_M_rings ≤ dd) (H_M_rings : ∀ (a0 : Int32) (a1 : Int32) (a2 : Int32) (s : ZSt), ZF g dd_M_rings y_M_rings [.ref 0, .int a0, .int a1, .int a2] s (F_M_rings a0 a1 a2 s) (fun b => some (.int (b2i b.1))) (fun b => b.2)) (n : Nat) (a0 : Int32) (a1 : Int32) (a2 : Int32) (s : ZSt) : ZF g (dd + 1) y_M_rings [.ref 0, .int a0, .int a1, .int a2] s (f_M_rings F_M_rings n a0 a1 a2 s) (fun b => some (.int (b2i b.1))) (fun b => b.2) := by
  refine ZF.of (by decide +kernel) (Nat.le_of_ble_eq_true rfl) ?_
  unfold f_M_rings
  show ZO g (dd + 1) y_M_rings zu0 0 [(0, .ref 0), (1, .int a0), (2, .int a1), (3, .int a2)] [] s _ _
  refine ZO.aload_n (pc := 0) 0 d_M_rings_0 rfl rfl ?_
  refine ZO.getA (pc := 1) 131 d_M_rings_1 zo_0 zf_M_316 rfl rfl ?_
  refine ZO.iload_n (pc := 4) 1 d_M_rings_4 rfl rfl ?_
  refine ZO.iconst (pc := 5) (1 : Int32) d_M_rings_5 (by decide) ?_
  refine ZO.isub (pc := 6) d_M_rings_6 ?_
  refine ZO.rgd (fun h1 => ?_)
  refine ZO.iald (pc := 7) d_M_rings_7 za_131 h1 ?_
  refine ZO.ltI (fun v2 => ?_)
  refine ZO.istore (pc := 8) (v := v2) (L' := [(0, .ref 0), (1, .int a0), (2, .int a1), (3, .int a2), (4, .int v2)]) [1, 2, 3, 4, 0] d_M_rings_8 (by decide) rfl ?_
  refine ZO.iload_n (pc := 10) 1 d_M_rings_10 rfl rfl ?_
  refine ZO.iload_n (pc := 11) 2 d_M_rings_11 rfl rfl ?_
  refine ZO.icmp_ne (pc := 12) 32 d_M_rings_12 (by decide) rfl (fun h3 => ?_) (fun h3 => ?_)
  · refine ZO.aload_n (pc := 15) 0 d_M_rings_15 rfl rfl ?_
    refine ZO.getA (pc := 16) 130 d_M_rings_16 zo_0 zf_M_319 rfl rfl ?_
    refine ZO.iload (pc := 19) 4 d_M_rings_19 rfl ?_
    refine ZO.rgd (fun h4 => ?_)
    refine ZO.iald (pc := 21) d_M_rings_21 za_130 h4 ?_
    refine ZO.aload_n (pc := 22) 0 d_M_rings_22 rfl rfl ?_
    refine ZO.getA (pc := 23) 131 d_M_rings_23 zo_0 zf_M_316 rfl rfl ?_
    refine ZO.iconst (pc := 26) (0 : Int32) d_M_rings_26 (by decide) ?_
    refine ZO.iald (pc := 27) d_M_rings_27 za_131 (by decide) ?_
    refine ZO.tSB (pc := 28) (As := [.int (ai s 130 v2), .int (ai s 131 (0 : Int32))]) (rest := []) d_M_rings_28 zc_M_29 (by omega) rfl rfl (Nat.le_of_ble_eq_true rfl) (ok_M_has g (ai s 130 v2) (ai s 131 (0 : Int32)) s) ?_
    exact ZO.zret (pc := 31) (v := (f_M_has (ai s 130 v2) (ai s 131 (0 : Int32)))) d_M_rings_31 rfl rfl rfl
  · refine ZO.aload_n (pc := 32) 0 d_M_rings_32 rfl rfl ?_
    refine ZO.getA (pc := 33) 131 d_M_rings_33 zo_0 zf_M_316 rfl rfl ?_
    refine ZO.iconst (pc := 36) (0 : Int32) d_M_rings_36 (by decide) ?_
    refine ZO.iald (pc := 37) d_M_rings_37 za_131 (by decide) ?_
    refine ZO.iconst (pc := 38) (1 : Int32) d_M_rings_38 (by decide) ?_
    refine ZO.iadd (pc := 39) d_M_rings_39 ?_
    refine ZO.ltI (fun v5 => ?_)
    refine ZO.istore (pc := 40) (v := v5) (L' := [(0, .ref 0), (1, .int a0), (2, .int a1), (3, .int a2), (4, .int v2), (5, .int v5)]) [1, 2, 3, 4, 5, 0] d_M_rings_40 (by decide) rfl ?_
    refine ZO.loop (fun (x6 : Int32 × ZSt) => ([(0, .ref 0), (1, .int a0), (2, .int a1), (3, .int a2), (4, .int v2), (5, .int x6.1)] : List (Nat × Value))) (fun (x6 : Int32 × ZSt) => x6.2) [] (fun j7 x6 hj7 => ?_) rfl rfl rfl
    refine ZO.iload (pc := 42) 5 d_M_rings_42 rfl ?_
    refine ZO.bipush (pc := 44) (12 : Int32) d_M_rings_44 (by decide) ?_
    refine ZO.icmp_ge (pc := 46) 106 d_M_rings_46 (by decide) rfl (fun h8 => ?_) (fun h8 => ?_)
    · refine ZO.iconst (pc := 106) (0 : Int32) d_M_rings_106 (by decide) ?_
      exact ZO.zret (pc := 107) (v := false) d_M_rings_107 rfl rfl rfl
    · refine ZO.aload_n (pc := 49) 0 d_M_rings_49 rfl rfl ?_
      refine ZO.getA (pc := 50) 130 d_M_rings_50 zo_0 zf_M_319 rfl rfl ?_
      refine ZO.iload (pc := 53) 4 d_M_rings_53 rfl ?_
      refine ZO.rgd (fun h9 => ?_)
      refine ZO.iald (pc := 55) d_M_rings_55 za_130 h9 ?_
      refine ZO.iload (pc := 56) 5 d_M_rings_56 rfl ?_
      refine ZO.tSB (pc := 58) (As := [.int (ai x6.2 130 v2), .int x6.1]) (rest := []) d_M_rings_58 zc_M_29 (by omega) rfl rfl (Nat.le_of_ble_eq_true rfl) (ok_M_has g (ai x6.2 130 v2) x6.1 x6.2) ?_
      refine ZO.rjn (pcJ := 100) (LJ := fun (x10 : ZSt) => ([(0, .ref 0), (1, .int a0), (2, .int a1), (3, .int a2), (4, .int v2), (5, .int x6.1)] : List (Nat × Value))) (SJ := fun (x10 : ZSt) => ([] : List Value)) (σJ := fun (x10 : ZSt) => x10) (fun x10 => ?_) (fun j12 hj12 => ?_)
      · refine ZO.iincL (pc := 100) (i := 5) (x6.1 + (1 : Int32)) (L' := fun v11 => [(0, .ref 0), (1, .int a0), (2, .int a1), (3, .int a2), (4, .int v2), (5, .int v11)]) [1, 2, 3, 4, 5, 0] d_M_rings_100 rfl (by rfl) (by decide) (fun _ => rfl) (fun v11 => ?_)
        refine ZO.goto (pc := 103) 42 d_M_rings_103 (by decide) ?_
        exact hj7 (v11, x10)
      · refine ZO.ifb_eq (pc := 61) 100 d_M_rings_61 (by decide) rfl (fun h13 => ?_) (fun h13 => ?_)
        · refine ZO.iload_n (pc := 64) 3 d_M_rings_64 rfl rfl ?_
          refine ZO.iload (pc := 65) 5 d_M_rings_65 rfl ?_
          refine ZO.tSB (pc := 67) (As := [.int a2, .int x6.1]) (rest := []) d_M_rings_67 zc_M_29 (by omega) rfl rfl (Nat.le_of_ble_eq_true rfl) (ok_M_has g a2 x6.1 x6.2) ?_
          refine ZO.ifb_ne (pc := 70) 100 d_M_rings_70 (by decide) rfl (fun h14 => ?_) (fun h14 => ?_)
          · exact hj12 x6.2
          · refine ZO.aload_n (pc := 73) 0 d_M_rings_73 rfl rfl ?_
            refine ZO.getA (pc := 74) 131 d_M_rings_74 zo_0 zf_M_316 rfl rfl ?_
            refine ZO.iload_n (pc := 77) 1 d_M_rings_77 rfl rfl ?_
            refine ZO.iload (pc := 78) 5 d_M_rings_78 rfl ?_
            refine ZO.rgd (fun h15 => ?_)
            refine ZO.iast (pc := 80) d_M_rings_80 za_131 h15 ?_
            refine ZO.ltS (fun s16 => ?_)
            refine ZO.aload_n (pc := 81) 0 d_M_rings_81 rfl rfl ?_
            refine ZO.iload_n (pc := 82) 1 d_M_rings_82 rfl rfl ?_
            refine ZO.iconst (pc := 83) (1 : Int32) d_M_rings_83 (by decide) ?_
            refine ZO.iadd (pc := 84) d_M_rings_84 ?_
            refine ZO.iload_n (pc := 85) 2 d_M_rings_85 rfl rfl ?_
            refine ZO.iload_n (pc := 86) 3 d_M_rings_86 rfl rfl ?_
            refine ZO.iconst (pc := 87) (1 : Int32) d_M_rings_87 (by decide) ?_
            refine ZO.iload (pc := 88) 5 d_M_rings_88 rfl ?_
            refine ZO.ishl (pc := 90) d_M_rings_90 ?_
            refine ZO.ior (pc := 91) d_M_rings_91 ?_
            refine ZO.cVB (pc := 92) (As := [.int (a0 + (1 : Int32)), .int a1, .int (a2 ||| (shI (1 : Int32) x6.1))]) (rest := []) d_M_rings_92 zc_M_322 (by omega) zo_0 rfl rfl rfl (Nat.le_of_ble_eq_true rfl) (H_M_rings (a0 + (1 : Int32)) a1 (a2 ||| (shI (1 : Int32) x6.1)) s16) (fun p17 ep17 => ?_)
            refine ZO.ifb_eq (pc := 95) 100 d_M_rings_95 (by decide) rfl (fun h18 => ?_) (fun h18 => ?_)
            · refine ZO.iconst (pc := 98) (1 : Int32) d_M_rings_98 (by decide) ?_
              exact ZO.zret (pc := 99) (v := true) d_M_rings_99 rfl rfl rfl
            · exact hj12 p17.2
        · exact hj12 x6.2
def f_M_tellsRing (F_M_rings : Int32 → Int32 → Int32 → ZSt → Option (Bool × ZSt)) (n : Nat) (a0 : Int32) (a1 : Int32) (s : ZSt) : Option (Int32 × ZSt) :=
  lpN (fun j2 (x1 : Int32 × ZSt) =>
  (if a1 < x1.1 then
    some ((0 : Int32), x1.2)
  else lpN (fun j5 (x4 : Int32 × ZSt) =>
      (if a1 ≤ x4.1 then
        lt (x1.1 + (1 : Int32)) (fun v7 =>
          j2 (v7, x4.2))
      else lt (sai x4.2 131 (0 : Int32) x4.1) (fun s8 =>
          bn (F_M_rings (1 : Int32) x1.1 (shI (1 : Int32) x4.1) s8) (fun p9 =>
          (if p9.1 = true then
          lt (si p9.2 0 1 (0 : Int32)) (fun s11 =>
            lpN (fun j13 (x12 : Int32 × ZSt) =>
            (if x1.1 ≤ x12.1 then
              some (x1.1, x12.2)
            else gd (inb x12.1 12) (
                bn (f_M_enters (ai x12.2 131 x12.1) x12.2) (fun p16 =>
                lt (x12.1 + (1 : Int32)) (fun v17 =>
                j13 (v17, p16)))))) n ((0 : Int32), s11))
        else lt (x4.1 + (1 : Int32)) (fun v18 =>
            j5 (v18, p9.2))))))) n ((0 : Int32), x1.2))) n (a0, s)
set_option maxHeartbeats 4000000 in
set_option maxRecDepth 20000 in
theorem ok_M_tellsRing (g : ZG) (dd : Nat) (hdd : 0 ≤ dd) (F_M_rings : Int32 → Int32 → Int32 → ZSt → Option (Bool × ZSt)) (dd_M_rings : Nat) (hdd_M_rings : dd_M_rings ≤ dd) (H_M_rings : ∀ (a0 : Int32) (a1 : Int32) (a2 : Int32) (s : ZSt), ZF g dd_M_rings y_M_rings [.ref 0, .int a0, .int a1, .int a2] s (F_M_rings a0 a1 a2 s) (fun b => some (.int (b2i b.1))) (fun b => b.2)) (n : Nat) (a0 : Int32) (a1 : Int32) (s : ZSt) : ZF g (dd + 1) y_M_tellsRing [.ref 0, .int a0, .int a1] s (f_M_tellsRing F_M_rings n a0 a1 s) (fun b => some (.int b.1)) (fun b => b.2) := by
  refine ZF.of (by decide +kernel) (Nat.le_of_ble_eq_true rfl) ?_
  unfold f_M_tellsRing
  show ZO g (dd + 1) y_M_tellsRing zu0 0 [(0, .ref 0), (1, .int a0), (2, .int a1)] [] s _ _
  refine ZO.iload_n (pc := 0) 1 d_M_tellsRing_0 rfl rfl ?_
  refine ZO.istore_n (pc := 1) (v := a0) (L' := [(0, .ref 0), (1, .int a0), (2, .int a1), (3, .int a0)]) [1, 2, 3, 0] d_M_tellsRing_1 rfl (by decide) rfl ?_
  refine ZO.sub (L' := [(0, .ref 0), (2, .int a1), (3, .int a0)]) [0, 2, 3] rfl ?_
  refine ZO.loop (fun (x1 : Int32 × ZSt) => ([(0, .ref 0), (2, .int a1), (3, .int x1.1)] : List (Nat × Value))) (fun (x1 : Int32 × ZSt) => x1.2) [] (fun j2 x1 hj2 => ?_) rfl rfl rfl
  refine ZO.iload_n (pc := 2) 2 d_M_tellsRing_2 rfl rfl ?_
  refine ZO.iload_n (pc := 3) 1 d_M_tellsRing_3 rfl rfl ?_
  refine ZO.icmp_gt (pc := 4) 82 d_M_tellsRing_4 (by decide) rfl (fun h3 => ?_) (fun h3 => ?_)
  · refine ZO.iconst (pc := 82) (0 : Int32) d_M_tellsRing_82 (by decide) ?_
    exact ZO.iret (pc := 83)  d_M_tellsRing_83 rfl rfl rfl
  · refine ZO.iconst (pc := 7) (0 : Int32) d_M_tellsRing_7 (by decide) ?_
    refine ZO.istore (pc := 8) (v := (0 : Int32)) (L' := [(0, .ref 0), (2, .int a1), (3, .int x1.1), (4, .int (0 : Int32))]) [1, 2, 3, 0] d_M_tellsRing_8 (by decide) rfl ?_
    refine ZO.loop (fun (x4 : Int32 × ZSt) => ([(0, .ref 0), (2, .int a1), (3, .int x1.1), (4, .int x4.1)] : List (Nat × Value))) (fun (x4 : Int32 × ZSt) => x4.2) [] (fun j5 x4 hj5 => ?_) rfl rfl rfl
    refine ZO.iload (pc := 10) 3 d_M_tellsRing_10 rfl ?_
    refine ZO.iload_n (pc := 12) 1 d_M_tellsRing_12 rfl rfl ?_
    refine ZO.icmp_ge (pc := 13) 76 d_M_tellsRing_13 (by decide) rfl (fun h6 => ?_) (fun h6 => ?_)
    · refine ZO.iincL (pc := 76) (i := 2) (x1.1 + (1 : Int32)) (L' := fun v7 => [(0, .ref 0), (2, .int a1), (3, .int v7), (4, .int x4.1)]) [1, 2, 0, 3] d_M_tellsRing_76 rfl (by rfl) (by decide) (fun _ => rfl) (fun v7 => ?_)
      refine ZO.goto (pc := 79) 2 d_M_tellsRing_79 (by decide) ?_
      exact ZO.sub [0, 1, 2] rfl (hj2 (v7, x4.2))
    · refine ZO.aload_n (pc := 16) 0 d_M_tellsRing_16 rfl rfl ?_
      refine ZO.getA (pc := 17) 131 d_M_tellsRing_17 zo_0 zf_M_316 rfl rfl ?_
      refine ZO.iconst (pc := 20) (0 : Int32) d_M_tellsRing_20 (by decide) ?_
      refine ZO.iload (pc := 21) 3 d_M_tellsRing_21 rfl ?_
      refine ZO.iast (pc := 23) d_M_tellsRing_23 za_131 (by decide) ?_
      refine ZO.ltS (fun s8 => ?_)
      refine ZO.aload_n (pc := 24) 0 d_M_tellsRing_24 rfl rfl ?_
      refine ZO.iconst (pc := 25) (1 : Int32) d_M_tellsRing_25 (by decide) ?_
      refine ZO.iload_n (pc := 26) 2 d_M_tellsRing_26 rfl rfl ?_
      refine ZO.iconst (pc := 27) (1 : Int32) d_M_tellsRing_27 (by decide) ?_
      refine ZO.iload (pc := 28) 3 d_M_tellsRing_28 rfl ?_
      refine ZO.ishl (pc := 30) d_M_tellsRing_30 ?_
      refine ZO.cVB (pc := 31) (As := [.int (1 : Int32), .int x1.1, .int (shI (1 : Int32) x4.1)]) (rest := []) d_M_tellsRing_31 zc_M_322 (by omega) zo_0 rfl rfl rfl (Nat.le_of_ble_eq_true rfl) (H_M_rings (1 : Int32) x1.1 (shI (1 : Int32) x4.1) s8) (fun p9 ep9 => ?_)
      refine ZO.ifb_eq (pc := 34) 70 d_M_tellsRing_34 (by decide) rfl (fun h10 => ?_) (fun h10 => ?_)
      · refine ZO.aload_n (pc := 37) 0 d_M_tellsRing_37 rfl rfl ?_
        refine ZO.iconst (pc := 38) (0 : Int32) d_M_tellsRing_38 (by decide) ?_
        refine ZO.putI (pc := 39) d_M_tellsRing_39 zo_0 zp_M_11 rfl ?_
        refine ZO.ltS (fun s11 => ?_)
        refine ZO.iconst (pc := 42) (0 : Int32) d_M_tellsRing_42 (by decide) ?_
        refine ZO.istore (pc := 43) (v := (0 : Int32)) (L' := [(0, .ref 0), (2, .int a1), (3, .int x1.1), (4, .int x4.1), (5, .int (0 : Int32))]) [1, 2, 3, 4, 0] d_M_tellsRing_43 (by decide) rfl ?_
        refine ZO.sub (L' := [(0, .ref 0), (3, .int x1.1), (5, .int (0 : Int32))]) [0, 2, 4] rfl ?_
        refine ZO.loop (fun (x12 : Int32 × ZSt) => ([(0, .ref 0), (3, .int x1.1), (5, .int x12.1)] : List (Nat × Value))) (fun (x12 : Int32 × ZSt) => x12.2) [] (fun j13 x12 hj13 => ?_) rfl rfl rfl
        refine ZO.iload (pc := 45) 2 d_M_tellsRing_45 rfl ?_
        refine ZO.iload_n (pc := 47) 1 d_M_tellsRing_47 rfl rfl ?_
        refine ZO.icmp_ge (pc := 48) 68 d_M_tellsRing_48 (by decide) rfl (fun h14 => ?_) (fun h14 => ?_)
        · refine ZO.iload_n (pc := 68) 1 d_M_tellsRing_68 rfl rfl ?_
          exact ZO.iret (pc := 69)  d_M_tellsRing_69 rfl rfl rfl
        · refine ZO.aload_n (pc := 51) 0 d_M_tellsRing_51 rfl rfl ?_
          refine ZO.aload_n (pc := 52) 0 d_M_tellsRing_52 rfl rfl ?_
          refine ZO.getA (pc := 53) 131 d_M_tellsRing_53 zo_0 zf_M_316 rfl rfl ?_
          refine ZO.iload (pc := 56) 2 d_M_tellsRing_56 rfl ?_
          refine ZO.rgd (fun h15 => ?_)
          refine ZO.iald (pc := 58) d_M_tellsRing_58 za_131 h15 ?_
          refine ZO.cVV (pc := 59) (As := [.int (ai x12.2 131 x12.1)]) (rest := []) d_M_tellsRing_59 zc_M_236 (by omega) zo_0 rfl rfl rfl (Nat.le_of_ble_eq_true rfl) (ok_M_enters g (ai x12.2 131 x12.1) x12.2) (fun p16 ep16 => ?_)
          refine ZO.iincL (pc := 62) (i := 2) (x12.1 + (1 : Int32)) (L' := fun v17 => [(0, .ref 0), (3, .int x1.1), (5, .int v17)]) [1, 2, 0] d_M_tellsRing_62 rfl (by rfl) (by decide) (fun _ => rfl) (fun v17 => ?_)
          refine ZO.goto (pc := 65) 45 d_M_tellsRing_65 (by decide) ?_
          exact hj13 (v17, p16)
      · refine ZO.iincL (pc := 70) (i := 3) (x4.1 + (1 : Int32)) (L' := fun v18 => [(0, .ref 0), (2, .int a1), (3, .int x1.1), (4, .int v18)]) [1, 2, 3, 0] d_M_tellsRing_70 rfl (by rfl) (by decide) (fun _ => rfl) (fun v18 => ?_)
        refine ZO.goto (pc := 73) 10 d_M_tellsRing_73 (by decide) ?_
        exact hj5 (v18, p9.2)
def fx_M_rings (n : Nat) : Nat → Int32 → Int32 → Int32 → ZSt → Option (Bool × ZSt)
  | 0 => fun _ _ _ _ => none
  | q + 1 => fun a b c s => f_M_rings (fx_M_rings n q) n a b c s
theorem okx_M_rings (g : ZG) (n : Nat) : ∀ (q : Nat) (a0 a1 a2 : Int32) (s : ZSt), ZF g (q + 1) y_M_rings [.ref 0, .int a0, .int a1, .int a2] s (fx_M_rings n q a0 a1 a2 s) (fun b => some (.int (b2i b.1))) (fun b => b.2) := by
  intro q
  induction q with
  | zero => intro a b c s x hx; cases hx
  | succ q ih => exact fun a0 a1 a2 s => ok_M_rings g (q + 1) (by omega) (fx_M_rings n q) (q + 1) (Nat.le_refl _) ih n a0 a1 a2 s
def fc_M_tellsRing (n : Nat) (a0 a1 : Int32) (s : ZSt) : Option (Int32 × ZSt) := f_M_tellsRing (fx_M_rings n 18) n a0 a1 s
theorem okc_M_tellsRing (g : ZG) (n : Nat) (a0 a1 : Int32) (s : ZSt) : ZF g 20 y_M_tellsRing [.ref 0, .int a0, .int a1] s (fc_M_tellsRing n a0 a1 s) (fun b => some (.int b.1)) (fun b => b.2) :=
  ok_M_tellsRing g 19 (by omega) (fx_M_rings n 18) 19 (Nat.le_refl _) (okx_M_rings g n 18) n a0 a1 s
def f_M_ring (n : Nat) (s : ZSt) : Option (Int32 × ZSt) :=
  lt (si s 0 0 (0 : Int32)) (fun s1 =>
  lpN (fun j3 (x2 : Int32 × ZSt) =>
  (if (gi x2.2 0 9) ≤ x2.1 then
    bn (fc_M_tellsRing n (2 : Int32) (gi x2.2 0 9) x2.2) (fun p5 =>
      some (p5.1, p5.2))
  else gd (inb x2.1 12) (
      lt (sai x2.2 130 x2.1 (0 : Int32)) (fun s7 =>
      lpN (fun j9 (x8 : Int32 × ZSt) =>
      (if (gi x8.2 0 9) ≤ x8.1 then
        lt (x2.1 + (1 : Int32)) (fun v11 =>
          j3 (v11, x8.2))
      else gd (inb x8.1 6) (
          gd (inb x2.1 6) (
          (jn (fun (x14 : Int32) =>
            lt (sai x8.2 130 x2.1 ((ai x8.2 130 x2.1) ||| x14)) (fun s15 =>
              lt (x8.1 + (1 : Int32)) (fun v16 =>
              j9 (v16, s15)))) (fun j17 =>
            jn (fun (x18 : Unit) =>
            j17 (0 : Int32)) (fun j19 =>
            if (ai x8.2 110 x8.1) = (ai x8.2 110 x2.1) then
          j19 ()
        else bn (f_M_leftOf x2.1 x8.2) (fun p21 =>
            gd (inb (ai x8.2 110 x8.1) 3) (
            (if (p21 &&& (ai x8.2 108 (ai x8.2 110 x8.1))) = 0 then
            j19 ()
          else j17 (shI (1 : Int32) x8.1))))))))))) n ((0 : Int32), s7))))) n ((0 : Int32), s1))
set_option maxHeartbeats 4000000 in
set_option maxRecDepth 20000 in
theorem ok_M_ring (g : ZG) (n : Nat) (s : ZSt) : ZF g 21 y_M_ring [.ref 0] s (f_M_ring n s) (fun b => some (.int b.1)) (fun b => b.2) := by
  refine ZF.of (by decide +kernel) (Nat.le_of_ble_eq_true rfl) ?_
  unfold f_M_ring
  show ZO g 21 y_M_ring zu0 0 [(0, .ref 0)] [] s _ _
  refine ZO.aload_n (pc := 0) 0 d_M_ring_0 rfl rfl ?_
  refine ZO.iconst (pc := 1) (0 : Int32) d_M_ring_1 (by decide) ?_
  refine ZO.putI (pc := 2) d_M_ring_2 zo_0 zp_M_3 rfl ?_
  refine ZO.ltS (fun s1 => ?_)
  refine ZO.iconst (pc := 5) (0 : Int32) d_M_ring_5 (by decide) ?_
  refine ZO.istore_n (pc := 6) (v := (0 : Int32)) (L' := [(0, .ref 0), (1, .int (0 : Int32))]) [1, 0] d_M_ring_6 rfl (by decide) rfl ?_
  refine ZO.loop (fun (x2 : Int32 × ZSt) => ([(0, .ref 0), (1, .int x2.1)] : List (Nat × Value))) (fun (x2 : Int32 × ZSt) => x2.2) [] (fun j3 x2 hj3 => ?_) rfl rfl rfl
  refine ZO.iload_n (pc := 7) 1 d_M_ring_7 rfl rfl ?_
  refine ZO.aload_n (pc := 8) 0 d_M_ring_8 rfl rfl ?_
  refine ZO.getI (pc := 9) d_M_ring_9 zo_0 zf_M_23 rfl ?_
  refine ZO.icmp_ge (pc := 12) 95 d_M_ring_12 (by decide) rfl (fun h4 => ?_) (fun h4 => ?_)
  · refine ZO.aload_n (pc := 95) 0 d_M_ring_95 rfl rfl ?_
    refine ZO.iconst (pc := 96) (2 : Int32) d_M_ring_96 (by decide) ?_
    refine ZO.aload_n (pc := 97) 0 d_M_ring_97 rfl rfl ?_
    refine ZO.getI (pc := 98) d_M_ring_98 zo_0 zf_M_23 rfl ?_
    refine ZO.cVI (pc := 101) (As := [.int (2 : Int32), .int (gi x2.2 0 9)]) (rest := []) d_M_ring_101 zc_M_325 (by decide) zo_0 rfl rfl rfl (Nat.le_of_ble_eq_true rfl) (okc_M_tellsRing g n (2 : Int32) (gi x2.2 0 9) x2.2) (fun p5 ep5 => ?_)
    exact ZO.iret (pc := 104)  d_M_ring_104 rfl rfl rfl
  · refine ZO.aload_n (pc := 15) 0 d_M_ring_15 rfl rfl ?_
    refine ZO.getA (pc := 16) 130 d_M_ring_16 zo_0 zf_M_319 rfl rfl ?_
    refine ZO.iload_n (pc := 19) 1 d_M_ring_19 rfl rfl ?_
    refine ZO.iconst (pc := 20) (0 : Int32) d_M_ring_20 (by decide) ?_
    refine ZO.rgd (fun h6 => ?_)
    refine ZO.iast (pc := 21) d_M_ring_21 za_130 h6 ?_
    refine ZO.ltS (fun s7 => ?_)
    refine ZO.iconst (pc := 22) (0 : Int32) d_M_ring_22 (by decide) ?_
    refine ZO.istore_n (pc := 23) (v := (0 : Int32)) (L' := [(0, .ref 0), (1, .int x2.1), (2, .int (0 : Int32))]) [1, 2, 0] d_M_ring_23 rfl (by decide) rfl ?_
    refine ZO.loop (fun (x8 : Int32 × ZSt) => ([(0, .ref 0), (1, .int x2.1), (2, .int x8.1)] : List (Nat × Value))) (fun (x8 : Int32 × ZSt) => x8.2) [] (fun j9 x8 hj9 => ?_) rfl rfl rfl
    refine ZO.iload_n (pc := 24) 2 d_M_ring_24 rfl rfl ?_
    refine ZO.aload_n (pc := 25) 0 d_M_ring_25 rfl rfl ?_
    refine ZO.getI (pc := 26) d_M_ring_26 zo_0 zf_M_23 rfl ?_
    refine ZO.icmp_ge (pc := 29) 89 d_M_ring_29 (by decide) rfl (fun h10 => ?_) (fun h10 => ?_)
    · refine ZO.iincL (pc := 89) (i := 1) (x2.1 + (1 : Int32)) (L' := fun v11 => [(0, .ref 0), (1, .int v11), (2, .int x8.1)]) [1, 0, 2] d_M_ring_89 rfl (by rfl) (by decide) (fun _ => rfl) (fun v11 => ?_)
      refine ZO.goto (pc := 92) 7 d_M_ring_92 (by decide) ?_
      exact ZO.sub [0, 1] rfl (hj3 (v11, x8.2))
    · refine ZO.aload_n (pc := 32) 0 d_M_ring_32 rfl rfl ?_
      refine ZO.getA (pc := 33) 130 d_M_ring_33 zo_0 zf_M_319 rfl rfl ?_
      refine ZO.iload_n (pc := 36) 1 d_M_ring_36 rfl rfl ?_
      refine ZO.dup2 (pc := 37) d_M_ring_37 rfl rfl ?_
      refine ZO.iald (pc := 38) d_M_ring_38 za_130 h6 ?_
      refine ZO.aload_n (pc := 39) 0 d_M_ring_39 rfl rfl ?_
      refine ZO.getA (pc := 40) 110 d_M_ring_40 zo_0 zf_M_257 rfl rfl ?_
      refine ZO.iload_n (pc := 43) 2 d_M_ring_43 rfl rfl ?_
      refine ZO.rgd (fun h12 => ?_)
      refine ZO.iald (pc := 44) d_M_ring_44 za_110 h12 ?_
      refine ZO.aload_n (pc := 45) 0 d_M_ring_45 rfl rfl ?_
      refine ZO.getA (pc := 46) 110 d_M_ring_46 zo_0 zf_M_257 rfl rfl ?_
      refine ZO.iload_n (pc := 49) 1 d_M_ring_49 rfl rfl ?_
      refine ZO.rgd (fun h13 => ?_)
      refine ZO.iald (pc := 50) d_M_ring_50 za_110 h13 ?_
      refine ZO.rjn (pcJ := 81) (LJ := fun (x14 : Int32) => ([(0, .ref 0), (1, .int x2.1), (2, .int x8.1)] : List (Nat × Value))) (SJ := fun (x14 : Int32) => ([.int x14, .int (ai x8.2 130 x2.1), .int x2.1, .ref 130] : List Value)) (σJ := fun (x14 : Int32) => x8.2) (fun x14 => ?_) (fun j17 hj17 => ?_)
      · refine ZO.ior (pc := 81) d_M_ring_81 ?_
        refine ZO.iast (pc := 82) d_M_ring_82 za_130 h6 ?_
        refine ZO.ltS (fun s15 => ?_)
        refine ZO.iincL (pc := 83) (i := 2) (x8.1 + (1 : Int32)) (L' := fun v16 => [(0, .ref 0), (1, .int x2.1), (2, .int v16)]) [1, 2, 0] d_M_ring_83 rfl (by rfl) (by decide) (fun _ => rfl) (fun v16 => ?_)
        refine ZO.goto (pc := 86) 24 d_M_ring_86 (by decide) ?_
        exact hj9 (v16, s15)
      · refine ZO.rjn (pcJ := 80) (LJ := fun (x18 : Unit) => ([(0, .ref 0), (1, .int x2.1), (2, .int x8.1)] : List (Nat × Value))) (SJ := fun (x18 : Unit) => ([.int (ai x8.2 130 x2.1), .int x2.1, .ref 130] : List Value)) (σJ := fun (x18 : Unit) => x8.2) (fun x18 => ?_) (fun j19 hj19 => ?_)
        · refine ZO.iconst (pc := 80) (0 : Int32) d_M_ring_80 (by decide) ?_
          exact hj17 (0 : Int32)
        · refine ZO.icmp_eq (pc := 51) 80 d_M_ring_51 (by decide) rfl (fun h20 => ?_) (fun h20 => ?_)
          · exact hj19 ()
          · refine ZO.aload_n (pc := 54) 0 d_M_ring_54 rfl rfl ?_
            refine ZO.iload_n (pc := 55) 1 d_M_ring_55 rfl rfl ?_
            refine ZO.cVI (pc := 56) (As := [.int x2.1]) (rest := [.int (ai x8.2 130 x2.1), .int x2.1, .ref 130]) d_M_ring_56 zc_M_272 (by decide) zo_0 rfl rfl rfl (Nat.le_of_ble_eq_true rfl) (ok_M_leftOf g x2.1 x8.2) (fun p21 ep21 => ?_)
            refine ZO.aload_n (pc := 59) 0 d_M_ring_59 rfl rfl ?_
            refine ZO.getA (pc := 60) 108 d_M_ring_60 zo_0 zf_M_154 rfl rfl ?_
            refine ZO.aload_n (pc := 63) 0 d_M_ring_63 rfl rfl ?_
            refine ZO.getA (pc := 64) 110 d_M_ring_64 zo_0 zf_M_257 rfl rfl ?_
            refine ZO.iload_n (pc := 67) 2 d_M_ring_67 rfl rfl ?_
            refine ZO.iald (pc := 68) d_M_ring_68 za_110 h12 ?_
            refine ZO.rgd (fun h22 => ?_)
            refine ZO.iald (pc := 69) d_M_ring_69 za_108 h22 ?_
            refine ZO.iand (pc := 70) d_M_ring_70 ?_
            refine ZO.if_eq (pc := 71) 80 d_M_ring_71 (by decide) rfl (fun h23 => ?_) (fun h23 => ?_)
            · exact hj19 ()
            · refine ZO.iconst (pc := 74) (1 : Int32) d_M_ring_74 (by decide) ?_
              refine ZO.iload_n (pc := 75) 2 d_M_ring_75 rfl rfl ?_
              refine ZO.ishl (pc := 76) d_M_ring_76 ?_
              refine ZO.goto (pc := 77) 81 d_M_ring_77 (by decide) ?_
              exact hj17 (shI (1 : Int32) x8.1)
def f_M_knot (n : Nat) (a0 : Int32) (s : ZSt) : Option (Int32 × ZSt) :=
  lt (si s 0 0 (0 : Int32)) (fun s1 =>
  (if (f_M_isTable a0) = true then
  lpN (fun j4 (x3 : Int32 × ZSt) =>
    (if (gi x3.2 0 3) ≤ x3.1 then
      bn (fc_M_tellsRing n (1 : Int32) (gi x3.2 0 3) x3.2) (fun p6 =>
        some (p6.1, p6.2))
    else bn (f_M_looks n x3.1 a0 x3.2) (fun p7 =>
        (lt ((if p7.1 = true then
        (gi p7.2 0 32)
      else (shI (1 : Int32) x3.1)) : Int32) (fun x8 =>
          gd (inb x3.1 12) (
            lt (sai p7.2 130 x3.1 x8) (fun s10 =>
            lt (x3.1 + (1 : Int32)) (fun v11 =>
            j4 (v11, s10))))))))) n ((0 : Int32), s1)
else some ((-1 : Int32), s1)))
set_option maxHeartbeats 4000000 in
set_option maxRecDepth 20000 in
theorem ok_M_knot (g : ZG) (n : Nat) (a0 : Int32) (s : ZSt) : ZF g 21 y_M_knot [.ref 0, .int a0] s (f_M_knot n a0 s) (fun b => some (.int b.1)) (fun b => b.2) := by
  refine ZF.of (by decide +kernel) (Nat.le_of_ble_eq_true rfl) ?_
  unfold f_M_knot
  show ZO g 21 y_M_knot zu0 0 [(0, .ref 0), (1, .int a0)] [] s _ _
  refine ZO.aload_n (pc := 0) 0 d_M_knot_0 rfl rfl ?_
  refine ZO.iconst (pc := 1) (0 : Int32) d_M_knot_1 (by decide) ?_
  refine ZO.putI (pc := 2) d_M_knot_2 zo_0 zp_M_3 rfl ?_
  refine ZO.ltS (fun s1 => ?_)
  refine ZO.iload_n (pc := 5) 1 d_M_knot_5 rfl rfl ?_
  refine ZO.tSB (pc := 6) (As := [.int a0]) (rest := []) d_M_knot_6 zc_M_194 (by decide) rfl rfl (Nat.le_of_ble_eq_true rfl) (ok_M_isTable g a0 s1) ?_
  refine ZO.ifb_ne (pc := 9) 14 d_M_knot_9 (by decide) rfl (fun h2 => ?_) (fun h2 => ?_)
  · refine ZO.iconst (pc := 14) (0 : Int32) d_M_knot_14 (by decide) ?_
    refine ZO.istore_n (pc := 15) (v := (0 : Int32)) (L' := [(0, .ref 0), (1, .int a0), (2, .int (0 : Int32))]) [1, 2, 0] d_M_knot_15 rfl (by decide) rfl ?_
    refine ZO.loop (fun (x3 : Int32 × ZSt) => ([(0, .ref 0), (1, .int a0), (2, .int x3.1)] : List (Nat × Value))) (fun (x3 : Int32 × ZSt) => x3.2) [] (fun j4 x3 hj4 => ?_) rfl rfl rfl
    refine ZO.iload_n (pc := 16) 2 d_M_knot_16 rfl rfl ?_
    refine ZO.aload_n (pc := 17) 0 d_M_knot_17 rfl rfl ?_
    refine ZO.getI (pc := 18) d_M_knot_18 zo_0 zf_M_14 rfl ?_
    refine ZO.icmp_ge (pc := 21) 57 d_M_knot_21 (by decide) rfl (fun h5 => ?_) (fun h5 => ?_)
    · refine ZO.aload_n (pc := 57) 0 d_M_knot_57 rfl rfl ?_
      refine ZO.iconst (pc := 58) (1 : Int32) d_M_knot_58 (by decide) ?_
      refine ZO.aload_n (pc := 59) 0 d_M_knot_59 rfl rfl ?_
      refine ZO.getI (pc := 60) d_M_knot_60 zo_0 zf_M_14 rfl ?_
      refine ZO.cVI (pc := 63) (As := [.int (1 : Int32), .int (gi x3.2 0 3)]) (rest := []) d_M_knot_63 zc_M_325 (by decide) zo_0 rfl rfl rfl (Nat.le_of_ble_eq_true rfl) (okc_M_tellsRing g n (1 : Int32) (gi x3.2 0 3) x3.2) (fun p6 ep6 => ?_)
      exact ZO.iret (pc := 66)  d_M_knot_66 rfl rfl rfl
    · refine ZO.aload_n (pc := 24) 0 d_M_knot_24 rfl rfl ?_
      refine ZO.iload_n (pc := 25) 2 d_M_knot_25 rfl rfl ?_
      refine ZO.iload_n (pc := 26) 1 d_M_knot_26 rfl rfl ?_
      refine ZO.cVB (pc := 27) (As := [.int x3.1, .int a0]) (rest := []) d_M_knot_27 zc_M_340 (by decide) zo_0 rfl rfl rfl (Nat.le_of_ble_eq_true rfl) (ok_M_looks g n x3.1 a0 x3.2) (fun p7 ep7 => ?_)
      refine ZO.istore_n (pc := 30) (v := (b2i p7.1)) (L' := [(0, .ref 0), (1, .int a0), (2, .int x3.1), (3, .int (b2i p7.1))]) [1, 2, 3, 0] d_M_knot_30 rfl (by decide) rfl ?_
      refine ZO.aload_n (pc := 31) 0 d_M_knot_31 rfl rfl ?_
      refine ZO.getA (pc := 32) 130 d_M_knot_32 zo_0 zf_M_319 rfl rfl ?_
      refine ZO.iload_n (pc := 35) 2 d_M_knot_35 rfl rfl ?_
      refine ZO.iload_n (pc := 36) 3 d_M_knot_36 rfl rfl ?_
      refine ZO.phi (pcJ := 50) (LJ := fun (x8 : Int32) => ([(0, .ref 0), (1, .int a0), (2, .int x3.1)] : List (Nat × Value))) (SJ := fun (x8 : Int32) => ([.int x8, .int x3.1, .ref 130] : List Value)) (fun x8 => ?_) (fun t hj12 => ?_)
      · refine ZO.rgd (fun h9 => ?_)
        refine ZO.iast (pc := 50) d_M_knot_50 za_130 h9 ?_
        refine ZO.ltS (fun s10 => ?_)
        refine ZO.iincL (pc := 51) (i := 2) (x3.1 + (1 : Int32)) (L' := fun v11 => [(0, .ref 0), (1, .int a0), (2, .int v11)]) [1, 2, 0] d_M_knot_51 rfl (by rfl) (by decide) (fun _ => rfl) (fun v11 => ?_)
        refine ZO.goto (pc := 54) 16 d_M_knot_54 (by decide) ?_
        exact hj4 (v11, s10)
      · refine ZO.ifb_eq (pc := 37) 47 d_M_knot_37 (by decide) z_ite (fun h13 => ?_) (fun h13 => ?_)
        · refine ZO.aload_n (pc := 40) 0 d_M_knot_40 rfl rfl ?_
          refine ZO.getI (pc := 41) d_M_knot_41 zo_0 zf_M_328 rfl ?_
          refine ZO.goto (pc := 44) 50 d_M_knot_44 (by decide) ?_
          exact ZO.sub [0, 1, 2] rfl (hj12 (gi p7.2 0 32) (by rw [if_pos h13]))
        · refine ZO.iconst (pc := 47) (1 : Int32) d_M_knot_47 (by decide) ?_
          refine ZO.iload_n (pc := 48) 2 d_M_knot_48 rfl rfl ?_
          refine ZO.ishl (pc := 49) d_M_knot_49 ?_
          exact ZO.sub [0, 1, 2] rfl (hj12 (shI (1 : Int32) x3.1) (by rw [if_neg (z_bf h13)]))
  · refine ZO.iconst (pc := 12) (-1 : Int32) d_M_knot_12 (by decide) ?_
    exact ZO.iret (pc := 13)  d_M_knot_13 rfl rfl rfl
def f_P_thing (F_P_anyOf : Int32 → ZSt → Option (Bool × ZSt)) (a0 : Int32) (s : ZSt) : Option (Bool × ZSt) :=
  bn (f_P_takes (40 : Int32) s) (fun p1 =>
  (if p1.1 = true then
  (if a0 < (4 : Int32) then
    bn (F_P_anyOf (a0 + (1 : Int32)) p1.2) (fun p4 =>
      (jn (fun (x5 : ZSt) =>
        some (false, x5)) (fun j6 =>
        if p4.1 = true then
      bn (f_P_takes (41 : Int32) p4.2) (fun p8 =>
        (if p8.1 = true then
        some (true, p8.2)
      else j6 p8.2))
    else j6 p4.2)))
  else lt (si p1.2 200 6 ((gi p1.2 200 6) - (1 : Int32))) (fun s10 =>
      some (false, s10)))
else bn (f_P_isDigit p1.2) (fun p11 =>
    (if p11 = true then
    gd (inb (gi p1.2 200 6) 80) (
      lt ((ai p1.2 224 (gi p1.2 200 6)) - (48 : Int32)) (fun v14 =>
      lt (si p1.2 200 6 ((gi p1.2 200 6) + (1 : Int32))) (fun s15 =>
      bn (f_P_isDigit s15) (fun p16 =>
      (jn (fun (x17 : Int32 × ZSt) =>
        gd (z_isO (gi x17.2 200 5).toNatClampNeg 1) (
          bn (f_E_append ((gi x17.2 200 5).toNatClampNeg) x17.1 x17.2) (fun p19 =>
          some (true, p19)))) (fun j20 =>
        if p16 = true then
      gd (inb (gi s15 200 6) 80) (
        lt (((v14 * (10 : Int32)) + (ai s15 224 (gi s15 200 6))) - (48 : Int32)) (fun v23 =>
        lt (si s15 200 6 ((gi s15 200 6) + (1 : Int32))) (fun s24 =>
        j20 (v23, s24))))
    else j20 (v14, s15)))))))
  else (jn (fun (x25 : Unit) =>
        bn (f_P_takes (110 : Int32) p1.2) (fun p26 =>
          (jn (fun (x27 : Int32 × ZSt) =>
            (jn (fun (x28 : ZSt) =>
                (if x27.1 = 0 then
                  some (false, x28)
                else some (true, x28))) (fun j30 =>
                if x27.1 = 0 then
              j30 x27.2
            else gd (z_isO (gi x27.2 200 5).toNatClampNeg 1) (
                bn (f_E_append ((gi x27.2 200 5).toNatClampNeg) x27.1 x27.2) (fun p33 =>
                j30 p33))))) (fun j34 =>
            if p26.1 = true then
          j34 ((120 : Int32), p26.2)
        else bn (f_P_takes (114 : Int32) p26.2) (fun p36 =>
            (if p36.1 = true then
            j34 ((121 : Int32), p36.2)
          else bn (f_P_takes (116 : Int32) p36.2) (fun p38 =>
              (if p38.1 = true then
              j34 ((122 : Int32), p38.2)
            else j34 ((0 : Int32), p38.2))))))))) (fun j40 =>
        if (gi p1.2 200 7) ≤ (gi p1.2 200 6) then
      j40 ()
    else gd (inb (gi p1.2 200 6) 80) (
        (if (ai p1.2 224 (gi p1.2 200 6)) < (97 : Int32) then
        j40 ()
      else (if (109 : Int32) ≤ (ai p1.2 224 (gi p1.2 200 6)) then
          j40 ()
        else gd (z_isO (gi p1.2 200 5).toNatClampNeg 1) (
            bn (f_E_append ((gi p1.2 200 5).toNatClampNeg) (((100 : Int32) + (ai p1.2 224 (gi p1.2 200 6))) - (97 : Int32)) p1.2) (fun p46 =>
            lt (si p46 200 6 ((gi p46 200 6) + (1 : Int32))) (fun s47 =>
            some (true, s47)))))))))))))
set_option maxHeartbeats 4000000 in
set_option maxRecDepth 20000 in
theorem ok_P_thing (g : ZG) (dd : Nat) (hdd : 0 ≤ dd) (F_P_anyOf : Int32 → ZSt → Option (Bool × ZSt)) (dd_P_anyOf : Nat) (hdd_P_anyOf : dd_P_anyOf ≤ dd) (H_P_anyOf : ∀ (a0 : Int32) (s : ZSt), ZF g dd_P_anyOf y_P_anyOf [.ref 200, .int a0] s (F_P_anyOf a0 s) (fun b => some (.int (b2i b.1))) (fun b => b.2)) (a0 : Int32) (s : ZSt) : ZF g (dd + 1) y_P_thing [.ref 200, .int a0] s (f_P_thing F_P_anyOf a0 s) (fun b => some (.int (b2i b.1))) (fun b => b.2) := by
  refine ZF.of (by decide +kernel) (Nat.le_of_ble_eq_true rfl) ?_
  unfold f_P_thing
  show ZO g (dd + 1) y_P_thing zu0 0 [(0, .ref 200), (1, .int a0)] [] s _ _
  refine ZO.aload_n (pc := 0) 0 d_P_thing_0 rfl rfl ?_
  refine ZO.bipush (pc := 1) (40 : Int32) d_P_thing_1 (by decide) ?_
  refine ZO.cVB (pc := 3) (As := [.int (40 : Int32)]) (rest := []) d_P_thing_3 zc_P_58 (by omega) zo_200 rfl rfl rfl (Nat.le_of_ble_eq_true rfl) (ok_P_takes g (40 : Int32) s) (fun p1 ep1 => ?_)
  refine ZO.ifb_eq (pc := 6) 51 d_P_thing_6 (by decide) rfl (fun h2 => ?_) (fun h2 => ?_)
  · refine ZO.iload_n (pc := 9) 1 d_P_thing_9 rfl rfl ?_
    refine ZO.iconst (pc := 10) (4 : Int32) d_P_thing_10 (by decide) ?_
    refine ZO.icmp_lt (pc := 11) 26 d_P_thing_11 (by decide) rfl (fun h3 => ?_) (fun h3 => ?_)
    · refine ZO.aload_n (pc := 26) 0 d_P_thing_26 rfl rfl ?_
      refine ZO.iload_n (pc := 27) 1 d_P_thing_27 rfl rfl ?_
      refine ZO.iconst (pc := 28) (1 : Int32) d_P_thing_28 (by decide) ?_
      refine ZO.iadd (pc := 29) d_P_thing_29 ?_
      refine ZO.cVB (pc := 30) (As := [.int (a0 + (1 : Int32))]) (rest := []) d_P_thing_30 zc_P_62 (by omega) zo_200 rfl rfl rfl (Nat.le_of_ble_eq_true rfl) (H_P_anyOf (a0 + (1 : Int32)) p1.2) (fun p4 ep4 => ?_)
      refine ZO.rjn (pcJ := 49) (LJ := fun (x5 : ZSt) => ([] : List (Nat × Value))) (SJ := fun (x5 : ZSt) => ([] : List Value)) (σJ := fun (x5 : ZSt) => x5) (fun x5 => ?_) (fun j6 hj6 => ?_)
      · refine ZO.iconst (pc := 49) (0 : Int32) d_P_thing_49 (by decide) ?_
        exact ZO.zret (pc := 50) (v := false) d_P_thing_50 rfl rfl rfl
      · refine ZO.ifb_eq (pc := 33) 49 d_P_thing_33 (by decide) rfl (fun h7 => ?_) (fun h7 => ?_)
        · refine ZO.aload_n (pc := 36) 0 d_P_thing_36 rfl rfl ?_
          refine ZO.bipush (pc := 37) (41 : Int32) d_P_thing_37 (by decide) ?_
          refine ZO.cVB (pc := 39) (As := [.int (41 : Int32)]) (rest := []) d_P_thing_39 zc_P_58 (by omega) zo_200 rfl rfl rfl (Nat.le_of_ble_eq_true rfl) (ok_P_takes g (41 : Int32) p4.2) (fun p8 ep8 => ?_)
          refine ZO.ifb_eq (pc := 42) 49 d_P_thing_42 (by decide) rfl (fun h9 => ?_) (fun h9 => ?_)
          · refine ZO.iconst (pc := 45) (1 : Int32) d_P_thing_45 (by decide) ?_
            refine ZO.goto (pc := 46) 50 d_P_thing_46 (by decide) ?_
            exact ZO.zret (pc := 50) (v := true) d_P_thing_50 rfl rfl rfl
          · exact ZO.sub [] rfl (hj6 p8.2)
        · exact ZO.sub [] rfl (hj6 p4.2)
    · refine ZO.aload_n (pc := 14) 0 d_P_thing_14 rfl rfl ?_
      refine ZO.dup (pc := 15) d_P_thing_15 rfl ?_
      refine ZO.getI (pc := 16) d_P_thing_16 zo_200 zf_P_41 rfl ?_
      refine ZO.iconst (pc := 19) (1 : Int32) d_P_thing_19 (by decide) ?_
      refine ZO.isub (pc := 20) d_P_thing_20 ?_
      refine ZO.putI (pc := 21) d_P_thing_21 zo_200 zp_P_41 rfl ?_
      refine ZO.ltS (fun s10 => ?_)
      refine ZO.iconst (pc := 24) (0 : Int32) d_P_thing_24 (by decide) ?_
      exact ZO.zret (pc := 25) (v := false) d_P_thing_25 rfl rfl rfl
  · refine ZO.aload_n (pc := 51) 0 d_P_thing_51 rfl rfl ?_
    refine ZO.cVB (pc := 52) (As := []) (rest := []) d_P_thing_52 zc_P_84 (by omega) zo_200 rfl rfl rfl (Nat.le_of_ble_eq_true rfl) (ok_P_isDigit g p1.2) (fun p11 ep11 => ?_)
    refine ZO.ifb_eq (pc := 55) 126 d_P_thing_55 (by decide) rfl (fun h12 => ?_) (fun h12 => ?_)
    · refine ZO.aload_n (pc := 58) 0 d_P_thing_58 rfl rfl ?_
      refine ZO.getA (pc := 59) 224 d_P_thing_59 zo_200 zf_P_21 rfl rfl ?_
      refine ZO.aload_n (pc := 62) 0 d_P_thing_62 rfl rfl ?_
      refine ZO.getI (pc := 63) d_P_thing_63 zo_200 zf_P_41 rfl ?_
      refine ZO.rgd (fun h13 => ?_)
      refine ZO.iald (pc := 66) d_P_thing_66 za_224 h13 ?_
      refine ZO.bipush (pc := 67) (48 : Int32) d_P_thing_67 (by decide) ?_
      refine ZO.isub (pc := 69) d_P_thing_69 ?_
      refine ZO.ltI (fun v14 => ?_)
      refine ZO.istore_n (pc := 70) (v := v14) (L' := [(0, .ref 200), (1, .int a0), (2, .int v14)]) [1, 2, 0] d_P_thing_70 rfl (by decide) rfl ?_
      refine ZO.aload_n (pc := 71) 0 d_P_thing_71 rfl rfl ?_
      refine ZO.dup (pc := 72) d_P_thing_72 rfl ?_
      refine ZO.getI (pc := 73) d_P_thing_73 zo_200 zf_P_41 rfl ?_
      refine ZO.iconst (pc := 76) (1 : Int32) d_P_thing_76 (by decide) ?_
      refine ZO.iadd (pc := 77) d_P_thing_77 ?_
      refine ZO.putI (pc := 78) d_P_thing_78 zo_200 zp_P_41 rfl ?_
      refine ZO.ltS (fun s15 => ?_)
      refine ZO.aload_n (pc := 81) 0 d_P_thing_81 rfl rfl ?_
      refine ZO.cVB (pc := 82) (As := []) (rest := []) d_P_thing_82 zc_P_84 (by omega) zo_200 rfl rfl rfl (Nat.le_of_ble_eq_true rfl) (ok_P_isDigit g s15) (fun p16 ep16 => ?_)
      refine ZO.rjn (pcJ := 116) (LJ := fun (x17 : Int32 × ZSt) => ([(0, .ref 200), (2, .int x17.1)] : List (Nat × Value))) (SJ := fun (x17 : Int32 × ZSt) => ([] : List Value)) (σJ := fun (x17 : Int32 × ZSt) => x17.2) (fun x17 => ?_) (fun j20 hj20 => ?_)
      · refine ZO.aload_n (pc := 116) 0 d_P_thing_116 rfl rfl ?_
        refine ZO.getD (pc := 117) d_P_thing_117 zo_200 zf_P_25 rfl ?_
        refine ZO.rgd (fun h18 => ?_)
        refine ZO.iload_n (pc := 120) 1 d_P_thing_120 rfl rfl ?_
        refine ZO.cVV (pc := 121) (As := [.int x17.1]) (rest := []) d_P_thing_121 zc_P_68 (by omega) h18 rfl rfl rfl (Nat.le_of_ble_eq_true rfl) (ok_E_append g ((gi x17.2 200 5).toNatClampNeg) x17.1 x17.2) (fun p19 ep19 => ?_)
        refine ZO.iconst (pc := 124) (1 : Int32) d_P_thing_124 (by decide) ?_
        exact ZO.zret (pc := 125) (v := true) d_P_thing_125 rfl rfl rfl
      · refine ZO.ifb_eq (pc := 85) 116 d_P_thing_85 (by decide) rfl (fun h21 => ?_) (fun h21 => ?_)
        · refine ZO.iload_n (pc := 88) 2 d_P_thing_88 rfl rfl ?_
          refine ZO.bipush (pc := 89) (10 : Int32) d_P_thing_89 (by decide) ?_
          refine ZO.imul (pc := 91) d_P_thing_91 ?_
          refine ZO.aload_n (pc := 92) 0 d_P_thing_92 rfl rfl ?_
          refine ZO.getA (pc := 93) 224 d_P_thing_93 zo_200 zf_P_21 rfl rfl ?_
          refine ZO.aload_n (pc := 96) 0 d_P_thing_96 rfl rfl ?_
          refine ZO.getI (pc := 97) d_P_thing_97 zo_200 zf_P_41 rfl ?_
          refine ZO.rgd (fun h22 => ?_)
          refine ZO.iald (pc := 100) d_P_thing_100 za_224 h22 ?_
          refine ZO.iadd (pc := 101) d_P_thing_101 ?_
          refine ZO.bipush (pc := 102) (48 : Int32) d_P_thing_102 (by decide) ?_
          refine ZO.isub (pc := 104) d_P_thing_104 ?_
          refine ZO.ltI (fun v23 => ?_)
          refine ZO.istore_n (pc := 105) (v := v23) (L' := [(0, .ref 200), (1, .int a0), (2, .int v23)]) [1, 2, 0] d_P_thing_105 rfl (by decide) rfl ?_
          refine ZO.aload_n (pc := 106) 0 d_P_thing_106 rfl rfl ?_
          refine ZO.dup (pc := 107) d_P_thing_107 rfl ?_
          refine ZO.getI (pc := 108) d_P_thing_108 zo_200 zf_P_41 rfl ?_
          refine ZO.iconst (pc := 111) (1 : Int32) d_P_thing_111 (by decide) ?_
          refine ZO.iadd (pc := 112) d_P_thing_112 ?_
          refine ZO.putI (pc := 113) d_P_thing_113 zo_200 zp_P_41 rfl ?_
          refine ZO.ltS (fun s24 => ?_)
          exact ZO.sub [0, 2] rfl (hj20 (v23, s24))
        · exact ZO.sub [0, 2] rfl (hj20 (v14, s15))
    · refine ZO.aload_n (pc := 126) 0 d_P_thing_126 rfl rfl ?_
      refine ZO.getI (pc := 127) d_P_thing_127 zo_200 zf_P_41 rfl ?_
      refine ZO.aload_n (pc := 130) 0 d_P_thing_130 rfl rfl ?_
      refine ZO.getI (pc := 131) d_P_thing_131 zo_200 zf_P_38 rfl ?_
      refine ZO.rjn (pcJ := 199) (LJ := fun (x25 : Unit) => ([(0, .ref 200)] : List (Nat × Value))) (SJ := fun (x25 : Unit) => ([] : List Value)) (σJ := fun (x25 : Unit) => p1.2) (fun x25 => ?_) (fun j40 hj40 => ?_)
      · refine ZO.aload_n (pc := 199) 0 d_P_thing_199 rfl rfl ?_
        refine ZO.bipush (pc := 200) (110 : Int32) d_P_thing_200 (by decide) ?_
        refine ZO.cVB (pc := 202) (As := [.int (110 : Int32)]) (rest := []) d_P_thing_202 zc_P_58 (by omega) zo_200 rfl rfl rfl (Nat.le_of_ble_eq_true rfl) (ok_P_takes g (110 : Int32) p1.2) (fun p26 ep26 => ?_)
        refine ZO.rjn (pcJ := 242) (LJ := fun (x27 : Int32 × ZSt) => ([(0, .ref 200)] : List (Nat × Value))) (SJ := fun (x27 : Int32 × ZSt) => ([.int x27.1] : List Value)) (σJ := fun (x27 : Int32 × ZSt) => x27.2) (fun x27 => ?_) (fun j34 hj34 => ?_)
        · refine ZO.istore_n (pc := 242) (v := x27.1) (L' := [(0, .ref 200), (2, .int x27.1)]) [1, 0] d_P_thing_242 rfl (by decide) rfl ?_
          refine ZO.iload_n (pc := 243) 1 d_P_thing_243 rfl rfl ?_
          refine ZO.rjn (pcJ := 255) (LJ := fun (x28 : ZSt) => ([(2, .int x27.1)] : List (Nat × Value))) (SJ := fun (x28 : ZSt) => ([] : List Value)) (σJ := fun (x28 : ZSt) => x28) (fun x28 => ?_) (fun j30 hj30 => ?_)
          · refine ZO.iload_n (pc := 255) 0 d_P_thing_255 rfl rfl ?_
            refine ZO.if_eq (pc := 256) 263 d_P_thing_256 (by decide) rfl (fun h29 => ?_) (fun h29 => ?_)
            · refine ZO.iconst (pc := 263) (0 : Int32) d_P_thing_263 (by decide) ?_
              exact ZO.zret (pc := 264) (v := false) d_P_thing_264 rfl rfl rfl
            · refine ZO.iconst (pc := 259) (1 : Int32) d_P_thing_259 (by decide) ?_
              refine ZO.goto (pc := 260) 264 d_P_thing_260 (by decide) ?_
              exact ZO.zret (pc := 264) (v := true) d_P_thing_264 rfl rfl rfl
          · refine ZO.if_eq (pc := 244) 255 d_P_thing_244 (by decide) rfl (fun h31 => ?_) (fun h31 => ?_)
            · exact ZO.sub [1] rfl (hj30 x27.2)
            · refine ZO.aload_n (pc := 247) 0 d_P_thing_247 rfl rfl ?_
              refine ZO.getD (pc := 248) d_P_thing_248 zo_200 zf_P_25 rfl ?_
              refine ZO.rgd (fun h32 => ?_)
              refine ZO.iload_n (pc := 251) 1 d_P_thing_251 rfl rfl ?_
              refine ZO.cVV (pc := 252) (As := [.int x27.1]) (rest := []) d_P_thing_252 zc_P_68 (by omega) h32 rfl rfl rfl (Nat.le_of_ble_eq_true rfl) (ok_E_append g ((gi x27.2 200 5).toNatClampNeg) x27.1 x27.2) (fun p33 ep33 => ?_)
              exact ZO.sub [1] rfl (hj30 p33)
        · refine ZO.ifb_eq (pc := 205) 213 d_P_thing_205 (by decide) rfl (fun h35 => ?_) (fun h35 => ?_)
          · refine ZO.bipush (pc := 208) (120 : Int32) d_P_thing_208 (by decide) ?_
            refine ZO.goto (pc := 210) 242 d_P_thing_210 (by decide) ?_
            exact hj34 ((120 : Int32), p26.2)
          · refine ZO.aload_n (pc := 213) 0 d_P_thing_213 rfl rfl ?_
            refine ZO.bipush (pc := 214) (114 : Int32) d_P_thing_214 (by decide) ?_
            refine ZO.cVB (pc := 216) (As := [.int (114 : Int32)]) (rest := []) d_P_thing_216 zc_P_58 (by omega) zo_200 rfl rfl rfl (Nat.le_of_ble_eq_true rfl) (ok_P_takes g (114 : Int32) p26.2) (fun p36 ep36 => ?_)
            refine ZO.ifb_eq (pc := 219) 227 d_P_thing_219 (by decide) rfl (fun h37 => ?_) (fun h37 => ?_)
            · refine ZO.bipush (pc := 222) (121 : Int32) d_P_thing_222 (by decide) ?_
              refine ZO.goto (pc := 224) 242 d_P_thing_224 (by decide) ?_
              exact hj34 ((121 : Int32), p36.2)
            · refine ZO.aload_n (pc := 227) 0 d_P_thing_227 rfl rfl ?_
              refine ZO.bipush (pc := 228) (116 : Int32) d_P_thing_228 (by decide) ?_
              refine ZO.cVB (pc := 230) (As := [.int (116 : Int32)]) (rest := []) d_P_thing_230 zc_P_58 (by omega) zo_200 rfl rfl rfl (Nat.le_of_ble_eq_true rfl) (ok_P_takes g (116 : Int32) p36.2) (fun p38 ep38 => ?_)
              refine ZO.ifb_eq (pc := 233) 241 d_P_thing_233 (by decide) rfl (fun h39 => ?_) (fun h39 => ?_)
              · refine ZO.bipush (pc := 236) (122 : Int32) d_P_thing_236 (by decide) ?_
                refine ZO.goto (pc := 238) 242 d_P_thing_238 (by decide) ?_
                exact hj34 ((122 : Int32), p38.2)
              · refine ZO.iconst (pc := 241) (0 : Int32) d_P_thing_241 (by decide) ?_
                exact hj34 ((0 : Int32), p38.2)
      · refine ZO.icmp_ge (pc := 134) 199 d_P_thing_134 (by decide) rfl (fun h41 => ?_) (fun h41 => ?_)
        · exact ZO.sub [0] rfl (hj40 ())
        · refine ZO.aload_n (pc := 137) 0 d_P_thing_137 rfl rfl ?_
          refine ZO.getA (pc := 138) 224 d_P_thing_138 zo_200 zf_P_21 rfl rfl ?_
          refine ZO.aload_n (pc := 141) 0 d_P_thing_141 rfl rfl ?_
          refine ZO.getI (pc := 142) d_P_thing_142 zo_200 zf_P_41 rfl ?_
          refine ZO.rgd (fun h42 => ?_)
          refine ZO.iald (pc := 145) d_P_thing_145 za_224 h42 ?_
          refine ZO.bipush (pc := 146) (97 : Int32) d_P_thing_146 (by decide) ?_
          refine ZO.icmp_lt (pc := 148) 199 d_P_thing_148 (by decide) rfl (fun h43 => ?_) (fun h43 => ?_)
          · exact ZO.sub [0] rfl (hj40 ())
          · refine ZO.aload_n (pc := 151) 0 d_P_thing_151 rfl rfl ?_
            refine ZO.getA (pc := 152) 224 d_P_thing_152 zo_200 zf_P_21 rfl rfl ?_
            refine ZO.aload_n (pc := 155) 0 d_P_thing_155 rfl rfl ?_
            refine ZO.getI (pc := 156) d_P_thing_156 zo_200 zf_P_41 rfl ?_
            refine ZO.iald (pc := 159) d_P_thing_159 za_224 h42 ?_
            refine ZO.bipush (pc := 160) (109 : Int32) d_P_thing_160 (by decide) ?_
            refine ZO.icmp_ge (pc := 162) 199 d_P_thing_162 (by decide) rfl (fun h44 => ?_) (fun h44 => ?_)
            · exact ZO.sub [0] rfl (hj40 ())
            · refine ZO.aload_n (pc := 165) 0 d_P_thing_165 rfl rfl ?_
              refine ZO.getD (pc := 166) d_P_thing_166 zo_200 zf_P_25 rfl ?_
              refine ZO.rgd (fun h45 => ?_)
              refine ZO.bipush (pc := 169) (100 : Int32) d_P_thing_169 (by decide) ?_
              refine ZO.aload_n (pc := 171) 0 d_P_thing_171 rfl rfl ?_
              refine ZO.getA (pc := 172) 224 d_P_thing_172 zo_200 zf_P_21 rfl rfl ?_
              refine ZO.aload_n (pc := 175) 0 d_P_thing_175 rfl rfl ?_
              refine ZO.getI (pc := 176) d_P_thing_176 zo_200 zf_P_41 rfl ?_
              refine ZO.iald (pc := 179) d_P_thing_179 za_224 h42 ?_
              refine ZO.iadd (pc := 180) d_P_thing_180 ?_
              refine ZO.bipush (pc := 181) (97 : Int32) d_P_thing_181 (by decide) ?_
              refine ZO.isub (pc := 183) d_P_thing_183 ?_
              refine ZO.cVV (pc := 184) (As := [.int (((100 : Int32) + (ai p1.2 224 (gi p1.2 200 6))) - (97 : Int32))]) (rest := []) d_P_thing_184 zc_P_68 (by omega) h45 rfl rfl rfl (Nat.le_of_ble_eq_true rfl) (ok_E_append g ((gi p1.2 200 5).toNatClampNeg) (((100 : Int32) + (ai p1.2 224 (gi p1.2 200 6))) - (97 : Int32)) p1.2) (fun p46 ep46 => ?_)
              refine ZO.aload_n (pc := 187) 0 d_P_thing_187 rfl rfl ?_
              refine ZO.dup (pc := 188) d_P_thing_188 rfl ?_
              refine ZO.getI (pc := 189) d_P_thing_189 zo_200 zf_P_41 rfl ?_
              refine ZO.iconst (pc := 192) (1 : Int32) d_P_thing_192 (by decide) ?_
              refine ZO.iadd (pc := 193) d_P_thing_193 ?_
              refine ZO.putI (pc := 194) d_P_thing_194 zo_200 zp_P_41 rfl ?_
              refine ZO.ltS (fun s47 => ?_)
              refine ZO.iconst (pc := 197) (1 : Int32) d_P_thing_197 (by decide) ?_
              exact ZO.zret (pc := 198) (v := true) d_P_thing_198 rfl rfl rfl
def f_P_denied (F_P_thing : Int32 → ZSt → Option (Bool × ZSt)) (n : Nat) (a0 : Int32) (s : ZSt) : Option (Bool × ZSt) :=
  jn (fun (x1 : Int32 × ZSt) =>
  bn (F_P_thing a0 x1.2) (fun p2 =>
    (if p2.1 = true then
    lpN (fun j5 (x4 : Int32 × ZSt) =>
      (if x1.1 ≤ x4.1 then
        some (true, x4.2)
      else gd (z_isO (gi x4.2 200 5).toNatClampNeg 1) (
          bn (f_E_append ((gi x4.2 200 5).toNatClampNeg) (130 : Int32) x4.2) (fun p8 =>
          lt (x4.1 + (1 : Int32)) (fun v9 =>
          j5 (v9, p8)))))) n ((0 : Int32), p2.2)
  else some (false, p2.2)))) (fun j10 =>
  lpN (fun j12 (x11 : Int32 × ZSt) =>
  (if (gi x11.2 200 7) ≤ (gi x11.2 200 6) then
    j10 (x11.1, x11.2)
  else gd (inb (gi x11.2 200 6) 80) (
      (if (ai x11.2 224 (gi x11.2 200 6)) = (33 : Int32) then
      lt (si x11.2 200 6 ((gi x11.2 200 6) + (1 : Int32))) (fun s16 =>
        lt (x11.1 + (1 : Int32)) (fun v17 =>
        j12 (v17, s16)))
    else j10 (x11.1, x11.2))))) n ((0 : Int32), s))
set_option maxHeartbeats 4000000 in
set_option maxRecDepth 20000 in
theorem ok_P_denied (g : ZG) (dd : Nat) (hdd : 0 ≤ dd) (F_P_thing : Int32 → ZSt → Option (Bool × ZSt)) (dd_P_thing : Nat) (hdd_P_thing : dd_P_thing ≤ dd) (H_P_thing : ∀ (a0 : Int32) (s : ZSt), ZF g dd_P_thing y_P_thing [.ref 200, .int a0] s (F_P_thing a0 s) (fun b => some (.int (b2i b.1))) (fun b => b.2)) (n : Nat) (a0 : Int32) (s : ZSt) : ZF g (dd + 1) y_P_denied [.ref 200, .int a0] s (f_P_denied F_P_thing n a0 s) (fun b => some (.int (b2i b.1))) (fun b => b.2) := by
  refine ZF.of (by decide +kernel) (Nat.le_of_ble_eq_true rfl) ?_
  unfold f_P_denied
  show ZO g (dd + 1) y_P_denied zu0 0 [(0, .ref 200), (1, .int a0)] [] s _ _
  refine ZO.iconst (pc := 0) (0 : Int32) d_P_denied_0 (by decide) ?_
  refine ZO.istore_n (pc := 1) (v := (0 : Int32)) (L' := [(0, .ref 200), (1, .int a0), (2, .int (0 : Int32))]) [1, 2, 0] d_P_denied_1 rfl (by decide) rfl ?_
  refine ZO.rjn (pcJ := 43) (LJ := fun (x1 : Int32 × ZSt) => ([(0, .ref 200), (1, .int a0), (2, .int x1.1)] : List (Nat × Value))) (SJ := fun (x1 : Int32 × ZSt) => ([] : List Value)) (σJ := fun (x1 : Int32 × ZSt) => x1.2) (fun x1 => ?_) (fun j10 hj10 => ?_)
  · refine ZO.aload_n (pc := 43) 0 d_P_denied_43 rfl rfl ?_
    refine ZO.iload_n (pc := 44) 1 d_P_denied_44 rfl rfl ?_
    refine ZO.cVB (pc := 45) (As := [.int a0]) (rest := []) d_P_denied_45 zc_P_81 (by omega) zo_200 rfl rfl rfl (Nat.le_of_ble_eq_true rfl) (H_P_thing a0 x1.2) (fun p2 ep2 => ?_)
    refine ZO.ifb_ne (pc := 48) 53 d_P_denied_48 (by decide) rfl (fun h3 => ?_) (fun h3 => ?_)
    · refine ZO.iconst (pc := 53) (0 : Int32) d_P_denied_53 (by decide) ?_
      refine ZO.istore_n (pc := 54) (v := (0 : Int32)) (L' := [(0, .ref 200), (1, .int a0), (2, .int x1.1), (3, .int (0 : Int32))]) [1, 2, 3, 0] d_P_denied_54 rfl (by decide) rfl ?_
      refine ZO.sub (L' := [(0, .ref 200), (2, .int x1.1), (3, .int (0 : Int32))]) [0, 2, 3] rfl ?_
      refine ZO.loop (fun (x4 : Int32 × ZSt) => ([(0, .ref 200), (2, .int x1.1), (3, .int x4.1)] : List (Nat × Value))) (fun (x4 : Int32 × ZSt) => x4.2) [] (fun j5 x4 hj5 => ?_) rfl rfl rfl
      refine ZO.iload_n (pc := 55) 2 d_P_denied_55 rfl rfl ?_
      refine ZO.iload_n (pc := 56) 1 d_P_denied_56 rfl rfl ?_
      refine ZO.icmp_ge (pc := 57) 76 d_P_denied_57 (by decide) rfl (fun h6 => ?_) (fun h6 => ?_)
      · refine ZO.iconst (pc := 76) (1 : Int32) d_P_denied_76 (by decide) ?_
        exact ZO.zret (pc := 77) (v := true) d_P_denied_77 rfl rfl rfl
      · refine ZO.aload_n (pc := 60) 0 d_P_denied_60 rfl rfl ?_
        refine ZO.getD (pc := 61) d_P_denied_61 zo_200 zf_P_25 rfl ?_
        refine ZO.rgd (fun h7 => ?_)
        refine ZO.sipush (pc := 64) (130 : Int32) d_P_denied_64 (by decide) ?_
        refine ZO.cVV (pc := 67) (As := [.int (130 : Int32)]) (rest := []) d_P_denied_67 zc_P_68 (by omega) h7 rfl rfl rfl (Nat.le_of_ble_eq_true rfl) (ok_E_append g ((gi x4.2 200 5).toNatClampNeg) (130 : Int32) x4.2) (fun p8 ep8 => ?_)
        refine ZO.iincL (pc := 70) (i := 2) (x4.1 + (1 : Int32)) (L' := fun v9 => [(0, .ref 200), (2, .int x1.1), (3, .int v9)]) [1, 2, 0] d_P_denied_70 rfl (by rfl) (by decide) (fun _ => rfl) (fun v9 => ?_)
        refine ZO.goto (pc := 73) 55 d_P_denied_73 (by decide) ?_
        exact hj5 (v9, p8)
    · refine ZO.iconst (pc := 51) (0 : Int32) d_P_denied_51 (by decide) ?_
      exact ZO.zret (pc := 52) (v := false) d_P_denied_52 rfl rfl rfl
  · refine ZO.loop (fun (x11 : Int32 × ZSt) => ([(0, .ref 200), (1, .int a0), (2, .int x11.1)] : List (Nat × Value))) (fun (x11 : Int32 × ZSt) => x11.2) [] (fun j12 x11 hj12 => ?_) rfl rfl rfl
    refine ZO.aload_n (pc := 2) 0 d_P_denied_2 rfl rfl ?_
    refine ZO.getI (pc := 3) d_P_denied_3 zo_200 zf_P_41 rfl ?_
    refine ZO.aload_n (pc := 6) 0 d_P_denied_6 rfl rfl ?_
    refine ZO.getI (pc := 7) d_P_denied_7 zo_200 zf_P_38 rfl ?_
    refine ZO.icmp_ge (pc := 10) 43 d_P_denied_10 (by decide) rfl (fun h13 => ?_) (fun h13 => ?_)
    · exact hj10 (x11.1, x11.2)
    · refine ZO.aload_n (pc := 13) 0 d_P_denied_13 rfl rfl ?_
      refine ZO.getA (pc := 14) 224 d_P_denied_14 zo_200 zf_P_21 rfl rfl ?_
      refine ZO.aload_n (pc := 17) 0 d_P_denied_17 rfl rfl ?_
      refine ZO.getI (pc := 18) d_P_denied_18 zo_200 zf_P_41 rfl ?_
      refine ZO.rgd (fun h14 => ?_)
      refine ZO.iald (pc := 21) d_P_denied_21 za_224 h14 ?_
      refine ZO.bipush (pc := 22) (33 : Int32) d_P_denied_22 (by decide) ?_
      refine ZO.icmp_ne (pc := 24) 43 d_P_denied_24 (by decide) rfl (fun h15 => ?_) (fun h15 => ?_)
      · refine ZO.aload_n (pc := 27) 0 d_P_denied_27 rfl rfl ?_
        refine ZO.dup (pc := 28) d_P_denied_28 rfl ?_
        refine ZO.getI (pc := 29) d_P_denied_29 zo_200 zf_P_41 rfl ?_
        refine ZO.iconst (pc := 32) (1 : Int32) d_P_denied_32 (by decide) ?_
        refine ZO.iadd (pc := 33) d_P_denied_33 ?_
        refine ZO.putI (pc := 34) d_P_denied_34 zo_200 zp_P_41 rfl ?_
        refine ZO.ltS (fun s16 => ?_)
        refine ZO.iincL (pc := 37) (i := 2) (x11.1 + (1 : Int32)) (L' := fun v17 => [(0, .ref 200), (1, .int a0), (2, .int v17)]) [1, 2, 0] d_P_denied_37 rfl (by rfl) (by decide) (fun _ => rfl) (fun v17 => ?_)
        refine ZO.goto (pc := 40) 2 d_P_denied_40 (by decide) ?_
        exact hj12 (v17, s16)
      · exact hj10 (x11.1, x11.2)
def f_P_sum (F_P_denied : Int32 → ZSt → Option (Bool × ZSt)) (n : Nat) (a0 : Int32) (s : ZSt) : Option (Bool × ZSt) :=
  bn (F_P_denied a0 s) (fun p1 =>
  (if p1.1 = true then
  lpN (fun j4 (x3 : ZSt) =>
    (if (gi x3 200 7) ≤ (gi x3 200 6) then
      some (true, x3)
    else gd (inb (gi x3 200 6) 80) (
        (jn (fun (x7 : Unit) =>
          (lt ((if (ai x3 224 (gi x3 200 6)) = (43 : Int32) then
            (136 : Int32)
          else (137 : Int32)) : Int32) (fun x8 =>
              lt (si x3 200 6 ((gi x3 200 6) + (1 : Int32))) (fun s9 =>
                bn (F_P_denied a0 s9) (fun p10 =>
                (if p10.1 = true then
                gd (z_isO (gi p10.2 200 5).toNatClampNeg 1) (
                  bn (f_E_append ((gi p10.2 200 5).toNatClampNeg) x8 p10.2) (fun p13 =>
                  j4 p13))
              else some (false, p10.2))))))) (fun j16 =>
          if (ai x3 224 (gi x3 200 6)) = (43 : Int32) then
        j16 ()
      else (if (ai x3 224 (gi x3 200 6)) = (45 : Int32) then
          j16 ()
        else some (true, x3))))))) n p1.2
else some (false, p1.2)))
set_option maxHeartbeats 4000000 in
set_option maxRecDepth 20000 in
theorem ok_P_sum (g : ZG) (dd : Nat) (hdd : 0 ≤ dd) (F_P_denied : Int32 → ZSt → Option (Bool × ZSt)) (dd_P_denied : Nat) (hdd_P_denied : dd_P_denied ≤ dd) (H_P_denied : ∀ (a0 : Int32) (s : ZSt), ZF g dd_P_denied y_P_denied [.ref 200, .int a0] s (F_P_denied a0 s) (fun b => some (.int (b2i b.1))) (fun b => b.2)) (n : Nat) (a0 : Int32) (s : ZSt) : ZF g (dd + 1) y_P_sum [.ref 200, .int a0] s (f_P_sum F_P_denied n a0 s) (fun b => some (.int (b2i b.1))) (fun b => b.2) := by
  refine ZF.of (by decide +kernel) (Nat.le_of_ble_eq_true rfl) ?_
  unfold f_P_sum
  show ZO g (dd + 1) y_P_sum zu0 0 [(0, .ref 200), (1, .int a0)] [] s _ _
  refine ZO.aload_n (pc := 0) 0 d_P_sum_0 rfl rfl ?_
  refine ZO.iload_n (pc := 1) 1 d_P_sum_1 rfl rfl ?_
  refine ZO.cVB (pc := 2) (As := [.int a0]) (rest := []) d_P_sum_2 zc_P_78 (by omega) zo_200 rfl rfl rfl (Nat.le_of_ble_eq_true rfl) (H_P_denied a0 s) (fun p1 ep1 => ?_)
  refine ZO.ifb_ne (pc := 5) 10 d_P_sum_5 (by decide) rfl (fun h2 => ?_) (fun h2 => ?_)
  · refine ZO.loop (fun (x3 : ZSt) => ([(0, .ref 200), (1, .int a0)] : List (Nat × Value))) (fun (x3 : ZSt) => x3) [] (fun j4 x3 hj4 => ?_) rfl rfl rfl
    refine ZO.aload_n (pc := 10) 0 d_P_sum_10 rfl rfl ?_
    refine ZO.getI (pc := 11) d_P_sum_11 zo_200 zf_P_41 rfl ?_
    refine ZO.aload_n (pc := 14) 0 d_P_sum_14 rfl rfl ?_
    refine ZO.getI (pc := 15) d_P_sum_15 zo_200 zf_P_38 rfl ?_
    refine ZO.icmp_ge (pc := 18) 104 d_P_sum_18 (by decide) rfl (fun h5 => ?_) (fun h5 => ?_)
    · refine ZO.iconst (pc := 104) (1 : Int32) d_P_sum_104 (by decide) ?_
      exact ZO.zret (pc := 105) (v := true) d_P_sum_105 rfl rfl rfl
    · refine ZO.aload_n (pc := 21) 0 d_P_sum_21 rfl rfl ?_
      refine ZO.getA (pc := 22) 224 d_P_sum_22 zo_200 zf_P_21 rfl rfl ?_
      refine ZO.aload_n (pc := 25) 0 d_P_sum_25 rfl rfl ?_
      refine ZO.getI (pc := 26) d_P_sum_26 zo_200 zf_P_41 rfl ?_
      refine ZO.rgd (fun h6 => ?_)
      refine ZO.iald (pc := 29) d_P_sum_29 za_224 h6 ?_
      refine ZO.bipush (pc := 30) (43 : Int32) d_P_sum_30 (by decide) ?_
      refine ZO.rjn (pcJ := 49) (LJ := fun (x7 : Unit) => ([(0, .ref 200), (1, .int a0)] : List (Nat × Value))) (SJ := fun (x7 : Unit) => ([] : List Value)) (σJ := fun (x7 : Unit) => x3) (fun x7 => ?_) (fun j16 hj16 => ?_)
      · refine ZO.aload_n (pc := 49) 0 d_P_sum_49 rfl rfl ?_
        refine ZO.getA (pc := 50) 224 d_P_sum_50 zo_200 zf_P_21 rfl rfl ?_
        refine ZO.aload_n (pc := 53) 0 d_P_sum_53 rfl rfl ?_
        refine ZO.getI (pc := 54) d_P_sum_54 zo_200 zf_P_41 rfl ?_
        refine ZO.iald (pc := 57) d_P_sum_57 za_224 h6 ?_
        refine ZO.bipush (pc := 58) (43 : Int32) d_P_sum_58 (by decide) ?_
        refine ZO.phi (pcJ := 72) (LJ := fun (x8 : Int32) => ([(0, .ref 200), (1, .int a0)] : List (Nat × Value))) (SJ := fun (x8 : Int32) => ([.int x8] : List Value)) (fun x8 => ?_) (fun t hj14 => ?_)
        · refine ZO.istore_n (pc := 72) (v := x8) (L' := [(0, .ref 200), (1, .int a0), (2, .int x8)]) [1, 2, 0] d_P_sum_72 rfl (by decide) rfl ?_
          refine ZO.aload_n (pc := 73) 0 d_P_sum_73 rfl rfl ?_
          refine ZO.dup (pc := 74) d_P_sum_74 rfl ?_
          refine ZO.getI (pc := 75) d_P_sum_75 zo_200 zf_P_41 rfl ?_
          refine ZO.iconst (pc := 78) (1 : Int32) d_P_sum_78 (by decide) ?_
          refine ZO.iadd (pc := 79) d_P_sum_79 ?_
          refine ZO.putI (pc := 80) d_P_sum_80 zo_200 zp_P_41 rfl ?_
          refine ZO.ltS (fun s9 => ?_)
          refine ZO.aload_n (pc := 83) 0 d_P_sum_83 rfl rfl ?_
          refine ZO.iload_n (pc := 84) 1 d_P_sum_84 rfl rfl ?_
          refine ZO.cVB (pc := 85) (As := [.int a0]) (rest := []) d_P_sum_85 zc_P_78 (by omega) zo_200 rfl rfl rfl (Nat.le_of_ble_eq_true rfl) (H_P_denied a0 s9) (fun p10 ep10 => ?_)
          refine ZO.ifb_ne (pc := 88) 93 d_P_sum_88 (by decide) rfl (fun h11 => ?_) (fun h11 => ?_)
          · refine ZO.aload_n (pc := 93) 0 d_P_sum_93 rfl rfl ?_
            refine ZO.getD (pc := 94) d_P_sum_94 zo_200 zf_P_25 rfl ?_
            refine ZO.rgd (fun h12 => ?_)
            refine ZO.iload_n (pc := 97) 2 d_P_sum_97 rfl rfl ?_
            refine ZO.cVV (pc := 98) (As := [.int x8]) (rest := []) d_P_sum_98 zc_P_68 (by omega) h12 rfl rfl rfl (Nat.le_of_ble_eq_true rfl) (ok_E_append g ((gi p10.2 200 5).toNatClampNeg) x8 p10.2) (fun p13 ep13 => ?_)
            refine ZO.goto (pc := 101) 10 d_P_sum_101 (by decide) ?_
            exact ZO.sub [0, 1] rfl (hj4 p13)
          · refine ZO.iconst (pc := 91) (0 : Int32) d_P_sum_91 (by decide) ?_
            exact ZO.zret (pc := 92) (v := false) d_P_sum_92 rfl rfl rfl
        · refine ZO.icmp_ne (pc := 60) 69 d_P_sum_60 (by decide) z_ite (fun h15 => ?_) (fun h15 => ?_)
          · refine ZO.sipush (pc := 63) (136 : Int32) d_P_sum_63 (by decide) ?_
            refine ZO.goto (pc := 66) 72 d_P_sum_66 (by decide) ?_
            exact hj14 (136 : Int32) (by rw [if_pos h15])
          · refine ZO.sipush (pc := 69) (137 : Int32) d_P_sum_69 (by decide) ?_
            exact hj14 (137 : Int32) (by rw [if_neg h15])
      · refine ZO.icmp_eq (pc := 32) 49 d_P_sum_32 (by decide) rfl (fun h17 => ?_) (fun h17 => ?_)
        · exact hj16 ()
        · refine ZO.aload_n (pc := 35) 0 d_P_sum_35 rfl rfl ?_
          refine ZO.getA (pc := 36) 224 d_P_sum_36 zo_200 zf_P_21 rfl rfl ?_
          refine ZO.aload_n (pc := 39) 0 d_P_sum_39 rfl rfl ?_
          refine ZO.getI (pc := 40) d_P_sum_40 zo_200 zf_P_41 rfl ?_
          refine ZO.iald (pc := 43) d_P_sum_43 za_224 h6 ?_
          refine ZO.bipush (pc := 44) (45 : Int32) d_P_sum_44 (by decide) ?_
          refine ZO.icmp_ne (pc := 46) 104 d_P_sum_46 (by decide) rfl (fun h18 => ?_) (fun h18 => ?_)
          · exact hj16 ()
          · refine ZO.iconst (pc := 104) (1 : Int32) d_P_sum_104 (by decide) ?_
            exact ZO.zret (pc := 105) (v := true) d_P_sum_105 rfl rfl rfl
  · refine ZO.iconst (pc := 8) (0 : Int32) d_P_sum_8 (by decide) ?_
    exact ZO.zret (pc := 9) (v := false) d_P_sum_9 rfl rfl rfl
def f_P_compared (F_P_sum : Int32 → ZSt → Option (Bool × ZSt)) (a0 : Int32) (s : ZSt) : Option (Bool × ZSt) :=
  bn (F_P_sum a0 s) (fun p1 =>
  (if p1.1 = true then
  bn (f_P_takes (60 : Int32) p1.2) (fun p3 =>
    (jn (fun (x4 : Int32 × ZSt) =>
      (if x4.1 = 0 then
        some (true, x4.2)
      else bn (F_P_sum a0 x4.2) (fun p6 =>
          (if p6.1 = true then
          gd (z_isO (gi p6.2 200 5).toNatClampNeg 1) (
            bn (f_E_append ((gi p6.2 200 5).toNatClampNeg) x4.1 p6.2) (fun p9 =>
            some (true, p9)))
        else some (false, p6.2))))) (fun j10 =>
      if p3.1 = true then
    j10 ((133 : Int32), p3.2)
  else bn (f_P_takes (62 : Int32) p3.2) (fun p12 =>
      (if p12.1 = true then
      j10 ((134 : Int32), p12.2)
    else bn (f_P_takes (61 : Int32) p12.2) (fun p14 =>
        (if p14.1 = true then
        j10 ((135 : Int32), p14.2)
      else j10 ((0 : Int32), p14.2))))))))
else some (false, p1.2)))
set_option maxHeartbeats 4000000 in
set_option maxRecDepth 20000 in
theorem ok_P_compared (g : ZG) (dd : Nat) (hdd : 0 ≤ dd) (F_P_sum : Int32 → ZSt → Option (Bool × ZSt)) (dd_P_sum : Nat) (hdd_P_sum : dd_P_sum ≤ dd) (H_P_sum : ∀ (a0 : Int32) (s : ZSt), ZF g dd_P_sum y_P_sum [.ref 200, .int a0] s (F_P_sum a0 s) (fun b => some (.int (b2i b.1))) (fun b => b.2)) (a0 : Int32) (s : ZSt) : ZF g (dd + 1) y_P_compared [.ref 200, .int a0] s (f_P_compared F_P_sum a0 s) (fun b => some (.int (b2i b.1))) (fun b => b.2) := by
  refine ZF.of (by decide +kernel) (Nat.le_of_ble_eq_true rfl) ?_
  unfold f_P_compared
  show ZO g (dd + 1) y_P_compared zu0 0 [(0, .ref 200), (1, .int a0)] [] s _ _
  refine ZO.aload_n (pc := 0) 0 d_P_compared_0 rfl rfl ?_
  refine ZO.iload_n (pc := 1) 1 d_P_compared_1 rfl rfl ?_
  refine ZO.cVB (pc := 2) (As := [.int a0]) (rest := []) d_P_compared_2 zc_P_75 (by omega) zo_200 rfl rfl rfl (Nat.le_of_ble_eq_true rfl) (H_P_sum a0 s) (fun p1 ep1 => ?_)
  refine ZO.ifb_ne (pc := 5) 10 d_P_compared_5 (by decide) rfl (fun h2 => ?_) (fun h2 => ?_)
  · refine ZO.aload_n (pc := 10) 0 d_P_compared_10 rfl rfl ?_
    refine ZO.bipush (pc := 11) (60 : Int32) d_P_compared_11 (by decide) ?_
    refine ZO.cVB (pc := 13) (As := [.int (60 : Int32)]) (rest := []) d_P_compared_13 zc_P_58 (by omega) zo_200 rfl rfl rfl (Nat.le_of_ble_eq_true rfl) (ok_P_takes g (60 : Int32) p1.2) (fun p3 ep3 => ?_)
    refine ZO.rjn (pcJ := 56) (LJ := fun (x4 : Int32 × ZSt) => ([(0, .ref 200), (1, .int a0)] : List (Nat × Value))) (SJ := fun (x4 : Int32 × ZSt) => ([.int x4.1] : List Value)) (σJ := fun (x4 : Int32 × ZSt) => x4.2) (fun x4 => ?_) (fun j10 hj10 => ?_)
    · refine ZO.istore_n (pc := 56) (v := x4.1) (L' := [(0, .ref 200), (1, .int a0), (2, .int x4.1)]) [1, 2, 0] d_P_compared_56 rfl (by decide) rfl ?_
      refine ZO.iload_n (pc := 57) 2 d_P_compared_57 rfl rfl ?_
      refine ZO.if_eq (pc := 58) 79 d_P_compared_58 (by decide) rfl (fun h5 => ?_) (fun h5 => ?_)
      · refine ZO.iconst (pc := 79) (1 : Int32) d_P_compared_79 (by decide) ?_
        exact ZO.zret (pc := 80) (v := true) d_P_compared_80 rfl rfl rfl
      · refine ZO.aload_n (pc := 61) 0 d_P_compared_61 rfl rfl ?_
        refine ZO.iload_n (pc := 62) 1 d_P_compared_62 rfl rfl ?_
        refine ZO.cVB (pc := 63) (As := [.int a0]) (rest := []) d_P_compared_63 zc_P_75 (by omega) zo_200 rfl rfl rfl (Nat.le_of_ble_eq_true rfl) (H_P_sum a0 x4.2) (fun p6 ep6 => ?_)
        refine ZO.ifb_ne (pc := 66) 71 d_P_compared_66 (by decide) rfl (fun h7 => ?_) (fun h7 => ?_)
        · refine ZO.aload_n (pc := 71) 0 d_P_compared_71 rfl rfl ?_
          refine ZO.getD (pc := 72) d_P_compared_72 zo_200 zf_P_25 rfl ?_
          refine ZO.rgd (fun h8 => ?_)
          refine ZO.iload_n (pc := 75) 2 d_P_compared_75 rfl rfl ?_
          refine ZO.cVV (pc := 76) (As := [.int x4.1]) (rest := []) d_P_compared_76 zc_P_68 (by omega) h8 rfl rfl rfl (Nat.le_of_ble_eq_true rfl) (ok_E_append g ((gi p6.2 200 5).toNatClampNeg) x4.1 p6.2) (fun p9 ep9 => ?_)
          refine ZO.iconst (pc := 79) (1 : Int32) d_P_compared_79 (by decide) ?_
          exact ZO.zret (pc := 80) (v := true) d_P_compared_80 rfl rfl rfl
        · refine ZO.iconst (pc := 69) (0 : Int32) d_P_compared_69 (by decide) ?_
          exact ZO.zret (pc := 70) (v := false) d_P_compared_70 rfl rfl rfl
    · refine ZO.ifb_eq (pc := 16) 25 d_P_compared_16 (by decide) rfl (fun h11 => ?_) (fun h11 => ?_)
      · refine ZO.sipush (pc := 19) (133 : Int32) d_P_compared_19 (by decide) ?_
        refine ZO.goto (pc := 22) 56 d_P_compared_22 (by decide) ?_
        exact hj10 ((133 : Int32), p3.2)
      · refine ZO.aload_n (pc := 25) 0 d_P_compared_25 rfl rfl ?_
        refine ZO.bipush (pc := 26) (62 : Int32) d_P_compared_26 (by decide) ?_
        refine ZO.cVB (pc := 28) (As := [.int (62 : Int32)]) (rest := []) d_P_compared_28 zc_P_58 (by omega) zo_200 rfl rfl rfl (Nat.le_of_ble_eq_true rfl) (ok_P_takes g (62 : Int32) p3.2) (fun p12 ep12 => ?_)
        refine ZO.ifb_eq (pc := 31) 40 d_P_compared_31 (by decide) rfl (fun h13 => ?_) (fun h13 => ?_)
        · refine ZO.sipush (pc := 34) (134 : Int32) d_P_compared_34 (by decide) ?_
          refine ZO.goto (pc := 37) 56 d_P_compared_37 (by decide) ?_
          exact hj10 ((134 : Int32), p12.2)
        · refine ZO.aload_n (pc := 40) 0 d_P_compared_40 rfl rfl ?_
          refine ZO.bipush (pc := 41) (61 : Int32) d_P_compared_41 (by decide) ?_
          refine ZO.cVB (pc := 43) (As := [.int (61 : Int32)]) (rest := []) d_P_compared_43 zc_P_58 (by omega) zo_200 rfl rfl rfl (Nat.le_of_ble_eq_true rfl) (ok_P_takes g (61 : Int32) p12.2) (fun p14 ep14 => ?_)
          refine ZO.ifb_eq (pc := 46) 55 d_P_compared_46 (by decide) rfl (fun h15 => ?_) (fun h15 => ?_)
          · refine ZO.sipush (pc := 49) (135 : Int32) d_P_compared_49 (by decide) ?_
            refine ZO.goto (pc := 52) 56 d_P_compared_52 (by decide) ?_
            exact hj10 ((135 : Int32), p14.2)
          · refine ZO.iconst (pc := 55) (0 : Int32) d_P_compared_55 (by decide) ?_
            exact hj10 ((0 : Int32), p14.2)
  · refine ZO.iconst (pc := 8) (0 : Int32) d_P_compared_8 (by decide) ?_
    exact ZO.zret (pc := 9) (v := false) d_P_compared_9 rfl rfl rfl
def f_P_allOf (F_P_compared : Int32 → ZSt → Option (Bool × ZSt)) (n : Nat) (a0 : Int32) (s : ZSt) : Option (Bool × ZSt) :=
  bn (F_P_compared a0 s) (fun p1 =>
  (if p1.1 = true then
  lpN (fun j4 (x3 : ZSt) =>
    (if (gi x3 200 7) ≤ (gi x3 200 6) then
      some (true, x3)
    else gd (inb (gi x3 200 6) 80) (
        (if (ai x3 224 (gi x3 200 6)) = (38 : Int32) then
        lt (si x3 200 6 ((gi x3 200 6) + (1 : Int32))) (fun s8 =>
          bn (F_P_compared a0 s8) (fun p9 =>
          (if p9.1 = true then
          gd (z_isO (gi p9.2 200 5).toNatClampNeg 1) (
            bn (f_E_append ((gi p9.2 200 5).toNatClampNeg) (132 : Int32) p9.2) (fun p12 =>
            j4 p12))
        else some (false, p9.2))))
      else some (true, x3))))) n p1.2
else some (false, p1.2)))
set_option maxHeartbeats 4000000 in
set_option maxRecDepth 20000 in
theorem ok_P_allOf (g : ZG) (dd : Nat) (hdd : 0 ≤ dd) (F_P_compared : Int32 → ZSt → Option (Bool × ZSt)) (dd_P_compared : Nat) (hdd_P_compared : dd_P_compared ≤ dd) (H_P_compared : ∀ (a0 : Int32) (s : ZSt), ZF g dd_P_compared y_P_compared [.ref 200, .int a0] s (F_P_compared a0 s) (fun b => some (.int (b2i b.1))) (fun b => b.2)) (n : Nat) (a0 : Int32) (s : ZSt) : ZF g (dd + 1) y_P_allOf [.ref 200, .int a0] s (f_P_allOf F_P_compared n a0 s) (fun b => some (.int (b2i b.1))) (fun b => b.2) := by
  refine ZF.of (by decide +kernel) (Nat.le_of_ble_eq_true rfl) ?_
  unfold f_P_allOf
  show ZO g (dd + 1) y_P_allOf zu0 0 [(0, .ref 200), (1, .int a0)] [] s _ _
  refine ZO.aload_n (pc := 0) 0 d_P_allOf_0 rfl rfl ?_
  refine ZO.iload_n (pc := 1) 1 d_P_allOf_1 rfl rfl ?_
  refine ZO.cVB (pc := 2) (As := [.int a0]) (rest := []) d_P_allOf_2 zc_P_72 (by omega) zo_200 rfl rfl rfl (Nat.le_of_ble_eq_true rfl) (H_P_compared a0 s) (fun p1 ep1 => ?_)
  refine ZO.ifb_ne (pc := 5) 10 d_P_allOf_5 (by decide) rfl (fun h2 => ?_) (fun h2 => ?_)
  · refine ZO.loop (fun (x3 : ZSt) => ([(0, .ref 200), (1, .int a0)] : List (Nat × Value))) (fun (x3 : ZSt) => x3) [] (fun j4 x3 hj4 => ?_) rfl rfl rfl
    refine ZO.aload_n (pc := 10) 0 d_P_allOf_10 rfl rfl ?_
    refine ZO.getI (pc := 11) d_P_allOf_11 zo_200 zf_P_41 rfl ?_
    refine ZO.aload_n (pc := 14) 0 d_P_allOf_14 rfl rfl ?_
    refine ZO.getI (pc := 15) d_P_allOf_15 zo_200 zf_P_38 rfl ?_
    refine ZO.icmp_ge (pc := 18) 68 d_P_allOf_18 (by decide) rfl (fun h5 => ?_) (fun h5 => ?_)
    · refine ZO.iconst (pc := 68) (1 : Int32) d_P_allOf_68 (by decide) ?_
      exact ZO.zret (pc := 69) (v := true) d_P_allOf_69 rfl rfl rfl
    · refine ZO.aload_n (pc := 21) 0 d_P_allOf_21 rfl rfl ?_
      refine ZO.getA (pc := 22) 224 d_P_allOf_22 zo_200 zf_P_21 rfl rfl ?_
      refine ZO.aload_n (pc := 25) 0 d_P_allOf_25 rfl rfl ?_
      refine ZO.getI (pc := 26) d_P_allOf_26 zo_200 zf_P_41 rfl ?_
      refine ZO.rgd (fun h6 => ?_)
      refine ZO.iald (pc := 29) d_P_allOf_29 za_224 h6 ?_
      refine ZO.bipush (pc := 30) (38 : Int32) d_P_allOf_30 (by decide) ?_
      refine ZO.icmp_ne (pc := 32) 68 d_P_allOf_32 (by decide) rfl (fun h7 => ?_) (fun h7 => ?_)
      · refine ZO.aload_n (pc := 35) 0 d_P_allOf_35 rfl rfl ?_
        refine ZO.dup (pc := 36) d_P_allOf_36 rfl ?_
        refine ZO.getI (pc := 37) d_P_allOf_37 zo_200 zf_P_41 rfl ?_
        refine ZO.iconst (pc := 40) (1 : Int32) d_P_allOf_40 (by decide) ?_
        refine ZO.iadd (pc := 41) d_P_allOf_41 ?_
        refine ZO.putI (pc := 42) d_P_allOf_42 zo_200 zp_P_41 rfl ?_
        refine ZO.ltS (fun s8 => ?_)
        refine ZO.aload_n (pc := 45) 0 d_P_allOf_45 rfl rfl ?_
        refine ZO.iload_n (pc := 46) 1 d_P_allOf_46 rfl rfl ?_
        refine ZO.cVB (pc := 47) (As := [.int a0]) (rest := []) d_P_allOf_47 zc_P_72 (by omega) zo_200 rfl rfl rfl (Nat.le_of_ble_eq_true rfl) (H_P_compared a0 s8) (fun p9 ep9 => ?_)
        refine ZO.ifb_ne (pc := 50) 55 d_P_allOf_50 (by decide) rfl (fun h10 => ?_) (fun h10 => ?_)
        · refine ZO.aload_n (pc := 55) 0 d_P_allOf_55 rfl rfl ?_
          refine ZO.getD (pc := 56) d_P_allOf_56 zo_200 zf_P_25 rfl ?_
          refine ZO.rgd (fun h11 => ?_)
          refine ZO.sipush (pc := 59) (132 : Int32) d_P_allOf_59 (by decide) ?_
          refine ZO.cVV (pc := 62) (As := [.int (132 : Int32)]) (rest := []) d_P_allOf_62 zc_P_68 (by omega) h11 rfl rfl rfl (Nat.le_of_ble_eq_true rfl) (ok_E_append g ((gi p9.2 200 5).toNatClampNeg) (132 : Int32) p9.2) (fun p12 ep12 => ?_)
          refine ZO.goto (pc := 65) 10 d_P_allOf_65 (by decide) ?_
          exact hj4 p12
        · refine ZO.iconst (pc := 53) (0 : Int32) d_P_allOf_53 (by decide) ?_
          exact ZO.zret (pc := 54) (v := false) d_P_allOf_54 rfl rfl rfl
      · refine ZO.iconst (pc := 68) (1 : Int32) d_P_allOf_68 (by decide) ?_
        exact ZO.zret (pc := 69) (v := true) d_P_allOf_69 rfl rfl rfl
  · refine ZO.iconst (pc := 8) (0 : Int32) d_P_allOf_8 (by decide) ?_
    exact ZO.zret (pc := 9) (v := false) d_P_allOf_9 rfl rfl rfl
def f_P_anyOf (F_P_allOf : Int32 → ZSt → Option (Bool × ZSt)) (n : Nat) (a0 : Int32) (s : ZSt) : Option (Bool × ZSt) :=
  bn (F_P_allOf a0 s) (fun p1 =>
  (if p1.1 = true then
  lpN (fun j4 (x3 : ZSt) =>
    (if (gi x3 200 7) ≤ (gi x3 200 6) then
      some (true, x3)
    else gd (inb (gi x3 200 6) 80) (
        (if (ai x3 224 (gi x3 200 6)) = (124 : Int32) then
        lt (si x3 200 6 ((gi x3 200 6) + (1 : Int32))) (fun s8 =>
          bn (F_P_allOf a0 s8) (fun p9 =>
          (if p9.1 = true then
          gd (z_isO (gi p9.2 200 5).toNatClampNeg 1) (
            bn (f_E_append ((gi p9.2 200 5).toNatClampNeg) (131 : Int32) p9.2) (fun p12 =>
            j4 p12))
        else some (false, p9.2))))
      else some (true, x3))))) n p1.2
else some (false, p1.2)))
set_option maxHeartbeats 4000000 in
set_option maxRecDepth 20000 in
theorem ok_P_anyOf (g : ZG) (dd : Nat) (hdd : 0 ≤ dd) (F_P_allOf : Int32 → ZSt → Option (Bool × ZSt)) (dd_P_allOf : Nat) (hdd_P_allOf : dd_P_allOf ≤ dd) (H_P_allOf : ∀ (a0 : Int32) (s : ZSt), ZF g dd_P_allOf y_P_allOf [.ref 200, .int a0] s (F_P_allOf a0 s) (fun b => some (.int (b2i b.1))) (fun b => b.2)) (n : Nat) (a0 : Int32) (s : ZSt) : ZF g (dd + 1) y_P_anyOf [.ref 200, .int a0] s (f_P_anyOf F_P_allOf n a0 s) (fun b => some (.int (b2i b.1))) (fun b => b.2) := by
  refine ZF.of (by decide +kernel) (Nat.le_of_ble_eq_true rfl) ?_
  unfold f_P_anyOf
  show ZO g (dd + 1) y_P_anyOf zu0 0 [(0, .ref 200), (1, .int a0)] [] s _ _
  refine ZO.aload_n (pc := 0) 0 d_P_anyOf_0 rfl rfl ?_
  refine ZO.iload_n (pc := 1) 1 d_P_anyOf_1 rfl rfl ?_
  refine ZO.cVB (pc := 2) (As := [.int a0]) (rest := []) d_P_anyOf_2 zc_P_65 (by omega) zo_200 rfl rfl rfl (Nat.le_of_ble_eq_true rfl) (H_P_allOf a0 s) (fun p1 ep1 => ?_)
  refine ZO.ifb_ne (pc := 5) 10 d_P_anyOf_5 (by decide) rfl (fun h2 => ?_) (fun h2 => ?_)
  · refine ZO.loop (fun (x3 : ZSt) => ([(0, .ref 200), (1, .int a0)] : List (Nat × Value))) (fun (x3 : ZSt) => x3) [] (fun j4 x3 hj4 => ?_) rfl rfl rfl
    refine ZO.aload_n (pc := 10) 0 d_P_anyOf_10 rfl rfl ?_
    refine ZO.getI (pc := 11) d_P_anyOf_11 zo_200 zf_P_41 rfl ?_
    refine ZO.aload_n (pc := 14) 0 d_P_anyOf_14 rfl rfl ?_
    refine ZO.getI (pc := 15) d_P_anyOf_15 zo_200 zf_P_38 rfl ?_
    refine ZO.icmp_ge (pc := 18) 68 d_P_anyOf_18 (by decide) rfl (fun h5 => ?_) (fun h5 => ?_)
    · refine ZO.iconst (pc := 68) (1 : Int32) d_P_anyOf_68 (by decide) ?_
      exact ZO.zret (pc := 69) (v := true) d_P_anyOf_69 rfl rfl rfl
    · refine ZO.aload_n (pc := 21) 0 d_P_anyOf_21 rfl rfl ?_
      refine ZO.getA (pc := 22) 224 d_P_anyOf_22 zo_200 zf_P_21 rfl rfl ?_
      refine ZO.aload_n (pc := 25) 0 d_P_anyOf_25 rfl rfl ?_
      refine ZO.getI (pc := 26) d_P_anyOf_26 zo_200 zf_P_41 rfl ?_
      refine ZO.rgd (fun h6 => ?_)
      refine ZO.iald (pc := 29) d_P_anyOf_29 za_224 h6 ?_
      refine ZO.bipush (pc := 30) (124 : Int32) d_P_anyOf_30 (by decide) ?_
      refine ZO.icmp_ne (pc := 32) 68 d_P_anyOf_32 (by decide) rfl (fun h7 => ?_) (fun h7 => ?_)
      · refine ZO.aload_n (pc := 35) 0 d_P_anyOf_35 rfl rfl ?_
        refine ZO.dup (pc := 36) d_P_anyOf_36 rfl ?_
        refine ZO.getI (pc := 37) d_P_anyOf_37 zo_200 zf_P_41 rfl ?_
        refine ZO.iconst (pc := 40) (1 : Int32) d_P_anyOf_40 (by decide) ?_
        refine ZO.iadd (pc := 41) d_P_anyOf_41 ?_
        refine ZO.putI (pc := 42) d_P_anyOf_42 zo_200 zp_P_41 rfl ?_
        refine ZO.ltS (fun s8 => ?_)
        refine ZO.aload_n (pc := 45) 0 d_P_anyOf_45 rfl rfl ?_
        refine ZO.iload_n (pc := 46) 1 d_P_anyOf_46 rfl rfl ?_
        refine ZO.cVB (pc := 47) (As := [.int a0]) (rest := []) d_P_anyOf_47 zc_P_65 (by omega) zo_200 rfl rfl rfl (Nat.le_of_ble_eq_true rfl) (H_P_allOf a0 s8) (fun p9 ep9 => ?_)
        refine ZO.ifb_ne (pc := 50) 55 d_P_anyOf_50 (by decide) rfl (fun h10 => ?_) (fun h10 => ?_)
        · refine ZO.aload_n (pc := 55) 0 d_P_anyOf_55 rfl rfl ?_
          refine ZO.getD (pc := 56) d_P_anyOf_56 zo_200 zf_P_25 rfl ?_
          refine ZO.rgd (fun h11 => ?_)
          refine ZO.sipush (pc := 59) (131 : Int32) d_P_anyOf_59 (by decide) ?_
          refine ZO.cVV (pc := 62) (As := [.int (131 : Int32)]) (rest := []) d_P_anyOf_62 zc_P_68 (by omega) h11 rfl rfl rfl (Nat.le_of_ble_eq_true rfl) (ok_E_append g ((gi p9.2 200 5).toNatClampNeg) (131 : Int32) p9.2) (fun p12 ep12 => ?_)
          refine ZO.goto (pc := 65) 10 d_P_anyOf_65 (by decide) ?_
          exact hj4 p12
        · refine ZO.iconst (pc := 53) (0 : Int32) d_P_anyOf_53 (by decide) ?_
          exact ZO.zret (pc := 54) (v := false) d_P_anyOf_54 rfl rfl rfl
      · refine ZO.iconst (pc := 68) (1 : Int32) d_P_anyOf_68 (by decide) ?_
        exact ZO.zret (pc := 69) (v := true) d_P_anyOf_69 rfl rfl rfl
  · refine ZO.iconst (pc := 8) (0 : Int32) d_P_anyOf_8 (by decide) ?_
    exact ZO.zret (pc := 9) (v := false) d_P_anyOf_9 rfl rfl rfl
def f_P_whole (F_P_anyOf : Int32 → ZSt → Option (Bool × ZSt)) (a0 : Nat) (s : ZSt) : Option (Bool × ZSt) :=
  gd (z_isO a0 1) (lt (si s 200 5 (nI a0)) (fun s1 =>
  gd (z_isO (gi s1 200 5).toNatClampNeg 1) (
  bn (f_E_clear ((gi s1 200 5).toNatClampNeg) s1) (fun p3 =>
  bn (F_P_anyOf (0 : Int32) p3) (fun p4 =>
  some (p4.1, p4.2))))))
set_option maxHeartbeats 4000000 in
set_option maxRecDepth 20000 in
theorem ok_P_whole (g : ZG) (dd : Nat) (hdd : 0 ≤ dd) (F_P_anyOf : Int32 → ZSt → Option (Bool × ZSt)) (dd_P_anyOf : Nat) (hdd_P_anyOf : dd_P_anyOf ≤ dd) (H_P_anyOf : ∀ (a0 : Int32) (s : ZSt), ZF g dd_P_anyOf y_P_anyOf [.ref 200, .int a0] s (F_P_anyOf a0 s) (fun b => some (.int (b2i b.1))) (fun b => b.2)) (a0 : Nat) (s : ZSt) : ZF g (dd + 1) y_P_whole [.ref 200, .ref a0] s (f_P_whole F_P_anyOf a0 s) (fun b => some (.int (b2i b.1))) (fun b => b.2) := by
  refine ZF.of (by decide +kernel) (Nat.le_of_ble_eq_true rfl) ?_
  unfold f_P_whole
  show ZO g (dd + 1) y_P_whole zu0 0 [(0, .ref 200), (1, .ref a0)] [] s _ _
  refine ZO.rgd (fun ha0 => ?_)
  refine ZO.aload_n (pc := 0) 0 d_P_whole_0 rfl rfl ?_
  refine ZO.aload_n (pc := 1) 1 d_P_whole_1 rfl rfl ?_
  refine ZO.putD (pc := 2) d_P_whole_2 zo_200 zp_P_25 rfl (z_isO_lt ha0) ?_
  refine ZO.ltS (fun s1 => ?_)
  refine ZO.aload_n (pc := 5) 0 d_P_whole_5 rfl rfl ?_
  refine ZO.getD (pc := 6) d_P_whole_6 zo_200 zf_P_25 rfl ?_
  refine ZO.rgd (fun h2 => ?_)
  refine ZO.cVV (pc := 9) (As := []) (rest := []) d_P_whole_9 zc_P_47 (by omega) h2 rfl rfl rfl (Nat.le_of_ble_eq_true rfl) (ok_E_clear g ((gi s1 200 5).toNatClampNeg) s1) (fun p3 ep3 => ?_)
  refine ZO.aload_n (pc := 12) 0 d_P_whole_12 rfl rfl ?_
  refine ZO.iconst (pc := 13) (0 : Int32) d_P_whole_13 (by decide) ?_
  refine ZO.cVB (pc := 14) (As := [.int (0 : Int32)]) (rest := []) d_P_whole_14 zc_P_62 (by omega) zo_200 rfl rfl rfl (Nat.le_of_ble_eq_true rfl) (H_P_anyOf (0 : Int32) p3) (fun p4 ep4 => ?_)
  exact ZO.zret (pc := 17) (v := p4.1) d_P_whole_17 rfl rfl rfl
abbrev ZPF : Type := Int32 → ZSt → Option (Bool × ZSt)
def fx_P_thing (A : ZPF) : ZPF := fun a s => f_P_thing A a s
def fx_P_denied (n : Nat) (A : ZPF) : ZPF := fun a s => f_P_denied (fx_P_thing A) n a s
def fx_P_sum (n : Nat) (A : ZPF) : ZPF := fun a s => f_P_sum (fx_P_denied n A) n a s
def fx_P_compared (n : Nat) (A : ZPF) : ZPF := fun a s => f_P_compared (fx_P_sum n A) a s
def fx_P_allOf (n : Nat) (A : ZPF) : ZPF := fun a s => f_P_allOf (fx_P_compared n A) n a s
def fx_P_anyOf (n : Nat) : Nat → ZPF
  | 0 => fun _ _ => none
  | q + 1 => fun a s => f_P_anyOf (fx_P_allOf n (fx_P_anyOf n q)) n a s
abbrev ZPH (g : ZG) (d : Nat) (y : ZMI) (F : ZPF) : Prop := ∀ (a0 : Int32) (s : ZSt), ZF g d y [.ref 200, .int a0] s (F a0 s) (fun b => some (.int (b2i b.1))) (fun b => b.2)
theorem okx_P_anyOf (g : ZG) (n : Nat) : ∀ q : Nat, ZPH g (6 * q + 4) y_P_anyOf (fx_P_anyOf n q) := by
  intro q
  induction q with
  | zero => intro a s x hx; cases hx
  | succ q ih =>
    have h1 : ZPH g (6 * q + 5) y_P_thing (fx_P_thing (fx_P_anyOf n q)) := fun a s => ok_P_thing g (6 * q + 4) (by omega) _ _ (Nat.le_refl _) ih a s
    have h2 : ZPH g (6 * q + 6) y_P_denied (fx_P_denied n (fx_P_anyOf n q)) := fun a s => ok_P_denied g (6 * q + 5) (by omega) _ _ (Nat.le_refl _) h1 n a s
    have h3 : ZPH g (6 * q + 7) y_P_sum (fx_P_sum n (fx_P_anyOf n q)) := fun a s => ok_P_sum g (6 * q + 6) (by omega) _ _ (Nat.le_refl _) h2 n a s
    have h4 : ZPH g (6 * q + 8) y_P_compared (fx_P_compared n (fx_P_anyOf n q)) := fun a s => ok_P_compared g (6 * q + 7) (by omega) _ _ (Nat.le_refl _) h3 a s
    have h5 : ZPH g (6 * q + 9) y_P_allOf (fx_P_allOf n (fx_P_anyOf n q)) := fun a s => ok_P_allOf g (6 * q + 8) (by omega) _ _ (Nat.le_refl _) h4 n a s
    exact fun a s => ok_P_anyOf g (6 * q + 9) (by omega) _ _ (Nat.le_refl _) h5 n a s
def fc_P_whole (n : Nat) (a0 : Nat) (s : ZSt) : Option (Bool × ZSt) := f_P_whole (fx_P_anyOf n 6) a0 s
theorem okc_P_whole (g : ZG) (n : Nat) (a0 : Nat) (s : ZSt) : ZF g 41 y_P_whole [.ref 200, .ref a0] s (fc_P_whole n a0 s) (fun b => some (.int (b2i b.1))) (fun b => b.2) :=
  ok_P_whole g 40 (by omega) (fx_P_anyOf n 6) 40 (Nat.le_refl _) (okx_P_anyOf g n 6) a0 s
def f_P_later (n : Nat) (s : ZSt) : Option (Bool × ZSt) :=
  bn (f_P_takes (59 : Int32) s) (fun p1 =>
  (if p1.1 = true then
  (if (gi p1.2 200 7) ≤ (gi p1.2 200 6) then
    some (false, p1.2)
  else gd (inb (gi p1.2 200 6) 80) (
      (if (ai p1.2 224 (gi p1.2 200 6)) < (49 : Int32) then
      some (false, p1.2)
    else (if (ai p1.2 224 (gi p1.2 200 6)) ≤ (54 : Int32) then
        lt (si p1.2 200 2 ((ai p1.2 224 (gi p1.2 200 6)) - (48 : Int32))) (fun s7 =>
          lt (si s7 200 6 ((gi s7 200 6) + (1 : Int32))) (fun s8 =>
          bn (f_P_takes (59 : Int32) s8) (fun p9 =>
          (jn (fun (x10 : ZSt) =>
            some (false, x10)) (fun j11 =>
            if p9.1 = true then
          bn (fc_P_whole n 354 p9.2) (fun p13 =>
            (if p13.1 = true then
            some (true, p13.2)
          else j11 p13.2))
        else j11 p9.2)))))
      else some (false, p1.2)))))
else some (false, p1.2)))
set_option maxHeartbeats 4000000 in
set_option maxRecDepth 20000 in
theorem ok_P_later (g : ZG) (n : Nat) (s : ZSt) : ZF g 42 y_P_later [.ref 200] s (f_P_later n s) (fun b => some (.int (b2i b.1))) (fun b => b.2) := by
  refine ZF.of (by decide +kernel) (Nat.le_of_ble_eq_true rfl) ?_
  unfold f_P_later
  show ZO g 42 y_P_later zu0 0 [(0, .ref 200)] [] s _ _
  refine ZO.aload_n (pc := 0) 0 d_P_later_0 rfl rfl ?_
  refine ZO.bipush (pc := 1) (59 : Int32) d_P_later_1 (by decide) ?_
  refine ZO.cVB (pc := 3) (As := [.int (59 : Int32)]) (rest := []) d_P_later_3 zc_P_58 (by decide) zo_200 rfl rfl rfl (Nat.le_of_ble_eq_true rfl) (ok_P_takes g (59 : Int32) s) (fun p1 ep1 => ?_)
  refine ZO.ifb_eq (pc := 6) 48 d_P_later_6 (by decide) rfl (fun h2 => ?_) (fun h2 => ?_)
  · refine ZO.aload_n (pc := 9) 0 d_P_later_9 rfl rfl ?_
    refine ZO.getI (pc := 10) d_P_later_10 zo_200 zf_P_41 rfl ?_
    refine ZO.aload_n (pc := 13) 0 d_P_later_13 rfl rfl ?_
    refine ZO.getI (pc := 14) d_P_later_14 zo_200 zf_P_38 rfl ?_
    refine ZO.icmp_ge (pc := 17) 48 d_P_later_17 (by decide) rfl (fun h3 => ?_) (fun h3 => ?_)
    · refine ZO.iconst (pc := 48) (0 : Int32) d_P_later_48 (by decide) ?_
      exact ZO.zret (pc := 49) (v := false) d_P_later_49 rfl rfl rfl
    · refine ZO.aload_n (pc := 20) 0 d_P_later_20 rfl rfl ?_
      refine ZO.getA (pc := 21) 224 d_P_later_21 zo_200 zf_P_21 rfl rfl ?_
      refine ZO.aload_n (pc := 24) 0 d_P_later_24 rfl rfl ?_
      refine ZO.getI (pc := 25) d_P_later_25 zo_200 zf_P_41 rfl ?_
      refine ZO.rgd (fun h4 => ?_)
      refine ZO.iald (pc := 28) d_P_later_28 za_224 h4 ?_
      refine ZO.bipush (pc := 29) (49 : Int32) d_P_later_29 (by decide) ?_
      refine ZO.icmp_lt (pc := 31) 48 d_P_later_31 (by decide) rfl (fun h5 => ?_) (fun h5 => ?_)
      · refine ZO.iconst (pc := 48) (0 : Int32) d_P_later_48 (by decide) ?_
        exact ZO.zret (pc := 49) (v := false) d_P_later_49 rfl rfl rfl
      · refine ZO.aload_n (pc := 34) 0 d_P_later_34 rfl rfl ?_
        refine ZO.getA (pc := 35) 224 d_P_later_35 zo_200 zf_P_21 rfl rfl ?_
        refine ZO.aload_n (pc := 38) 0 d_P_later_38 rfl rfl ?_
        refine ZO.getI (pc := 39) d_P_later_39 zo_200 zf_P_41 rfl ?_
        refine ZO.iald (pc := 42) d_P_later_42 za_224 h4 ?_
        refine ZO.bipush (pc := 43) (54 : Int32) d_P_later_43 (by decide) ?_
        refine ZO.icmp_le (pc := 45) 50 d_P_later_45 (by decide) rfl (fun h6 => ?_) (fun h6 => ?_)
        · refine ZO.aload_n (pc := 50) 0 d_P_later_50 rfl rfl ?_
          refine ZO.aload_n (pc := 51) 0 d_P_later_51 rfl rfl ?_
          refine ZO.getA (pc := 52) 224 d_P_later_52 zo_200 zf_P_21 rfl rfl ?_
          refine ZO.aload_n (pc := 55) 0 d_P_later_55 rfl rfl ?_
          refine ZO.getI (pc := 56) d_P_later_56 zo_200 zf_P_41 rfl ?_
          refine ZO.iald (pc := 59) d_P_later_59 za_224 h4 ?_
          refine ZO.bipush (pc := 60) (48 : Int32) d_P_later_60 (by decide) ?_
          refine ZO.isub (pc := 62) d_P_later_62 ?_
          refine ZO.putI (pc := 63) d_P_later_63 zo_200 zp_P_44 rfl ?_
          refine ZO.ltS (fun s7 => ?_)
          refine ZO.aload_n (pc := 66) 0 d_P_later_66 rfl rfl ?_
          refine ZO.dup (pc := 67) d_P_later_67 rfl ?_
          refine ZO.getI (pc := 68) d_P_later_68 zo_200 zf_P_41 rfl ?_
          refine ZO.iconst (pc := 71) (1 : Int32) d_P_later_71 (by decide) ?_
          refine ZO.iadd (pc := 72) d_P_later_72 ?_
          refine ZO.putI (pc := 73) d_P_later_73 zo_200 zp_P_41 rfl ?_
          refine ZO.ltS (fun s8 => ?_)
          refine ZO.aload_n (pc := 76) 0 d_P_later_76 rfl rfl ?_
          refine ZO.bipush (pc := 77) (59 : Int32) d_P_later_77 (by decide) ?_
          refine ZO.cVB (pc := 79) (As := [.int (59 : Int32)]) (rest := []) d_P_later_79 zc_P_58 (by decide) zo_200 rfl rfl rfl (Nat.le_of_ble_eq_true rfl) (ok_P_takes g (59 : Int32) s8) (fun p9 ep9 => ?_)
          refine ZO.rjn (pcJ := 100) (LJ := fun (x10 : ZSt) => ([] : List (Nat × Value))) (SJ := fun (x10 : ZSt) => ([] : List Value)) (σJ := fun (x10 : ZSt) => x10) (fun x10 => ?_) (fun j11 hj11 => ?_)
          · refine ZO.iconst (pc := 100) (0 : Int32) d_P_later_100 (by decide) ?_
            exact ZO.zret (pc := 101) (v := false) d_P_later_101 rfl rfl rfl
          · refine ZO.ifb_eq (pc := 82) 100 d_P_later_82 (by decide) rfl (fun h12 => ?_) (fun h12 => ?_)
            · refine ZO.aload_n (pc := 85) 0 d_P_later_85 rfl rfl ?_
              refine ZO.aload_n (pc := 86) 0 d_P_later_86 rfl rfl ?_
              refine ZO.getA (pc := 87) 354 d_P_later_87 zo_200 zf_P_18 rfl rfl ?_
              refine ZO.cVB (pc := 90) (As := [.ref 354]) (rest := []) d_P_later_90 zc_P_50 (by decide) zo_200 rfl rfl rfl (Nat.le_of_ble_eq_true rfl) (okc_P_whole g n 354 p9.2) (fun p13 ep13 => ?_)
              refine ZO.ifb_eq (pc := 93) 100 d_P_later_93 (by decide) rfl (fun h14 => ?_) (fun h14 => ?_)
              · refine ZO.iconst (pc := 96) (1 : Int32) d_P_later_96 (by decide) ?_
                refine ZO.goto (pc := 97) 101 d_P_later_97 (by decide) ?_
                exact ZO.zret (pc := 101) (v := true) d_P_later_101 rfl rfl rfl
              · exact ZO.sub [] rfl (hj11 p13.2)
            · exact ZO.sub [] rfl (hj11 p9.2)
        · refine ZO.iconst (pc := 48) (0 : Int32) d_P_later_48 (by decide) ?_
          exact ZO.zret (pc := 49) (v := false) d_P_later_49 rfl rfl rfl
  · refine ZO.iconst (pc := 48) (0 : Int32) d_P_later_48 (by decide) ?_
    exact ZO.zret (pc := 49) (v := false) d_P_later_49 rfl rfl rfl
def f_P_parse (n : Nat) (a0 : Int32) (a1 : Bool) (s : ZSt) : Option (Int32 × ZSt) :=
  lt (si s 200 7 (imin (gi s 200 3) a0)) (fun s1 =>
  lt (si s1 200 6 (0 : Int32)) (fun s2 =>
  lt (si s2 200 2 (0 : Int32)) (fun s3 =>
  bn (f_E_clear 354 s3) (fun p4 =>
  bn (fc_P_whole n 353 p4) (fun p5 =>
  (jn (fun (x6 : Int32 × ZSt) =>
    lt (si x6.2 200 3 (0 : Int32)) (fun s7 =>
      (if x6.1 = 0 then
      some ((gi s7 200 6), s7)
    else some ((-1 : Int32), s7)))) (fun j9 =>
    jn (fun (x10 : ZSt) =>
    j9 ((0 : Int32), x10)) (fun j11 =>
    if p5.1 = true then
  (jn (fun (x13 : ZSt) =>
      (if (gi x13 200 6) = (gi x13 200 7) then
        (if a0 < (gi x13 200 3) then
          j11 x13
        else j9 ((1 : Int32), x13))
      else j11 x13)) (fun j16 =>
      if (gi p5.2 200 6) = (gi p5.2 200 7) then
    j16 p5.2
  else (if a1 = true then
      bn (f_P_later n p5.2) (fun p19 =>
        (if p19.1 = true then
        j16 p19.2
      else j11 p19.2))
    else j11 p5.2)))
else j11 p5.2))))))))
set_option maxHeartbeats 4000000 in
set_option maxRecDepth 20000 in
theorem ok_P_parse (g : ZG) (n : Nat) (a0 : Int32) (a1 : Bool) (s : ZSt) : ZF g 43 y_P_parse [.ref 200, .int a0, .int (b2i a1)] s (f_P_parse n a0 a1 s) (fun b => some (.int b.1)) (fun b => b.2) := by
  refine ZF.of (by decide +kernel) (Nat.le_of_ble_eq_true rfl) ?_
  unfold f_P_parse
  show ZO g 43 y_P_parse zu0 0 [(0, .ref 200), (1, .int a0), (2, .int (b2i a1))] [] s _ _
  refine ZO.aload_n (pc := 0) 0 d_P_parse_0 rfl rfl ?_
  refine ZO.aload_n (pc := 1) 0 d_P_parse_1 rfl rfl ?_
  refine ZO.getI (pc := 2) d_P_parse_2 zo_200 zf_P_28 rfl ?_
  refine ZO.iload_n (pc := 5) 1 d_P_parse_5 rfl rfl ?_
  refine ZO.imin (pc := 6) d_P_parse_6 zm_P_32 (by decide) (Nat.le_of_ble_eq_true rfl) ?_
  refine ZO.putI (pc := 9) d_P_parse_9 zo_200 zp_P_38 rfl ?_
  refine ZO.ltS (fun s1 => ?_)
  refine ZO.aload_n (pc := 12) 0 d_P_parse_12 rfl rfl ?_
  refine ZO.iconst (pc := 13) (0 : Int32) d_P_parse_13 (by decide) ?_
  refine ZO.putI (pc := 14) d_P_parse_14 zo_200 zp_P_41 rfl ?_
  refine ZO.ltS (fun s2 => ?_)
  refine ZO.aload_n (pc := 17) 0 d_P_parse_17 rfl rfl ?_
  refine ZO.iconst (pc := 18) (0 : Int32) d_P_parse_18 (by decide) ?_
  refine ZO.putI (pc := 19) d_P_parse_19 zo_200 zp_P_44 rfl ?_
  refine ZO.ltS (fun s3 => ?_)
  refine ZO.aload_n (pc := 22) 0 d_P_parse_22 rfl rfl ?_
  refine ZO.getA (pc := 23) 354 d_P_parse_23 zo_200 zf_P_18 rfl rfl ?_
  refine ZO.cVV (pc := 26) (As := []) (rest := []) d_P_parse_26 zc_P_47 (by decide) zo_354 rfl rfl rfl (Nat.le_of_ble_eq_true rfl) (ok_E_clear g 354 s3) (fun p4 ep4 => ?_)
  refine ZO.aload_n (pc := 29) 0 d_P_parse_29 rfl rfl ?_
  refine ZO.aload_n (pc := 30) 0 d_P_parse_30 rfl rfl ?_
  refine ZO.getA (pc := 31) 353 d_P_parse_31 zo_200 zf_P_12 rfl rfl ?_
  refine ZO.cVB (pc := 34) (As := [.ref 353]) (rest := []) d_P_parse_34 zc_P_50 (by decide) zo_200 rfl rfl rfl (Nat.le_of_ble_eq_true rfl) (okc_P_whole g n 353 p4) (fun p5 ep5 => ?_)
  refine ZO.rjn (pcJ := 86) (LJ := fun (x6 : Int32 × ZSt) => ([(0, .ref 200)] : List (Nat × Value))) (SJ := fun (x6 : Int32 × ZSt) => ([.int x6.1] : List Value)) (σJ := fun (x6 : Int32 × ZSt) => x6.2) (fun x6 => ?_) (fun j9 hj9 => ?_)
  · refine ZO.istore_n (pc := 86) (v := x6.1) (L' := [(0, .ref 200), (3, .int x6.1)]) [1, 0] d_P_parse_86 rfl (by decide) rfl ?_
    refine ZO.aload_n (pc := 87) 0 d_P_parse_87 rfl rfl ?_
    refine ZO.iconst (pc := 88) (0 : Int32) d_P_parse_88 (by decide) ?_
    refine ZO.putI (pc := 89) d_P_parse_89 zo_200 zp_P_28 rfl ?_
    refine ZO.ltS (fun s7 => ?_)
    refine ZO.iload_n (pc := 92) 1 d_P_parse_92 rfl rfl ?_
    refine ZO.if_eq (pc := 93) 100 d_P_parse_93 (by decide) rfl (fun h8 => ?_) (fun h8 => ?_)
    · refine ZO.aload_n (pc := 100) 0 d_P_parse_100 rfl rfl ?_
      refine ZO.getI (pc := 101) d_P_parse_101 zo_200 zf_P_41 rfl ?_
      exact ZO.iret (pc := 104)  d_P_parse_104 rfl rfl rfl
    · refine ZO.iconst (pc := 96) (-1 : Int32) d_P_parse_96 (by decide) ?_
      refine ZO.goto (pc := 97) 104 d_P_parse_97 (by decide) ?_
      exact ZO.iret (pc := 104)  d_P_parse_104 rfl rfl rfl
  · refine ZO.rjn (pcJ := 85) (LJ := fun (x10 : ZSt) => ([(0, .ref 200)] : List (Nat × Value))) (SJ := fun (x10 : ZSt) => ([] : List Value)) (σJ := fun (x10 : ZSt) => x10) (fun x10 => ?_) (fun j11 hj11 => ?_)
    · refine ZO.iconst (pc := 85) (0 : Int32) d_P_parse_85 (by decide) ?_
      exact hj9 ((0 : Int32), x10)
    · refine ZO.ifb_eq (pc := 37) 85 d_P_parse_37 (by decide) rfl (fun h12 => ?_) (fun h12 => ?_)
      · refine ZO.aload_n (pc := 40) 0 d_P_parse_40 rfl rfl ?_
        refine ZO.getI (pc := 41) d_P_parse_41 zo_200 zf_P_41 rfl ?_
        refine ZO.aload_n (pc := 44) 0 d_P_parse_44 rfl rfl ?_
        refine ZO.getI (pc := 45) d_P_parse_45 zo_200 zf_P_38 rfl ?_
        refine ZO.rjn (pcJ := 62) (LJ := fun (x13 : ZSt) => ([(0, .ref 200), (1, .int a0)] : List (Nat × Value))) (SJ := fun (x13 : ZSt) => ([] : List Value)) (σJ := fun (x13 : ZSt) => x13) (fun x13 => ?_) (fun j16 hj16 => ?_)
        · refine ZO.aload_n (pc := 62) 0 d_P_parse_62 rfl rfl ?_
          refine ZO.getI (pc := 63) d_P_parse_63 zo_200 zf_P_41 rfl ?_
          refine ZO.aload_n (pc := 66) 0 d_P_parse_66 rfl rfl ?_
          refine ZO.getI (pc := 67) d_P_parse_67 zo_200 zf_P_38 rfl ?_
          refine ZO.icmp_ne (pc := 70) 85 d_P_parse_70 (by decide) rfl (fun h14 => ?_) (fun h14 => ?_)
          · refine ZO.aload_n (pc := 73) 0 d_P_parse_73 rfl rfl ?_
            refine ZO.getI (pc := 74) d_P_parse_74 zo_200 zf_P_28 rfl ?_
            refine ZO.iload_n (pc := 77) 1 d_P_parse_77 rfl rfl ?_
            refine ZO.icmp_gt (pc := 78) 85 d_P_parse_78 (by decide) rfl (fun h15 => ?_) (fun h15 => ?_)
            · exact ZO.sub [0] rfl (hj11 x13)
            · refine ZO.iconst (pc := 81) (1 : Int32) d_P_parse_81 (by decide) ?_
              refine ZO.goto (pc := 82) 86 d_P_parse_82 (by decide) ?_
              exact ZO.sub [0] rfl (hj9 ((1 : Int32), x13))
          · exact ZO.sub [0] rfl (hj11 x13)
        · refine ZO.icmp_eq (pc := 48) 62 d_P_parse_48 (by decide) rfl (fun h17 => ?_) (fun h17 => ?_)
          · exact ZO.sub [0, 1] rfl (hj16 p5.2)
          · refine ZO.iload_n (pc := 51) 2 d_P_parse_51 rfl rfl ?_
            refine ZO.ifb_eq (pc := 52) 85 d_P_parse_52 (by decide) rfl (fun h18 => ?_) (fun h18 => ?_)
            · refine ZO.aload_n (pc := 55) 0 d_P_parse_55 rfl rfl ?_
              refine ZO.cVB (pc := 56) (As := []) (rest := []) d_P_parse_56 zc_P_54 (by decide) zo_200 rfl rfl rfl (Nat.le_of_ble_eq_true rfl) (ok_P_later g n p5.2) (fun p19 ep19 => ?_)
              refine ZO.ifb_eq (pc := 59) 85 d_P_parse_59 (by decide) rfl (fun h20 => ?_) (fun h20 => ?_)
              · exact ZO.sub [0, 1] rfl (hj16 p19.2)
              · exact ZO.sub [0] rfl (hj11 p19.2)
            · exact ZO.sub [0] rfl (hj11 p5.2)
      · exact ZO.sub [0] rfl (hj11 p5.2)
def f_X_book (n : Nat) (a0 : Int32) (s : ZSt) : Option (Int32 × ZSt) :=
  (lt ((if a0 = (12 : Int32) then
  (if (12 : Int32) ≤ (gi s 201 2) then
    (0 : Int32)
  else (1 : Int32))
else (0 : Int32)) : Int32) (fun x1 =>
    (jn (fun (x2 : Unit) =>
        bn (f_P_parse n (60 : Int32) true s) (fun p3 =>
          (if p3.1 = (-1 : Int32) then
          (lt ((if x1 = 0 then
            a0
          else (gi p3.2 201 2)) : Int32) (fun x5 =>
              (jn (fun (x6 : ZSt) =>
                  gd (inb x5 12) (
                    bn (f_B_tell (z_ra 240 x5.toNatClampNeg) x6) (fun p8 =>
                    bn (f_T_forget p8) (fun p9 =>
                    bn (f_X_tableOf n (gl p9 1 8) x5) (fun p10 =>
                    (if p10 = (-1 : Int32) then
                    some (x5, p9)
                  else bn (f_T_settled n (gl p9 1 8) p10 p9) (fun p12 =>
                      lt (sl p12.2 1 8 p12.1) (fun s13 =>
                      some (x5, s13))))))))) (fun j14 =>
                  if x1 = 0 then
                j14 p3.2
              else lt (si p3.2 201 2 ((gi p3.2 201 2) + (1 : Int32))) (fun s16 =>
                  j14 s16)))))
        else some (((-1 : Int32) - p3.1), p3.2)))) (fun j19 =>
        if x1 = 0 then
      (if (f_T_has a0 s) = true then
        j19 ()
      else bn (f_P_clear s) (fun p22 =>
          some ((-100 : Int32), p22)))
    else j19 ()))))
set_option maxHeartbeats 4000000 in
set_option maxRecDepth 20000 in
theorem ok_X_book (g : ZG) (n : Nat) (a0 : Int32) (s : ZSt) : ZF g 44 y_X_book [.ref 1, .int a0] s (f_X_book n a0 s) (fun b => some (.int b.1)) (fun b => b.2) := by
  refine ZF.of (by decide +kernel) (Nat.le_of_ble_eq_true rfl) ?_
  unfold f_X_book
  show ZO g 44 y_X_book zu0 0 [(0, .ref 1), (1, .int a0)] [] s _ _
  refine ZO.iload_n (pc := 0) 1 d_X_book_0 rfl rfl ?_
  refine ZO.bipush (pc := 1) (12 : Int32) d_X_book_1 (by decide) ?_
  refine ZO.phi (pcJ := 23) (LJ := fun (x1 : Int32) => ([(0, .ref 1), (1, .int a0)] : List (Nat × Value))) (SJ := fun (x1 : Int32) => ([.int x1] : List Value)) (fun x1 => ?_) (fun t hj23 => ?_)
  · refine ZO.istore_n (pc := 23) (v := x1) (L' := [(0, .ref 1), (1, .int a0), (2, .int x1)]) [1, 2, 0] d_X_book_23 rfl (by decide) rfl ?_
    refine ZO.iload_n (pc := 24) 2 d_X_book_24 rfl rfl ?_
    refine ZO.rjn (pcJ := 49) (LJ := fun (x2 : Unit) => ([(0, .ref 1), (1, .int a0), (2, .int x1)] : List (Nat × Value))) (SJ := fun (x2 : Unit) => ([] : List Value)) (σJ := fun (x2 : Unit) => s) (fun x2 => ?_) (fun j19 hj19 => ?_)
    · refine ZO.aload_n (pc := 49) 0 d_X_book_49 rfl rfl ?_
      refine ZO.getA (pc := 50) 200 d_X_book_50 zo_1 zf_X_12 rfl rfl ?_
      refine ZO.bipush (pc := 53) (60 : Int32) d_X_book_53 (by decide) ?_
      refine ZO.iconst (pc := 55) (1 : Int32) d_X_book_55 (by decide) ?_
      refine ZO.cVI (pc := 56) (As := [.int (60 : Int32), .int (b2i true)]) (rest := []) d_X_book_56 zc_X_98 (by decide) zo_200 rfl rfl rfl (Nat.le_of_ble_eq_true rfl) (ok_P_parse g n (60 : Int32) true s) (fun p3 ep3 => ?_)
      refine ZO.istore_n (pc := 59) (v := p3.1) (L' := [(0, .ref 1), (1, .int a0), (2, .int x1), (3, .int p3.1)]) [1, 2, 3, 0] d_X_book_59 rfl (by decide) rfl ?_
      refine ZO.iload_n (pc := 60) 3 d_X_book_60 rfl rfl ?_
      refine ZO.iconst (pc := 61) (-1 : Int32) d_X_book_61 (by decide) ?_
      refine ZO.icmp_eq (pc := 62) 69 d_X_book_62 (by decide) rfl (fun h4 => ?_) (fun h4 => ?_)
      · refine ZO.iload_n (pc := 69) 2 d_X_book_69 rfl rfl ?_
        refine ZO.phi (pcJ := 84) (LJ := fun (x5 : Int32) => ([(0, .ref 1), (2, .int x1)] : List (Nat × Value))) (SJ := fun (x5 : Int32) => ([.int x5] : List Value)) (fun x5 => ?_) (fun t hj17 => ?_)
        · refine ZO.istore (pc := 84) (v := x5) (L' := [(0, .ref 1), (2, .int x1), (4, .int x5)]) [1, 2, 0] d_X_book_84 (by decide) rfl ?_
          refine ZO.iload_n (pc := 86) 1 d_X_book_86 rfl rfl ?_
          refine ZO.rjn (pcJ := 103) (LJ := fun (x6 : ZSt) => ([(0, .ref 1), (4, .int x5)] : List (Nat × Value))) (SJ := fun (x6 : ZSt) => ([] : List Value)) (σJ := fun (x6 : ZSt) => x6) (fun x6 => ?_) (fun j14 hj14 => ?_)
          · refine ZO.aload_n (pc := 103) 0 d_X_book_103 rfl rfl ?_
            refine ZO.getA (pc := 104) 201 d_X_book_104 zo_1 zf_X_19 rfl rfl ?_
            refine ZO.getA (pc := 107) 240 d_X_book_107 zo_201 zf_X_102 rfl rfl ?_
            refine ZO.iload (pc := 110) 1 d_X_book_110 rfl ?_
            refine ZO.rgd (fun h7 => ?_)
            refine ZO.aald (pc := 112) (q0 := 0) d_X_book_112 (by decide) za_240 h7 ?_
            refine ZO.aload_n (pc := 113) 0 d_X_book_113 rfl rfl ?_
            refine ZO.getA (pc := 114) 200 d_X_book_114 zo_1 zf_X_12 rfl rfl ?_
            refine ZO.cVV (pc := 117) (As := [.ref 200]) (rest := []) d_X_book_117 zc_X_106 (by decide) (zr_b h7) rfl rfl rfl (Nat.le_of_ble_eq_true rfl) (ok_B_tell g (z_ra 240 x5.toNatClampNeg) x6) (fun p8 ep8 => ?_)
            refine ZO.aload_n (pc := 120) 0 d_X_book_120 rfl rfl ?_
            refine ZO.getA (pc := 121) 201 d_X_book_121 zo_1 zf_X_19 rfl rfl ?_
            refine ZO.cVV (pc := 124) (As := []) (rest := []) d_X_book_124 zc_X_112 (by decide) zo_201 rfl rfl rfl (Nat.le_of_ble_eq_true rfl) (ok_T_forget g p8) (fun p9 ep9 => ?_)
            refine ZO.aload_n (pc := 127) 0 d_X_book_127 rfl rfl ?_
            refine ZO.getJ (pc := 128) d_X_book_128 zo_1 zf_X_115 rfl ?_
            refine ZO.iload (pc := 131) 1 d_X_book_131 rfl ?_
            refine ZO.cSI (pc := 133) (As := [.long (gl p9 1 8), .int x5]) (rest := []) d_X_book_133 zc_X_119 (by decide) rfl rfl (Nat.le_of_ble_eq_true rfl) (ok_X_tableOf g n (gl p9 1 8) x5 p9) (fun p10 ep10 => ?_)
            refine ZO.istore (pc := 136) (v := p10) (L' := [(0, .ref 1), (4, .int x5), (5, .int p10)]) [1, 2, 0] d_X_book_136 (by decide) rfl ?_
            refine ZO.iload (pc := 138) 2 d_X_book_138 rfl ?_
            refine ZO.iconst (pc := 140) (-1 : Int32) d_X_book_140 (by decide) ?_
            refine ZO.icmp_eq (pc := 141) 161 d_X_book_141 (by decide) rfl (fun h11 => ?_) (fun h11 => ?_)
            · refine ZO.iload (pc := 161) 1 d_X_book_161 rfl ?_
              exact ZO.iret (pc := 163)  d_X_book_163 rfl rfl rfl
            · refine ZO.aload_n (pc := 144) 0 d_X_book_144 rfl rfl ?_
              refine ZO.aload_n (pc := 145) 0 d_X_book_145 rfl rfl ?_
              refine ZO.getA (pc := 146) 201 d_X_book_146 zo_1 zf_X_19 rfl rfl ?_
              refine ZO.aload_n (pc := 149) 0 d_X_book_149 rfl rfl ?_
              refine ZO.getJ (pc := 150) d_X_book_150 zo_1 zf_X_115 rfl ?_
              refine ZO.iload (pc := 153) 2 d_X_book_153 rfl ?_
              refine ZO.cVJ (pc := 155) (As := [.long (gl p9 1 8), .int p10]) (rest := [.ref 1]) d_X_book_155 zc_X_123 (by decide) zo_201 rfl rfl rfl (Nat.le_of_ble_eq_true rfl) (ok_T_settled g n (gl p9 1 8) p10 p9) (fun p12 ep12 => ?_)
              refine ZO.putJ (pc := 158) d_X_book_158 zo_1 zp_X_115 rfl ?_
              refine ZO.ltS (fun s13 => ?_)
              refine ZO.iload (pc := 161) 1 d_X_book_161 rfl ?_
              exact ZO.iret (pc := 163)  d_X_book_163 rfl rfl rfl
          · refine ZO.if_eq (pc := 87) 103 d_X_book_87 (by decide) rfl (fun h15 => ?_) (fun h15 => ?_)
            · exact ZO.sub [0, 2] rfl (hj14 p3.2)
            · refine ZO.aload_n (pc := 90) 0 d_X_book_90 rfl rfl ?_
              refine ZO.getA (pc := 91) 201 d_X_book_91 zo_1 zf_X_19 rfl rfl ?_
              refine ZO.dup (pc := 94) d_X_book_94 rfl ?_
              refine ZO.getI (pc := 95) d_X_book_95 zo_201 zf_X_88 rfl ?_
              refine ZO.iconst (pc := 98) (1 : Int32) d_X_book_98 (by decide) ?_
              refine ZO.iadd (pc := 99) d_X_book_99 ?_
              refine ZO.putI (pc := 100) d_X_book_100 zo_201 zp_X_88 rfl ?_
              refine ZO.ltS (fun s16 => ?_)
              exact ZO.sub [0, 2] rfl (hj14 s16)
        · refine ZO.if_eq (pc := 70) 83 d_X_book_70 (by decide) z_ite (fun h18 => ?_) (fun h18 => ?_)
          · refine ZO.iload_n (pc := 83) 1 d_X_book_83 rfl rfl ?_
            exact ZO.sub [0, 2] rfl (hj17 a0 (by rw [if_pos h18]))
          · refine ZO.aload_n (pc := 73) 0 d_X_book_73 rfl rfl ?_
            refine ZO.getA (pc := 74) 201 d_X_book_74 zo_1 zf_X_19 rfl rfl ?_
            refine ZO.getI (pc := 77) d_X_book_77 zo_201 zf_X_88 rfl ?_
            refine ZO.goto (pc := 80) 84 d_X_book_80 (by decide) ?_
            exact ZO.sub [0, 2] rfl (hj17 (gi p3.2 201 2) (by rw [if_neg h18]))
      · refine ZO.iconst (pc := 65) (-1 : Int32) d_X_book_65 (by decide) ?_
        refine ZO.iload_n (pc := 66) 3 d_X_book_66 rfl rfl ?_
        refine ZO.isub (pc := 67) d_X_book_67 ?_
        exact ZO.iret (pc := 68)  d_X_book_68 rfl rfl rfl
    · refine ZO.if_ne (pc := 25) 49 d_X_book_25 (by decide) rfl (fun h20 => ?_) (fun h20 => ?_)
      · refine ZO.aload_n (pc := 28) 0 d_X_book_28 rfl rfl ?_
        refine ZO.getA (pc := 29) 201 d_X_book_29 zo_1 zf_X_19 rfl rfl ?_
        refine ZO.iload_n (pc := 32) 1 d_X_book_32 rfl rfl ?_
        refine ZO.tVB (pc := 33) (As := [.int a0]) (rest := []) d_X_book_33 zc_X_92 (by decide) zo_201 rfl rfl rfl (Nat.le_of_ble_eq_true rfl) (ok_T_has g a0 s) ?_
        refine ZO.ifb_ne (pc := 36) 49 d_X_book_36 (by decide) rfl (fun h21 => ?_) (fun h21 => ?_)
        · exact hj19 ()
        · refine ZO.aload_n (pc := 39) 0 d_X_book_39 rfl rfl ?_
          refine ZO.getA (pc := 40) 200 d_X_book_40 zo_1 zf_X_12 rfl rfl ?_
          refine ZO.cVV (pc := 43) (As := []) (rest := []) d_X_book_43 zc_X_95 (by decide) zo_200 rfl rfl rfl (Nat.le_of_ble_eq_true rfl) (ok_P_clear g s) (fun p22 ep22 => ?_)
          refine ZO.bipush (pc := 46) (-100 : Int32) d_X_book_46 (by decide) ?_
          exact ZO.iret (pc := 48)  d_X_book_48 rfl rfl rfl
      · exact hj19 ()
  · refine ZO.icmp_ne (pc := 3) 22 d_X_book_3 (by decide) z_ite (fun h24 => ?_) (fun h24 => ?_)
    · refine ZO.aload_n (pc := 6) 0 d_X_book_6 rfl rfl ?_
      refine ZO.getA (pc := 7) 201 d_X_book_7 zo_1 zf_X_19 rfl rfl ?_
      refine ZO.getI (pc := 10) d_X_book_10 zo_201 zf_X_88 rfl ?_
      refine ZO.bipush (pc := 13) (12 : Int32) d_X_book_13 (by decide) ?_
      refine ZO.icmp_ge (pc := 15) 22 d_X_book_15 (by decide) z_ite (fun h25 => ?_) (fun h25 => ?_)
      · refine ZO.iconst (pc := 22) (0 : Int32) d_X_book_22 (by decide) ?_
        exact hj23 (0 : Int32) (by rw [if_pos h24, if_pos h25])
      · refine ZO.iconst (pc := 18) (1 : Int32) d_X_book_18 (by decide) ?_
        refine ZO.goto (pc := 19) 23 d_X_book_19 (by decide) ?_
        exact hj23 (1 : Int32) (by rw [if_pos h24, if_neg h25])
    · refine ZO.iconst (pc := 22) (0 : Int32) d_X_book_22 (by decide) ?_
      exact hj23 (0 : Int32) (by rw [if_neg h24])
def f_X_rule (n : Nat) (s : ZSt) : Option (Int32 × ZSt) :=
  (if (gi s 200 3) = 0 then
  bn (f_E_clear 352 s) (fun p2 =>
    some ((0 : Int32), p2))
else bn (f_P_parse n (40 : Int32) false s) (fun p3 =>
    (if p3.1 = (-1 : Int32) then
    bn (f_E_copy 352 353 p3.2) (fun p5 =>
      some ((0 : Int32), p5))
  else some (((-1 : Int32) - p3.1), p3.2))))
set_option maxHeartbeats 4000000 in
set_option maxRecDepth 20000 in
theorem ok_X_rule (g : ZG) (n : Nat) (s : ZSt) : ZF g 44 y_X_rule [.ref 1] s (f_X_rule n s) (fun b => some (.int b.1)) (fun b => b.2) := by
  refine ZF.of (by decide +kernel) (Nat.le_of_ble_eq_true rfl) ?_
  unfold f_X_rule
  show ZO g 44 y_X_rule zu0 0 [(0, .ref 1)] [] s _ _
  refine ZO.aload_n (pc := 0) 0 d_X_rule_0 rfl rfl ?_
  refine ZO.getA (pc := 1) 200 d_X_rule_1 zo_1 zf_X_12 rfl rfl ?_
  refine ZO.getI (pc := 4) d_X_rule_4 zo_200 zf_X_127 rfl ?_
  refine ZO.if_ne (pc := 7) 19 d_X_rule_7 (by decide) rfl (fun h1 => ?_) (fun h1 => ?_)
  · refine ZO.aload_n (pc := 10) 0 d_X_rule_10 rfl rfl ?_
    refine ZO.getA (pc := 11) 352 d_X_rule_11 zo_1 zf_X_40 rfl rfl ?_
    refine ZO.cVV (pc := 14) (As := []) (rest := []) d_X_rule_14 zc_X_130 (by decide) zo_352 rfl rfl rfl (Nat.le_of_ble_eq_true rfl) (ok_E_clear g 352 s) (fun p2 ep2 => ?_)
    refine ZO.iconst (pc := 17) (0 : Int32) d_X_rule_17 (by decide) ?_
    exact ZO.iret (pc := 18)  d_X_rule_18 rfl rfl rfl
  · refine ZO.aload_n (pc := 19) 0 d_X_rule_19 rfl rfl ?_
    refine ZO.getA (pc := 20) 200 d_X_rule_20 zo_1 zf_X_12 rfl rfl ?_
    refine ZO.bipush (pc := 23) (40 : Int32) d_X_rule_23 (by decide) ?_
    refine ZO.iconst (pc := 25) (0 : Int32) d_X_rule_25 (by decide) ?_
    refine ZO.cVI (pc := 26) (As := [.int (40 : Int32), .int (b2i false)]) (rest := []) d_X_rule_26 zc_X_98 (by decide) zo_200 rfl rfl rfl (Nat.le_of_ble_eq_true rfl) (ok_P_parse g n (40 : Int32) false s) (fun p3 ep3 => ?_)
    refine ZO.istore_n (pc := 29) (v := p3.1) (L' := [(0, .ref 1), (1, .int p3.1)]) [1, 0] d_X_rule_29 rfl (by decide) rfl ?_
    refine ZO.iload_n (pc := 30) 1 d_X_rule_30 rfl rfl ?_
    refine ZO.iconst (pc := 31) (-1 : Int32) d_X_rule_31 (by decide) ?_
    refine ZO.icmp_eq (pc := 32) 39 d_X_rule_32 (by decide) rfl (fun h4 => ?_) (fun h4 => ?_)
    · refine ZO.aload_n (pc := 39) 0 d_X_rule_39 rfl rfl ?_
      refine ZO.getA (pc := 40) 352 d_X_rule_40 zo_1 zf_X_40 rfl rfl ?_
      refine ZO.aload_n (pc := 43) 0 d_X_rule_43 rfl rfl ?_
      refine ZO.getA (pc := 44) 200 d_X_rule_44 zo_1 zf_X_12 rfl rfl ?_
      refine ZO.getA (pc := 47) 353 d_X_rule_47 zo_200 zf_X_131 rfl rfl ?_
      refine ZO.cVV (pc := 50) (As := [.ref 353]) (rest := []) d_X_rule_50 zc_X_134 (by decide) zo_352 rfl rfl rfl (Nat.le_of_ble_eq_true rfl) (ok_E_copy g 352 353 p3.2) (fun p5 ep5 => ?_)
      refine ZO.iconst (pc := 53) (0 : Int32) d_X_rule_53 (by decide) ?_
      exact ZO.iret (pc := 54)  d_X_rule_54 rfl rfl rfl
    · refine ZO.iconst (pc := 35) (-1 : Int32) d_X_rule_35 (by decide) ?_
      refine ZO.iload_n (pc := 36) 1 d_X_rule_36 rfl rfl ?_
      refine ZO.isub (pc := 37) d_X_rule_37 ?_
      exact ZO.iret (pc := 38)  d_X_rule_38 rfl rfl rfl
