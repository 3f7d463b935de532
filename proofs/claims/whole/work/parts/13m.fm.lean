def f_M_thing (F_M_ranked : Int32 → ZSt → Option (Bool × ZSt)) (n : Nat) (s : ZSt) : Option (Bool × ZSt) :=
  bn (f_M_isDigit s) (fun p1 =>
  (if p1 = true then
  gd (inb (gi s 0 19) 80) (
    lt ((ai s 117 (gi s 0 19)) - (48 : Int32)) (fun v4 =>
    lt (si s 0 19 ((gi s 0 19) + (1 : Int32))) (fun s5 =>
    bn (f_M_isDigit s5) (fun p6 =>
    (jn (fun (x7 : Int32 × ZSt) =>
      bn (f_M_marks x7.1 x7.2) (fun p8 =>
        some (true, p8))) (fun j9 =>
      if p6 = true then
    gd (inb (gi s5 0 19) 80) (
      lt ((((10 : Int32) * v4) + (ai s5 117 (gi s5 0 19))) - (48 : Int32)) (fun v12 =>
      lt (si s5 0 19 ((gi s5 0 19) + (1 : Int32))) (fun s13 =>
      j9 (v12, s13))))
  else j9 (v4, s5)))))))
else bn (f_M_among n 700 s) (fun p14 =>
    (if p14 < 0 then
    bn (f_M_among n 701 s) (fun p16 =>
      (if p16 < 0 then
      some (false, s)
    else (if (gi s 0 21) = (4 : Int32) then
        some (false, s)
      else lt (si s 0 19 ((gi s 0 19) + (1 : Int32))) (fun s19 =>
          lt (si s19 0 21 ((gi s19 0 21) + (1 : Int32))) (fun s20 =>
          bn (F_M_ranked (0 : Int32) s20) (fun p21 =>
          (if p21.1 = true then
          bn (f_M_takes (41 : Int32) p21.2) (fun p23 =>
            (if p23.1 = true then
            lt (si p23.2 0 21 ((gi p23.2 0 21) - (1 : Int32))) (fun s25 =>
              some (true, s25))
          else some (false, p23.2)))
        else some (false, p21.2))))))))
  else bn (f_M_marks ((1000 : Int32) + p14) s) (fun p26 =>
      lt (si p26 0 19 ((gi p26 0 19) + (1 : Int32))) (fun s27 =>
      some (true, s27)))))))
set_option maxHeartbeats 4000000 in
set_option maxRecDepth 20000 in
theorem ok_M_thing (g : ZG) (dd : Nat) (hdd : 4 ≤ dd) (F_M_ranked : Int32 → ZSt → Option (Bool × ZSt)) (dd_M_ranked : Nat) (hdd_M_ranked : dd_M_ranked ≤ dd) (H_M_ranked : ∀ (a0 : Int32) (s : ZSt), ZF g dd_M_ranked y_M_ranked [.ref 0, .int a0] s (F_M_ranked a0 s) (fun b => some (.int (b2i b.1))) (fun b => b.2)) (n : Nat) (s : ZSt) : ZF g (dd + 1) y_M_thing [.ref 0] s (f_M_thing F_M_ranked n s) (fun b => some (.int (b2i b.1))) (fun b => b.2) := by
  refine ZF.of (by decide +kernel) (Nat.le_of_ble_eq_true rfl) ?_
  unfold f_M_thing
  show ZO g (dd + 1) y_M_thing zu0 0 [(0, .ref 0)] [] s _ _
  refine ZO.aload_n (pc := 0) 0 d_M_thing_0 rfl rfl ?_
  refine ZO.cVB (pc := 1) (As := []) (rest := []) d_M_thing_1 zc_M_72 (by omega) zo_0 rfl rfl rfl (Nat.le_of_ble_eq_true rfl) (ok_M_isDigit g s) (fun p1 ep1 => ?_)
  refine ZO.ifb_eq (pc := 4) 72 d_M_thing_4 (by decide) rfl (fun h2 => ?_) (fun h2 => ?_)
  · refine ZO.aload_n (pc := 7) 0 d_M_thing_7 rfl rfl ?_
    refine ZO.getA (pc := 8) 117 d_M_thing_8 zo_0 zf_M_40 rfl rfl ?_
    refine ZO.aload_n (pc := 11) 0 d_M_thing_11 rfl rfl ?_
    refine ZO.getI (pc := 12) d_M_thing_12 zo_0 zf_M_43 rfl ?_
    refine ZO.rgd (fun h3 => ?_)
    refine ZO.iald (pc := 15) d_M_thing_15 za_117 h3 ?_
    refine ZO.bipush (pc := 16) (48 : Int32) d_M_thing_16 (by decide) ?_
    refine ZO.isub (pc := 18) d_M_thing_18 ?_
    refine ZO.ltI (fun v4 => ?_)
    refine ZO.istore_n (pc := 19) (v := v4) (L' := [(0, .ref 0), (1, .int v4)]) [1, 0] d_M_thing_19 rfl (by decide) rfl ?_
    refine ZO.aload_n (pc := 20) 0 d_M_thing_20 rfl rfl ?_
    refine ZO.dup (pc := 21) d_M_thing_21 rfl ?_
    refine ZO.getI (pc := 22) d_M_thing_22 zo_0 zf_M_43 rfl ?_
    refine ZO.iconst (pc := 25) (1 : Int32) d_M_thing_25 (by decide) ?_
    refine ZO.iadd (pc := 26) d_M_thing_26 ?_
    refine ZO.putI (pc := 27) d_M_thing_27 zo_0 zp_M_43 rfl ?_
    refine ZO.ltS (fun s5 => ?_)
    refine ZO.aload_n (pc := 30) 0 d_M_thing_30 rfl rfl ?_
    refine ZO.cVB (pc := 31) (As := []) (rest := []) d_M_thing_31 zc_M_72 (by omega) zo_0 rfl rfl rfl (Nat.le_of_ble_eq_true rfl) (ok_M_isDigit g s5) (fun p6 ep6 => ?_)
    refine ZO.rjn (pcJ := 65) (LJ := fun (x7 : Int32 × ZSt) => ([(0, .ref 0), (1, .int x7.1)] : List (Nat × Value))) (SJ := fun (x7 : Int32 × ZSt) => ([] : List Value)) (σJ := fun (x7 : Int32 × ZSt) => x7.2) (fun x7 => ?_) (fun j9 hj9 => ?_)
    · refine ZO.aload_n (pc := 65) 0 d_M_thing_65 rfl rfl ?_
      refine ZO.iload_n (pc := 66) 1 d_M_thing_66 rfl rfl ?_
      refine ZO.cVV (pc := 67) (As := [.int x7.1]) (rest := []) d_M_thing_67 zc_M_76 (by omega) zo_0 rfl rfl rfl (Nat.le_of_ble_eq_true rfl) (ok_M_marks g x7.1 x7.2) (fun p8 ep8 => ?_)
      refine ZO.iconst (pc := 70) (1 : Int32) d_M_thing_70 (by decide) ?_
      exact ZO.zret (pc := 71) (v := true) d_M_thing_71 rfl rfl rfl
    · refine ZO.ifb_eq (pc := 34) 65 d_M_thing_34 (by decide) rfl (fun h10 => ?_) (fun h10 => ?_)
      · refine ZO.bipush (pc := 37) (10 : Int32) d_M_thing_37 (by decide) ?_
        refine ZO.iload_n (pc := 39) 1 d_M_thing_39 rfl rfl ?_
        refine ZO.imul (pc := 40) d_M_thing_40 ?_
        refine ZO.aload_n (pc := 41) 0 d_M_thing_41 rfl rfl ?_
        refine ZO.getA (pc := 42) 117 d_M_thing_42 zo_0 zf_M_40 rfl rfl ?_
        refine ZO.aload_n (pc := 45) 0 d_M_thing_45 rfl rfl ?_
        refine ZO.getI (pc := 46) d_M_thing_46 zo_0 zf_M_43 rfl ?_
        refine ZO.rgd (fun h11 => ?_)
        refine ZO.iald (pc := 49) d_M_thing_49 za_117 h11 ?_
        refine ZO.iadd (pc := 50) d_M_thing_50 ?_
        refine ZO.bipush (pc := 51) (48 : Int32) d_M_thing_51 (by decide) ?_
        refine ZO.isub (pc := 53) d_M_thing_53 ?_
        refine ZO.ltI (fun v12 => ?_)
        refine ZO.istore_n (pc := 54) (v := v12) (L' := [(0, .ref 0), (1, .int v12)]) [1, 0] d_M_thing_54 rfl (by decide) rfl ?_
        refine ZO.aload_n (pc := 55) 0 d_M_thing_55 rfl rfl ?_
        refine ZO.dup (pc := 56) d_M_thing_56 rfl ?_
        refine ZO.getI (pc := 57) d_M_thing_57 zo_0 zf_M_43 rfl ?_
        refine ZO.iconst (pc := 60) (1 : Int32) d_M_thing_60 (by decide) ?_
        refine ZO.iadd (pc := 61) d_M_thing_61 ?_
        refine ZO.putI (pc := 62) d_M_thing_62 zo_0 zp_M_43 rfl ?_
        refine ZO.ltS (fun s13 => ?_)
        exact hj9 (v12, s13)
      · exact hj9 (v4, s5)
  · refine ZO.aload_n (pc := 72) 0 d_M_thing_72 rfl rfl ?_
    refine ZO.ldcS (pc := 73) (i := 0) rfl d_M_thing_73 rfl ?_
    refine ZO.cVI (pc := 75) (As := [.ref 700]) (rest := []) d_M_thing_75 zc_M_82 (by omega) zo_0 rfl rfl rfl (Nat.le_of_ble_eq_true rfl) (ok_M_among g n 700 s) (fun p14 ep14 => ?_)
    refine ZO.istore_n (pc := 78) (v := p14) (L' := [(0, .ref 0), (1, .int p14)]) [1, 0] d_M_thing_78 rfl (by decide) rfl ?_
    refine ZO.iload_n (pc := 79) 1 d_M_thing_79 rfl rfl ?_
    refine ZO.if_lt (pc := 80) 104 d_M_thing_80 (by decide) rfl (fun h15 => ?_) (fun h15 => ?_)
    · refine ZO.aload_n (pc := 104) 0 d_M_thing_104 rfl rfl ?_
      refine ZO.ldcS (pc := 105) (i := 1) rfl d_M_thing_105 rfl ?_
      refine ZO.cVI (pc := 107) (As := [.ref 701]) (rest := []) d_M_thing_107 zc_M_82 (by omega) zo_0 rfl rfl rfl (Nat.le_of_ble_eq_true rfl) (ok_M_among g n 701 s) (fun p16 ep16 => ?_)
      refine ZO.if_lt (pc := 110) 121 d_M_thing_110 (by decide) rfl (fun h17 => ?_) (fun h17 => ?_)
      · refine ZO.iconst (pc := 121) (0 : Int32) d_M_thing_121 (by decide) ?_
        exact ZO.zret (pc := 122) (v := false) d_M_thing_122 rfl rfl rfl
      · refine ZO.aload_n (pc := 113) 0 d_M_thing_113 rfl rfl ?_
        refine ZO.getI (pc := 114) d_M_thing_114 zo_0 zf_M_88 rfl ?_
        refine ZO.iconst (pc := 117) (4 : Int32) d_M_thing_117 (by decide) ?_
        refine ZO.icmp_ne (pc := 118) 123 d_M_thing_118 (by decide) rfl (fun h18 => ?_) (fun h18 => ?_)
        · refine ZO.iconst (pc := 121) (0 : Int32) d_M_thing_121 (by decide) ?_
          exact ZO.zret (pc := 122) (v := false) d_M_thing_122 rfl rfl rfl
        · refine ZO.aload_n (pc := 123) 0 d_M_thing_123 rfl rfl ?_
          refine ZO.dup (pc := 124) d_M_thing_124 rfl ?_
          refine ZO.getI (pc := 125) d_M_thing_125 zo_0 zf_M_43 rfl ?_
          refine ZO.iconst (pc := 128) (1 : Int32) d_M_thing_128 (by decide) ?_
          refine ZO.iadd (pc := 129) d_M_thing_129 ?_
          refine ZO.putI (pc := 130) d_M_thing_130 zo_0 zp_M_43 rfl ?_
          refine ZO.ltS (fun s19 => ?_)
          refine ZO.aload_n (pc := 133) 0 d_M_thing_133 rfl rfl ?_
          refine ZO.dup (pc := 134) d_M_thing_134 rfl ?_
          refine ZO.getI (pc := 135) d_M_thing_135 zo_0 zf_M_88 rfl ?_
          refine ZO.iconst (pc := 138) (1 : Int32) d_M_thing_138 (by decide) ?_
          refine ZO.iadd (pc := 139) d_M_thing_139 ?_
          refine ZO.putI (pc := 140) d_M_thing_140 zo_0 zp_M_88 rfl ?_
          refine ZO.ltS (fun s20 => ?_)
          refine ZO.aload_n (pc := 143) 0 d_M_thing_143 rfl rfl ?_
          refine ZO.iconst (pc := 144) (0 : Int32) d_M_thing_144 (by decide) ?_
          refine ZO.cVB (pc := 145) (As := [.int (0 : Int32)]) (rest := []) d_M_thing_145 zc_M_91 (by omega) zo_0 rfl rfl rfl (Nat.le_of_ble_eq_true rfl) (H_M_ranked (0 : Int32) s20) (fun p21 ep21 => ?_)
          refine ZO.ifb_eq (pc := 148) 160 d_M_thing_148 (by decide) rfl (fun h22 => ?_) (fun h22 => ?_)
          · refine ZO.aload_n (pc := 151) 0 d_M_thing_151 rfl rfl ?_
            refine ZO.bipush (pc := 152) (41 : Int32) d_M_thing_152 (by decide) ?_
            refine ZO.cVB (pc := 154) (As := [.int (41 : Int32)]) (rest := []) d_M_thing_154 zc_M_95 (by omega) zo_0 rfl rfl rfl (Nat.le_of_ble_eq_true rfl) (ok_M_takes g (41 : Int32) p21.2) (fun p23 ep23 => ?_)
            refine ZO.ifb_ne (pc := 157) 162 d_M_thing_157 (by decide) rfl (fun h24 => ?_) (fun h24 => ?_)
            · refine ZO.aload_n (pc := 162) 0 d_M_thing_162 rfl rfl ?_
              refine ZO.dup (pc := 163) d_M_thing_163 rfl ?_
              refine ZO.getI (pc := 164) d_M_thing_164 zo_0 zf_M_88 rfl ?_
              refine ZO.iconst (pc := 167) (1 : Int32) d_M_thing_167 (by decide) ?_
              refine ZO.isub (pc := 168) d_M_thing_168 ?_
              refine ZO.putI (pc := 169) d_M_thing_169 zo_0 zp_M_88 rfl ?_
              refine ZO.ltS (fun s25 => ?_)
              refine ZO.iconst (pc := 172) (1 : Int32) d_M_thing_172 (by decide) ?_
              exact ZO.zret (pc := 173) (v := true) d_M_thing_173 rfl rfl rfl
            · refine ZO.iconst (pc := 160) (0 : Int32) d_M_thing_160 (by decide) ?_
              exact ZO.zret (pc := 161) (v := false) d_M_thing_161 rfl rfl rfl
          · refine ZO.iconst (pc := 160) (0 : Int32) d_M_thing_160 (by decide) ?_
            exact ZO.zret (pc := 161) (v := false) d_M_thing_161 rfl rfl rfl
    · refine ZO.aload_n (pc := 83) 0 d_M_thing_83 rfl rfl ?_
      refine ZO.sipush (pc := 84) (1000 : Int32) d_M_thing_84 (by decide) ?_
      refine ZO.iload_n (pc := 87) 1 d_M_thing_87 rfl rfl ?_
      refine ZO.iadd (pc := 88) d_M_thing_88 ?_
      refine ZO.cVV (pc := 89) (As := [.int ((1000 : Int32) + p14)]) (rest := []) d_M_thing_89 zc_M_76 (by omega) zo_0 rfl rfl rfl (Nat.le_of_ble_eq_true rfl) (ok_M_marks g ((1000 : Int32) + p14) s) (fun p26 ep26 => ?_)
      refine ZO.aload_n (pc := 92) 0 d_M_thing_92 rfl rfl ?_
      refine ZO.dup (pc := 93) d_M_thing_93 rfl ?_
      refine ZO.getI (pc := 94) d_M_thing_94 zo_0 zf_M_43 rfl ?_
      refine ZO.iconst (pc := 97) (1 : Int32) d_M_thing_97 (by decide) ?_
      refine ZO.iadd (pc := 98) d_M_thing_98 ?_
      refine ZO.putI (pc := 99) d_M_thing_99 zo_0 zp_M_43 rfl ?_
      refine ZO.ltS (fun s27 => ?_)
      refine ZO.iconst (pc := 102) (1 : Int32) d_M_thing_102 (by decide) ?_
      exact ZO.zret (pc := 103) (v := true) d_M_thing_103 rfl rfl rfl
def f_M_ahead (F_M_ahead : ZSt → Option (Bool × ZSt)) (F_M_thing : ZSt → Option (Bool × ZSt)) (s : ZSt) : Option (Bool × ZSt) :=
  bn (f_M_takes (33 : Int32) s) (fun p1 =>
  (if p1.1 = true then
  bn (F_M_ahead p1.2) (fun p3 =>
    (if p3.1 = true then
    bn (f_M_marks (2033 : Int32) p3.2) (fun p5 =>
      some (p3.1, p5))
  else some (p3.1, p3.2)))
else bn (F_M_thing p1.2) (fun p6 =>
    some (p6.1, p6.2))))
set_option maxHeartbeats 4000000 in
set_option maxRecDepth 20000 in
theorem ok_M_ahead (g : ZG) (dd : Nat) (hdd : 1 ≤ dd) (F_M_ahead : ZSt → Option (Bool × ZSt)) (F_M_thing : ZSt → Option (Bool × ZSt)) (dd_M_ahead : Nat) (hdd_M_ahead : dd_M_ahead ≤ dd) (H_M_ahead : ∀ (s : ZSt), ZF g dd_M_ahead y_M_ahead [.ref 0] s (F_M_ahead s) (fun b => some (.int (b2i b.1))) (fun b => b.2)) (dd_M_thing : Nat) (hdd_M_thing : dd_M_thing ≤ dd) (H_M_thing : ∀ (s : ZSt), ZF g dd_M_thing y_M_thing [.ref 0] s (F_M_thing s) (fun b => some (.int (b2i b.1))) (fun b => b.2)) (s : ZSt) : ZF g (dd + 1) y_M_ahead [.ref 0] s (f_M_ahead F_M_ahead F_M_thing s) (fun b => some (.int (b2i b.1))) (fun b => b.2) := by
  refine ZF.of (by decide +kernel) (Nat.le_of_ble_eq_true rfl) ?_
  unfold f_M_ahead
  show ZO g (dd + 1) y_M_ahead zu0 0 [(0, .ref 0)] [] s _ _
  refine ZO.aload_n (pc := 0) 0 d_M_ahead_0 rfl rfl ?_
  refine ZO.bipush (pc := 1) (33 : Int32) d_M_ahead_1 (by decide) ?_
  refine ZO.cVB (pc := 3) (As := [.int (33 : Int32)]) (rest := []) d_M_ahead_3 zc_M_95 (by omega) zo_0 rfl rfl rfl (Nat.le_of_ble_eq_true rfl) (ok_M_takes g (33 : Int32) s) (fun p1 ep1 => ?_)
  refine ZO.ifb_ne (pc := 6) 14 d_M_ahead_6 (by decide) rfl (fun h2 => ?_) (fun h2 => ?_)
  · refine ZO.aload_n (pc := 14) 0 d_M_ahead_14 rfl rfl ?_
    refine ZO.cVB (pc := 15) (As := []) (rest := []) d_M_ahead_15 zc_M_101 (by omega) zo_0 rfl rfl rfl (Nat.le_of_ble_eq_true rfl) (H_M_ahead p1.2) (fun p3 ep3 => ?_)
    refine ZO.istore_n (pc := 18) (v := (b2i p3.1)) (L' := [(0, .ref 0), (1, .int (b2i p3.1))]) [1, 0] d_M_ahead_18 rfl (by decide) rfl ?_
    refine ZO.iload_n (pc := 19) 1 d_M_ahead_19 rfl rfl ?_
    refine ZO.ifb_eq (pc := 20) 30 d_M_ahead_20 (by decide) rfl (fun h4 => ?_) (fun h4 => ?_)
    · refine ZO.aload_n (pc := 23) 0 d_M_ahead_23 rfl rfl ?_
      refine ZO.sipush (pc := 24) (2033 : Int32) d_M_ahead_24 (by decide) ?_
      refine ZO.cVV (pc := 27) (As := [.int (2033 : Int32)]) (rest := []) d_M_ahead_27 zc_M_76 (by omega) zo_0 rfl rfl rfl (Nat.le_of_ble_eq_true rfl) (ok_M_marks g (2033 : Int32) p3.2) (fun p5 ep5 => ?_)
      refine ZO.iload_n (pc := 30) 1 d_M_ahead_30 rfl rfl ?_
      exact ZO.zret (pc := 31) (v := p3.1) d_M_ahead_31 rfl rfl rfl
    · refine ZO.iload_n (pc := 30) 1 d_M_ahead_30 rfl rfl ?_
      exact ZO.zret (pc := 31) (v := p3.1) d_M_ahead_31 rfl rfl rfl
  · refine ZO.aload_n (pc := 9) 0 d_M_ahead_9 rfl rfl ?_
    refine ZO.cVB (pc := 10) (As := []) (rest := []) d_M_ahead_10 zc_M_98 (by omega) zo_0 rfl rfl rfl (Nat.le_of_ble_eq_true rfl) (H_M_thing p1.2) (fun p6 ep6 => ?_)
    exact ZO.zret (pc := 13) (v := p6.1) d_M_ahead_13 rfl rfl rfl
def f_M_ranked (F_M_ranked : Int32 → ZSt → Option (Bool × ZSt)) (F_M_ahead : ZSt → Option (Bool × ZSt)) (n : Nat) (a0 : Int32) (s : ZSt) : Option (Bool × ZSt) :=
  (if a0 = (4 : Int32) then
  bn (F_M_ahead s) (fun p2 =>
    some (p2.1, p2.2))
else (if a0 = 0 then
    bn (F_M_ranked (a0 + (1 : Int32)) s) (fun p4 =>
      lpN (fun j6 (x5 : Bool × Int32 × ZSt) =>
      (if x5.1 = true then
        (if x5.2.1 = 0 then
          some (x5.1, x5.2.2)
        else bn (f_M_among n 702 x5.2.2) (fun p9 =>
            (if p9 < 0 then
            some (x5.1, x5.2.2)
          else gd (inb (gi x5.2.2 0 19) 80) (
              lt (ai x5.2.2 117 (gi x5.2.2 0 19)) (fun v12 =>
              lt (si x5.2.2 0 19 ((gi x5.2.2 0 19) + (1 : Int32))) (fun s13 =>
              bn (F_M_ranked (a0 + (1 : Int32)) s13) (fun p14 =>
              (jn (fun (x15 : ZSt) =>
                (lt ((if a0 = (2 : Int32) then
                  (0 : Int32)
                else (1 : Int32)) : Int32) (fun x16 =>
                    j6 (p14.1, x16, x15)))) (fun j19 =>
                if p14.1 = true then
              bn (f_M_marks ((2000 : Int32) + v12) p14.2) (fun p21 =>
                j19 p21)
            else j19 p14.2)))))))))
      else some (x5.1, x5.2.2))) n (p4.1, (1 : Int32), p4.2))
  else (if a0 = (1 : Int32) then
      bn (F_M_ranked (a0 + (1 : Int32)) s) (fun p23 =>
        lpN (fun j25 (x24 : Bool × Int32 × ZSt) =>
        (if x24.1 = true then
          (if x24.2.1 = 0 then
            some (x24.1, x24.2.2)
          else bn (f_M_among n 703 x24.2.2) (fun p28 =>
              (if p28 < 0 then
              some (x24.1, x24.2.2)
            else gd (inb (gi x24.2.2 0 19) 80) (
                lt (ai x24.2.2 117 (gi x24.2.2 0 19)) (fun v31 =>
                lt (si x24.2.2 0 19 ((gi x24.2.2 0 19) + (1 : Int32))) (fun s32 =>
                bn (F_M_ranked (a0 + (1 : Int32)) s32) (fun p33 =>
                (jn (fun (x34 : ZSt) =>
                  (lt ((if a0 = (2 : Int32) then
                    (0 : Int32)
                  else (1 : Int32)) : Int32) (fun x35 =>
                      j25 (p33.1, x35, x34)))) (fun j38 =>
                  if p33.1 = true then
                bn (f_M_marks ((2000 : Int32) + v31) p33.2) (fun p40 =>
                  j38 p40)
              else j38 p33.2)))))))))
        else some (x24.1, x24.2.2))) n (p23.1, (1 : Int32), p23.2))
    else (if a0 = (2 : Int32) then
        bn (F_M_ranked (a0 + (1 : Int32)) s) (fun p42 =>
          lpN (fun j44 (x43 : Bool × Int32 × ZSt) =>
          (if x43.1 = true then
            (if x43.2.1 = 0 then
              some (x43.1, x43.2.2)
            else bn (f_M_among n 704 x43.2.2) (fun p47 =>
                (if p47 < 0 then
                some (x43.1, x43.2.2)
              else gd (inb (gi x43.2.2 0 19) 80) (
                  lt (ai x43.2.2 117 (gi x43.2.2 0 19)) (fun v50 =>
                  lt (si x43.2.2 0 19 ((gi x43.2.2 0 19) + (1 : Int32))) (fun s51 =>
                  bn (F_M_ranked (a0 + (1 : Int32)) s51) (fun p52 =>
                  (jn (fun (x53 : ZSt) =>
                    (lt ((if a0 = (2 : Int32) then
                      (0 : Int32)
                    else (1 : Int32)) : Int32) (fun x54 =>
                        j44 (p52.1, x54, x53)))) (fun j57 =>
                    if p52.1 = true then
                  bn (f_M_marks ((2000 : Int32) + v50) p52.2) (fun p59 =>
                    j57 p59)
                else j57 p52.2)))))))))
          else some (x43.1, x43.2.2))) n (p42.1, (1 : Int32), p42.2))
      else bn (F_M_ranked (a0 + (1 : Int32)) s) (fun p60 =>
          lpN (fun j62 (x61 : Bool × Int32 × ZSt) =>
          (if x61.1 = true then
            (if x61.2.1 = 0 then
              some (x61.1, x61.2.2)
            else bn (f_M_among n 705 x61.2.2) (fun p65 =>
                (if p65 < 0 then
                some (x61.1, x61.2.2)
              else gd (inb (gi x61.2.2 0 19) 80) (
                  lt (ai x61.2.2 117 (gi x61.2.2 0 19)) (fun v68 =>
                  lt (si x61.2.2 0 19 ((gi x61.2.2 0 19) + (1 : Int32))) (fun s69 =>
                  bn (F_M_ranked (a0 + (1 : Int32)) s69) (fun p70 =>
                  (jn (fun (x71 : ZSt) =>
                    (lt ((if a0 = (2 : Int32) then
                      (0 : Int32)
                    else (1 : Int32)) : Int32) (fun x72 =>
                        j62 (p70.1, x72, x71)))) (fun j75 =>
                    if p70.1 = true then
                  bn (f_M_marks ((2000 : Int32) + v68) p70.2) (fun p77 =>
                    j75 p77)
                else j75 p70.2)))))))))
          else some (x61.1, x61.2.2))) n (p60.1, (1 : Int32), p60.2))))))
set_option maxHeartbeats 4000000 in
set_option maxRecDepth 20000 in
theorem ok_M_ranked (g : ZG) (dd : Nat) (hdd : 4 ≤ dd) (F_M_ranked : Int32 → ZSt → Option (Bool × ZSt)) (F_M_ahead : ZSt → Option (Bool × ZSt)) (dd_M_ranked : Nat) (hdd_M_ranked : dd_M_ranked ≤ dd) (H_M_ranked : ∀ (a0 : Int32) (s : ZSt), ZF g dd_M_ranked y_M_ranked [.ref 0, .int a0] s (F_M_ranked a0 s) (fun b => some (.int (b2i b.1))) (fun b => b.2)) (dd_M_ahead : Nat) (hdd_M_ahead : dd_M_ahead ≤ dd) (H_M_ahead : ∀ (s : ZSt), ZF g dd_M_ahead y_M_ahead [.ref 0] s (F_M_ahead s) (fun b => some (.int (b2i b.1))) (fun b => b.2)) (n : Nat) (a0 : Int32) (s : ZSt) : ZF g (dd + 1) y_M_ranked [.ref 0, .int a0] s (f_M_ranked F_M_ranked F_M_ahead n a0 s) (fun b => some (.int (b2i b.1))) (fun b => b.2) := by
  refine ZF.of (by decide +kernel) (Nat.le_of_ble_eq_true rfl) ?_
  unfold f_M_ranked
  show ZO g (dd + 1) y_M_ranked zu0 0 [(0, .ref 0), (1, .int a0)] [] s _ _
  refine ZO.iload_n (pc := 0) 1 d_M_ranked_0 rfl rfl ?_
  refine ZO.iconst (pc := 1) (4 : Int32) d_M_ranked_1 (by decide) ?_
  refine ZO.icmp_ne (pc := 2) 10 d_M_ranked_2 (by decide) rfl (fun h1 => ?_) (fun h1 => ?_)
  · refine ZO.aload_n (pc := 5) 0 d_M_ranked_5 rfl rfl ?_
    refine ZO.cVB (pc := 6) (As := []) (rest := []) d_M_ranked_6 zc_M_101 (by omega) zo_0 rfl rfl rfl (Nat.le_of_ble_eq_true rfl) (H_M_ahead s) (fun p2 ep2 => ?_)
    exact ZO.zret (pc := 9) (v := p2.1) d_M_ranked_9 rfl rfl rfl
  · refine ZO.iload_n (pc := 10) 1 d_M_ranked_10 rfl rfl ?_
    refine ZO.if_ne (pc := 11) 19 d_M_ranked_11 (by decide) rfl (fun h3 => ?_) (fun h3 => ?_)
    · refine ZO.ldcS (pc := 14) (i := 2) rfl d_M_ranked_14 rfl ?_
      refine ZO.goto (pc := 16) 41 d_M_ranked_16 (by decide) ?_
      refine ZO.astore_n (pc := 41) (v := 702) (L' := [(0, .ref 0), (1, .int a0), (2, .ref 702)]) [1, 2, 0] d_M_ranked_41 rfl (by decide) rfl ?_
      refine ZO.aload_n (pc := 42) 0 d_M_ranked_42 rfl rfl ?_
      refine ZO.iload_n (pc := 43) 1 d_M_ranked_43 rfl rfl ?_
      refine ZO.iconst (pc := 44) (1 : Int32) d_M_ranked_44 (by decide) ?_
      refine ZO.iadd (pc := 45) d_M_ranked_45 ?_
      refine ZO.cVB (pc := 46) (As := [.int (a0 + (1 : Int32))]) (rest := []) d_M_ranked_46 zc_M_91 (by omega) zo_0 rfl rfl rfl (Nat.le_of_ble_eq_true rfl) (H_M_ranked (a0 + (1 : Int32)) s) (fun p4 ep4 => ?_)
      refine ZO.istore_n (pc := 49) (v := (b2i p4.1)) (L' := [(0, .ref 0), (1, .int a0), (2, .ref 702), (3, .int (b2i p4.1))]) [1, 2, 3, 0] d_M_ranked_49 rfl (by decide) rfl ?_
      refine ZO.iconst (pc := 50) (1 : Int32) d_M_ranked_50 (by decide) ?_
      refine ZO.istore (pc := 51) (v := (1 : Int32)) (L' := [(0, .ref 0), (1, .int a0), (2, .ref 702), (3, .int (b2i p4.1)), (4, .int (1 : Int32))]) [1, 2, 3, 4, 0] d_M_ranked_51 (by decide) rfl ?_
      refine ZO.loop (fun (x5 : Bool × Int32 × ZSt) => ([(0, .ref 0), (1, .int a0), (2, .ref 702), (3, .int (b2i x5.1)), (4, .int x5.2.1)] : List (Nat × Value))) (fun (x5 : Bool × Int32 × ZSt) => x5.2.2) [] (fun j6 x5 hj6 => ?_) rfl rfl rfl
      refine ZO.iload_n (pc := 53) 3 d_M_ranked_53 rfl rfl ?_
      refine ZO.ifb_eq (pc := 54) 128 d_M_ranked_54 (by decide) rfl (fun h7 => ?_) (fun h7 => ?_)
      · refine ZO.iload (pc := 57) 4 d_M_ranked_57 rfl ?_
        refine ZO.if_eq (pc := 59) 128 d_M_ranked_59 (by decide) rfl (fun h8 => ?_) (fun h8 => ?_)
        · refine ZO.iload_n (pc := 128) 3 d_M_ranked_128 rfl rfl ?_
          exact ZO.zret (pc := 129) (v := x5.1) d_M_ranked_129 rfl rfl rfl
        · refine ZO.aload_n (pc := 62) 0 d_M_ranked_62 rfl rfl ?_
          refine ZO.aload_n (pc := 63) 2 d_M_ranked_63 rfl rfl ?_
          refine ZO.cVI (pc := 64) (As := [.ref 702]) (rest := []) d_M_ranked_64 zc_M_82 (by omega) zo_0 rfl rfl rfl (Nat.le_of_ble_eq_true rfl) (ok_M_among g n 702 x5.2.2) (fun p9 ep9 => ?_)
          refine ZO.if_lt (pc := 67) 128 d_M_ranked_67 (by decide) rfl (fun h10 => ?_) (fun h10 => ?_)
          · refine ZO.iload_n (pc := 128) 3 d_M_ranked_128 rfl rfl ?_
            exact ZO.zret (pc := 129) (v := x5.1) d_M_ranked_129 rfl rfl rfl
          · refine ZO.aload_n (pc := 70) 0 d_M_ranked_70 rfl rfl ?_
            refine ZO.getA (pc := 71) 117 d_M_ranked_71 zo_0 zf_M_40 rfl rfl ?_
            refine ZO.aload_n (pc := 74) 0 d_M_ranked_74 rfl rfl ?_
            refine ZO.getI (pc := 75) d_M_ranked_75 zo_0 zf_M_43 rfl ?_
            refine ZO.rgd (fun h11 => ?_)
            refine ZO.iald (pc := 78) d_M_ranked_78 za_117 h11 ?_
            refine ZO.ltI (fun v12 => ?_)
            refine ZO.istore (pc := 79) (v := v12) (L' := [(0, .ref 0), (1, .int a0), (2, .ref 702), (3, .int (b2i x5.1)), (4, .int x5.2.1), (5, .int v12)]) [1, 2, 3, 4, 5, 0] d_M_ranked_79 (by decide) rfl ?_
            refine ZO.aload_n (pc := 81) 0 d_M_ranked_81 rfl rfl ?_
            refine ZO.dup (pc := 82) d_M_ranked_82 rfl ?_
            refine ZO.getI (pc := 83) d_M_ranked_83 zo_0 zf_M_43 rfl ?_
            refine ZO.iconst (pc := 86) (1 : Int32) d_M_ranked_86 (by decide) ?_
            refine ZO.iadd (pc := 87) d_M_ranked_87 ?_
            refine ZO.putI (pc := 88) d_M_ranked_88 zo_0 zp_M_43 rfl ?_
            refine ZO.ltS (fun s13 => ?_)
            refine ZO.aload_n (pc := 91) 0 d_M_ranked_91 rfl rfl ?_
            refine ZO.iload_n (pc := 92) 1 d_M_ranked_92 rfl rfl ?_
            refine ZO.iconst (pc := 93) (1 : Int32) d_M_ranked_93 (by decide) ?_
            refine ZO.iadd (pc := 94) d_M_ranked_94 ?_
            refine ZO.cVB (pc := 95) (As := [.int (a0 + (1 : Int32))]) (rest := []) d_M_ranked_95 zc_M_91 (by omega) zo_0 rfl rfl rfl (Nat.le_of_ble_eq_true rfl) (H_M_ranked (a0 + (1 : Int32)) s13) (fun p14 ep14 => ?_)
            refine ZO.istore_n (pc := 98) (v := (b2i p14.1)) (L' := [(0, .ref 0), (1, .int a0), (2, .ref 702), (3, .int (b2i p14.1)), (4, .int x5.2.1), (5, .int v12)]) [1, 2, 3, 0, 4, 5] d_M_ranked_98 rfl (by decide) rfl ?_
            refine ZO.iload_n (pc := 99) 3 d_M_ranked_99 rfl rfl ?_
            refine ZO.rjn (pcJ := 113) (LJ := fun (x15 : ZSt) => ([(0, .ref 0), (1, .int a0), (2, .ref 702), (3, .int (b2i p14.1))] : List (Nat × Value))) (SJ := fun (x15 : ZSt) => ([] : List Value)) (σJ := fun (x15 : ZSt) => x15) (fun x15 => ?_) (fun j19 hj19 => ?_)
            · refine ZO.iload_n (pc := 113) 1 d_M_ranked_113 rfl rfl ?_
              refine ZO.iconst (pc := 114) (2 : Int32) d_M_ranked_114 (by decide) ?_
              refine ZO.phi (pcJ := 123) (LJ := fun (x16 : Int32) => ([(0, .ref 0), (1, .int a0), (2, .ref 702), (3, .int (b2i p14.1))] : List (Nat × Value))) (SJ := fun (x16 : Int32) => ([.int x16] : List Value)) (fun x16 => ?_) (fun t hj17 => ?_)
              · refine ZO.istore (pc := 123) (v := x16) (L' := [(0, .ref 0), (1, .int a0), (2, .ref 702), (3, .int (b2i p14.1)), (4, .int x16)]) [1, 2, 3, 4, 0] d_M_ranked_123 (by decide) rfl ?_
                refine ZO.goto (pc := 125) 53 d_M_ranked_125 (by decide) ?_
                exact hj6 (p14.1, x16, x15)
              · refine ZO.icmp_eq (pc := 115) 122 d_M_ranked_115 (by decide) z_ite (fun h18 => ?_) (fun h18 => ?_)
                · refine ZO.iconst (pc := 122) (0 : Int32) d_M_ranked_122 (by decide) ?_
                  exact hj17 (0 : Int32) (by rw [if_pos h18])
                · refine ZO.iconst (pc := 118) (1 : Int32) d_M_ranked_118 (by decide) ?_
                  refine ZO.goto (pc := 119) 123 d_M_ranked_119 (by decide) ?_
                  exact hj17 (1 : Int32) (by rw [if_neg h18])
            · refine ZO.ifb_eq (pc := 100) 113 d_M_ranked_100 (by decide) rfl (fun h20 => ?_) (fun h20 => ?_)
              · refine ZO.aload_n (pc := 103) 0 d_M_ranked_103 rfl rfl ?_
                refine ZO.sipush (pc := 104) (2000 : Int32) d_M_ranked_104 (by decide) ?_
                refine ZO.iload (pc := 107) 5 d_M_ranked_107 rfl ?_
                refine ZO.iadd (pc := 109) d_M_ranked_109 ?_
                refine ZO.cVV (pc := 110) (As := [.int ((2000 : Int32) + v12)]) (rest := []) d_M_ranked_110 zc_M_76 (by omega) zo_0 rfl rfl rfl (Nat.le_of_ble_eq_true rfl) (ok_M_marks g ((2000 : Int32) + v12) p14.2) (fun p21 ep21 => ?_)
                exact ZO.sub [0, 1, 2, 3] rfl (hj19 p21)
              · exact ZO.sub [0, 1, 2, 3] rfl (hj19 p14.2)
      · refine ZO.iload_n (pc := 128) 3 d_M_ranked_128 rfl rfl ?_
        exact ZO.zret (pc := 129) (v := x5.1) d_M_ranked_129 rfl rfl rfl
    · refine ZO.iload_n (pc := 19) 1 d_M_ranked_19 rfl rfl ?_
      refine ZO.iconst (pc := 20) (1 : Int32) d_M_ranked_20 (by decide) ?_
      refine ZO.icmp_ne (pc := 21) 29 d_M_ranked_21 (by decide) rfl (fun h22 => ?_) (fun h22 => ?_)
      · refine ZO.ldcS (pc := 24) (i := 3) rfl d_M_ranked_24 rfl ?_
        refine ZO.goto (pc := 26) 41 d_M_ranked_26 (by decide) ?_
        refine ZO.astore_n (pc := 41) (v := 703) (L' := [(0, .ref 0), (1, .int a0), (2, .ref 703)]) [1, 2, 0] d_M_ranked_41 rfl (by decide) rfl ?_
        refine ZO.aload_n (pc := 42) 0 d_M_ranked_42 rfl rfl ?_
        refine ZO.iload_n (pc := 43) 1 d_M_ranked_43 rfl rfl ?_
        refine ZO.iconst (pc := 44) (1 : Int32) d_M_ranked_44 (by decide) ?_
        refine ZO.iadd (pc := 45) d_M_ranked_45 ?_
        refine ZO.cVB (pc := 46) (As := [.int (a0 + (1 : Int32))]) (rest := []) d_M_ranked_46 zc_M_91 (by omega) zo_0 rfl rfl rfl (Nat.le_of_ble_eq_true rfl) (H_M_ranked (a0 + (1 : Int32)) s) (fun p23 ep23 => ?_)
        refine ZO.istore_n (pc := 49) (v := (b2i p23.1)) (L' := [(0, .ref 0), (1, .int a0), (2, .ref 703), (3, .int (b2i p23.1))]) [1, 2, 3, 0] d_M_ranked_49 rfl (by decide) rfl ?_
        refine ZO.iconst (pc := 50) (1 : Int32) d_M_ranked_50 (by decide) ?_
        refine ZO.istore (pc := 51) (v := (1 : Int32)) (L' := [(0, .ref 0), (1, .int a0), (2, .ref 703), (3, .int (b2i p23.1)), (4, .int (1 : Int32))]) [1, 2, 3, 4, 0] d_M_ranked_51 (by decide) rfl ?_
        refine ZO.loop (fun (x24 : Bool × Int32 × ZSt) => ([(0, .ref 0), (1, .int a0), (2, .ref 703), (3, .int (b2i x24.1)), (4, .int x24.2.1)] : List (Nat × Value))) (fun (x24 : Bool × Int32 × ZSt) => x24.2.2) [] (fun j25 x24 hj25 => ?_) rfl rfl rfl
        refine ZO.iload_n (pc := 53) 3 d_M_ranked_53 rfl rfl ?_
        refine ZO.ifb_eq (pc := 54) 128 d_M_ranked_54 (by decide) rfl (fun h26 => ?_) (fun h26 => ?_)
        · refine ZO.iload (pc := 57) 4 d_M_ranked_57 rfl ?_
          refine ZO.if_eq (pc := 59) 128 d_M_ranked_59 (by decide) rfl (fun h27 => ?_) (fun h27 => ?_)
          · refine ZO.iload_n (pc := 128) 3 d_M_ranked_128 rfl rfl ?_
            exact ZO.zret (pc := 129) (v := x24.1) d_M_ranked_129 rfl rfl rfl
          · refine ZO.aload_n (pc := 62) 0 d_M_ranked_62 rfl rfl ?_
            refine ZO.aload_n (pc := 63) 2 d_M_ranked_63 rfl rfl ?_
            refine ZO.cVI (pc := 64) (As := [.ref 703]) (rest := []) d_M_ranked_64 zc_M_82 (by omega) zo_0 rfl rfl rfl (Nat.le_of_ble_eq_true rfl) (ok_M_among g n 703 x24.2.2) (fun p28 ep28 => ?_)
            refine ZO.if_lt (pc := 67) 128 d_M_ranked_67 (by decide) rfl (fun h29 => ?_) (fun h29 => ?_)
            · refine ZO.iload_n (pc := 128) 3 d_M_ranked_128 rfl rfl ?_
              exact ZO.zret (pc := 129) (v := x24.1) d_M_ranked_129 rfl rfl rfl
            · refine ZO.aload_n (pc := 70) 0 d_M_ranked_70 rfl rfl ?_
              refine ZO.getA (pc := 71) 117 d_M_ranked_71 zo_0 zf_M_40 rfl rfl ?_
              refine ZO.aload_n (pc := 74) 0 d_M_ranked_74 rfl rfl ?_
              refine ZO.getI (pc := 75) d_M_ranked_75 zo_0 zf_M_43 rfl ?_
              refine ZO.rgd (fun h30 => ?_)
              refine ZO.iald (pc := 78) d_M_ranked_78 za_117 h30 ?_
              refine ZO.ltI (fun v31 => ?_)
              refine ZO.istore (pc := 79) (v := v31) (L' := [(0, .ref 0), (1, .int a0), (2, .ref 703), (3, .int (b2i x24.1)), (4, .int x24.2.1), (5, .int v31)]) [1, 2, 3, 4, 5, 0] d_M_ranked_79 (by decide) rfl ?_
              refine ZO.aload_n (pc := 81) 0 d_M_ranked_81 rfl rfl ?_
              refine ZO.dup (pc := 82) d_M_ranked_82 rfl ?_
              refine ZO.getI (pc := 83) d_M_ranked_83 zo_0 zf_M_43 rfl ?_
              refine ZO.iconst (pc := 86) (1 : Int32) d_M_ranked_86 (by decide) ?_
              refine ZO.iadd (pc := 87) d_M_ranked_87 ?_
              refine ZO.putI (pc := 88) d_M_ranked_88 zo_0 zp_M_43 rfl ?_
              refine ZO.ltS (fun s32 => ?_)
              refine ZO.aload_n (pc := 91) 0 d_M_ranked_91 rfl rfl ?_
              refine ZO.iload_n (pc := 92) 1 d_M_ranked_92 rfl rfl ?_
              refine ZO.iconst (pc := 93) (1 : Int32) d_M_ranked_93 (by decide) ?_
              refine ZO.iadd (pc := 94) d_M_ranked_94 ?_
              refine ZO.cVB (pc := 95) (As := [.int (a0 + (1 : Int32))]) (rest := []) d_M_ranked_95 zc_M_91 (by omega) zo_0 rfl rfl rfl (Nat.le_of_ble_eq_true rfl) (H_M_ranked (a0 + (1 : Int32)) s32) (fun p33 ep33 => ?_)
              refine ZO.istore_n (pc := 98) (v := (b2i p33.1)) (L' := [(0, .ref 0), (1, .int a0), (2, .ref 703), (3, .int (b2i p33.1)), (4, .int x24.2.1), (5, .int v31)]) [1, 2, 3, 0, 4, 5] d_M_ranked_98 rfl (by decide) rfl ?_
              refine ZO.iload_n (pc := 99) 3 d_M_ranked_99 rfl rfl ?_
              refine ZO.rjn (pcJ := 113) (LJ := fun (x34 : ZSt) => ([(0, .ref 0), (1, .int a0), (2, .ref 703), (3, .int (b2i p33.1))] : List (Nat × Value))) (SJ := fun (x34 : ZSt) => ([] : List Value)) (σJ := fun (x34 : ZSt) => x34) (fun x34 => ?_) (fun j38 hj38 => ?_)
              · refine ZO.iload_n (pc := 113) 1 d_M_ranked_113 rfl rfl ?_
                refine ZO.iconst (pc := 114) (2 : Int32) d_M_ranked_114 (by decide) ?_
                refine ZO.phi (pcJ := 123) (LJ := fun (x35 : Int32) => ([(0, .ref 0), (1, .int a0), (2, .ref 703), (3, .int (b2i p33.1))] : List (Nat × Value))) (SJ := fun (x35 : Int32) => ([.int x35] : List Value)) (fun x35 => ?_) (fun t hj36 => ?_)
                · refine ZO.istore (pc := 123) (v := x35) (L' := [(0, .ref 0), (1, .int a0), (2, .ref 703), (3, .int (b2i p33.1)), (4, .int x35)]) [1, 2, 3, 4, 0] d_M_ranked_123 (by decide) rfl ?_
                  refine ZO.goto (pc := 125) 53 d_M_ranked_125 (by decide) ?_
                  exact hj25 (p33.1, x35, x34)
                · refine ZO.icmp_eq (pc := 115) 122 d_M_ranked_115 (by decide) z_ite (fun h37 => ?_) (fun h37 => ?_)
                  · refine ZO.iconst (pc := 122) (0 : Int32) d_M_ranked_122 (by decide) ?_
                    exact hj36 (0 : Int32) (by rw [if_pos h37])
                  · refine ZO.iconst (pc := 118) (1 : Int32) d_M_ranked_118 (by decide) ?_
                    refine ZO.goto (pc := 119) 123 d_M_ranked_119 (by decide) ?_
                    exact hj36 (1 : Int32) (by rw [if_neg h37])
              · refine ZO.ifb_eq (pc := 100) 113 d_M_ranked_100 (by decide) rfl (fun h39 => ?_) (fun h39 => ?_)
                · refine ZO.aload_n (pc := 103) 0 d_M_ranked_103 rfl rfl ?_
                  refine ZO.sipush (pc := 104) (2000 : Int32) d_M_ranked_104 (by decide) ?_
                  refine ZO.iload (pc := 107) 5 d_M_ranked_107 rfl ?_
                  refine ZO.iadd (pc := 109) d_M_ranked_109 ?_
                  refine ZO.cVV (pc := 110) (As := [.int ((2000 : Int32) + v31)]) (rest := []) d_M_ranked_110 zc_M_76 (by omega) zo_0 rfl rfl rfl (Nat.le_of_ble_eq_true rfl) (ok_M_marks g ((2000 : Int32) + v31) p33.2) (fun p40 ep40 => ?_)
                  exact ZO.sub [0, 1, 2, 3] rfl (hj38 p40)
                · exact ZO.sub [0, 1, 2, 3] rfl (hj38 p33.2)
        · refine ZO.iload_n (pc := 128) 3 d_M_ranked_128 rfl rfl ?_
          exact ZO.zret (pc := 129) (v := x24.1) d_M_ranked_129 rfl rfl rfl
      · refine ZO.iload_n (pc := 29) 1 d_M_ranked_29 rfl rfl ?_
        refine ZO.iconst (pc := 30) (2 : Int32) d_M_ranked_30 (by decide) ?_
        refine ZO.icmp_ne (pc := 31) 39 d_M_ranked_31 (by decide) rfl (fun h41 => ?_) (fun h41 => ?_)
        · refine ZO.ldcS (pc := 34) (i := 4) rfl d_M_ranked_34 rfl ?_
          refine ZO.goto (pc := 36) 41 d_M_ranked_36 (by decide) ?_
          refine ZO.astore_n (pc := 41) (v := 704) (L' := [(0, .ref 0), (1, .int a0), (2, .ref 704)]) [1, 2, 0] d_M_ranked_41 rfl (by decide) rfl ?_
          refine ZO.aload_n (pc := 42) 0 d_M_ranked_42 rfl rfl ?_
          refine ZO.iload_n (pc := 43) 1 d_M_ranked_43 rfl rfl ?_
          refine ZO.iconst (pc := 44) (1 : Int32) d_M_ranked_44 (by decide) ?_
          refine ZO.iadd (pc := 45) d_M_ranked_45 ?_
          refine ZO.cVB (pc := 46) (As := [.int (a0 + (1 : Int32))]) (rest := []) d_M_ranked_46 zc_M_91 (by omega) zo_0 rfl rfl rfl (Nat.le_of_ble_eq_true rfl) (H_M_ranked (a0 + (1 : Int32)) s) (fun p42 ep42 => ?_)
          refine ZO.istore_n (pc := 49) (v := (b2i p42.1)) (L' := [(0, .ref 0), (1, .int a0), (2, .ref 704), (3, .int (b2i p42.1))]) [1, 2, 3, 0] d_M_ranked_49 rfl (by decide) rfl ?_
          refine ZO.iconst (pc := 50) (1 : Int32) d_M_ranked_50 (by decide) ?_
          refine ZO.istore (pc := 51) (v := (1 : Int32)) (L' := [(0, .ref 0), (1, .int a0), (2, .ref 704), (3, .int (b2i p42.1)), (4, .int (1 : Int32))]) [1, 2, 3, 4, 0] d_M_ranked_51 (by decide) rfl ?_
          refine ZO.loop (fun (x43 : Bool × Int32 × ZSt) => ([(0, .ref 0), (1, .int a0), (2, .ref 704), (3, .int (b2i x43.1)), (4, .int x43.2.1)] : List (Nat × Value))) (fun (x43 : Bool × Int32 × ZSt) => x43.2.2) [] (fun j44 x43 hj44 => ?_) rfl rfl rfl
          refine ZO.iload_n (pc := 53) 3 d_M_ranked_53 rfl rfl ?_
          refine ZO.ifb_eq (pc := 54) 128 d_M_ranked_54 (by decide) rfl (fun h45 => ?_) (fun h45 => ?_)
          · refine ZO.iload (pc := 57) 4 d_M_ranked_57 rfl ?_
            refine ZO.if_eq (pc := 59) 128 d_M_ranked_59 (by decide) rfl (fun h46 => ?_) (fun h46 => ?_)
            · refine ZO.iload_n (pc := 128) 3 d_M_ranked_128 rfl rfl ?_
              exact ZO.zret (pc := 129) (v := x43.1) d_M_ranked_129 rfl rfl rfl
            · refine ZO.aload_n (pc := 62) 0 d_M_ranked_62 rfl rfl ?_
              refine ZO.aload_n (pc := 63) 2 d_M_ranked_63 rfl rfl ?_
              refine ZO.cVI (pc := 64) (As := [.ref 704]) (rest := []) d_M_ranked_64 zc_M_82 (by omega) zo_0 rfl rfl rfl (Nat.le_of_ble_eq_true rfl) (ok_M_among g n 704 x43.2.2) (fun p47 ep47 => ?_)
              refine ZO.if_lt (pc := 67) 128 d_M_ranked_67 (by decide) rfl (fun h48 => ?_) (fun h48 => ?_)
              · refine ZO.iload_n (pc := 128) 3 d_M_ranked_128 rfl rfl ?_
                exact ZO.zret (pc := 129) (v := x43.1) d_M_ranked_129 rfl rfl rfl
              · refine ZO.aload_n (pc := 70) 0 d_M_ranked_70 rfl rfl ?_
                refine ZO.getA (pc := 71) 117 d_M_ranked_71 zo_0 zf_M_40 rfl rfl ?_
                refine ZO.aload_n (pc := 74) 0 d_M_ranked_74 rfl rfl ?_
                refine ZO.getI (pc := 75) d_M_ranked_75 zo_0 zf_M_43 rfl ?_
                refine ZO.rgd (fun h49 => ?_)
                refine ZO.iald (pc := 78) d_M_ranked_78 za_117 h49 ?_
                refine ZO.ltI (fun v50 => ?_)
                refine ZO.istore (pc := 79) (v := v50) (L' := [(0, .ref 0), (1, .int a0), (2, .ref 704), (3, .int (b2i x43.1)), (4, .int x43.2.1), (5, .int v50)]) [1, 2, 3, 4, 5, 0] d_M_ranked_79 (by decide) rfl ?_
                refine ZO.aload_n (pc := 81) 0 d_M_ranked_81 rfl rfl ?_
                refine ZO.dup (pc := 82) d_M_ranked_82 rfl ?_
                refine ZO.getI (pc := 83) d_M_ranked_83 zo_0 zf_M_43 rfl ?_
                refine ZO.iconst (pc := 86) (1 : Int32) d_M_ranked_86 (by decide) ?_
                refine ZO.iadd (pc := 87) d_M_ranked_87 ?_
                refine ZO.putI (pc := 88) d_M_ranked_88 zo_0 zp_M_43 rfl ?_
                refine ZO.ltS (fun s51 => ?_)
                refine ZO.aload_n (pc := 91) 0 d_M_ranked_91 rfl rfl ?_
                refine ZO.iload_n (pc := 92) 1 d_M_ranked_92 rfl rfl ?_
                refine ZO.iconst (pc := 93) (1 : Int32) d_M_ranked_93 (by decide) ?_
                refine ZO.iadd (pc := 94) d_M_ranked_94 ?_
                refine ZO.cVB (pc := 95) (As := [.int (a0 + (1 : Int32))]) (rest := []) d_M_ranked_95 zc_M_91 (by omega) zo_0 rfl rfl rfl (Nat.le_of_ble_eq_true rfl) (H_M_ranked (a0 + (1 : Int32)) s51) (fun p52 ep52 => ?_)
                refine ZO.istore_n (pc := 98) (v := (b2i p52.1)) (L' := [(0, .ref 0), (1, .int a0), (2, .ref 704), (3, .int (b2i p52.1)), (4, .int x43.2.1), (5, .int v50)]) [1, 2, 3, 0, 4, 5] d_M_ranked_98 rfl (by decide) rfl ?_
                refine ZO.iload_n (pc := 99) 3 d_M_ranked_99 rfl rfl ?_
                refine ZO.rjn (pcJ := 113) (LJ := fun (x53 : ZSt) => ([(0, .ref 0), (1, .int a0), (2, .ref 704), (3, .int (b2i p52.1))] : List (Nat × Value))) (SJ := fun (x53 : ZSt) => ([] : List Value)) (σJ := fun (x53 : ZSt) => x53) (fun x53 => ?_) (fun j57 hj57 => ?_)
                · refine ZO.iload_n (pc := 113) 1 d_M_ranked_113 rfl rfl ?_
                  refine ZO.iconst (pc := 114) (2 : Int32) d_M_ranked_114 (by decide) ?_
                  refine ZO.phi (pcJ := 123) (LJ := fun (x54 : Int32) => ([(0, .ref 0), (1, .int a0), (2, .ref 704), (3, .int (b2i p52.1))] : List (Nat × Value))) (SJ := fun (x54 : Int32) => ([.int x54] : List Value)) (fun x54 => ?_) (fun t hj55 => ?_)
                  · refine ZO.istore (pc := 123) (v := x54) (L' := [(0, .ref 0), (1, .int a0), (2, .ref 704), (3, .int (b2i p52.1)), (4, .int x54)]) [1, 2, 3, 4, 0] d_M_ranked_123 (by decide) rfl ?_
                    refine ZO.goto (pc := 125) 53 d_M_ranked_125 (by decide) ?_
                    exact hj44 (p52.1, x54, x53)
                  · refine ZO.icmp_eq (pc := 115) 122 d_M_ranked_115 (by decide) z_ite (fun h56 => ?_) (fun h56 => ?_)
                    · refine ZO.iconst (pc := 122) (0 : Int32) d_M_ranked_122 (by decide) ?_
                      exact hj55 (0 : Int32) (by rw [if_pos h56])
                    · refine ZO.iconst (pc := 118) (1 : Int32) d_M_ranked_118 (by decide) ?_
                      refine ZO.goto (pc := 119) 123 d_M_ranked_119 (by decide) ?_
                      exact hj55 (1 : Int32) (by rw [if_neg h56])
                · refine ZO.ifb_eq (pc := 100) 113 d_M_ranked_100 (by decide) rfl (fun h58 => ?_) (fun h58 => ?_)
                  · refine ZO.aload_n (pc := 103) 0 d_M_ranked_103 rfl rfl ?_
                    refine ZO.sipush (pc := 104) (2000 : Int32) d_M_ranked_104 (by decide) ?_
                    refine ZO.iload (pc := 107) 5 d_M_ranked_107 rfl ?_
                    refine ZO.iadd (pc := 109) d_M_ranked_109 ?_
                    refine ZO.cVV (pc := 110) (As := [.int ((2000 : Int32) + v50)]) (rest := []) d_M_ranked_110 zc_M_76 (by omega) zo_0 rfl rfl rfl (Nat.le_of_ble_eq_true rfl) (ok_M_marks g ((2000 : Int32) + v50) p52.2) (fun p59 ep59 => ?_)
                    exact ZO.sub [0, 1, 2, 3] rfl (hj57 p59)
                  · exact ZO.sub [0, 1, 2, 3] rfl (hj57 p52.2)
          · refine ZO.iload_n (pc := 128) 3 d_M_ranked_128 rfl rfl ?_
            exact ZO.zret (pc := 129) (v := x43.1) d_M_ranked_129 rfl rfl rfl
        · refine ZO.ldcS (pc := 39) (i := 5) rfl d_M_ranked_39 rfl ?_
          refine ZO.astore_n (pc := 41) (v := 705) (L' := [(0, .ref 0), (1, .int a0), (2, .ref 705)]) [1, 2, 0] d_M_ranked_41 rfl (by decide) rfl ?_
          refine ZO.aload_n (pc := 42) 0 d_M_ranked_42 rfl rfl ?_
          refine ZO.iload_n (pc := 43) 1 d_M_ranked_43 rfl rfl ?_
          refine ZO.iconst (pc := 44) (1 : Int32) d_M_ranked_44 (by decide) ?_
          refine ZO.iadd (pc := 45) d_M_ranked_45 ?_
          refine ZO.cVB (pc := 46) (As := [.int (a0 + (1 : Int32))]) (rest := []) d_M_ranked_46 zc_M_91 (by omega) zo_0 rfl rfl rfl (Nat.le_of_ble_eq_true rfl) (H_M_ranked (a0 + (1 : Int32)) s) (fun p60 ep60 => ?_)
          refine ZO.istore_n (pc := 49) (v := (b2i p60.1)) (L' := [(0, .ref 0), (1, .int a0), (2, .ref 705), (3, .int (b2i p60.1))]) [1, 2, 3, 0] d_M_ranked_49 rfl (by decide) rfl ?_
          refine ZO.iconst (pc := 50) (1 : Int32) d_M_ranked_50 (by decide) ?_
          refine ZO.istore (pc := 51) (v := (1 : Int32)) (L' := [(0, .ref 0), (1, .int a0), (2, .ref 705), (3, .int (b2i p60.1)), (4, .int (1 : Int32))]) [1, 2, 3, 4, 0] d_M_ranked_51 (by decide) rfl ?_
          refine ZO.loop (fun (x61 : Bool × Int32 × ZSt) => ([(0, .ref 0), (1, .int a0), (2, .ref 705), (3, .int (b2i x61.1)), (4, .int x61.2.1)] : List (Nat × Value))) (fun (x61 : Bool × Int32 × ZSt) => x61.2.2) [] (fun j62 x61 hj62 => ?_) rfl rfl rfl
          refine ZO.iload_n (pc := 53) 3 d_M_ranked_53 rfl rfl ?_
          refine ZO.ifb_eq (pc := 54) 128 d_M_ranked_54 (by decide) rfl (fun h63 => ?_) (fun h63 => ?_)
          · refine ZO.iload (pc := 57) 4 d_M_ranked_57 rfl ?_
            refine ZO.if_eq (pc := 59) 128 d_M_ranked_59 (by decide) rfl (fun h64 => ?_) (fun h64 => ?_)
            · refine ZO.iload_n (pc := 128) 3 d_M_ranked_128 rfl rfl ?_
              exact ZO.zret (pc := 129) (v := x61.1) d_M_ranked_129 rfl rfl rfl
            · refine ZO.aload_n (pc := 62) 0 d_M_ranked_62 rfl rfl ?_
              refine ZO.aload_n (pc := 63) 2 d_M_ranked_63 rfl rfl ?_
              refine ZO.cVI (pc := 64) (As := [.ref 705]) (rest := []) d_M_ranked_64 zc_M_82 (by omega) zo_0 rfl rfl rfl (Nat.le_of_ble_eq_true rfl) (ok_M_among g n 705 x61.2.2) (fun p65 ep65 => ?_)
              refine ZO.if_lt (pc := 67) 128 d_M_ranked_67 (by decide) rfl (fun h66 => ?_) (fun h66 => ?_)
              · refine ZO.iload_n (pc := 128) 3 d_M_ranked_128 rfl rfl ?_
                exact ZO.zret (pc := 129) (v := x61.1) d_M_ranked_129 rfl rfl rfl
              · refine ZO.aload_n (pc := 70) 0 d_M_ranked_70 rfl rfl ?_
                refine ZO.getA (pc := 71) 117 d_M_ranked_71 zo_0 zf_M_40 rfl rfl ?_
                refine ZO.aload_n (pc := 74) 0 d_M_ranked_74 rfl rfl ?_
                refine ZO.getI (pc := 75) d_M_ranked_75 zo_0 zf_M_43 rfl ?_
                refine ZO.rgd (fun h67 => ?_)
                refine ZO.iald (pc := 78) d_M_ranked_78 za_117 h67 ?_
                refine ZO.ltI (fun v68 => ?_)
                refine ZO.istore (pc := 79) (v := v68) (L' := [(0, .ref 0), (1, .int a0), (2, .ref 705), (3, .int (b2i x61.1)), (4, .int x61.2.1), (5, .int v68)]) [1, 2, 3, 4, 5, 0] d_M_ranked_79 (by decide) rfl ?_
                refine ZO.aload_n (pc := 81) 0 d_M_ranked_81 rfl rfl ?_
                refine ZO.dup (pc := 82) d_M_ranked_82 rfl ?_
                refine ZO.getI (pc := 83) d_M_ranked_83 zo_0 zf_M_43 rfl ?_
                refine ZO.iconst (pc := 86) (1 : Int32) d_M_ranked_86 (by decide) ?_
                refine ZO.iadd (pc := 87) d_M_ranked_87 ?_
                refine ZO.putI (pc := 88) d_M_ranked_88 zo_0 zp_M_43 rfl ?_
                refine ZO.ltS (fun s69 => ?_)
                refine ZO.aload_n (pc := 91) 0 d_M_ranked_91 rfl rfl ?_
                refine ZO.iload_n (pc := 92) 1 d_M_ranked_92 rfl rfl ?_
                refine ZO.iconst (pc := 93) (1 : Int32) d_M_ranked_93 (by decide) ?_
                refine ZO.iadd (pc := 94) d_M_ranked_94 ?_
                refine ZO.cVB (pc := 95) (As := [.int (a0 + (1 : Int32))]) (rest := []) d_M_ranked_95 zc_M_91 (by omega) zo_0 rfl rfl rfl (Nat.le_of_ble_eq_true rfl) (H_M_ranked (a0 + (1 : Int32)) s69) (fun p70 ep70 => ?_)
                refine ZO.istore_n (pc := 98) (v := (b2i p70.1)) (L' := [(0, .ref 0), (1, .int a0), (2, .ref 705), (3, .int (b2i p70.1)), (4, .int x61.2.1), (5, .int v68)]) [1, 2, 3, 0, 4, 5] d_M_ranked_98 rfl (by decide) rfl ?_
                refine ZO.iload_n (pc := 99) 3 d_M_ranked_99 rfl rfl ?_
                refine ZO.rjn (pcJ := 113) (LJ := fun (x71 : ZSt) => ([(0, .ref 0), (1, .int a0), (2, .ref 705), (3, .int (b2i p70.1))] : List (Nat × Value))) (SJ := fun (x71 : ZSt) => ([] : List Value)) (σJ := fun (x71 : ZSt) => x71) (fun x71 => ?_) (fun j75 hj75 => ?_)
                · refine ZO.iload_n (pc := 113) 1 d_M_ranked_113 rfl rfl ?_
                  refine ZO.iconst (pc := 114) (2 : Int32) d_M_ranked_114 (by decide) ?_
                  refine ZO.phi (pcJ := 123) (LJ := fun (x72 : Int32) => ([(0, .ref 0), (1, .int a0), (2, .ref 705), (3, .int (b2i p70.1))] : List (Nat × Value))) (SJ := fun (x72 : Int32) => ([.int x72] : List Value)) (fun x72 => ?_) (fun t hj73 => ?_)
                  · refine ZO.istore (pc := 123) (v := x72) (L' := [(0, .ref 0), (1, .int a0), (2, .ref 705), (3, .int (b2i p70.1)), (4, .int x72)]) [1, 2, 3, 4, 0] d_M_ranked_123 (by decide) rfl ?_
                    refine ZO.goto (pc := 125) 53 d_M_ranked_125 (by decide) ?_
                    exact hj62 (p70.1, x72, x71)
                  · refine ZO.icmp_eq (pc := 115) 122 d_M_ranked_115 (by decide) z_ite (fun h74 => ?_) (fun h74 => ?_)
                    · refine ZO.iconst (pc := 122) (0 : Int32) d_M_ranked_122 (by decide) ?_
                      exact hj73 (0 : Int32) (by rw [if_pos h74])
                    · refine ZO.iconst (pc := 118) (1 : Int32) d_M_ranked_118 (by decide) ?_
                      refine ZO.goto (pc := 119) 123 d_M_ranked_119 (by decide) ?_
                      exact hj73 (1 : Int32) (by rw [if_neg h74])
                · refine ZO.ifb_eq (pc := 100) 113 d_M_ranked_100 (by decide) rfl (fun h76 => ?_) (fun h76 => ?_)
                  · refine ZO.aload_n (pc := 103) 0 d_M_ranked_103 rfl rfl ?_
                    refine ZO.sipush (pc := 104) (2000 : Int32) d_M_ranked_104 (by decide) ?_
                    refine ZO.iload (pc := 107) 5 d_M_ranked_107 rfl ?_
                    refine ZO.iadd (pc := 109) d_M_ranked_109 ?_
                    refine ZO.cVV (pc := 110) (As := [.int ((2000 : Int32) + v68)]) (rest := []) d_M_ranked_110 zc_M_76 (by omega) zo_0 rfl rfl rfl (Nat.le_of_ble_eq_true rfl) (ok_M_marks g ((2000 : Int32) + v68) p70.2) (fun p77 ep77 => ?_)
                    exact ZO.sub [0, 1, 2, 3] rfl (hj75 p77)
                  · exact ZO.sub [0, 1, 2, 3] rfl (hj75 p70.2)
          · refine ZO.iload_n (pc := 128) 3 d_M_ranked_128 rfl rfl ?_
            exact ZO.zret (pc := 129) (v := x61.1) d_M_ranked_129 rfl rfl rfl
def f_M_reads (F_M_ranked : Int32 → ZSt → Option (Bool × ZSt)) (a0 : Int32) (s : ZSt) : Option (Bool × ZSt) :=
  lt (si s 0 22 a0) (fun s1 =>
  lt (si s1 0 21 (0 : Int32)) (fun s2 =>
  bn (F_M_ranked (0 : Int32) s2) (fun p3 =>
  some (p3.1, p3.2))))
set_option maxHeartbeats 4000000 in
set_option maxRecDepth 20000 in
theorem ok_M_reads (g : ZG) (dd : Nat) (F_M_ranked : Int32 → ZSt → Option (Bool × ZSt)) (dd_M_ranked : Nat) (hdd_M_ranked : dd_M_ranked ≤ dd) (H_M_ranked : ∀ (a0 : Int32) (s : ZSt), ZF g dd_M_ranked y_M_ranked [.ref 0, .int a0] s (F_M_ranked a0 s) (fun b => some (.int (b2i b.1))) (fun b => b.2)) (a0 : Int32) (s : ZSt) : ZF g (dd + 1) y_M_reads [.ref 0, .int a0] s (f_M_reads F_M_ranked a0 s) (fun b => some (.int (b2i b.1))) (fun b => b.2) := by
  refine ZF.of (by decide +kernel) (Nat.le_of_ble_eq_true rfl) ?_
  unfold f_M_reads
  show ZO g (dd + 1) y_M_reads zu0 0 [(0, .ref 0), (1, .int a0)] [] s _ _
  refine ZO.aload_n (pc := 0) 0 d_M_reads_0 rfl rfl ?_
  refine ZO.iload_n (pc := 1) 1 d_M_reads_1 rfl rfl ?_
  refine ZO.putI (pc := 2) d_M_reads_2 zo_0 zp_M_66 rfl ?_
  refine ZO.ltS (fun s1 => ?_)
  refine ZO.aload_n (pc := 5) 0 d_M_reads_5 rfl rfl ?_
  refine ZO.iconst (pc := 6) (0 : Int32) d_M_reads_6 (by decide) ?_
  refine ZO.putI (pc := 7) d_M_reads_7 zo_0 zp_M_88 rfl ?_
  refine ZO.ltS (fun s2 => ?_)
  refine ZO.aload_n (pc := 10) 0 d_M_reads_10 rfl rfl ?_
  refine ZO.iconst (pc := 11) (0 : Int32) d_M_reads_11 (by decide) ?_
  refine ZO.cVB (pc := 12) (As := [.int (0 : Int32)]) (rest := []) d_M_reads_12 zc_M_91 (by omega) zo_0 rfl rfl rfl (Nat.le_of_ble_eq_true rfl) (H_M_ranked (0 : Int32) s2) (fun p3 ep3 => ?_)
  exact ZO.zret (pc := 15) (v := p3.1) d_M_reads_15 rfl rfl rfl
abbrev ZMF : Type := Int32 → ZSt → Option (Bool × ZSt)
def fx_M_ahead (R : ZMF) (n : Nat) : Nat → ZSt → Option (Bool × ZSt)
  | 0 => fun _ => none
  | r + 1 => fun s => f_M_ahead (fx_M_ahead R n r) (f_M_thing R n) s
def fx_M_ranked (n : Nat) : Nat → ZMF
  | 0 => fun _ _ => none
  | q + 1 => fun a s => f_M_ranked (fx_M_ranked n q) (fx_M_ahead (fx_M_ranked n q) n 61) n a s
theorem okx_M_ahead (g : ZG) (n D : Nat) (hD : 4 ≤ D) (R : ZMF) (H : ∀ (a0 : Int32) (s : ZSt), ZF g D y_M_ranked [.ref 0, .int a0] s (R a0 s) (fun b => some (.int (b2i b.1))) (fun b => b.2)) : ∀ (r : Nat) (s : ZSt), ZF g (D + 1 + r) y_M_ahead [.ref 0] s (fx_M_ahead R n r s) (fun b => some (.int (b2i b.1))) (fun b => b.2) := by
  intro r
  induction r with
  | zero => intro s x hx; cases hx
  | succ r ih => exact fun s => ok_M_ahead g (D + 1 + r) (by omega) _ (f_M_thing R n) _ (Nat.le_refl _) ih (D + 1) (by omega) (fun s => ok_M_thing g D hD R D (Nat.le_refl _) H n s) s
theorem okx_M_ranked (g : ZG) (n : Nat) : ∀ (q : Nat) (a0 : Int32) (s : ZSt), ZF g (63 * q + 4) y_M_ranked [.ref 0, .int a0] s (fx_M_ranked n q a0 s) (fun b => some (.int (b2i b.1))) (fun b => b.2) := by
  intro q
  induction q with
  | zero => intro a s x hx; cases hx
  | succ q ih => exact fun a s => ok_M_ranked g (63 * q + 66) (by omega) (fx_M_ranked n q) (fx_M_ahead (fx_M_ranked n q) n 61) (63 * q + 4) (by omega) ih (63 * q + 66) (Nat.le_refl _) (okx_M_ahead g n (63 * q + 4) (by omega) _ ih 61) n a s
def fc_M_reads (n : Nat) (a0 : Int32) (s : ZSt) : Option (Bool × ZSt) := f_M_reads (fx_M_ranked n 29) a0 s
theorem okc_M_reads (g : ZG) (n : Nat) (a0 : Int32) (s : ZSt) : ZF g 1832 y_M_reads [.ref 0, .int a0] s (fc_M_reads n a0 s) (fun b => some (.int (b2i b.1))) (fun b => b.2) :=
  ok_M_reads g 1831 (fx_M_ranked n 29) 1831 (Nat.le_refl _) (okx_M_ranked g n 29) a0 s
def f_M_book (n : Nat) (a0 : Int32) (s : ZSt) : Option (Int32 × ZSt) :=
  lt (si s 0 0 (0 : Int32)) (fun s1 =>
  bn (f_M_begins (60 : Int32) s1) (fun p2 =>
  (if (f_M_in a0.toInt64 (0 : Int64) (12 : Int64)) = true then
  (jn (fun (x4 : Unit) =>
      (jn (fun (x5 : Unit) =>
          bn (fc_M_reads n (25 : Int32) p2.2) (fun p6 =>
            (jn (fun (x7 : Bool × Int32 × ZSt) =>
              lt (f_M_faultOf p2.1 (60 : Int32) x7.1 x7.2.2) (fun v8 =>
                (if 0 ≤ v8 then
                (lt ((if a0 = (12 : Int32) then
                  (gi x7.2.2 0 3)
                else a0) : Int32) (fun x10 =>
                    (jn (fun (x11 : ZSt) =>
                        gd (inb x10 12) (
                          lt (sai x11 106 x10 x7.2.1) (fun s13 =>
                          bn (f_M_lays n (25 : Int32) ((2 : Int32) * x10) s13) (fun p14 =>
                          bn (f_M_lays n (26 : Int32) (((2 : Int32) * x10) + (1 : Int32)) p14) (fun p15 =>
                          bn (f_M_tableOf n x10 p15) (fun p16 =>
                          (if p16 < 0 then
                          some (x10, p15)
                        else gd (inb p16 3) (
                            bn (f_M_settled n p16 (ai p15 108 p16) p15) (fun p19 =>
                            lt (sai p19.2 108 p16 p19.1) (fun s20 =>
                            some (x10, s20))))))))))) (fun j21 =>
                        if a0 = (12 : Int32) then
                      gd (inb x10 12) (
                        lt (sai x7.2.2 104 x10 (99 : Int32)) (fun s24 =>
                        lt (sai s24 105 x10 (0 : Int32)) (fun s25 =>
                        lt (si s25 0 3 ((gi s25 0 3) + (1 : Int32))) (fun s26 =>
                        j21 s26))))
                    else j21 x7.2.2))))
              else some (v8, x7.2.2)))) (fun j29 =>
              if p6.1 = true then
            bn (f_M_takes (59 : Int32) p6.2) (fun p31 =>
              (if p31.1 = true then
              (jn (fun (x33 : Bool) =>
                  (if x33 = true then
                    gd (inb (gi p31.2 0 19) 80) (
                      lt ((ai p31.2 117 (gi p31.2 0 19)) - (48 : Int32)) (fun v36 =>
                      lt (si p31.2 0 19 ((gi p31.2 0 19) + (1 : Int32))) (fun s37 =>
                      bn (f_M_takes (59 : Int32) s37) (fun p38 =>
                      (jn (fun (x39 : Bool × ZSt) =>
                        j29 (x39.1, v36, x39.2)) (fun j40 =>
                        jn (fun (x41 : ZSt) =>
                        j40 (false, x41)) (fun j42 =>
                        if p38.1 = true then
                      bn (fc_M_reads n (26 : Int32) p38.2) (fun p44 =>
                        (if p44.1 = true then
                        j40 (true, p44.2)
                      else j42 p44.2))
                    else j42 p38.2)))))))
                  else j29 (x33, (0 : Int32), p31.2))) (fun j46 =>
                  jn (fun (x47 : Unit) =>
                  j46 false) (fun j48 =>
                  if (gi p31.2 0 20) ≤ (gi p31.2 0 19) then
                j48 ()
              else gd (inb (gi p31.2 0 19) 80) (
                  (if (f_M_in ((ai p31.2 117 (gi p31.2 0 19)).toInt64) (49 : Int64) (54 : Int64)) = true then
                  j46 true
                else j48 ())))))
            else j29 (p6.1, (0 : Int32), p31.2)))
          else j29 (p6.1, (0 : Int32), p6.2))))) (fun j52 =>
          if (12 : Int32) ≤ a0 then
        j52 ()
      else (if a0 < (gi p2.2 0 3) then
          j52 ()
        else some ((-100 : Int32), p2.2))))) (fun j55 =>
      if a0 = (12 : Int32) then
    (if (gi p2.2 0 3) = (12 : Int32) then
      some ((-100 : Int32), p2.2)
    else j55 ())
  else j55 ()))
else some ((-100 : Int32), p2.2))))
set_option maxHeartbeats 4000000 in
set_option maxRecDepth 20000 in
theorem ok_M_book (g : ZG) (n : Nat) (a0 : Int32) (s : ZSt) : ZF g 1833 y_M_book [.ref 0, .int a0] s (f_M_book n a0 s) (fun b => some (.int b.1)) (fun b => b.2) := by
  refine ZF.of (by decide +kernel) (Nat.le_of_ble_eq_true rfl) ?_
  unfold f_M_book
  show ZO g 1833 y_M_book zu0 0 [(0, .ref 0), (1, .int a0)] [] s _ _
  refine ZO.aload_n (pc := 0) 0 d_M_book_0 rfl rfl ?_
  refine ZO.iconst (pc := 1) (0 : Int32) d_M_book_1 (by decide) ?_
  refine ZO.putI (pc := 2) d_M_book_2 zo_0 zp_M_3 rfl ?_
  refine ZO.ltS (fun s1 => ?_)
  refine ZO.aload_n (pc := 5) 0 d_M_book_5 rfl rfl ?_
  refine ZO.bipush (pc := 6) (60 : Int32) d_M_book_6 (by decide) ?_
  refine ZO.cVI (pc := 8) (As := [.int (60 : Int32)]) (rest := []) d_M_book_8 zc_M_157 (by decide) zo_0 rfl rfl rfl (Nat.le_of_ble_eq_true rfl) (ok_M_begins g (60 : Int32) s1) (fun p2 ep2 => ?_)
  refine ZO.istore_n (pc := 11) (v := p2.1) (L' := [(0, .ref 0), (1, .int a0), (2, .int p2.1)]) [1, 2, 0] d_M_book_11 rfl (by decide) rfl ?_
  refine ZO.iload_n (pc := 12) 1 d_M_book_12 rfl rfl ?_
  refine ZO.i2l (pc := 13) d_M_book_13 ?_
  refine ZO.lconst (pc := 14) (0 : Int64) d_M_book_14 (by decide) ?_
  refine ZO.ldc2 (pc := 15) (12 : Int64) d_M_book_15 zk_M_160 ?_
  refine ZO.tSB (pc := 18) (As := [.long a0.toInt64, .long (0 : Int64), .long (12 : Int64)]) (rest := []) d_M_book_18 zc_M_17 (by decide) rfl rfl (Nat.le_of_ble_eq_true rfl) (ok_M_in g a0.toInt64 (0 : Int64) (12 : Int64) p2.2) ?_
  refine ZO.ifb_eq (pc := 21) 53 d_M_book_21 (by decide) rfl (fun h3 => ?_) (fun h3 => ?_)
  · refine ZO.iload_n (pc := 24) 1 d_M_book_24 rfl rfl ?_
    refine ZO.bipush (pc := 25) (12 : Int32) d_M_book_25 (by decide) ?_
    refine ZO.rjn (pcJ := 39) (LJ := fun (x4 : Unit) => ([(0, .ref 0), (1, .int a0), (2, .int p2.1)] : List (Nat × Value))) (SJ := fun (x4 : Unit) => ([] : List Value)) (σJ := fun (x4 : Unit) => p2.2) (fun x4 => ?_) (fun j55 hj55 => ?_)
    · refine ZO.iload_n (pc := 39) 1 d_M_book_39 rfl rfl ?_
      refine ZO.bipush (pc := 40) (12 : Int32) d_M_book_40 (by decide) ?_
      refine ZO.rjn (pcJ := 56) (LJ := fun (x5 : Unit) => ([(0, .ref 0), (1, .int a0), (2, .int p2.1)] : List (Nat × Value))) (SJ := fun (x5 : Unit) => ([] : List Value)) (σJ := fun (x5 : Unit) => p2.2) (fun x5 => ?_) (fun j52 hj52 => ?_)
      · refine ZO.aload_n (pc := 56) 0 d_M_book_56 rfl rfl ?_
        refine ZO.bipush (pc := 57) (25 : Int32) d_M_book_57 (by decide) ?_
        refine ZO.cVB (pc := 59) (As := [.int (25 : Int32)]) (rest := []) d_M_book_59 zc_M_162 (by decide) zo_0 rfl rfl rfl (Nat.le_of_ble_eq_true rfl) (okc_M_reads g n (25 : Int32) p2.2) (fun p6 ep6 => ?_)
        refine ZO.istore_n (pc := 62) (v := (b2i p6.1)) (L' := [(0, .ref 0), (1, .int a0), (2, .int p2.1), (3, .int (b2i p6.1))]) [1, 2, 3, 0] d_M_book_62 rfl (by decide) rfl ?_
        refine ZO.iconst (pc := 63) (0 : Int32) d_M_book_63 (by decide) ?_
        refine ZO.istore (pc := 64) (v := (0 : Int32)) (L' := [(0, .ref 0), (1, .int a0), (2, .int p2.1), (3, .int (b2i p6.1)), (4, .int (0 : Int32))]) [1, 2, 3, 4, 0] d_M_book_64 (by decide) rfl ?_
        refine ZO.iload_n (pc := 66) 3 d_M_book_66 rfl rfl ?_
        refine ZO.rjn (pcJ := 170) (LJ := fun (x7 : Bool × Int32 × ZSt) => ([(0, .ref 0), (1, .int a0), (2, .int p2.1), (3, .int (b2i x7.1)), (4, .int x7.2.1)] : List (Nat × Value))) (SJ := fun (x7 : Bool × Int32 × ZSt) => ([] : List Value)) (σJ := fun (x7 : Bool × Int32 × ZSt) => x7.2.2) (fun x7 => ?_) (fun j29 hj29 => ?_)
        · refine ZO.aload_n (pc := 170) 0 d_M_book_170 rfl rfl ?_
          refine ZO.iload_n (pc := 171) 2 d_M_book_171 rfl rfl ?_
          refine ZO.bipush (pc := 172) (60 : Int32) d_M_book_172 (by decide) ?_
          refine ZO.iload_n (pc := 174) 3 d_M_book_174 rfl rfl ?_
          refine ZO.tVI (pc := 175) (As := [.int p2.1, .int (60 : Int32), .int (b2i x7.1)]) (rest := []) d_M_book_175 zc_M_169 (by decide) zo_0 rfl rfl rfl (Nat.le_of_ble_eq_true rfl) (ok_M_faultOf g p2.1 (60 : Int32) x7.1 x7.2.2) ?_
          refine ZO.ltI (fun v8 => ?_)
          refine ZO.istore (pc := 178) (v := v8) (L' := [(0, .ref 0), (1, .int a0), (2, .int p2.1), (3, .int (b2i x7.1)), (4, .int x7.2.1), (5, .int v8)]) [1, 2, 3, 4, 5, 0] d_M_book_178 (by decide) rfl ?_
          refine ZO.iload (pc := 180) 5 d_M_book_180 rfl ?_
          refine ZO.if_ge (pc := 182) 188 d_M_book_182 (by decide) rfl (fun h9 => ?_) (fun h9 => ?_)
          · refine ZO.iload_n (pc := 188) 1 d_M_book_188 rfl rfl ?_
            refine ZO.bipush (pc := 189) (12 : Int32) d_M_book_189 (by decide) ?_
            refine ZO.phi (pcJ := 202) (LJ := fun (x10 : Int32) => ([(0, .ref 0), (1, .int a0), (4, .int x7.2.1)] : List (Nat × Value))) (SJ := fun (x10 : Int32) => ([.int x10] : List Value)) (fun x10 => ?_) (fun t hj27 => ?_)
            · refine ZO.istore (pc := 202) (v := x10) (L' := [(0, .ref 0), (1, .int a0), (4, .int x7.2.1), (6, .int x10)]) [1, 2, 3, 0] d_M_book_202 (by decide) rfl ?_
              refine ZO.iload_n (pc := 204) 1 d_M_book_204 rfl rfl ?_
              refine ZO.bipush (pc := 205) (12 : Int32) d_M_book_205 (by decide) ?_
              refine ZO.rjn (pcJ := 237) (LJ := fun (x11 : ZSt) => ([(0, .ref 0), (4, .int x7.2.1), (6, .int x10)] : List (Nat × Value))) (SJ := fun (x11 : ZSt) => ([] : List Value)) (σJ := fun (x11 : ZSt) => x11) (fun x11 => ?_) (fun j21 hj21 => ?_)
              · refine ZO.aload_n (pc := 237) 0 d_M_book_237 rfl rfl ?_
                refine ZO.getA (pc := 238) 106 d_M_book_238 zo_0 zf_M_135 rfl rfl ?_
                refine ZO.iload (pc := 241) 2 d_M_book_241 rfl ?_
                refine ZO.iload (pc := 243) 1 d_M_book_243 rfl ?_
                refine ZO.rgd (fun h12 => ?_)
                refine ZO.iast (pc := 245) d_M_book_245 za_106 h12 ?_
                refine ZO.ltS (fun s13 => ?_)
                refine ZO.aload_n (pc := 246) 0 d_M_book_246 rfl rfl ?_
                refine ZO.bipush (pc := 247) (25 : Int32) d_M_book_247 (by decide) ?_
                refine ZO.iconst (pc := 249) (2 : Int32) d_M_book_249 (by decide) ?_
                refine ZO.iload (pc := 250) 2 d_M_book_250 rfl ?_
                refine ZO.imul (pc := 252) d_M_book_252 ?_
                refine ZO.cVV (pc := 253) (As := [.int (25 : Int32), .int ((2 : Int32) * x10)]) (rest := []) d_M_book_253 zc_M_179 (by decide) zo_0 rfl rfl rfl (Nat.le_of_ble_eq_true rfl) (ok_M_lays g n (25 : Int32) ((2 : Int32) * x10) s13) (fun p14 ep14 => ?_)
                refine ZO.aload_n (pc := 256) 0 d_M_book_256 rfl rfl ?_
                refine ZO.bipush (pc := 257) (26 : Int32) d_M_book_257 (by decide) ?_
                refine ZO.iconst (pc := 259) (2 : Int32) d_M_book_259 (by decide) ?_
                refine ZO.iload (pc := 260) 2 d_M_book_260 rfl ?_
                refine ZO.imul (pc := 262) d_M_book_262 ?_
                refine ZO.iconst (pc := 263) (1 : Int32) d_M_book_263 (by decide) ?_
                refine ZO.iadd (pc := 264) d_M_book_264 ?_
                refine ZO.cVV (pc := 265) (As := [.int (26 : Int32), .int (((2 : Int32) * x10) + (1 : Int32))]) (rest := []) d_M_book_265 zc_M_179 (by decide) zo_0 rfl rfl rfl (Nat.le_of_ble_eq_true rfl) (ok_M_lays g n (26 : Int32) (((2 : Int32) * x10) + (1 : Int32)) p14) (fun p15 ep15 => ?_)
                refine ZO.aload_n (pc := 268) 0 d_M_book_268 rfl rfl ?_
                refine ZO.iload (pc := 269) 2 d_M_book_269 rfl ?_
                refine ZO.cVI (pc := 271) (As := [.int x10]) (rest := []) d_M_book_271 zc_M_183 (by decide) zo_0 rfl rfl rfl (Nat.le_of_ble_eq_true rfl) (ok_M_tableOf g n x10 p15) (fun p16 ep16 => ?_)
                refine ZO.istore (pc := 274) (v := p16) (L' := [(0, .ref 0), (4, .int x7.2.1), (6, .int x10), (7, .int p16)]) [1, 2, 3, 0] d_M_book_274 (by decide) rfl ?_
                refine ZO.iload (pc := 276) 3 d_M_book_276 rfl ?_
                refine ZO.if_lt (pc := 278) 301 d_M_book_278 (by decide) rfl (fun h17 => ?_) (fun h17 => ?_)
                · refine ZO.iload (pc := 301) 2 d_M_book_301 rfl ?_
                  exact ZO.iret (pc := 303)  d_M_book_303 rfl rfl rfl
                · refine ZO.aload_n (pc := 281) 0 d_M_book_281 rfl rfl ?_
                  refine ZO.getA (pc := 282) 108 d_M_book_282 zo_0 zf_M_154 rfl rfl ?_
                  refine ZO.iload (pc := 285) 3 d_M_book_285 rfl ?_
                  refine ZO.aload_n (pc := 287) 0 d_M_book_287 rfl rfl ?_
                  refine ZO.iload (pc := 288) 3 d_M_book_288 rfl ?_
                  refine ZO.aload_n (pc := 290) 0 d_M_book_290 rfl rfl ?_
                  refine ZO.getA (pc := 291) 108 d_M_book_291 zo_0 zf_M_154 rfl rfl ?_
                  refine ZO.iload (pc := 294) 3 d_M_book_294 rfl ?_
                  refine ZO.rgd (fun h18 => ?_)
                  refine ZO.iald (pc := 296) d_M_book_296 za_108 h18 ?_
                  refine ZO.cVI (pc := 297) (As := [.int p16, .int (ai p15 108 p16)]) (rest := [.int p16, .ref 108]) d_M_book_297 zc_M_186 (by decide) zo_0 rfl rfl rfl (Nat.le_of_ble_eq_true rfl) (ok_M_settled g n p16 (ai p15 108 p16) p15) (fun p19 ep19 => ?_)
                  refine ZO.iast (pc := 300) d_M_book_300 za_108 h18 ?_
                  refine ZO.ltS (fun s20 => ?_)
                  refine ZO.iload (pc := 301) 2 d_M_book_301 rfl ?_
                  exact ZO.iret (pc := 303)  d_M_book_303 rfl rfl rfl
              · refine ZO.icmp_ne (pc := 207) 237 d_M_book_207 (by decide) rfl (fun h22 => ?_) (fun h22 => ?_)
                · refine ZO.aload_n (pc := 210) 0 d_M_book_210 rfl rfl ?_
                  refine ZO.getA (pc := 211) 104 d_M_book_211 zo_0 zf_M_173 rfl rfl ?_
                  refine ZO.iload (pc := 214) 3 d_M_book_214 rfl ?_
                  refine ZO.bipush (pc := 216) (99 : Int32) d_M_book_216 (by decide) ?_
                  refine ZO.rgd (fun h23 => ?_)
                  refine ZO.iast (pc := 218) d_M_book_218 za_104 h23 ?_
                  refine ZO.ltS (fun s24 => ?_)
                  refine ZO.aload_n (pc := 219) 0 d_M_book_219 rfl rfl ?_
                  refine ZO.getA (pc := 220) 105 d_M_book_220 zo_0 zf_M_176 rfl rfl ?_
                  refine ZO.iload (pc := 223) 3 d_M_book_223 rfl ?_
                  refine ZO.iconst (pc := 225) (0 : Int32) d_M_book_225 (by decide) ?_
                  refine ZO.iast (pc := 226) d_M_book_226 za_105 h23 ?_
                  refine ZO.ltS (fun s25 => ?_)
                  refine ZO.aload_n (pc := 227) 0 d_M_book_227 rfl rfl ?_
                  refine ZO.dup (pc := 228) d_M_book_228 rfl ?_
                  refine ZO.getI (pc := 229) d_M_book_229 zo_0 zf_M_14 rfl ?_
                  refine ZO.iconst (pc := 232) (1 : Int32) d_M_book_232 (by decide) ?_
                  refine ZO.iadd (pc := 233) d_M_book_233 ?_
                  refine ZO.putI (pc := 234) d_M_book_234 zo_0 zp_M_14 rfl ?_
                  refine ZO.ltS (fun s26 => ?_)
                  exact ZO.sub [0, 2, 3] rfl (hj21 s26)
                · exact ZO.sub [0, 2, 3] rfl (hj21 x7.2.2)
            · refine ZO.icmp_ne (pc := 191) 201 d_M_book_191 (by decide) z_ite (fun h28 => ?_) (fun h28 => ?_)
              · refine ZO.aload_n (pc := 194) 0 d_M_book_194 rfl rfl ?_
                refine ZO.getI (pc := 195) d_M_book_195 zo_0 zf_M_14 rfl ?_
                refine ZO.goto (pc := 198) 202 d_M_book_198 (by decide) ?_
                exact ZO.sub [0, 1, 4] rfl (hj27 (gi x7.2.2 0 3) (by rw [if_pos h28]))
              · refine ZO.iload_n (pc := 201) 1 d_M_book_201 rfl rfl ?_
                exact ZO.sub [0, 1, 4] rfl (hj27 a0 (by rw [if_neg h28]))
          · refine ZO.iload (pc := 185) 5 d_M_book_185 rfl ?_
            exact ZO.iret (pc := 187)  d_M_book_187 rfl rfl rfl
        · refine ZO.ifb_eq (pc := 67) 170 d_M_book_67 (by decide) rfl (fun h30 => ?_) (fun h30 => ?_)
          · refine ZO.aload_n (pc := 70) 0 d_M_book_70 rfl rfl ?_
            refine ZO.bipush (pc := 71) (59 : Int32) d_M_book_71 (by decide) ?_
            refine ZO.cVB (pc := 73) (As := [.int (59 : Int32)]) (rest := []) d_M_book_73 zc_M_95 (by decide) zo_0 rfl rfl rfl (Nat.le_of_ble_eq_true rfl) (ok_M_takes g (59 : Int32) p6.2) (fun p31 ep31 => ?_)
            refine ZO.ifb_eq (pc := 76) 170 d_M_book_76 (by decide) rfl (fun h32 => ?_) (fun h32 => ?_)
            · refine ZO.aload_n (pc := 79) 0 d_M_book_79 rfl rfl ?_
              refine ZO.getI (pc := 80) d_M_book_80 zo_0 zf_M_43 rfl ?_
              refine ZO.aload_n (pc := 83) 0 d_M_book_83 rfl rfl ?_
              refine ZO.getI (pc := 84) d_M_book_84 zo_0 zf_M_46 rfl ?_
              refine ZO.rjn (pcJ := 117) (LJ := fun (x33 : Bool) => ([(0, .ref 0), (1, .int a0), (2, .int p2.1), (4, .int (0 : Int32))] : List (Nat × Value))) (SJ := fun (x33 : Bool) => ([.int (b2i x33)] : List Value)) (σJ := fun (x33 : Bool) => p31.2) (fun x33 => ?_) (fun j46 hj46 => ?_)
              · refine ZO.istore_n (pc := 117) (v := (b2i x33)) (L' := [(0, .ref 0), (1, .int a0), (2, .int p2.1), (3, .int (b2i x33)), (4, .int (0 : Int32))]) [1, 2, 3, 0, 4] d_M_book_117 rfl (by decide) rfl ?_
                refine ZO.iload_n (pc := 118) 3 d_M_book_118 rfl rfl ?_
                refine ZO.ifb_eq (pc := 119) 170 d_M_book_119 (by decide) rfl (fun h34 => ?_) (fun h34 => ?_)
                · refine ZO.aload_n (pc := 122) 0 d_M_book_122 rfl rfl ?_
                  refine ZO.getA (pc := 123) 117 d_M_book_123 zo_0 zf_M_40 rfl rfl ?_
                  refine ZO.aload_n (pc := 126) 0 d_M_book_126 rfl rfl ?_
                  refine ZO.getI (pc := 127) d_M_book_127 zo_0 zf_M_43 rfl ?_
                  refine ZO.rgd (fun h35 => ?_)
                  refine ZO.iald (pc := 130) d_M_book_130 za_117 h35 ?_
                  refine ZO.bipush (pc := 131) (48 : Int32) d_M_book_131 (by decide) ?_
                  refine ZO.isub (pc := 133) d_M_book_133 ?_
                  refine ZO.ltI (fun v36 => ?_)
                  refine ZO.istore (pc := 134) (v := v36) (L' := [(0, .ref 0), (1, .int a0), (2, .int p2.1), (3, .int (b2i x33)), (4, .int v36)]) [1, 2, 3, 4, 0] d_M_book_134 (by decide) rfl ?_
                  refine ZO.aload_n (pc := 136) 0 d_M_book_136 rfl rfl ?_
                  refine ZO.dup (pc := 137) d_M_book_137 rfl ?_
                  refine ZO.getI (pc := 138) d_M_book_138 zo_0 zf_M_43 rfl ?_
                  refine ZO.iconst (pc := 141) (1 : Int32) d_M_book_141 (by decide) ?_
                  refine ZO.iadd (pc := 142) d_M_book_142 ?_
                  refine ZO.putI (pc := 143) d_M_book_143 zo_0 zp_M_43 rfl ?_
                  refine ZO.ltS (fun s37 => ?_)
                  refine ZO.aload_n (pc := 146) 0 d_M_book_146 rfl rfl ?_
                  refine ZO.bipush (pc := 147) (59 : Int32) d_M_book_147 (by decide) ?_
                  refine ZO.cVB (pc := 149) (As := [.int (59 : Int32)]) (rest := []) d_M_book_149 zc_M_95 (by decide) zo_0 rfl rfl rfl (Nat.le_of_ble_eq_true rfl) (ok_M_takes g (59 : Int32) s37) (fun p38 ep38 => ?_)
                  refine ZO.rjn (pcJ := 169) (LJ := fun (x39 : Bool × ZSt) => ([(0, .ref 0), (1, .int a0), (2, .int p2.1), (4, .int v36)] : List (Nat × Value))) (SJ := fun (x39 : Bool × ZSt) => ([.int (b2i x39.1)] : List Value)) (σJ := fun (x39 : Bool × ZSt) => x39.2) (fun x39 => ?_) (fun j40 hj40 => ?_)
                  · refine ZO.istore_n (pc := 169) (v := (b2i x39.1)) (L' := [(0, .ref 0), (1, .int a0), (2, .int p2.1), (3, .int (b2i x39.1)), (4, .int v36)]) [1, 2, 3, 0, 4] d_M_book_169 rfl (by decide) rfl ?_
                    exact hj29 (x39.1, v36, x39.2)
                  · refine ZO.rjn (pcJ := 168) (LJ := fun (x41 : ZSt) => ([(0, .ref 0), (1, .int a0), (2, .int p2.1), (4, .int v36)] : List (Nat × Value))) (SJ := fun (x41 : ZSt) => ([] : List Value)) (σJ := fun (x41 : ZSt) => x41) (fun x41 => ?_) (fun j42 hj42 => ?_)
                    · refine ZO.iconst (pc := 168) (0 : Int32) d_M_book_168 (by decide) ?_
                      exact hj40 (false, x41)
                    · refine ZO.ifb_eq (pc := 152) 168 d_M_book_152 (by decide) rfl (fun h43 => ?_) (fun h43 => ?_)
                      · refine ZO.aload_n (pc := 155) 0 d_M_book_155 rfl rfl ?_
                        refine ZO.bipush (pc := 156) (26 : Int32) d_M_book_156 (by decide) ?_
                        refine ZO.cVB (pc := 158) (As := [.int (26 : Int32)]) (rest := []) d_M_book_158 zc_M_162 (by decide) zo_0 rfl rfl rfl (Nat.le_of_ble_eq_true rfl) (okc_M_reads g n (26 : Int32) p38.2) (fun p44 ep44 => ?_)
                        refine ZO.ifb_eq (pc := 161) 168 d_M_book_161 (by decide) rfl (fun h45 => ?_) (fun h45 => ?_)
                        · refine ZO.iconst (pc := 164) (1 : Int32) d_M_book_164 (by decide) ?_
                          refine ZO.goto (pc := 165) 169 d_M_book_165 (by decide) ?_
                          exact ZO.sub [0, 1, 2, 4] rfl (hj40 (true, p44.2))
                        · exact ZO.sub [0, 1, 2, 4] rfl (hj42 p44.2)
                      · exact ZO.sub [0, 1, 2, 4] rfl (hj42 p38.2)
                · exact hj29 (x33, (0 : Int32), p31.2)
              · refine ZO.rjn (pcJ := 116) (LJ := fun (x47 : Unit) => ([(0, .ref 0), (1, .int a0), (2, .int p2.1), (4, .int (0 : Int32))] : List (Nat × Value))) (SJ := fun (x47 : Unit) => ([] : List Value)) (σJ := fun (x47 : Unit) => p31.2) (fun x47 => ?_) (fun j48 hj48 => ?_)
                · refine ZO.iconst (pc := 116) (0 : Int32) d_M_book_116 (by decide) ?_
                  exact hj46 false
                · refine ZO.icmp_ge (pc := 87) 116 d_M_book_87 (by decide) rfl (fun h49 => ?_) (fun h49 => ?_)
                  · exact ZO.sub [0, 1, 2, 4] rfl (hj48 ())
                  · refine ZO.aload_n (pc := 90) 0 d_M_book_90 rfl rfl ?_
                    refine ZO.getA (pc := 91) 117 d_M_book_91 zo_0 zf_M_40 rfl rfl ?_
                    refine ZO.aload_n (pc := 94) 0 d_M_book_94 rfl rfl ?_
                    refine ZO.getI (pc := 95) d_M_book_95 zo_0 zf_M_43 rfl ?_
                    refine ZO.rgd (fun h50 => ?_)
                    refine ZO.iald (pc := 98) d_M_book_98 za_117 h50 ?_
                    refine ZO.i2l (pc := 99) d_M_book_99 ?_
                    refine ZO.ldc2 (pc := 100) (49 : Int64) d_M_book_100 zk_M_165 ?_
                    refine ZO.ldc2 (pc := 103) (54 : Int64) d_M_book_103 zk_M_167 ?_
                    refine ZO.tSB (pc := 106) (As := [.long (ai p31.2 117 (gi p31.2 0 19)).toInt64, .long (49 : Int64), .long (54 : Int64)]) (rest := []) d_M_book_106 zc_M_17 (by decide) rfl rfl (Nat.le_of_ble_eq_true rfl) (ok_M_in g ((ai p31.2 117 (gi p31.2 0 19)).toInt64) (49 : Int64) (54 : Int64) p31.2) ?_
                    refine ZO.ifb_eq (pc := 109) 116 d_M_book_109 (by decide) rfl (fun h51 => ?_) (fun h51 => ?_)
                    · refine ZO.iconst (pc := 112) (1 : Int32) d_M_book_112 (by decide) ?_
                      refine ZO.goto (pc := 113) 117 d_M_book_113 (by decide) ?_
                      exact ZO.sub [0, 1, 2, 4] rfl (hj46 true)
                    · exact ZO.sub [0, 1, 2, 4] rfl (hj48 ())
            · exact hj29 (p6.1, (0 : Int32), p31.2)
          · exact hj29 (p6.1, (0 : Int32), p6.2)
      · refine ZO.icmp_ge (pc := 42) 56 d_M_book_42 (by decide) rfl (fun h53 => ?_) (fun h53 => ?_)
        · exact hj52 ()
        · refine ZO.iload_n (pc := 45) 1 d_M_book_45 rfl rfl ?_
          refine ZO.aload_n (pc := 46) 0 d_M_book_46 rfl rfl ?_
          refine ZO.getI (pc := 47) d_M_book_47 zo_0 zf_M_14 rfl ?_
          refine ZO.icmp_lt (pc := 50) 56 d_M_book_50 (by decide) rfl (fun h54 => ?_) (fun h54 => ?_)
          · exact hj52 ()
          · refine ZO.bipush (pc := 53) (-100 : Int32) d_M_book_53 (by decide) ?_
            exact ZO.iret (pc := 55)  d_M_book_55 rfl rfl rfl
    · refine ZO.icmp_ne (pc := 27) 39 d_M_book_27 (by decide) rfl (fun h56 => ?_) (fun h56 => ?_)
      · refine ZO.aload_n (pc := 30) 0 d_M_book_30 rfl rfl ?_
        refine ZO.getI (pc := 31) d_M_book_31 zo_0 zf_M_14 rfl ?_
        refine ZO.bipush (pc := 34) (12 : Int32) d_M_book_34 (by decide) ?_
        refine ZO.icmp_eq (pc := 36) 53 d_M_book_36 (by decide) rfl (fun h57 => ?_) (fun h57 => ?_)
        · refine ZO.bipush (pc := 53) (-100 : Int32) d_M_book_53 (by decide) ?_
          exact ZO.iret (pc := 55)  d_M_book_55 rfl rfl rfl
        · exact hj55 ()
      · exact hj55 ()
  · refine ZO.bipush (pc := 53) (-100 : Int32) d_M_book_53 (by decide) ?_
    exact ZO.iret (pc := 55)  d_M_book_55 rfl rfl rfl
def f_M_rule (n : Nat) (s : ZSt) : Option (Int32 × ZSt) :=
  lt (si s 0 0 (0 : Int32)) (fun s1 =>
  bn (f_M_begins (40 : Int32) s1) (fun p2 =>
  (jn (fun (x3 : Bool × ZSt) =>
    lt (f_M_faultOf p2.1 (40 : Int32) x3.1 x3.2) (fun v4 =>
      (if 0 ≤ v4 then
      bn (f_M_lays n (25 : Int32) (24 : Int32) x3.2) (fun p6 =>
        some ((0 : Int32), p6))
    else some (v4, x3.2)))) (fun j7 =>
    jn (fun (x8 : ZSt) =>
    j7 (true, x8)) (fun j9 =>
    if p2.1 = 0 then
  j9 p2.2
else bn (fc_M_reads n (25 : Int32) p2.2) (fun p11 =>
    (if p11.1 = true then
    j9 p11.2
  else j7 (false, p11.2))))))))
set_option maxHeartbeats 4000000 in
set_option maxRecDepth 20000 in
theorem ok_M_rule (g : ZG) (n : Nat) (s : ZSt) : ZF g 1833 y_M_rule [.ref 0] s (f_M_rule n s) (fun b => some (.int b.1)) (fun b => b.2) := by
  refine ZF.of (by decide +kernel) (Nat.le_of_ble_eq_true rfl) ?_
  unfold f_M_rule
  show ZO g 1833 y_M_rule zu0 0 [(0, .ref 0)] [] s _ _
  refine ZO.aload_n (pc := 0) 0 d_M_rule_0 rfl rfl ?_
  refine ZO.iconst (pc := 1) (0 : Int32) d_M_rule_1 (by decide) ?_
  refine ZO.putI (pc := 2) d_M_rule_2 zo_0 zp_M_3 rfl ?_
  refine ZO.ltS (fun s1 => ?_)
  refine ZO.aload_n (pc := 5) 0 d_M_rule_5 rfl rfl ?_
  refine ZO.bipush (pc := 6) (40 : Int32) d_M_rule_6 (by decide) ?_
  refine ZO.cVI (pc := 8) (As := [.int (40 : Int32)]) (rest := []) d_M_rule_8 zc_M_157 (by decide) zo_0 rfl rfl rfl (Nat.le_of_ble_eq_true rfl) (ok_M_begins g (40 : Int32) s1) (fun p2 ep2 => ?_)
  refine ZO.istore_n (pc := 11) (v := p2.1) (L' := [(0, .ref 0), (1, .int p2.1)]) [1, 0] d_M_rule_11 rfl (by decide) rfl ?_
  refine ZO.iload_n (pc := 12) 1 d_M_rule_12 rfl rfl ?_
  refine ZO.rjn (pcJ := 30) (LJ := fun (x3 : Bool × ZSt) => ([(0, .ref 0), (1, .int p2.1)] : List (Nat × Value))) (SJ := fun (x3 : Bool × ZSt) => ([.int (b2i x3.1)] : List Value)) (σJ := fun (x3 : Bool × ZSt) => x3.2) (fun x3 => ?_) (fun j7 hj7 => ?_)
  · refine ZO.istore_n (pc := 30) (v := (b2i x3.1)) (L' := [(0, .ref 0), (1, .int p2.1), (2, .int (b2i x3.1))]) [1, 2, 0] d_M_rule_30 rfl (by decide) rfl ?_
    refine ZO.aload_n (pc := 31) 0 d_M_rule_31 rfl rfl ?_
    refine ZO.iload_n (pc := 32) 1 d_M_rule_32 rfl rfl ?_
    refine ZO.bipush (pc := 33) (40 : Int32) d_M_rule_33 (by decide) ?_
    refine ZO.iload_n (pc := 35) 2 d_M_rule_35 rfl rfl ?_
    refine ZO.tVI (pc := 36) (As := [.int p2.1, .int (40 : Int32), .int (b2i x3.1)]) (rest := []) d_M_rule_36 zc_M_169 (by decide) zo_0 rfl rfl rfl (Nat.le_of_ble_eq_true rfl) (ok_M_faultOf g p2.1 (40 : Int32) x3.1 x3.2) ?_
    refine ZO.ltI (fun v4 => ?_)
    refine ZO.istore_n (pc := 39) (v := v4) (L' := [(0, .ref 0), (1, .int p2.1), (2, .int (b2i x3.1)), (3, .int v4)]) [1, 2, 3, 0] d_M_rule_39 rfl (by decide) rfl ?_
    refine ZO.iload_n (pc := 40) 3 d_M_rule_40 rfl rfl ?_
    refine ZO.if_ge (pc := 41) 46 d_M_rule_41 (by decide) rfl (fun h5 => ?_) (fun h5 => ?_)
    · refine ZO.aload_n (pc := 46) 0 d_M_rule_46 rfl rfl ?_
      refine ZO.bipush (pc := 47) (25 : Int32) d_M_rule_47 (by decide) ?_
      refine ZO.bipush (pc := 49) (24 : Int32) d_M_rule_49 (by decide) ?_
      refine ZO.cVV (pc := 51) (As := [.int (25 : Int32), .int (24 : Int32)]) (rest := []) d_M_rule_51 zc_M_179 (by decide) zo_0 rfl rfl rfl (Nat.le_of_ble_eq_true rfl) (ok_M_lays g n (25 : Int32) (24 : Int32) x3.2) (fun p6 ep6 => ?_)
      refine ZO.iconst (pc := 54) (0 : Int32) d_M_rule_54 (by decide) ?_
      exact ZO.iret (pc := 55)  d_M_rule_55 rfl rfl rfl
    · refine ZO.iload_n (pc := 44) 3 d_M_rule_44 rfl rfl ?_
      exact ZO.iret (pc := 45)  d_M_rule_45 rfl rfl rfl
  · refine ZO.rjn (pcJ := 25) (LJ := fun (x8 : ZSt) => ([(0, .ref 0), (1, .int p2.1)] : List (Nat × Value))) (SJ := fun (x8 : ZSt) => ([] : List Value)) (σJ := fun (x8 : ZSt) => x8) (fun x8 => ?_) (fun j9 hj9 => ?_)
    · refine ZO.iconst (pc := 25) (1 : Int32) d_M_rule_25 (by decide) ?_
      refine ZO.goto (pc := 26) 30 d_M_rule_26 (by decide) ?_
      exact hj7 (true, x8)
    · refine ZO.if_eq (pc := 13) 25 d_M_rule_13 (by decide) rfl (fun h10 => ?_) (fun h10 => ?_)
      · exact hj9 p2.2
      · refine ZO.aload_n (pc := 16) 0 d_M_rule_16 rfl rfl ?_
        refine ZO.bipush (pc := 17) (25 : Int32) d_M_rule_17 (by decide) ?_
        refine ZO.cVB (pc := 19) (As := [.int (25 : Int32)]) (rest := []) d_M_rule_19 zc_M_162 (by decide) zo_0 rfl rfl rfl (Nat.le_of_ble_eq_true rfl) (okc_M_reads g n (25 : Int32) p2.2) (fun p11 ep11 => ?_)
        refine ZO.ifb_eq (pc := 22) 29 d_M_rule_22 (by decide) rfl (fun h12 => ?_) (fun h12 => ?_)
        · exact hj9 p11.2
        · refine ZO.iconst (pc := 29) (0 : Int32) d_M_rule_29 (by decide) ?_
          exact hj7 (false, p11.2)
