-- THE TEXTS: String's own length and charAt over the six literals, and among()
section ZTx
variable {α : Type} {g : ZG} {d : Nat} {y : ZMI} {u : ZU} {pc : Nat} {L : List (Nat × Value)} {S : List Value} {σ : ZSt} {t : Option α} {K : α → (Option (Option Value)) × ZSt × Nat}
theorem ZO.strV {i ix : Nat} {rest : List Value} (hi : i < 6) (hd : decode y.2.1 pc = .ok (.getfield ix, 3)) (hw : Cond.fieldLink y.1.cls ix "java/lang/String" "value" "[B" ∈ GW) (k : ZO g d y u (pc + 3) L (.ref (720 + i) :: rest) σ t K) : ZO g d y u pc L (.ref (700 + i) :: rest) σ t K := by
  refine ZO.lift (fun p e R s m args below meth c hC Z H locs ls hR hL kk => ?_) k
  obtain ⟨hx, hb, hml, hown, hts, hlk, hK, hrm, hXs, hsc⟩ := hC
  exact vk_getf hx hb (hXs.2.2.2.1.1 i hi).2.2.1 hR.2.2 hown (hts _ (z_wsi hw)) (fun _ h9 => h9) hd (kk H locs ls hR hL)
theorem ZO.strC {i ix : Nat} {rest : List Value} (hi : i < 6) (hd : decode y.2.1 pc = .ok (.getfield ix, 3)) (hw : Cond.fieldLink y.1.cls ix "java/lang/String" "coder" "B" ∈ GW) (k : ZO g d y u (pc + 3) L (.int 0 :: rest) σ t K) : ZO g d y u pc L (.ref (700 + i) :: rest) σ t K := by
  refine ZO.lift (fun p e R s m args below meth c hC Z H locs ls hR hL kk => ?_) k
  obtain ⟨hx, hb, hml, hown, hts, hlk, hK, hrm, hXs, hsc⟩ := hC
  exact vk_getf hx hb (hXs.2.2.2.1.1 i hi).2.1 hR.2.2 hown (hts _ (z_wsi hw)) (fun _ h9 => h9) hd (kk H locs ls hR hL)
theorem ZO.strL {i : Nat} {rest : List Value} (hi : i < 6) (hd : decode y.2.1 pc = .ok (.arraylength, 1)) (k : ZO g d y u (pc + 1) L (.int (Int32.ofNat (z_tl.getD i 0)) :: rest) σ t K) : ZO g d y u pc L (.ref (720 + i) :: rest) σ t K := by
  refine ZO.lift (fun p e R s m args below meth c hC Z H locs ls hR hL kk => ?_) k
  obtain ⟨hx, hb, hml, hown, hts, hlk, hK, hrm, hXs, hsc⟩ := hC
  exact va_tlen hx hb (hXs.2.2.2.1.1 i hi).2.2.2 hR.2.2 rfl hd (kk H locs ls hR hL)
theorem ZO.strB {i : Nat} {j : Int32} {rest : List Value} (hi : i < 6) (hj : inb j (z_tl.getD i 0) = true) (hd : decode y.2.1 pc = .ok (.baload, 1)) (k : ZO g d y u (pc + 1) L (.int ((z_tb.getD i []).getD j.toNatClampNeg 0) :: rest) σ t K) : ZO g d y u pc L (.int j :: .ref (720 + i) :: rest) σ t K := by
  refine ZO.lift (fun p e R s m args below meth c hC Z H locs ls hR hL kk => ?_) k
  obtain ⟨hx, hb, hml, hown, hts, hlk, hK, hrm, hXs, hsc⟩ := hC
  exact va_tb hx hb (hXs.2.2.2.1.1 i hi).2.2.2 hR.2.2 (inb_vp hj) (v := .int ((z_tb.getD i []).getD j.toNatClampNeg 0)) rfl hd (kk H locs ls hR hL)
theorem ZO.gcs {ix : Nat} {rest : List Value} (hd : decode y.2.1 pc = .ok (.getstatic ix, 3)) (hw : Cond.fieldLink y.1.cls ix "java/lang/String" "COMPACT_STRINGS" "Z" ∈ GW) (k : ZO g d y u (pc + 3) L (.int 1 :: rest) σ t K) : ZO g d y u pc L rest σ t K := by
  refine ZO.lift (fun p e R s m args below meth c hC Z H locs ls hR hL kk => ?_) k
  obtain ⟨hx, hb, hml, hown, hts, hlk, hK, hrm, hXs, hsc⟩ := hC
  exact va_gets hx hb hXs.2.2.2.2.2.2.1 hR.2.2 hown (hts _ (z_wsi hw)) (fun _ h9 => h9) hd (kk H locs ls hR hL)
theorem ZO.gsf {ix : Nat} {rest : List Value} (hd : decode y.2.1 pc = .ok (.getstatic ix, 3)) (hw : Cond.fieldLink y.1.cls ix "jdk/internal/util/Preconditions" "SIOOBE_FORMATTER" "Ljava/util/function/BiFunction;" ∈ GW) (k : ∀ v : Value, (v = .null ∨ v = .ref 760) → ZO g d y u (pc + 3) L (v :: rest) σ t K) : ZO g d y u pc L rest σ t K := by
  intro a ha p e R s m args below meth c hC Z hE H locs ls hR hL
  have hC' := hC
  obtain ⟨hx, hb, hml, hown, hts, hlk, hK, hrm, hXs, hsc⟩ := hC
  obtain ⟨v, hv, hz⟩ := hXs.2.2.2.2.2.2.2.1
  exact va_gets hx hb hz hR.2.2 hown (hts _ (z_wsi hw)) (fun _ h9 => h9) hd (k v hv a ha p e R s m args below meth c hC' Z hE H locs ls hR hL)
theorem ZO.i2c {xx : Int32} {rest : List Value} (hd : decode y.2.1 pc = .ok (.i2c, 1)) (k : ZO g d y u (pc + 1) L (.int ((xx.toUInt32 % 65536).toInt32) :: rest) σ t K) : ZO g d y u pc L (.int xx :: rest) σ t K := by
  refine ZO.lift (fun p e R s m args below meth c hC Z H locs ls hR hL kk => ?_) k
  obtain ⟨hx, hb, hml, hown, hts, hlk, hK, hrm, hXs, hsc⟩ := hC
  exact lv_i2c hx hb hd rfl (kk H locs ls hR hL)
theorem ZO.nret {v : Int32} {ty : FieldType} {a : α} (hd : decode y.2.1 pc = .ok (.ireturn, 1)) (hr : y.2.2.2 = some ty) (hn : narrow ty (.int v) = .int v) (ht : t = some a) (hK : K a = (some (some (.int v)), σ, 0)) : ZO g d y u pc L [.int v] σ t K := by
  intro b hb p e R s m args below meth c hC Z hE H locs ls hR hL
  rw [ht] at hb; cases hb
  exact hE.here.1 pc H locs ls σ v ty hd hr hn hR ⟨by rw [hK], by rw [hK]⟩
theorem ZO.callVT {β : Type} {y' : ZMI} {i n ix d' : Nat} {As rest : List Value} {t' : Option β} {rv : β → Option Value} {sv : β → ZSt} {f : β → Option α}
    (hd : decode y.2.1 pc = .ok (.invokevirtual ix, 3)) (hw : ZCV y.1.cls ix y' n) (hdd : d' < d) (hi : i < 6) (hc : "java/lang/String" = y'.1.cls) (hn : As.length = n) (hS : S = As.reverse ++ .ref (700 + i) :: rest) (hcat : (rest.map fun v => v.category).sum ≤ 8)
    (hF : ZF g d' y' (.ref (700 + i) :: As) σ t' rv sv)
    (k : ∀ b, t' = some b → ZO g d y u (pc + 3) L ((rv b).toList ++ rest) (sv b) (f b) K) : ZO g d y u pc L S σ (bn t' f) K := by
  refine ZO.after hF (rest := rest) (fun p e R s m args below meth c' hC H locs ls hR hL b hb => ?_) k
  obtain ⟨hx, hb', hml, hown, hts, hlk, hK, ⟨hr1, hr2, hr3, hr4⟩, hXs, hsc⟩ := hC
  obtain ⟨w1, w2, w3, w4, w5, w6, w7, w8⟩ := hw
  obtain ⟨hP, hD, hS1⟩ := hR
  have hG : GoodIn GW (wsV y.1.cls ix y'.1.cls y'.1 (z_ws y')) := by
    intro w hw
    simp only [wsV, List.mem_append, List.mem_cons, List.not_mem_nil, or_false] at hw
    rcases hw with (rfl | rfl | rfl | rfl) | h
    · exact ⟨z_wsi w1, good_of_word (gw_g w1)⟩
    · exact ⟨z_wsi w2, good_of_word (gw_g w2)⟩
    · exact ⟨z_wsi w3, good_of_word (gw_g w3)⟩
    · exact ⟨z_wsi w4, good_of_word (gw_g w4)⟩
    · exact z_good w5 w h
  have hrecv := vk_recv hXs.2.2.2.1 hi hS1
  rw [hc] at hrecv
  have hcw := cwV (R := R) (args := args) (mc := 0) (ms := 0) (rm := ZMr d') n hts hG rfl rfl rfl ⟨rfl, w6.1, w6.2, w7⟩ ⟨by show d' + 1 ≤ R.frames; omega, by show 8 + (y'.2.2.1 + 11) + 40 * d' ≤ R.locals; omega⟩
  have hlen : (As.map (z_v g)).length = n := by rw [List.length_map]; exact hn
  have hstk : (F0 m pc ls (S.map (z_v g))).stack = (As.map (z_v g)).reverse ++ .ref (g.2.2.2 (700 + i)) :: rest.map (z_v g) := by
    subst hS
    simp [z_v]
  refine va_runV (As := As.map (z_v g)) (rest := rest.map (z_v g)) (nL := y.2.2.1) ⟨hx, hb', hml, hown, hts⟩ (hF b hb H.size) hcw ⟨z_blind, hrecv, fun U hU hW => ?_⟩ rfl hlen hL.1 hstk (lv_room (by rw [z_cats]; exact hcat)) hd ⟨by omega, by omega⟩
  exact ⟨rfl, by rw [hU], by rw [hU]; exact hP, va_K.moved hW.alike hK, hD.weaken (fun _ _ _ _ => trivial), hXs.on hS1 hU hW⟩
end ZTx
theorem zt_v : Cond.fieldLink "java/lang/String" 9 "java/lang/String" "value" "[B" ∈ GW := (gwc7 149 rfl rfl)
theorem zt_c : Cond.fieldLink "java/lang/String" 15 "java/lang/String" "coder" "B" ∈ GW := (gwc7 150 rfl rfl)
theorem zt_s : Cond.fieldLink "java/lang/String" 38 "java/lang/String" "COMPACT_STRINGS" "Z" ∈ GW := (gwc5 22 rfl rfl)
theorem zt_f : Cond.fieldLink "java/lang/String" 1053 "jdk/internal/util/Preconditions" "SIOOBE_FORMATTER" "Ljava/util/function/BiFunction;" ∈ GW := (gwc5 38 rfl rfl)
theorem d_Js_length_0 : decode y_Js_length.2.1 0 = .ok (.aload_n 0, 1) := by decide +kernel
theorem d_Js_length_1 : decode y_Js_length.2.1 1 = .ok (.getfield 9, 3) := by decide +kernel
theorem d_Js_length_4 : decode y_Js_length.2.1 4 = .ok (.arraylength, 1) := by decide +kernel
theorem d_Js_length_5 : decode y_Js_length.2.1 5 = .ok (.aload_n 0, 1) := by decide +kernel
theorem d_Js_length_6 : decode y_Js_length.2.1 6 = .ok (.invokevirtual 335, 3) := by decide +kernel
theorem d_Js_length_9 : decode y_Js_length.2.1 9 = .ok (.ishr, 1) := by decide +kernel
theorem d_Js_length_10 : decode y_Js_length.2.1 10 = .ok (.ireturn, 1) := by decide +kernel
theorem d_Js_charAt_0 : decode y_Js_charAt.2.1 0 = .ok (.aload_n 0, 1) := by decide +kernel
theorem d_Js_charAt_1 : decode y_Js_charAt.2.1 1 = .ok (.invokevirtual 492, 3) := by decide +kernel
theorem d_Js_charAt_4 : decode y_Js_charAt.2.1 4 = .ok (.ifCond .eq 12, 3) := by decide +kernel
theorem d_Js_charAt_7 : decode y_Js_charAt.2.1 7 = .ok (.aload_n 0, 1) := by decide +kernel
theorem d_Js_charAt_8 : decode y_Js_charAt.2.1 8 = .ok (.getfield 9, 3) := by decide +kernel
theorem d_Js_charAt_11 : decode y_Js_charAt.2.1 11 = .ok (.iload_n 1, 1) := by decide +kernel
theorem d_Js_charAt_12 : decode y_Js_charAt.2.1 12 = .ok (.invokestatic 495, 3) := by decide +kernel
theorem d_Js_charAt_15 : decode y_Js_charAt.2.1 15 = .ok (.ireturn, 1) := by decide +kernel
theorem d_Js_charAt_16 : decode y_Js_charAt.2.1 16 = .ok (.aload_n 0, 1) := by decide +kernel
theorem d_Js_charAt_17 : decode y_Js_charAt.2.1 17 = .ok (.getfield 9, 3) := by decide +kernel
theorem d_Js_charAt_20 : decode y_Js_charAt.2.1 20 = .ok (.iload_n 1, 1) := by decide +kernel
theorem d_Js_charAt_21 : decode y_Js_charAt.2.1 21 = .ok (.invokestatic 498, 3) := by decide +kernel
theorem d_Js_charAt_24 : decode y_Js_charAt.2.1 24 = .ok (.ireturn, 1) := by decide +kernel
theorem d_Js_checkIndex_0 : decode y_Js_checkIndex.2.1 0 = .ok (.iload_n 0, 1) := by decide +kernel
theorem d_Js_checkIndex_1 : decode y_Js_checkIndex.2.1 1 = .ok (.iload_n 1, 1) := by decide +kernel
theorem d_Js_checkIndex_2 : decode y_Js_checkIndex.2.1 2 = .ok (.getstatic 1053, 3) := by decide +kernel
theorem d_Js_checkIndex_5 : decode y_Js_checkIndex.2.1 5 = .ok (.invokestatic 1059, 3) := by decide +kernel
theorem d_Js_checkIndex_8 : decode y_Js_checkIndex.2.1 8 = .ok (.pop, 1) := by decide +kernel
theorem d_Js_checkIndex_9 : decode y_Js_checkIndex.2.1 9 = .ok (.return_, 1) := by decide +kernel
theorem d_Jl_charAt_0 : decode y_Jl_charAt.2.1 0 = .ok (.iload_n 1, 1) := by decide +kernel
theorem d_Jl_charAt_1 : decode y_Jl_charAt.2.1 1 = .ok (.aload_n 0, 1) := by decide +kernel
theorem d_Jl_charAt_2 : decode y_Jl_charAt.2.1 2 = .ok (.arraylength, 1) := by decide +kernel
theorem d_Jl_charAt_3 : decode y_Jl_charAt.2.1 3 = .ok (.invokestatic 9, 3) := by decide +kernel
theorem d_Jl_charAt_6 : decode y_Jl_charAt.2.1 6 = .ok (.aload_n 0, 1) := by decide +kernel
theorem d_Jl_charAt_7 : decode y_Jl_charAt.2.1 7 = .ok (.iload_n 1, 1) := by decide +kernel
theorem d_Jl_charAt_8 : decode y_Jl_charAt.2.1 8 = .ok (.baload, 1) := by decide +kernel
theorem d_Jl_charAt_9 : decode y_Jl_charAt.2.1 9 = .ok (.sipush 255, 3) := by decide +kernel
theorem d_Jl_charAt_12 : decode y_Jl_charAt.2.1 12 = .ok (.iand, 1) := by decide +kernel
theorem d_Jl_charAt_13 : decode y_Jl_charAt.2.1 13 = .ok (.i2c, 1) := by decide +kernel
theorem d_Jl_charAt_14 : decode y_Jl_charAt.2.1 14 = .ok (.ireturn, 1) := by decide +kernel
theorem d_Jp_checkIndex_0 : decode y_Jp_checkIndex.2.1 0 = .ok (.iload_n 0, 1) := by decide +kernel
theorem d_Jp_checkIndex_1 : decode y_Jp_checkIndex.2.1 1 = .ok (.ifCond .lt 8, 3) := by decide +kernel
theorem d_Jp_checkIndex_4 : decode y_Jp_checkIndex.2.1 4 = .ok (.iload_n 0, 1) := by decide +kernel
theorem d_Jp_checkIndex_5 : decode y_Jp_checkIndex.2.1 5 = .ok (.iload_n 1, 1) := by decide +kernel
theorem d_Jp_checkIndex_6 : decode y_Jp_checkIndex.2.1 6 = .ok (.if_icmp .lt 10, 3) := by decide +kernel
theorem d_Jp_checkIndex_9 : decode y_Jp_checkIndex.2.1 9 = .ok (.aload_n 2, 1) := by decide +kernel
theorem d_Jp_checkIndex_10 : decode y_Jp_checkIndex.2.1 10 = .ok (.iload_n 0, 1) := by decide +kernel
theorem d_Jp_checkIndex_11 : decode y_Jp_checkIndex.2.1 11 = .ok (.iload_n 1, 1) := by decide +kernel
theorem d_Jp_checkIndex_12 : decode y_Jp_checkIndex.2.1 12 = .ok (.invokestatic 95, 3) := by decide +kernel
theorem d_Jp_checkIndex_15 : decode y_Jp_checkIndex.2.1 15 = .ok (.athrow, 1) := by decide +kernel
theorem d_Jp_checkIndex_16 : decode y_Jp_checkIndex.2.1 16 = .ok (.iload_n 0, 1) := by decide +kernel
theorem d_Jp_checkIndex_17 : decode y_Jp_checkIndex.2.1 17 = .ok (.ireturn, 1) := by decide +kernel
theorem d_Js_coder_0 : decode y_Js_coder.2.1 0 = .ok (.getstatic 38, 3) := by decide +kernel
theorem d_Js_coder_3 : decode y_Js_coder.2.1 3 = .ok (.ifCond .eq 10, 3) := by decide +kernel
theorem d_Js_coder_6 : decode y_Js_coder.2.1 6 = .ok (.aload_n 0, 1) := by decide +kernel
theorem d_Js_coder_7 : decode y_Js_coder.2.1 7 = .ok (.getfield 15, 3) := by decide +kernel
theorem d_Js_coder_10 : decode y_Js_coder.2.1 10 = .ok (.goto 4, 3) := by decide +kernel
theorem d_Js_coder_13 : decode y_Js_coder.2.1 13 = .ok (.iconst 1, 1) := by decide +kernel
theorem d_Js_coder_14 : decode y_Js_coder.2.1 14 = .ok (.ireturn, 1) := by decide +kernel
theorem d_Js_isLatin1_0 : decode y_Js_isLatin1.2.1 0 = .ok (.getstatic 38, 3) := by decide +kernel
theorem d_Js_isLatin1_3 : decode y_Js_isLatin1.2.1 3 = .ok (.ifCond .eq 14, 3) := by decide +kernel
theorem d_Js_isLatin1_6 : decode y_Js_isLatin1.2.1 6 = .ok (.aload_n 0, 1) := by decide +kernel
theorem d_Js_isLatin1_7 : decode y_Js_isLatin1.2.1 7 = .ok (.getfield 15, 3) := by decide +kernel
theorem d_Js_isLatin1_10 : decode y_Js_isLatin1.2.1 10 = .ok (.ifCond .ne 7, 3) := by decide +kernel
theorem d_Js_isLatin1_13 : decode y_Js_isLatin1.2.1 13 = .ok (.iconst 1, 1) := by decide +kernel
theorem d_Js_isLatin1_14 : decode y_Js_isLatin1.2.1 14 = .ok (.goto 4, 3) := by decide +kernel
theorem d_Js_isLatin1_17 : decode y_Js_isLatin1.2.1 17 = .ok (.iconst 0, 1) := by decide +kernel
theorem d_Js_isLatin1_18 : decode y_Js_isLatin1.2.1 18 = .ok (.ireturn, 1) := by decide +kernel
theorem d_M_among_0 : decode y_M_among.2.1 0 = .ok (.iconst 0, 1) := by decide +kernel
theorem d_M_among_1 : decode y_M_among.2.1 1 = .ok (.istore_n 2, 1) := by decide +kernel
theorem d_M_among_2 : decode y_M_among.2.1 2 = .ok (.iload_n 2, 1) := by decide +kernel
theorem d_M_among_3 : decode y_M_among.2.1 3 = .ok (.aload_n 1, 1) := by decide +kernel
theorem d_M_among_4 : decode y_M_among.2.1 4 = .ok (.invokevirtual 53, 3) := by decide +kernel
theorem d_M_among_7 : decode y_M_among.2.1 7 = .ok (.if_icmp .ge 39, 3) := by decide +kernel
theorem d_M_among_10 : decode y_M_among.2.1 10 = .ok (.aload_n 0, 1) := by decide +kernel
theorem d_M_among_11 : decode y_M_among.2.1 11 = .ok (.getfield 43, 3) := by decide +kernel
theorem d_M_among_14 : decode y_M_among.2.1 14 = .ok (.aload_n 0, 1) := by decide +kernel
theorem d_M_among_15 : decode y_M_among.2.1 15 = .ok (.getfield 46, 3) := by decide +kernel
theorem d_M_among_18 : decode y_M_among.2.1 18 = .ok (.if_icmp .ge 28, 3) := by decide +kernel
theorem d_M_among_21 : decode y_M_among.2.1 21 = .ok (.aload_n 1, 1) := by decide +kernel
theorem d_M_among_22 : decode y_M_among.2.1 22 = .ok (.iload_n 2, 1) := by decide +kernel
theorem d_M_among_23 : decode y_M_among.2.1 23 = .ok (.invokevirtual 59, 3) := by decide +kernel
theorem d_M_among_26 : decode y_M_among.2.1 26 = .ok (.aload_n 0, 1) := by decide +kernel
theorem d_M_among_27 : decode y_M_among.2.1 27 = .ok (.getfield 40, 3) := by decide +kernel
theorem d_M_among_30 : decode y_M_among.2.1 30 = .ok (.aload_n 0, 1) := by decide +kernel
theorem d_M_among_31 : decode y_M_among.2.1 31 = .ok (.getfield 43, 3) := by decide +kernel
theorem d_M_among_34 : decode y_M_among.2.1 34 = .ok (.iaload, 1) := by decide +kernel
theorem d_M_among_35 : decode y_M_among.2.1 35 = .ok (.if_icmp .ne 5, 3) := by decide +kernel
theorem d_M_among_38 : decode y_M_among.2.1 38 = .ok (.iload_n 2, 1) := by decide +kernel
theorem d_M_among_39 : decode y_M_among.2.1 39 = .ok (.ireturn, 1) := by decide +kernel
theorem d_M_among_40 : decode y_M_among.2.1 40 = .ok (.iinc 2 1, 3) := by decide +kernel
theorem d_M_among_43 : decode y_M_among.2.1 43 = .ok (.goto (-41), 3) := by decide +kernel
theorem d_M_among_46 : decode y_M_among.2.1 46 = .ok (.iconst (-1), 1) := by decide +kernel
theorem d_M_among_47 : decode y_M_among.2.1 47 = .ok (.ireturn, 1) := by decide +kernel
theorem ok_Js_coder (g : ZG) {i : Nat} (hi : i < 6) (s : ZSt) : ZF g 0 y_Js_coder [.ref (700 + i)] s (some (0 : Int32)) (fun b => some (.int b)) (fun _ => s) := by
  refine ZF.of (by decide +kernel) (Nat.le_of_ble_eq_true rfl) ?_
  show ZO g 0 y_Js_coder zu0 0 [(0, .ref (700 + i))] [] s _ _
  refine ZO.gcs (pc := 0) d_Js_coder_0 zt_s ?_
  refine ZO.if_eq (pc := 3) 13 d_Js_coder_3 (by decide) z_ite (fun h => absurd h (by decide)) (fun _ => ?_)
  refine ZO.aload_n (pc := 6) 0 d_Js_coder_6 rfl rfl ?_
  refine ZO.strC (pc := 7) hi d_Js_coder_7 zt_c ?_
  refine ZO.goto (pc := 10) 14 d_Js_coder_10 (by decide) ?_
  exact ZO.nret (pc := 14) (ty := .byte) d_Js_coder_14 rfl (by decide) rfl rfl
theorem ok_Js_isLatin1 (g : ZG) {i : Nat} (hi : i < 6) (s : ZSt) : ZF g 0 y_Js_isLatin1 [.ref (700 + i)] s (some true) (fun b => some (.int (b2i b))) (fun _ => s) := by
  refine ZF.of (by decide +kernel) (Nat.le_of_ble_eq_true rfl) ?_
  show ZO g 0 y_Js_isLatin1 zu0 0 [(0, .ref (700 + i))] [] s _ _
  refine ZO.gcs (pc := 0) d_Js_isLatin1_0 zt_s ?_
  refine ZO.if_eq (pc := 3) 17 d_Js_isLatin1_3 (by decide) z_ite (fun h => absurd h (by decide)) (fun _ => ?_)
  refine ZO.aload_n (pc := 6) 0 d_Js_isLatin1_6 rfl rfl ?_
  refine ZO.strC (pc := 7) hi d_Js_isLatin1_7 zt_c ?_
  refine ZO.if_ne (pc := 10) 17 d_Js_isLatin1_10 (by decide) z_ite (fun _ => ?_) (fun h => absurd rfl h)
  refine ZO.iconst (pc := 13) (1 : Int32) d_Js_isLatin1_13 (by decide) ?_
  refine ZO.goto (pc := 14) 18 d_Js_isLatin1_14 (by decide) ?_
  exact ZO.zret (pc := 18) (v := true) d_Js_isLatin1_18 rfl rfl rfl
theorem zt_len : ∀ i, i < 6 → srI (Int32.ofNat (z_tl.getD i 0)) 0 = Int32.ofNat (z_tl.getD i 0) ∧ z_tl.getD i 0 < 100 := by decide +kernel
theorem ok_Js_length (g : ZG) {i : Nat} (hi : i < 6) (s : ZSt) : ZF g 1 y_Js_length [.ref (700 + i)] s (some (Int32.ofNat (z_tl.getD i 0))) (fun b => some (.int b)) (fun _ => s) := by
  refine ZF.of (by decide +kernel) (Nat.le_of_ble_eq_true rfl) ?_
  show ZO g 1 y_Js_length zu0 0 [(0, .ref (700 + i))] [] s _ _
  refine ZO.aload_n (pc := 0) 0 d_Js_length_0 rfl rfl ?_
  refine ZO.strV (pc := 1) hi d_Js_length_1 zt_v ?_
  refine ZO.strL (pc := 4) hi d_Js_length_4 ?_
  refine ZO.aload_n (pc := 5) 0 d_Js_length_5 rfl rfl ?_
  refine ZO.eqT (show some (Int32.ofNat (z_tl.getD i 0)) = bn (some (0 : Int32)) (fun _ => some (Int32.ofNat (z_tl.getD i 0))) from rfl) ?_
  refine ZO.callVT (pc := 6) (As := []) (rest := [.int (Int32.ofNat (z_tl.getD i 0))]) d_Js_length_6 zc_Js_335 (by decide) hi rfl rfl rfl (Nat.le_of_ble_eq_true rfl) (ok_Js_coder g hi s) (fun b hb => ?_)
  cases hb
  show ZO g 1 y_Js_length zu0 9 [(0, .ref (700 + i))] [.int 0, .int (Int32.ofNat (z_tl.getD i 0))] s _ _
  refine ZO.ishr (pc := 9) d_Js_length_9 ?_
  rw [(zt_len i hi).1]
  exact ZO.iret (pc := 10) d_Js_length_10 rfl rfl rfl
theorem ok_Jp_checkIndex (g : ZG) {j : Int32} {n : Nat} (hj : inb j n = true) (hn : n < 2 ^ 31) (v : Value) (hv : v = .null ∨ v = .ref 760) (s : ZSt) : ZF g 0 y_Jp_checkIndex [.int j, .int (Int32.ofNat n), v] s (some j) (fun b => some (.int b)) (fun _ => s) := by
  have h1 := of_decide_eq_true hj
  have hlt : j < Int32.ofNat n := by
    obtain ⟨k, hk, rfl⟩ := vp_in_of (inb_vp hj) hn
    exact nI_lt hk hn
  refine ZF.of (by decide +kernel) (by rcases hv with rfl | rfl <;> exact Nat.le_of_ble_eq_true rfl) ?_
  show ZO g 0 y_Jp_checkIndex zu0 0 [(0, .int j), (1, .int (Int32.ofNat n)), (2, v)] [] s _ _
  refine ZO.iload_n (pc := 0) 0 d_Jp_checkIndex_0 rfl rfl ?_
  refine ZO.if_lt (pc := 1) 9 d_Jp_checkIndex_1 (by decide) z_ite (fun h => absurd h (Int32.not_lt.mpr h1.1)) (fun _ => ?_)
  refine ZO.iload_n (pc := 4) 0 d_Jp_checkIndex_4 rfl rfl ?_
  refine ZO.iload_n (pc := 5) 1 d_Jp_checkIndex_5 rfl rfl ?_
  refine ZO.icmp_lt (pc := 6) 16 d_Jp_checkIndex_6 (by decide) z_ite (fun _ => ?_) (fun h => absurd hlt h)
  refine ZO.iload_n (pc := 16) 0 d_Jp_checkIndex_16 rfl rfl ?_
  exact ZO.iret (pc := 17) d_Jp_checkIndex_17 rfl rfl rfl
theorem ok_Js_checkIndex (g : ZG) {j : Int32} {n : Nat} (hj : inb j n = true) (hn : n < 2 ^ 31) (s : ZSt) : ZF g 1 y_Js_checkIndex [.int j, .int (Int32.ofNat n)] s (some ()) (fun _ => none) (fun _ => s) := by
  refine ZF.of (by decide +kernel) (Nat.le_of_ble_eq_true rfl) ?_
  show ZO g 1 y_Js_checkIndex zu0 0 [(0, .int j), (1, .int (Int32.ofNat n))] [] s _ _
  refine ZO.iload_n (pc := 0) 0 d_Js_checkIndex_0 rfl rfl ?_
  refine ZO.iload_n (pc := 1) 1 d_Js_checkIndex_1 rfl rfl ?_
  refine ZO.gsf (pc := 2) d_Js_checkIndex_2 zt_f (fun v hv => ?_)
  refine ZO.tSI (pc := 5) (As := [.int j, .int (Int32.ofNat n), v]) (rest := []) d_Js_checkIndex_5 zc_Js_1059 (by decide) rfl rfl (Nat.le_of_ble_eq_true rfl) (ok_Jp_checkIndex g hj hn v hv s) ?_
  refine ZO.pop (pc := 8) d_Js_checkIndex_8 rfl ?_
  exact ZO.vret (pc := 9) d_Js_checkIndex_9 rfl rfl rfl
def z_ch (i : Nat) (j : Int32) : Int32 := (z_tb.getD i []).getD j.toNatClampNeg 0
theorem zt_ch : ∀ i, i < 6 → ∀ j, j < z_tl.getD i 0 → ((((z_tb.getD i []).getD j 0) &&& 255).toUInt32 % 65536).toInt32 = (z_tb.getD i []).getD j 0 ∧ narrow .char (.int ((z_tb.getD i []).getD j 0)) = .int ((z_tb.getD i []).getD j 0) := by decide +kernel
theorem ok_Jl_charAt (g : ZG) {i : Nat} {j : Int32} (hi : i < 6) (hj : inb j (z_tl.getD i 0) = true) (s : ZSt) : ZF g 2 y_Jl_charAt [.ref (720 + i), .int j] s (some (z_ch i j)) (fun b => some (.int b)) (fun _ => s) := by
  refine ZF.of (by decide +kernel) (Nat.le_of_ble_eq_true rfl) ?_
  show ZO g 2 y_Jl_charAt zu0 0 [(0, .ref (720 + i)), (1, .int j)] [] s _ _
  refine ZO.iload_n (pc := 0) 1 d_Jl_charAt_0 rfl rfl ?_
  refine ZO.aload_n (pc := 1) 0 d_Jl_charAt_1 rfl rfl ?_
  refine ZO.strL (pc := 2) hi d_Jl_charAt_2 ?_
  refine ZO.tSV (pc := 3) (As := [.int j, .int (Int32.ofNat (z_tl.getD i 0))]) (rest := []) d_Jl_charAt_3 zc_Jl_9 (by decide) rfl rfl (Nat.le_of_ble_eq_true rfl) (ok_Js_checkIndex g hj (Nat.lt_of_lt_of_le (zt_len i hi).2 (by decide)) s) ?_
  refine ZO.aload_n (pc := 6) 0 d_Jl_charAt_6 rfl rfl ?_
  refine ZO.iload_n (pc := 7) 1 d_Jl_charAt_7 rfl rfl ?_
  refine ZO.strB (pc := 8) hi hj d_Jl_charAt_8 ?_
  refine ZO.sipush (pc := 9) (255 : Int32) d_Jl_charAt_9 (by decide) ?_
  refine ZO.iand (pc := 12) d_Jl_charAt_12 ?_
  refine ZO.i2c (pc := 13) d_Jl_charAt_13 ?_
  rw [(zt_ch i hi _ (z_inb hj)).1]
  exact ZO.nret (pc := 14) (ty := .char) d_Jl_charAt_14 rfl (zt_ch i hi _ (z_inb hj)).2 rfl rfl
theorem ok_Js_charAt (g : ZG) {i : Nat} {j : Int32} (hi : i < 6) (hj : inb j (z_tl.getD i 0) = true) (s : ZSt) : ZF g 3 y_Js_charAt [.ref (700 + i), .int j] s (some (z_ch i j)) (fun b => some (.int b)) (fun _ => s) := by
  refine ZF.of (by decide +kernel) (Nat.le_of_ble_eq_true rfl) ?_
  show ZO g 3 y_Js_charAt zu0 0 [(0, .ref (700 + i)), (1, .int j)] [] s _ _
  refine ZO.aload_n (pc := 0) 0 d_Js_charAt_0 rfl rfl ?_
  refine ZO.eqT (show some (z_ch i j) = bn (some true) (fun _ => some (z_ch i j)) from rfl) ?_
  refine ZO.callVT (pc := 1) (As := []) (rest := []) d_Js_charAt_1 zc_Js_492 (by decide) hi rfl rfl rfl (Nat.le_of_ble_eq_true rfl) (ok_Js_isLatin1 g hi s) (fun b hb => ?_)
  cases hb
  show ZO g 3 y_Js_charAt zu0 4 [(0, .ref (700 + i)), (1, .int j)] [.int 1] s _ _
  refine ZO.if_eq (pc := 4) 16 d_Js_charAt_4 (by decide) z_ite (fun h => absurd h (by decide)) (fun _ => ?_)
  refine ZO.aload_n (pc := 7) 0 d_Js_charAt_7 rfl rfl ?_
  refine ZO.strV (pc := 8) hi d_Js_charAt_8 zt_v ?_
  refine ZO.iload_n (pc := 11) 1 d_Js_charAt_11 rfl rfl ?_
  refine ZO.tSI (pc := 12) (As := [.ref (720 + i), .int j]) (rest := []) d_Js_charAt_12 zc_Js_495 (by decide) rfl rfl (Nat.le_of_ble_eq_true rfl) (ok_Jl_charAt g hi hj s) ?_
  exact ZO.nret (pc := 15) (ty := .char) d_Js_charAt_15 rfl (zt_ch i hi _ (z_inb hj)).2 rfl rfl
/-- among(): the place of the sign at hand in a text -/
def f_M_among (n : Nat) (a0 : Nat) (s : ZSt) : Option Int32 :=
  gd (decide (700 ≤ a0 ∧ a0 < 706)) (
  lpN (fun j (k : Int32) =>
    if Int32.ofNat (z_tl.getD (a0 - 700) 0) ≤ k then some (-1 : Int32)
    else if gi s 0 20 ≤ gi s 0 19 then some (-1 : Int32)
    else gd (inb k (z_tl.getD (a0 - 700) 0)) (
      gd (inb (gi s 0 19) 80) (
      if z_ch (a0 - 700) k = ai s 117 (gi s 0 19) then some k
      else lt (k + (1 : Int32)) (fun v => j v)))) n (0 : Int32))
set_option maxHeartbeats 4000000 in
theorem ok_M_among (g : ZG) (n : Nat) (a0 : Nat) (s : ZSt) : ZF g 4 y_M_among [.ref 0, .ref a0] s (f_M_among n a0 s) (fun b => some (.int b)) (fun _ => s) := by
  refine ZF.of (by decide +kernel) (Nat.le_of_ble_eq_true rfl) ?_
  unfold f_M_among
  show ZO g 4 y_M_among zu0 0 [(0, .ref 0), (1, .ref a0)] [] s _ _
  refine ZO.rgd (fun h0 => ?_)
  have h0 := of_decide_eq_true h0
  obtain ⟨i, hi, rfl⟩ : ∃ i, i < 6 ∧ a0 = 700 + i := ⟨a0 - 700, by omega, by omega⟩
  rw [show 700 + i - 700 = i by omega]
  refine ZO.iconst (pc := 0) (0 : Int32) d_M_among_0 (by decide) ?_
  refine ZO.istore_n (pc := 1) (v := (0 : Int32)) (L' := [(0, .ref 0), (1, .ref (700 + i)), (2, .int (0 : Int32))]) [1, 2, 0] d_M_among_1 rfl (by decide) rfl ?_
  refine ZO.loop (fun (k : Int32) => ([(0, .ref 0), (1, .ref (700 + i)), (2, .int k)] : List (Nat × Value))) (fun _ => s) [] (fun j k hj => ?_) rfl rfl rfl
  refine ZO.iload_n (pc := 2) 2 d_M_among_2 rfl rfl ?_
  refine ZO.aload_n (pc := 3) 1 d_M_among_3 rfl rfl ?_
  refine ZO.eqT (t' := bn (some (Int32.ofNat (z_tl.getD i 0))) (fun _ => _)) rfl ?_
  refine ZO.callVT (pc := 4) (As := []) (rest := [.int k]) d_M_among_4 zc_M_53 (by decide) hi rfl rfl rfl (Nat.le_of_ble_eq_true rfl) (ok_Js_length g hi s) (fun b hb => ?_)
  cases hb
  show ZO g 4 y_M_among zu0 7 [(0, .ref 0), (1, .ref (700 + i)), (2, .int k)] [.int (Int32.ofNat (z_tl.getD i 0)), .int k] s _ _
  refine ZO.icmp_ge (pc := 7) 46 d_M_among_7 (by decide) rfl (fun h1 => ?_) (fun h1 => ?_)
  · refine ZO.iconst (pc := 46) (-1 : Int32) d_M_among_46 (by decide) ?_
    exact ZO.iret (pc := 47) d_M_among_47 rfl rfl rfl
  refine ZO.aload_n (pc := 10) 0 d_M_among_10 rfl rfl ?_
  refine ZO.getI (pc := 11) d_M_among_11 zo_0 zf_M_43 rfl ?_
  refine ZO.aload_n (pc := 14) 0 d_M_among_14 rfl rfl ?_
  refine ZO.getI (pc := 15) d_M_among_15 zo_0 zf_M_46 rfl ?_
  refine ZO.icmp_ge (pc := 18) 46 d_M_among_18 (by decide) rfl (fun h2 => ?_) (fun h2 => ?_)
  · refine ZO.iconst (pc := 46) (-1 : Int32) d_M_among_46 (by decide) ?_
    exact ZO.iret (pc := 47) d_M_among_47 rfl rfl rfl
  refine ZO.aload_n (pc := 21) 1 d_M_among_21 rfl rfl ?_
  refine ZO.iload_n (pc := 22) 2 d_M_among_22 rfl rfl ?_
  refine ZO.rgd (fun h3 => ?_)
  refine ZO.eqT (t' := bn (some (z_ch i k)) (fun _ => _)) rfl ?_
  refine ZO.callVT (pc := 23) (As := [.int k]) (rest := []) d_M_among_23 zc_M_59 (by decide) hi rfl rfl rfl (Nat.le_of_ble_eq_true rfl) (ok_Js_charAt g hi h3 s) (fun b hb => ?_)
  cases hb
  show ZO g 4 y_M_among zu0 26 [(0, .ref 0), (1, .ref (700 + i)), (2, .int k)] [.int (z_ch i k)] s _ _
  refine ZO.aload_n (pc := 26) 0 d_M_among_26 rfl rfl ?_
  refine ZO.getA (pc := 27) 117 d_M_among_27 zo_0 zf_M_40 rfl rfl ?_
  refine ZO.aload_n (pc := 30) 0 d_M_among_30 rfl rfl ?_
  refine ZO.getI (pc := 31) d_M_among_31 zo_0 zf_M_43 rfl ?_
  refine ZO.rgd (fun h4 => ?_)
  refine ZO.iald (pc := 34) d_M_among_34 za_117 h4 ?_
  refine ZO.icmp_ne (pc := 35) 40 d_M_among_35 (by decide) rfl (fun h5 => ?_) (fun h5 => ?_)
  · refine ZO.iload_n (pc := 38) 2 d_M_among_38 rfl rfl ?_
    exact ZO.iret (pc := 39) d_M_among_39 rfl rfl rfl
  refine ZO.iincL (pc := 40) (i := 2) (k + (1 : Int32)) (L' := fun v => [(0, .ref 0), (1, .ref (700 + i)), (2, .int v)]) [1, 2, 0] d_M_among_40 rfl (by rfl) (by decide) (fun _ => rfl) (fun v => ?_)
  refine ZO.goto (pc := 43) 2 d_M_among_43 (by decide) ?_
  exact hj v
