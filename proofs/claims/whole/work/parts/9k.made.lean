-- the law up to its loop; where everything lies (the facts are written by gen9d.py)
section Z9k
theorem bc_X : BCF y_X_init := ⟨(gwc1 25 rfl rfl), (gwc1 1 rfl rfl), (gwc1 26 rfl rfl), rfl, rfl, ⟨⟨by decide +kernel, by decide +kernel⟩, by decide +kernel⟩, by decide⟩
theorem bc_M : BCF y_M_init := ⟨(gwc6 205 rfl rfl), (gwc1 10 rfl rfl), (gwc6 206 rfl rfl), rfl, rfl, ⟨⟨by decide +kernel, by decide +kernel⟩, by decide +kernel⟩, by decide⟩
theorem bn_L_8 : BNF "BesideAnotherLaw" 8 8 19 [.null, .null, .null, .null, .null, .null, .null, .int 0, .long 0, .int 0, .null, .int 0, .null, .int 0, .null, .null, .null, .null, .null] := ⟨z_R8, z_F8, z_y8, z_C8, z_ty8, (gwc1 22 rfl rfl), (gwc1 23 rfl rfl), (gwc1 1 rfl rfl), (lt_s (lt_s (lt_s (lt_s (lt_s (lt_s (lt_s (lt_s (lt_s (lt_s (lt_s (lt_s (lt_s (lt_s (lt_s (lt_s (lt_s (lt_s (lt_s lt_0 rfl) rfl) rfl) rfl) rfl) rfl) rfl) rfl) rfl) rfl) rfl) rfl) rfl) rfl) rfl) rfl) rfl) rfl) rfl)⟩
theorem bn_L_26 : BNF "BesideAnotherLaw" 26 9 53 [.int 0, .int 0, .null, .int 0, .null, .null, .null, .null, .null, .int 0, .null, .null, .null, .null, .null, .null, .null, .null, .int 0, .int 0, .int 0, .int 0, .int 0, .null, .null, .null, .null, .int 0, .null, .int 0, .null, .null, .int 0, .int 0, .int 0, .int 0, .null, .null, .null, .null, .int 0, .null, .null, .null, .null, .null, .null, .null, .null, .int 0, .null, .null, .null] := ⟨z_R9, z_F9, z_y9, z_C9, z_ty9, (gwc6 203 rfl rfl), (gwc4 212 rfl rfl), (gwc1 10 rfl rfl), (lt_s (lt_s (lt_s (lt_s (lt_s (lt_s (lt_s (lt_s (lt_s (lt_s (lt_s (lt_s (lt_s (lt_s (lt_s (lt_s (lt_s (lt_s (lt_s (lt_s (lt_s (lt_s (lt_s (lt_s (lt_s (lt_s (lt_s (lt_s (lt_s (lt_s (lt_s (lt_s (lt_s (lt_s (lt_s (lt_s (lt_s (lt_s (lt_s (lt_s (lt_s (lt_s (lt_s (lt_s (lt_s (lt_s (lt_s (lt_s (lt_s (lt_s (lt_s (lt_s (lt_s lt_0 rfl) rfl) rfl) rfl) rfl) rfl) rfl) rfl) rfl) rfl) rfl) rfl) rfl) rfl) rfl) rfl) rfl) rfl) rfl) rfl) rfl) rfl) rfl) rfl) rfl) rfl) rfl) rfl) rfl) rfl) rfl) rfl) rfl) rfl) rfl) rfl) rfl) rfl) rfl) rfl) rfl) rfl) rfl) rfl) rfl) rfl) rfl) rfl) rfl) rfl) rfl) rfl) rfl)⟩
theorem bl_L_25 : Cond.methodLink "BesideAnotherLaw" 25 y_X_init.1 ∈ GW := (gwc1 24 rfl rfl)
theorem bl_L_28 : Cond.methodLink "BesideAnotherLaw" 28 y_M_init.1 ∈ GW := (gwc6 204 rfl rfl)
theorem kX_len (g : ZG) (h : Nat) : (kX g h).length = 142 := by
  show (xPre g h ++ (bA g 4 6 (xRf h 6) :: bA g 5 3 (xKf h 3) :: (xArr g ++ xRb g h 6 ++ xKb g h 3))).length + 1 = 142
  rw [List.length_append, xPre_len, List.length_cons, List.length_cons, List.length_append, List.length_append, xRb_len, xKb_len]
  rfl
theorem kM_len (g : ZG) (h : Nat) : (kM g h).length = 37 := rfl
def y_lawN (nm : String) : ZMI := (⟨"BesideAnotherLaw", nm, "([I)Z"⟩, code, 7, some .boolean)
theorem law_made (g : ZG) (b0 b : Nat) (nm : String) : BO g b0 1836 (y_lawN nm) 0 [(0, .ref b)] [] 0 0 [] (23, [(4, .int 0), (3, .ref (b0 + 179)), (2, .ref (b0 + 142)), (1, .ref b0), (0, .ref b)], [], 180, 603428, kX g b0 ++ kM g (b0 + 142) ++ [bJ g 1]) := by
  obtain ⟨C, T, ty, h1, h2, h3, h4, h5, h6⟩ := bn_L_8
  obtain ⟨C', T', ty', r1, r2, r3, r4, r5, r6⟩ := bn_L_26
  obtain ⟨x2, x3, x4, x5, x6, x7, x8⟩ := bc_X
  obtain ⟨m2, m3, m4, m5, m6, m7, m8⟩ := bc_M
  refine BO.new (pc := 0) (q := b0) d_L_law_0 h1 ty h2 h3 h4 h5 h6 (Nat.le_of_ble_eq_true rfl) (Nat.le_of_ble_eq_true rfl) rfl ?_
  refine BO.dup (pc := 3) d_L_law_3 rfl ?_
  refine BO.callD (pc := 4) (P := []) (a := b0) d_L_law_4 (ok_X_init g b0) bl_L_25 x2 x3 x4 x5 x6 x7 x8 (by decide) rfl rfl (Nat.le_of_ble_eq_true rfl) (Nat.le_of_ble_eq_true rfl) (Nat.le_of_ble_eq_true rfl) ?_
  refine BO.astore_n (pc := 7) (L' := [(1, .ref b0), (0, .ref b)]) d_L_law_7 rfl (Nat.le_of_ble_eq_true rfl) rfl ?_
  refine BO.weq (ws' := kX g b0) rfl ?_
  refine BO.new (pc := 8) (q := b0 + 142) d_L_law_8 r1 ty' r2 r3 r4 r5 r6 (Nat.le_of_ble_eq_true rfl) (Nat.le_of_ble_eq_true rfl) (by rw [kX_len]) ?_
  refine BO.dup (pc := 11) d_L_law_11 rfl ?_
  refine BO.callD (pc := 12) (P := kX g b0) (a := b0 + 142) d_L_law_12 (ok_M_init g b0) bl_L_28 m2 m3 m4 m5 m6 m7 m8 (by decide) rfl (by rw [kX_len]) (Nat.le_of_ble_eq_true rfl) (Nat.le_of_ble_eq_true rfl) (Nat.le_of_ble_eq_true rfl) ?_
  refine BO.astore_n (pc := 15) (L' := [(2, .ref (b0 + 142)), (1, .ref b0), (0, .ref b)]) d_L_law_15 rfl (Nat.le_of_ble_eq_true rfl) rfl ?_
  refine BO.iconst (pc := 16) 1 d_L_law_16 rfl ?_
  refine BO.newa (pc := 17) (t0 := 1) (N := 1) (a0 := fun N => (N, .inr (.inl (fun _ => 0)))) (q := b0 + 179) d_L_law_17 rfl (fun _ h => by cases h) b_clJ rfl (fun cA => rfl) (by decide) (by decide) (Nat.le_of_ble_eq_true rfl) (Nat.le_of_ble_eq_true rfl) (Nat.le_of_ble_eq_true rfl) (by rw [List.length_append, kX_len, kM_len]) ?_
  refine BO.astore_n (pc := 19) (L' := [(3, .ref (b0 + 179)), (2, .ref (b0 + 142)), (1, .ref b0), (0, .ref b)]) d_L_law_19 rfl (Nat.le_of_ble_eq_true rfl) rfl ?_
  refine BO.iconst (pc := 20) 0 d_L_law_20 rfl ?_
  refine BO.istore (pc := 21) (L' := [(4, .int 0), (3, .ref (b0 + 179)), (2, .ref (b0 + 142)), (1, .ref b0), (0, .ref b)]) d_L_law_21 (Nat.le_of_ble_eq_true rfl) rfl ?_
  exact BO.done
theorem mk_ix : ∀ p, p < 180 → mkL.findIdx (fun x => x == mkL.getD p 0) = p := by decide +kernel
theorem mk_600 : ∀ o ∈ mkL, o < 600 := by decide +kernel
theorem ad_ex (sz b t : Nat) (aK aV aM : Nat → Nat) : ∃ ad : Nat → Nat, (∀ p o, mkL[p]? = some o → ad o = sz + p) ∧ ad 600 = b ∧ (∀ i, i < 20 → ad (700 + i) = aK i) ∧ (∀ i, i < 20 → ad (720 + i) = aV i) ∧ (∀ i, i < 20 → ad (740 + i) = aM i) ∧ ad 760 = t := by
  refine ⟨fun o => if o < 600 then sz + mkL.findIdx (fun x => x == o) else if o = 600 then b else if o < 720 then aK (o - 700) else if o < 740 then aV (o - 720) else if o < 760 then aM (o - 740) else t, fun p o h => ?_, ?_, fun i hi => ?_, fun i hi => ?_, fun i hi => ?_, ?_⟩
  · have hp : p < 180 := by have := (List.getElem?_eq_some_iff.mp h).1; rw [mk_len] at this; exact this
    have ho := mk_600 o (List.mem_of_getElem? h)
    have e := mk_ix p hp
    rw [List.getD_eq_getElem?_getD, h] at e
    show (if o < 600 then _ else _) = _
    rw [if_pos ho]
    exact congrArg (sz + ·) e
  · rfl
  · show (if 700 + i < 600 then _ else if 700 + i = 600 then _ else if 700 + i < 720 then _ else _) = _
    rw [if_neg (by omega), if_neg (by omega), if_pos (by omega), show 700 + i - 700 = i by omega]
  · show (if 720 + i < 600 then _ else if 720 + i = 600 then _ else if 720 + i < 720 then _ else if 720 + i < 740 then _ else _) = _
    rw [if_neg (by omega), if_neg (by omega), if_neg (by omega), if_pos (by omega), show 720 + i - 720 = i by omega]
  · show (if 740 + i < 600 then _ else if 740 + i = 600 then _ else if 740 + i < 720 then _ else if 740 + i < 740 then _ else if 740 + i < 760 then _ else _) = _
    rw [if_neg (by omega), if_neg (by omega), if_neg (by omega), if_neg (by omega), if_pos (by omega), show 740 + i - 740 = i by omega]
  · rfl
end Z9k
