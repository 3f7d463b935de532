section ZSites
def zps {α : Type} (P : α → Prop) (t : Option α) : Prop := ∀ b, t = some b → P b
variable {α : Type} {P : α → Prop}
theorem zps_ite {c : Prop} [Decidable c] {a b : Option α} (h1 : zps P a) (h2 : zps P b) : zps P (ite c a b) := by split; exact h1; exact h2
theorem zps_gd {c : Bool} {a : Option α} (h1 : zps P a) : zps P (gd c a) := by unfold gd; split; exact h1; intro b h; cases h
theorem zps_bn {β : Type} {t : Option β} {f : β → Option α} (h : ∀ x, zps P (f x)) : zps P (bn t f) := by
  intro b hb
  obtain ⟨x, -, hx⟩ := Option.bind_eq_some_iff.mp hb
  exact h x b hx
theorem zps_jn {β : Type} {rest : β → Option α} {f : (β → Option α) → Option α} (h1 : ∀ x, zps P (rest x)) (h2 : ∀ j, (∀ x, zps P (j x)) → zps P (f j)) : zps P (jn rest f) := h2 rest h1
theorem zps_lt {β : Type} {v : β} {f : β → Option α} (h : ∀ x, zps P (f x)) : zps P (lt v f) := h v
theorem zps_so {a : α} (h : P a) : zps P (some a) := by intro b hb; cases hb; exact h
def ztP (y : ZMI) (b : Option Int32 × Nat × ZSt) : Prop := b.1 = none → ZTS y b.2.1
theorem ztP_v {y : ZMI} {v : Int32} {q : Nat × ZSt} : ztP y (some v, q) := fun h => nomatch h
theorem zt_X_about_11 (s : ZSt) : ztP y_X_about (none, 11, s) := fun _ => ⟨rfl, Or.inl ⟨0, 161, "no such book", rfl, d_X_about_11, d_X_about_14, d_X_about_15, d_X_about_17, d_X_about_20⟩⟩
theorem zt_X_about_105 (s : ZSt) : ztP y_X_about (none, 105, s) := fun _ => ⟨rfl, Or.inl ⟨1, 176, "nothing such is told of a book", rfl, d_X_about_105, d_X_about_108, d_X_about_109, d_X_about_111, d_X_about_114⟩⟩
theorem zs_X_about (n : Nat) (a0 a1 : Int32) (s : ZSt) : zps (ztP y_X_about) (f_X_about n a0 a1 s) := by
  unfold f_X_about
  repeat' first
    | with_reducible exact zps_so ztP_v
    | with_reducible exact zps_so (zt_X_about_11 _)
    | with_reducible exact zps_so (zt_X_about_105 _)
    | with_reducible exact hj _
    | with_reducible apply_assumption
    | with_reducible refine zps_ite ?_ ?_
    | with_reducible refine zps_gd ?_
    | with_reducible refine zps_bn (fun _ => ?_)
    | with_reducible refine zps_lt (fun _ => ?_)
    | with_reducible refine zps_jn (fun _ => ?_) (fun _ hj => ?_)
theorem okv_X_about (g : ZG) (n : Nat) (a0 a1 : Int32) (s : ZSt) : ZV g 8 y_X_about [.ref 1, .int a0, .int a1] s (f_X_about n a0 a1 s) := ZV.of (Nat.le_refl _) (by decide +kernel) (Nat.le_of_ble_eq_true rfl) (zs_X_about n a0 a1 s) (ok_X_about g n a0 a1 s zu0)
def f_L_about (n : Nat) (a0 a1 : Int32) (s : ZSt) : Option (Int32 × ZSt) := bn (f_X_about n a0 a1 s) (fun b => some (wrapF b))
set_option maxHeartbeats 1000000 in
theorem ok_L_about (g : ZG) (n : Nat) (a0 a1 : Int32) (s : ZSt) : ZO g 9 y_L_about ((none, 1, 6, [(0, 10, 13, 13)]), 0, 0) 0 (lv_args 0 [.ref 1, .int a0, .int a1, .ref 550]) [] s (f_L_about n a0 a1 s) (fun c => (some (some (.int c.1)), c.2, 0)) := by
  unfold f_L_about
  show ZO g 9 y_L_about _ 0 [(0, .ref 1), (1, .int a0), (2, .int a1), (3, .ref 550)] [] s _ _
  refine ZO.aload_n (pc := 0) 3 d_L_about_0 rfl rfl ?_
  refine ZO.iconst (pc := 1) 0 d_L_about_1 rfl ?_
  refine ZO.aload_n (pc := 2) 0 d_L_about_2 rfl rfl ?_
  refine ZO.iload_n (pc := 3) 1 d_L_about_3 rfl rfl ?_
  refine ZO.iload_n (pc := 4) 2 d_L_about_4 rfl rfl ?_
  refine ZO.catchV (pc := 5) (As := [.int a0, .int a1]) (rest := [.int 0, .ref 550]) (d' := 8) (j := 4) rfl d_L_about_5 zc_L_7 (by decide) rfl rfl rfl (by show 1 + (1 + 0) ≤ 8; decide) (okv_X_about g n a0 a1 s ) (by decide) (Or.inl ⟨d_L_about_13, rfl⟩) (by decide) ?_ (fun b v hb hv => ?_) (fun b hb hx => ?_)
  · intro q hq
    simp only [List.mem_cons, List.not_mem_nil, or_false] at hq
    rcases hq with rfl | rfl | rfl | rfl <;> exact ⟨Nat.ne_of_beq_eq_false rfl, fun h => by first | exact absurd h.1 (Nat.ne_of_beq_eq_false rfl) | exact absurd h.2 (Nat.ne_of_beq_eq_false rfl)⟩
  · refine ZO.i2l (pc := 8) d_L_about_8 ?_
    refine ZO.last (pc := 9) d_L_about_9 za_550 rfl ?_
    refine ZO.goto (pc := 10) 17 d_L_about_10 (by decide) ?_
    refine ZO.iconst (pc := 17) 0 d_L_about_17 rfl ?_
    exact ZO.iret (pc := 18) d_L_about_18 rfl rfl (by unfold wrapF; rw [hv])
  · refine ZO.iconst (pc := 15) 1 d_L_about_15 rfl ?_
    exact ZO.iret (pc := 16) d_L_about_16 rfl rfl (by unfold wrapF; rw [hx])
theorem okw_L_about (g : ZG) (n : Nat) (a0 a1 : Int32) (s : ZSt) : ∀ c, f_L_about n a0 a1 s = some c → ZWM g 9 y_L_about [(0, 10, 13, 13)] [.ref 1, .int a0, .int a1, .ref 550] s c := ZWM.of (by decide +kernel) (Nat.le_of_ble_eq_true rfl) (ok_L_about g n a0 a1 s)
theorem zcw_L_about : ZCW "BesideAnotherLaw" 57 y_L_about [(0, 10, 13, 13)] 4 := ⟨(gwc4 88 rfl rfl), (gwc4 89 rfl rfl), (gwc1 0 rfl rfl), (gwc4 90 rfl rfl), ⟨by decide +kernel, by decide +kernel⟩, by decide +kernel, by decide⟩
theorem zt_X_value_18 (s : ZSt) : ztP y_X_value (none, 18, s) := fun _ => ⟨rfl, Or.inl ⟨2, 181, "no such book or table", rfl, d_X_value_18, d_X_value_21, d_X_value_22, d_X_value_24, d_X_value_27⟩⟩
theorem zs_X_value (n : Nat) (a0 a1 : Int32) (s : ZSt) : zps (ztP y_X_value) (f_X_value n a0 a1 s) := by
  unfold f_X_value
  repeat' first
    | with_reducible exact zps_so ztP_v
    | with_reducible exact zps_so (zt_X_value_18 _)
    | with_reducible exact hj _
    | with_reducible apply_assumption
    | with_reducible refine zps_ite ?_ ?_
    | with_reducible refine zps_gd ?_
    | with_reducible refine zps_bn (fun _ => ?_)
    | with_reducible refine zps_lt (fun _ => ?_)
    | with_reducible refine zps_jn (fun _ => ?_) (fun _ hj => ?_)
theorem okv_X_value (g : ZG) (n : Nat) (a0 a1 : Int32) (s : ZSt) : ZV g 8 y_X_value [.ref 1, .int a0, .int a1] s (f_X_value n a0 a1 s) := ZV.of (Nat.le_refl _) (by decide +kernel) (Nat.le_of_ble_eq_true rfl) (zs_X_value n a0 a1 s) (ok_X_value g n a0 a1 s zu0)
def f_L_value (n : Nat) (a0 a1 : Int32) (s : ZSt) : Option (Int32 × ZSt) := bn (f_X_value n a0 a1 s) (fun b => some (wrapF b))
set_option maxHeartbeats 1000000 in
theorem ok_L_value (g : ZG) (n : Nat) (a0 a1 : Int32) (s : ZSt) : ZO g 9 y_L_value ((none, 1, 6, [(0, 10, 13, 13)]), 0, 0) 0 (lv_args 0 [.ref 1, .int a0, .int a1, .ref 550]) [] s (f_L_value n a0 a1 s) (fun c => (some (some (.int c.1)), c.2, 0)) := by
  unfold f_L_value
  show ZO g 9 y_L_value _ 0 [(0, .ref 1), (1, .int a0), (2, .int a1), (3, .ref 550)] [] s _ _
  refine ZO.aload_n (pc := 0) 3 d_L_value_0 rfl rfl ?_
  refine ZO.iconst (pc := 1) 0 d_L_value_1 rfl ?_
  refine ZO.aload_n (pc := 2) 0 d_L_value_2 rfl rfl ?_
  refine ZO.iload_n (pc := 3) 1 d_L_value_3 rfl rfl ?_
  refine ZO.iload_n (pc := 4) 2 d_L_value_4 rfl rfl ?_
  refine ZO.catchV (pc := 5) (As := [.int a0, .int a1]) (rest := [.int 0, .ref 550]) (d' := 8) (j := 4) rfl d_L_value_5 zc_L_15 (by decide) rfl rfl rfl (by show 1 + (1 + 0) ≤ 8; decide) (okv_X_value g n a0 a1 s ) (by decide) (Or.inl ⟨d_L_value_13, rfl⟩) (by decide) ?_ (fun b v hb hv => ?_) (fun b hb hx => ?_)
  · intro q hq
    simp only [List.mem_cons, List.not_mem_nil, or_false] at hq
    rcases hq with rfl | rfl | rfl | rfl <;> exact ⟨Nat.ne_of_beq_eq_false rfl, fun h => by first | exact absurd h.1 (Nat.ne_of_beq_eq_false rfl) | exact absurd h.2 (Nat.ne_of_beq_eq_false rfl)⟩
  · refine ZO.i2l (pc := 8) d_L_value_8 ?_
    refine ZO.last (pc := 9) d_L_value_9 za_550 rfl ?_
    refine ZO.goto (pc := 10) 17 d_L_value_10 (by decide) ?_
    refine ZO.iconst (pc := 17) 0 d_L_value_17 rfl ?_
    exact ZO.iret (pc := 18) d_L_value_18 rfl rfl (by unfold wrapF; rw [hv])
  · refine ZO.iconst (pc := 15) 1 d_L_value_15 rfl ?_
    exact ZO.iret (pc := 16) d_L_value_16 rfl rfl (by unfold wrapF; rw [hx])
theorem okw_L_value (g : ZG) (n : Nat) (a0 a1 : Int32) (s : ZSt) : ∀ c, f_L_value n a0 a1 s = some c → ZWM g 9 y_L_value [(0, 10, 13, 13)] [.ref 1, .int a0, .int a1, .ref 550] s c := ZWM.of (by decide +kernel) (Nat.le_of_ble_eq_true rfl) (ok_L_value g n a0 a1 s)
theorem zcw_L_value : ZCW "BesideAnotherLaw" 70 y_L_value [(0, 10, 13, 13)] 4 := ⟨(gwc4 164 rfl rfl), (gwc4 165 rfl rfl), (gwc1 0 rfl rfl), (gwc4 166 rfl rfl), ⟨by decide +kernel, by decide +kernel⟩, by decide +kernel, by decide⟩
theorem zt_X_of_8 (s : ZSt) : ztP y_X_of (none, 8, s) := fun _ => ⟨rfl, Or.inl ⟨3, 249, "no such reader", rfl, d_X_of_8, d_X_of_11, d_X_of_12, d_X_of_14, d_X_of_17⟩⟩
theorem zt_X_of_76 (s : ZSt) : ztP y_X_of (none, 76, s) := fun _ => ⟨rfl, Or.inr ⟨4, 257, "nothing such is told of a reader", rfl, d_X_of_76, d_X_of_79, d_X_of_80, d_X_of_83, d_X_of_86⟩⟩
theorem zs_X_of (a0 a1 : Int32) (s : ZSt) : zps (ztP y_X_of) (f_X_of a0 a1 s) := by
  unfold f_X_of
  repeat' first
    | with_reducible exact zps_so ztP_v
    | with_reducible exact zps_so (zt_X_of_8 _)
    | with_reducible exact zps_so (zt_X_of_76 _)
    | with_reducible exact hj _
    | with_reducible apply_assumption
    | with_reducible refine zps_ite ?_ ?_
    | with_reducible refine zps_gd ?_
    | with_reducible refine zps_bn (fun _ => ?_)
    | with_reducible refine zps_lt (fun _ => ?_)
    | with_reducible refine zps_jn (fun _ => ?_) (fun _ hj => ?_)
theorem okv_X_of (g : ZG) (a0 a1 : Int32) (s : ZSt) : ZV g 8 y_X_of [.ref 1, .int a0, .int a1] s (f_X_of a0 a1 s) := ZV.of (Nat.le_refl _) (by decide +kernel) (Nat.le_of_ble_eq_true rfl) (zs_X_of a0 a1 s) (ok_X_of g a0 a1 s zu0)
def f_L_of (a0 a1 : Int32) (s : ZSt) : Option (Int32 × ZSt) := bn (f_X_of a0 a1 s) (fun b => some (wrapF b))
set_option maxHeartbeats 1000000 in
theorem ok_L_of (g : ZG) (a0 a1 : Int32) (s : ZSt) : ZO g 9 y_L_of ((none, 1, 6, [(0, 10, 13, 13)]), 0, 0) 0 (lv_args 0 [.ref 1, .int a0, .int a1, .ref 550]) [] s (f_L_of a0 a1 s) (fun c => (some (some (.int c.1)), c.2, 0)) := by
  unfold f_L_of
  show ZO g 9 y_L_of _ 0 [(0, .ref 1), (1, .int a0), (2, .int a1), (3, .ref 550)] [] s _ _
  refine ZO.aload_n (pc := 0) 3 d_L_of_0 rfl rfl ?_
  refine ZO.iconst (pc := 1) 0 d_L_of_1 rfl ?_
  refine ZO.aload_n (pc := 2) 0 d_L_of_2 rfl rfl ?_
  refine ZO.iload_n (pc := 3) 1 d_L_of_3 rfl rfl ?_
  refine ZO.iload_n (pc := 4) 2 d_L_of_4 rfl rfl ?_
  refine ZO.catchV (pc := 5) (As := [.int a0, .int a1]) (rest := [.int 0, .ref 550]) (d' := 8) (j := 4) rfl d_L_of_5 zc_L_18 (by decide) rfl rfl rfl (by show 1 + (1 + 0) ≤ 8; decide) (okv_X_of g a0 a1 s ) (by decide) (Or.inl ⟨d_L_of_13, rfl⟩) (by decide) ?_ (fun b v hb hv => ?_) (fun b hb hx => ?_)
  · intro q hq
    simp only [List.mem_cons, List.not_mem_nil, or_false] at hq
    rcases hq with rfl | rfl | rfl | rfl <;> exact ⟨Nat.ne_of_beq_eq_false rfl, fun h => by first | exact absurd h.1 (Nat.ne_of_beq_eq_false rfl) | exact absurd h.2 (Nat.ne_of_beq_eq_false rfl)⟩
  · refine ZO.i2l (pc := 8) d_L_of_8 ?_
    refine ZO.last (pc := 9) d_L_of_9 za_550 rfl ?_
    refine ZO.goto (pc := 10) 17 d_L_of_10 (by decide) ?_
    refine ZO.iconst (pc := 17) 0 d_L_of_17 rfl ?_
    exact ZO.iret (pc := 18) d_L_of_18 rfl rfl (by unfold wrapF; rw [hv])
  · refine ZO.iconst (pc := 15) 1 d_L_of_15 rfl ?_
    exact ZO.iret (pc := 16) d_L_of_16 rfl rfl (by unfold wrapF; rw [hx])
theorem okw_L_of (g : ZG) (a0 a1 : Int32) (s : ZSt) : ∀ c, f_L_of a0 a1 s = some c → ZWM g 9 y_L_of [(0, 10, 13, 13)] [.ref 1, .int a0, .int a1, .ref 550] s c := ZWM.of (by decide +kernel) (Nat.le_of_ble_eq_true rfl) (ok_L_of g a0 a1 s)
theorem zcw_L_of : ZCW "BesideAnotherLaw" 105 y_L_of [(0, 10, 13, 13)] 4 := ⟨(gwc4 173 rfl rfl), (gwc4 174 rfl rfl), (gwc1 0 rfl rfl), (gwc4 175 rfl rfl), ⟨by decide +kernel, by decide +kernel⟩, by decide +kernel, by decide⟩
theorem zt_X_row_12 (s : ZSt) : ztP y_X_row (none, 12, s) := fun _ => ⟨rfl, Or.inr ⟨5, 413, "the row has no such number", rfl, d_X_row_12, d_X_row_15, d_X_row_16, d_X_row_19, d_X_row_22⟩⟩
theorem zs_X_row (a0 : Int32) (s : ZSt) : zps (ztP y_X_row) (f_X_row a0 s) := by
  unfold f_X_row
  repeat' first
    | with_reducible exact zps_so ztP_v
    | with_reducible exact zps_so (zt_X_row_12 _)
    | with_reducible exact hj _
    | with_reducible apply_assumption
    | with_reducible refine zps_ite ?_ ?_
    | with_reducible refine zps_gd ?_
    | with_reducible refine zps_bn (fun _ => ?_)
    | with_reducible refine zps_lt (fun _ => ?_)
    | with_reducible refine zps_jn (fun _ => ?_) (fun _ hj => ?_)
theorem okv_X_row (g : ZG) (a0 : Int32) (s : ZSt) : ZV g 8 y_X_row [.ref 1, .int a0] s (f_X_row a0 s) := ZV.of (Nat.le_refl _) (by decide +kernel) (Nat.le_of_ble_eq_true rfl) (zs_X_row a0 s) (ok_X_row g a0 s zu0)
def f_L_row (a0 : Int32) (s : ZSt) : Option (Int32 × ZSt) := bn (f_X_row a0 s) (fun b => some (wrapF b))
set_option maxHeartbeats 1000000 in
theorem ok_L_row (g : ZG) (a0 : Int32) (s : ZSt) : ZO g 9 y_L_row ((none, 1, 6, [(0, 9, 12, 13)]), 0, 0) 0 (lv_args 0 [.ref 1, .int a0, .ref 550]) [] s (f_L_row a0 s) (fun c => (some (some (.int c.1)), c.2, 0)) := by
  unfold f_L_row
  show ZO g 9 y_L_row _ 0 [(0, .ref 1), (1, .int a0), (2, .ref 550)] [] s _ _
  refine ZO.aload_n (pc := 0) 2 d_L_row_0 rfl rfl ?_
  refine ZO.iconst (pc := 1) 0 d_L_row_1 rfl ?_
  refine ZO.aload_n (pc := 2) 0 d_L_row_2 rfl rfl ?_
  refine ZO.iload_n (pc := 3) 1 d_L_row_3 rfl rfl ?_
  refine ZO.catchV (pc := 4) (As := [.int a0]) (rest := [.int 0, .ref 550]) (d' := 8) (j := 3) rfl d_L_row_4 zc_L_21 (by decide) rfl rfl rfl (by show 1 + (1 + 0) ≤ 8; decide) (okv_X_row g a0 s ) (by decide) (Or.inr ⟨3, d_L_row_12, rfl, rfl⟩) (by decide) ?_ (fun b v hb hv => ?_) (fun b hb hx => ?_)
  · intro q hq
    simp only [List.mem_cons, List.not_mem_nil, or_false] at hq
    rcases hq with rfl | rfl | rfl <;> exact ⟨Nat.ne_of_beq_eq_false rfl, fun h => by first | exact absurd h.1 (Nat.ne_of_beq_eq_false rfl) | exact absurd h.2 (Nat.ne_of_beq_eq_false rfl)⟩
  · refine ZO.i2l (pc := 7) d_L_row_7 ?_
    refine ZO.last (pc := 8) d_L_row_8 za_550 rfl ?_
    refine ZO.goto (pc := 9) 15 d_L_row_9 (by decide) ?_
    refine ZO.iconst (pc := 15) 0 d_L_row_15 rfl ?_
    exact ZO.iret (pc := 16) d_L_row_16 rfl rfl (by unfold wrapF; rw [hv])
  · refine ZO.iconst (pc := 13) 1 d_L_row_13 rfl ?_
    exact ZO.iret (pc := 14) d_L_row_14 rfl rfl (by unfold wrapF; rw [hx])
theorem okw_L_row (g : ZG) (a0 : Int32) (s : ZSt) : ∀ c, f_L_row a0 s = some c → ZWM g 9 y_L_row [(0, 9, 12, 13)] [.ref 1, .int a0, .ref 550] s c := ZWM.of (by decide +kernel) (Nat.le_of_ble_eq_true rfl) (ok_L_row g a0 s)
theorem zcw_L_row : ZCW "BesideAnotherLaw" 196 y_L_row [(0, 9, 12, 13)] 3 := ⟨(gwc4 182 rfl rfl), (gwc4 183 rfl rfl), (gwc1 0 rfl rfl), (gwc4 184 rfl rfl), ⟨by decide +kernel, by decide +kernel⟩, by decide +kernel, by decide⟩
end ZSites
