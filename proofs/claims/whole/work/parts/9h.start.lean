-- the store at the start holds the state at the start, on both sides
section Z9h
def s0 : ZSt := (fun o j => if o = 107 ∧ j < 3 then 3 else if o = 241 ∧ j < 3 then 3 else if 300 ≤ o ∧ o < 312 ∧ j = 3 then 99 else if o = 201 ∧ j = 5 then 1 else if o = 200 ∧ j = 5 then nI 353 else 0, fun _ _ => 0)
def aStart : ZA := (([], [], []), (0, fun _ => [], fun _ => [], fun _ => 0, fun _ => 99, fun _ => 3), (0, fun _ => 0, fun _ => 0), (fun _ => 0, fun _ => 0, fun _ => 0, fun _ => 0, 0, []), fun _ => none)
theorem s0_z {o j : Nat} (h : (o ≠ 107 ∨ 3 ≤ j) ∧ (o ≠ 241 ∨ 3 ≤ j) ∧ (o < 300 ∨ 312 ≤ o ∨ j ≠ 3) ∧ (o ≠ 201 ∨ j ≠ 5) ∧ (o ≠ 200 ∨ j ≠ 5)) : gi s0 o j = 0 := by
  show (if o = 107 ∧ j < 3 then (3 : Int32) else if o = 241 ∧ j < 3 then 3 else if 300 ≤ o ∧ o < 312 ∧ j = 3 then 99 else if o = 201 ∧ j = 5 then 1 else if o = 200 ∧ j = 5 then nI 353 else 0) = 0
  rw [if_neg (by omega), if_neg (by omega), if_neg (by omega), if_neg (by omega), if_neg (by omega)]
theorem s0_n {o j : Nat} (h : (o ≠ 107 ∨ 3 ≤ j) ∧ (o ≠ 241 ∨ 3 ≤ j) ∧ (o < 300 ∨ 312 ≤ o ∨ j ≠ 3) ∧ (o ≠ 201 ∨ j ≠ 5) ∧ (o ≠ 200 ∨ j ≠ 5)) : gi s0 o j = nI 0 := (s0_z h).trans nI_0.symm
theorem s0_r {o j : Nat} (h : o = 107 ∨ o = 241) (hj : j < 3) : gi s0 o j = nI 3 := by
  show (if o = 107 ∧ j < 3 then (3 : Int32) else if o = 241 ∧ j < 3 then 3 else if 300 ≤ o ∧ o < 312 ∧ j = 3 then 99 else if o = 201 ∧ j = 5 then 1 else if o = 200 ∧ j = 5 then nI 353 else 0) = nI 3
  rcases h with h | h
  · rw [if_pos ⟨h, hj⟩]; rfl
  · rw [if_neg (by omega), if_pos ⟨h, hj⟩]; rfl
theorem s0_99 {o j : Nat} (h : 300 ≤ o ∧ o < 312 ∧ j = 3) : gi s0 o j = 99 := by
  show (if o = 107 ∧ j < 3 then (3 : Int32) else if o = 241 ∧ j < 3 then 3 else if 300 ≤ o ∧ o < 312 ∧ j = 3 then 99 else if o = 201 ∧ j = 5 then 1 else if o = 200 ∧ j = 5 then nI 353 else 0) = 99
  rw [if_neg (by omega), if_neg (by omega), if_pos h]
theorem okF_z : okF 0 (fun _ => 0) := ⟨fun _ _ => (by decide : 0 < 2 ^ 0), fun i => by simp⟩
theorem no_kz {P : Nat → Prop} : ∀ k, k < 0 → P k := fun k h => absurd h (Nat.not_lt_zero k)
theorem okA_s : okA aStart := ⟨Nat.zero_le _, wf_nil, Nat.zero_le _, Nat.zero_le _, fun t _ => ⟨(by decide : 1 ≤ 3), (by decide : 3 ≤ 6)⟩, Nat.zero_le _, no_kz, ⟨okF_z, fun _ _ => rfl, no_kz, Nat.zero_le _⟩, fun i S m _ h => by cases h⟩
theorem start_MA : MA s0 aStart := by
  refine ⟨okA_s, ⟨⟨s0_n (by omega), Nat.zero_le _, s0_n (by omega), Nat.zero_le _, no_kz, no_kz⟩, no_kz, fun b _ => s0_z (by omega), fun t ht => ⟨s0_r (Or.inl rfl) ht, (by decide : 3 ≤ 6)⟩, fun t _ => s0_n (by omega), okF_z⟩, ⟨s0_n (by omega), no_kz⟩, ⟨s0_n (by omega), no_kz⟩, ⟨s0_n (by omega), no_kz⟩, no_kz, ⟨s0_z (by omega), s0_n (by omega), no_kz⟩, fun i _ => ?_⟩
  show gi s0 151 i = 0
  exact s0_z (by omega)
theorem start_XX : XX s0 0 aStart := by
  refine ⟨okA_s, ⟨1, Nat.le_refl _, ⟨⟨s0_n (by omega), Nat.zero_le _, no_kz⟩, ⟨rfl, by decide, fun i _ => ⟨0, Nat.zero_le _, s0_n (by omega), fun h => absurd h (by decide)⟩⟩, fun t ht => ⟨s0_r (Or.inr rfl) ht, (by decide : 3 ≤ 6)⟩⟩, no_kz, fun b _ => s0_z (by omega), rfl, okF_z⟩, ⟨s0_n (by omega), no_kz⟩, ⟨s0_n (by omega), no_kz⟩, ⟨s0_n (by omega), no_kz⟩, fun b _ hb => ⟨s0_99 (by omega), s0_z (by omega)⟩, ⟨s0_n (by omega), no_kz, fun r _ _ => s0_z (by omega)⟩, ⟨s0_z (by omega), 0, Nat.le_refl _, s0_n (by omega), rfl, no_kz⟩, fun i hi => ?_⟩
  show gi s0 (510 + i) 0 = 0
  exact s0_z (by omega)
theorem start_XS : XS s0 :=
  ⟨(0, fun _ => 0, fun _ => 0, fun _ => 0, fun _ => 0), fun _ => 0, fun _ => 0, s0_n (by omega), no_kz, fun p _ => s0_n (by omega), ⟨fun p _ => ⟨Nat.zero_le _, fun h => absurd rfl h⟩, no_kz, by decide⟩, fun i j h => absurd h (Nat.not_lt_zero _)⟩
theorem start_LI : LI s0 aStart 0 := ⟨start_MA, start_XX, start_XS⟩
end Z9h
