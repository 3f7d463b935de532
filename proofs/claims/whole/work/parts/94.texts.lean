-- a whole text read; rule
section Z94
abbrev PB : Type := Bool × Nat × List Int32 × Nat × List Int32
section
variable (tx : Nat → Int32) (to : Nat)
def gsx (b : Nat) : Bool := decide (b < to) && (decide (49 ≤ tx b) && decide (tx b ≤ 54))
def gB2 : PB :=
  if (gRc tx to 4 0).1 = true then (if gis tx to 59 (gRc tx to 4 0).2.1 = true then
    (if gsx tx to ((gRc tx to 4 0).2.1 + 1) = true then
      (if gis tx to 59 ((gRc tx to 4 0).2.1 + 2) = true then ((gRc tx to 4 ((gRc tx to 4 0).2.1 + 3)).1, (gRc tx to 4 ((gRc tx to 4 0).2.1 + 3)).2.1, (gRc tx to 4 0).2.2, (tx ((gRc tx to 4 0).2.1 + 1) - 48).toNatClampNeg, (gRc tx to 4 ((gRc tx to 4 0).2.1 + 3)).2.2)
      else (false, (gRc tx to 4 0).2.1 + 2, (gRc tx to 4 0).2.2, 0, []))
    else (false, (gRc tx to 4 0).2.1 + 1, (gRc tx to 4 0).2.2, 0, []))
  else (true, (gRc tx to 4 0).2.1, (gRc tx to 4 0).2.2, 0, [])) else (false, (gRc tx to 4 0).2.1, (gRc tx to 4 0).2.2, 0, [])
def gBk (two : Bool) : PB := if two = true then gB2 tx to else ((gRc tx to 4 0).1, (gRc tx to 4 0).2.1, (gRc tx to 4 0).2.2, 0, [])
end
def gdP (tx : Nat → Int32) (to len most : Nat) (two : Bool) : Bool := (gBk tx to two).1 && (decide ((gBk tx to two).2.1 = to) && decide (len ≤ most))
section
variable {tx : Nat → Int32} {to : Nat}
theorem gsx_lt {b : Nat} (h : gsx tx to b = true) : b < to ∧ ∃ w, 1 ≤ w ∧ w ≤ 6 ∧ tx b = nI (48 + w) := by
  unfold gsx at h
  rw [Bool.and_eq_true, Bool.and_eq_true, decide_eq_true_eq, decide_eq_true_eq, decide_eq_true_eq] at h
  refine ⟨h.1, ?_⟩
  rcases nI_cases (tx b) 55 (by decide) with ⟨k, hk, e⟩ | q | q
  · rw [e, show (49 : Int32) = nI 49 from rfl, nI_leI (by omega) (by omega)] at h
    exact ⟨k - 48, by omega, by omega, by rw [e]; congr 1; omega⟩
  · exact absurd (Int32.lt_of_lt_of_le q (show (0 : Int32) ≤ 49 by decide)) (Int32.not_lt.mpr h.2.1)
  · exact absurd (Int32.le_trans q h.2.2) (by decide)
theorem wf_nil : wfL [] := ⟨Nat.zero_le _, fun k hk => absurd hk (Nat.not_lt_zero _)⟩
theorem gBk_sp (two : Bool) (ht : to ≤ 60) : (gBk tx to two).2.1 ≤ to ∧ ((gBk tx to two).1 = true → wfL (gBk tx to two).2.2.1 ∧ (gBk tx to two).2.2.2.1 ≤ 6 ∧ wfL (gBk tx to two).2.2.2.2) := by
  obtain ⟨a1, a2, a3⟩ := gRc_B (tx := tx) (to := to) 4 0 (Nat.zero_le _)
  have w1 : (gRc tx to 4 0).1 = true → wfL (gRc tx to 4 0).2.2 := fun h => okl_wf _ ((a3 h).2 0).1 (by omega)
  unfold gBk
  by_cases c : two = true
  · rw [if_pos c]
    unfold gB2
    by_cases c1 : (gRc tx to 4 0).1 = true
    · rw [if_pos c1]
      by_cases c2 : gis tx to 59 (gRc tx to 4 0).2.1 = true
      · rw [if_pos c2]
        have h2 := (gis_lt c2).1
        by_cases c3 : gsx tx to ((gRc tx to 4 0).2.1 + 1) = true
        · rw [if_pos c3]
          obtain ⟨h3, w, _, hw, ew⟩ := gsx_lt c3
          by_cases c4 : gis tx to 59 ((gRc tx to 4 0).2.1 + 2) = true
          · rw [if_pos c4]
            have h4 := (gis_lt c4).1
            obtain ⟨b1, b2, b3⟩ := gRc_B (tx := tx) (to := to) 4 ((gRc tx to 4 0).2.1 + 3) (by omega)
            refine ⟨b2, fun h => ⟨w1 c1, ?_, okl_wf _ ((b3 h).2 0).1 (by dsimp only; omega)⟩⟩
            dsimp only
            rw [ew, show (48 : Int32) = nI 48 from rfl, pk_sub (by omega), nI_clamp (by omega)]
            omega
          · rw [if_neg c4]
            exact ⟨by dsimp only; omega, fun h => by cases h⟩
        · rw [if_neg c3]
          exact ⟨by dsimp only; omega, fun h => by cases h⟩
      · rw [if_neg c2]
        exact ⟨a2, fun _ => ⟨w1 c1, Nat.zero_le _, wf_nil⟩⟩
    · rw [if_neg c1]
      exact ⟨a2, fun h => by cases h⟩
  · rw [if_neg c]
    exact ⟨a2, fun h => ⟨w1 h, Nat.zero_le _, wf_nil⟩⟩
end
-- the class
def ppr : Nat → Nat → Bool := fun o j => (o == 200 && (j == 2 || j == 3 || j == 5 || j == 6 || j == 7)) || ((o == 353 || o == 354) && j == 2) || o == 433 || o == 434
section
variable {tx : Nat → Int32} {to n : Nat}
theorem x_whole {o b : Nat} {s : ZSt} (hn : 100 < n) (ht : to ≤ 60) (hb : b ≤ to) (ho : o = 353 ∨ o = 354) (h1 : gi s 200 6 = nI b) (h2 : gi s 200 7 = nI to) (h3 : ∀ k, k < to → gi s 224 k = tx k) :
    zT (fc_P_whole n o s) (fun r => r.1 = (gRc tx to 4 b).1 ∧ zE (pxp o) s r.2 ∧ gi r.2 200 6 = nI (gRc tx to 4 b).2.1 ∧ codeX r.2 o (gRc tx to 4 b).2.2) := by
  unfold fc_P_whole f_P_whole
  have hz : z_isO o 1 = true := by rcases ho with rfl | rfl <;> decide +kernel
  refine zT.gu hz (zT.ln (fun s1 hs1 => ?_))
  have g5 : gi s1 200 5 = nI o := by rw [hs1, gi_i, if_pos ⟨rfl, rfl⟩]
  rw [g5, nI_clamp (by omega)]
  refine zT.gu hz ?_
  unfold f_E_clear
  refine zT.bnT (zT.gu hz (zT.ltS (zT.ret (P := fun t => t = si s1 o 2 0) rfl))) ?_
  rintro _ rfl
  have hP : PX tx to o (si s1 o 2 0) b [] := by
    refine ⟨?_, ?_, fun k hk => ?_, ?_, ?_, fun k hk => absurd hk (Nat.not_lt_zero _), ho⟩
    · rw [gi_i, if_neg (by omega), hs1, gi_i, if_neg (by omega)]; exact h1
    · rw [gi_i, if_neg (by omega), hs1, gi_i, if_neg (by omega)]; exact h2
    · rw [gi_i, if_neg (by omega), hs1, gi_i, if_neg (by omega)]; exact h3 k hk
    · rw [gi_i, if_neg (by omega)]; exact g5
    · rw [gi_i, if_pos ⟨rfl, rfl⟩]; rfl
  -- nothing of the other expression is touched
  refine zT.bnT (x_any hn ht 4 6 (by omega) (by omega) b [] _ hP hb (Nat.zero_le _)) ?_
  rintro ⟨w, s2⟩ ⟨hw, hE2, q1, q2, q3, q4, q5, q6, q7⟩
  rw [List.nil_append] at q5 q6
  have hE1 : zE (pxp o) s (si s1 o 2 0) := by rw [hs1]; exact ((zE.refl _ _).wi rfl).wi (by simp [pxp])
  exact zT.ret ⟨hw, hE1.trans hE2, q1, q5, q6⟩
end
end Z94
