-- what the Statement gives of the start: texts, statics, links
section Z9j
def tmK (i : Nat) : Term := .string z_R9 ((z_tx.map (fun q => q.1)).getD i 0)
def tmM (i : Nat) : Term := .string z_R8 ((z_ts.map (fun q => q.1)).getD i 0)
abbrev gvAll : List Cond := flatC (Jvm.Cond.and given_1 narrow_1)
theorem gv_ex : ∀ i, i < 6 → Cond.exactly (tmK i) "java/lang/String" ∈ gvAll := by decide +kernel
theorem gv_co : ∀ i, i < 6 → Cond.eq (.field (tmK i) "java/lang/String" "coder" "B") (.int 0) ∈ gvAll := by decide +kernel
theorem gv_ar : ∀ i, i < 6 → Cond.arrayOf (.field (tmK i) "java/lang/String" "value" "[B") .byte ∈ gvAll := by decide +kernel
theorem gv_le : ∀ i, i < 6 → Cond.eq (.length (.field (tmK i) "java/lang/String" "value" "[B")) (.int (Int32.ofNat (z_tl.getD i 0))) ∈ gvAll := by decide +kernel
theorem gv_el : ∀ i, i < 6 → ∀ j, j < z_tl.getD i 0 → Cond.eq (.elem (.field (tmK i) "java/lang/String" "value" "[B") (.int (Int32.ofNat j))) (.int ((z_tb.getD i []).getD j 0)) ∈ gvAll := by decide +kernel
theorem gv_ne : ∀ i, i < 6 → ∀ j, j < 6 → i ≠ j → Cond.not (Cond.eq (tmK i) (tmK j)) ∈ gvAll ∨ Cond.not (Cond.eq (tmK j) (tmK i)) ∈ gvAll := by decide +kernel
theorem gv_em : ∀ i, i < 6 → Cond.exactly (tmM i) "java/lang/String" ∈ gvAll := by decide +kernel
theorem gv_tl : ∀ i, i < 6 → z_tl.getD i 0 < 2 ^ 31 := by decide +kernel
theorem gv_cs : Cond.eq (.static "java/lang/String" "COMPACT_STRINGS" "Z") (.int 1) ∈ gvAll := by decide +kernel
theorem gv_fm : Cond.isRef (.static "jdk/internal/util/Preconditions" "SIOOBE_FORMATTER" "Ljava/util/function/BiFunction;") ∈ gvAll := by decide +kernel
theorem gv_us : Cond.isRef (.static Bundle.tN "UNASSIGNED_STACK" Bundle.steD) ∈ gvAll := by decide +kernel
theorem gv_ss : Cond.isRef (.static Bundle.tN "SUPPRESSED_SENTINEL" Bundle.listD) ∈ gvAll := by decide +kernel
theorem t_w {w : Cond} (i : Nat) (h : tables_1[i]? = some w) : w ∈ lw_tbl := List.mem_append_right _ (List.mem_of_getElem? h)
theorem z_txn {i : Nat} {q : Nat × String × List Int32} (h : z_tx[i]? = some q) : i < 6 ∧ tmK i = .string z_R9 q.1 := by
  have hi : i < 6 := (List.getElem?_eq_some_iff.mp h).1
  refine ⟨hi, ?_⟩
  unfold tmK
  rw [List.getD_eq_getElem?_getD, List.getElem?_map, h]
  rfl
theorem z_tsn {i : Nat} {q : Nat × String} (h : z_ts[i]? = some q) : i < 6 ∧ tmM i = .string z_R8 q.1 := by
  have hi : i < 6 := (List.getElem?_eq_some_iff.mp h).1
  refine ⟨hi, ?_⟩
  unfold tmM
  rw [List.getD_eq_getElem?_getD, List.getElem?_map, h]
  rfl
theorem z_txw : ∀ i, i < 6 → ∀ q, z_tx[i]? = some q → Cond.stringRef z_R9 q.1 q.2.1 ∈ lw_tbl := by
  intro i hi q h
  rcases (show i = 0 ∨ i = 1 ∨ i = 2 ∨ i = 3 ∨ i = 4 ∨ i = 5 by omega) with rfl | rfl | rfl | rfl | rfl | rfl
  · cases h; exact t_w 969 (by decide +kernel)
  · cases h; exact t_w 1022 (by decide +kernel)
  · cases h; exact t_w 1023 (by decide +kernel)
  · cases h; exact t_w 1024 (by decide +kernel)
  · cases h; exact t_w 1025 (by decide +kernel)
  · cases h; exact t_w 1026 (by decide +kernel)
theorem z_tsw : ∀ i, i < 6 → ∀ q, z_ts[i]? = some q → Cond.stringRef z_R8 q.1 q.2 ∈ lw_tbl := by
  intro i hi q h
  rcases (show i = 0 ∨ i = 1 ∨ i = 2 ∨ i = 3 ∨ i = 4 ∨ i = 5 by omega) with rfl | rfl | rfl | rfl | rfl | rfl
  · cases h; exact t_w 855 (by decide +kernel)
  · cases h; exact t_w 883 (by decide +kernel)
  · cases h; exact t_w 891 (by decide +kernel)
  · cases h; exact t_w 900 (by decide +kernel)
  · cases h; exact t_w 901 (by decide +kernel)
  · cases h; exact t_w 909 (by decide +kernel)
theorem given_ok {args : Array Value} {s : State} {A : Nat → Prop} (hts : ∀ w ∈ lw_tbl, w.before args s = true) (hgv : (Jvm.Cond.and given_1 narrow_1).before args s = true) (hA : ∀ a : Nat, a < s.heap.size → ¬ A a) :
    ∃ (adK adV adM : Nat → Nat) (v : Value), vk_S 6 z_tl z_tb adK adV A s s.heap ∧ (∀ (i : Nat) q, z_tx[i]? = some q → vk_R z_R9 q.1 q.2.1 (adK i) s) ∧ (∀ (i : Nat) q, z_ts[i]? = some q → vk_R z_R8 q.1 q.2 (adM i) s) ∧
      va_Z "java/lang/String" "COMPACT_STRINGS" "Z" (.int 1) A s s.heap ∧ (v = .null ∨ ∃ t, v = .ref t) ∧ va_Z "jdk/internal/util/Preconditions" "SIOOBE_FORMATTER" "Ljava/util/function/BiFunction;" v A s s.heap ∧
      vx_Zq Bundle.tN "UNASSIGNED_STACK" Bundle.steD A s s.heap ∧ vx_Zq Bundle.tN "SUPPRESSED_SENTINEL" Bundle.listD A s s.heap := by
  have hs := flat_of_before _ hgv
  obtain ⟨adK, adV, h1, h2⟩ := vk_Sof (args := args) (s := s) (N := 6) (tm := tmK) (len := z_tl) (byt := z_tb) (A := A) gv_tl (fun i hi => hs _ (gv_ex i hi)) (fun i hi => hs _ (gv_co i hi)) (fun i hi => hs _ (gv_ar i hi)) (fun i hi => hs _ (gv_le i hi)) (fun i hi j hj => hs _ (gv_el i hi j hj))
    (fun i j hi hj hn => (gv_ne i hi j hj hn).imp (fun h => hs _ h) (fun h => hs _ h)) hA
  have hM : ∀ i : Nat, ∃ a : Nat, i < 6 → (tmM i).eval args s none [] s = some (.ref a) := fun i => by
    by_cases hi : i < 6
    · obtain ⟨a, c, cA, kA, q1, -⟩ := Cond.exactly_spec (args := args) (first := s) (o := none) (s := s) (idx := []) (t := tmM i) (cls := "java/lang/String") (hs _ (gv_em i hi))
      exact ⟨a, fun _ => q1⟩
    · exact ⟨0, fun h => absurd h hi⟩
  obtain ⟨adM, hM⟩ := Classical.axiomOfChoice hM
  have hini : ∀ {C : String}, Cond.initialized C ∈ lw_tbl → (Cond.initialized C).before args s = true := fun h => hts _ h
  have hF : ∃ v : Value, (v = .null ∨ ∃ t, v = .ref t) ∧ va_Z "jdk/internal/util/Preconditions" "SIOOBE_FORMATTER" "Ljava/util/function/BiFunction;" v A s s.heap := by
    rcases va_Zqof (A := A) (hts _ (t_w 999 (by decide +kernel))) (hini (t_w 16 (by decide +kernel))) (hs _ gv_fm) hA with h | ⟨t, h⟩
    · exact ⟨.null, Or.inl rfl, h⟩
    · exact ⟨.ref t, Or.inr ⟨t, rfl⟩, h⟩
  obtain ⟨v, hv, hF⟩ := hF
  refine ⟨adK, adV, adM, v, h1, fun i q hq => ?_, fun i q hq => ?_, va_Zof (hts _ (t_w 983 (by decide +kernel))) (hini (t_w 14 (by decide +kernel))) (va_eqt (hs _ gv_cs)) hA, hv, hF, vx_Zqof (hts _ (t_w 843 (by decide +kernel))) (hini (t_w 18 (by decide +kernel))) (hs _ gv_us) hA, vx_Zqof (hts _ (t_w 845 (by decide +kernel))) (hini (t_w 18 (by decide +kernel))) (hs _ gv_ss) hA⟩
  · obtain ⟨hi, e⟩ := z_txn hq
    exact vk_R.of (hts _ (z_txw i hi q hq)) (by rw [← e]; exact h2 i hi)
  · obtain ⟨hi, e⟩ := z_tsn hq
    exact vk_R.of (hts _ (z_tsw i hi q hq)) (by rw [← e]; exact hM i hi)
theorem tr_ok {l : Launch} (h : l.flags = flags0) : l.stackTraces = false := by
  unfold Launch.stackTraces
  rw [h]
  decide +kernel
end Z9j
