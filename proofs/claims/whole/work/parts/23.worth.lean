-- CONDITIONS as the class holds them
section Z23
def xph (m : Int32) : Int32 := if m < 1000 then m else if m < 1012 then m - 900 else if m < 2000 then m - 892 else if m = 2033 then 130 else if m = 2124 then 131 else if m = 2038 then 132 else if m = 2060 then 133 else if m = 2062 then 134 else if m = 2061 then 135 else if m = 2043 then 136 else 137
def pst (o : Nat) : Nat → Nat → Bool := fun a _ => a == o + 120
theorem sign_lt {v : Nat} (h : v < 12) (set r t : Int32) : f_M_signOf (nI v) set r t = srI set (nI v) &&& 1 := by
  unfold f_M_signOf
  rw [if_neg (by rw [show (12 : Int32) = nI 12 from rfl]; exact nI_ge h (by decide)), flag_has]
theorem joined_acted : ∀ w ∈ ([(124, 131), (38, 132), (60, 133), (62, 134), (61, 135), (43, 136), (45, 137)] : List (Int32 × Int32)), ∀ a b : Int32, f_E_joined w.2 a b = f_M_acted w.1 a b := by
  intro w hw a b
  simp only [List.mem_cons, List.not_mem_nil, or_false] at hw
  rcases hw with rfl | rfl | rfl | rfl | rfl | rfl | rfl
  · show (if a = 0 then if b = 0 then (0 : Int32) else 1 else 1) = (if a = 0 then if b = 0 then f_M_flag false else f_M_flag true else f_M_flag true)
    rfl
  · show (if a = 0 then (0 : Int32) else if b = 0 then 0 else 1) = (if a = 0 then f_M_flag false else if b = 0 then f_M_flag false else f_M_flag true)
    rfl
  · show (if b ≤ a then (0 : Int32) else 1) = (if b ≤ a then f_M_flag false else f_M_flag true)
    rfl
  · show (if a ≤ b then (0 : Int32) else 1) = (if a ≤ b then f_M_flag false else f_M_flag true)
    rfl
  · show (if a = b then (1 : Int32) else 0) = (if a = b then f_M_flag true else f_M_flag false)
    rfl
  · rfl
  · rfl
set_option maxHeartbeats 4000000 in
theorem x_worth {n o : Nat} {s : ZSt} {len : Nat} {c : Nat → Int32} (set r t : Int32) (hn : 60 < n) (ho : z_isO o 1 = true) (hl : gi s o 2 = nI len) (hc : ∀ k, k < len → gi s (o + 80) k = xph (c k)) (hw : wfC c len) :
    zT (f_E_worth n o set r t s) (fun q => q.1 = evl c len set r t ∧ zE (pst o) s q.2) := by
  unfold f_E_worth
  have hl60 := hw.1
  refine zT.gu ho ?_
  refine zT.cnt 60 (fun k x => k ≤ len ∧ x.1 = nI (dpt c k) ∧ x.2.1 = nI k ∧ zE (pst o) s x.2.2 ∧ ∀ i, i < dpt c k → gi x.2.2 (o + 120) i = (evs c set r t k).2 i) hn ⟨Nat.zero_le _, rfl, rfl, zE.refl _ _, fun i h => absurd h (Nat.not_lt_zero _)⟩ ?_
  rintro j k ⟨d, i, u⟩ hk ⟨hkl, rfl, rfl, hE, hst⟩ hj
  dsimp only at *
  have hd := dpt_le c k
  have hp0 : pst o (o + 120) 0 = true := by simp [pst]
  have hpp : ∀ i, pst o (o + 120) i = true := fun i => by simp [pst]
  have hpo : ∀ j, pst o o j = false := fun j => by simp [pst]
  have hpc : ∀ j, pst o (o + 80) j = false := fun j => by simp [pst]
  rw [hE.i (hpo 2), hl]
  refine zT.ite (fun h => ?_) (fun h => ?_)
  · have e : k = len := by
      rw [nI_leI (by omega) (by omega)] at h; omega
    subst e
    refine zT.ite (fun h0 => ?_) (fun h0 => ?_)
    · refine zT.ret ⟨?_, hE⟩
      have : dpt c k = 0 := by
        rcases Nat.eq_zero_or_pos (dpt c k) with e | e
        · exact e
        · exact absurd h0 (nI_nle e (by omega))
      show (0 : Int32) = evl _ _ _ _ _
      unfold evl
      rw [if_pos this]
    · refine zT.ret ⟨?_, hE⟩
      have h1 : ¬ dpt c k = 0 := fun e => h0 (by rw [e]; decide)
      show ai u (o + 120) (0 : Int32) = evl _ _ _ _ _
      unfold evl
      rw [if_neg h1, show (0 : Int32) = nI 0 from rfl, ai_n _ _ (by decide), hst 0 (by omega)]
  · have hlt : k < len := by
      rw [nI_leI (by omega) (by omega)] at h; omega
    rw [ai_n _ _ (by omega), hE.i (hpc k), hc k hlt]
    refine zT.gu (inb_n (by omega) (by decide)) ?_
    obtain ⟨hm, hw1, hw2⟩ := hw.2 k hlt
    refine zT.ln (fun v6 hv6 => ?_)
    refine zT.jnQ (fun x8 => x8.1 = nI (dpt c (k + 1)) ∧ zE (pst o) s x8.2 ∧ ∀ i, i < dpt c (k + 1) → gi x8.2 (o + 120) i = (evs c set r t (k + 1)).2 i) ?_ ?_
    · rintro ⟨a, b⟩ ⟨rfl, h2, h3⟩
      refine zT.ltS ?_
      rw [nI_1]
      exact hj (by omega) _ ⟨by omega, rfl, rfl, h2, h3⟩
    · intro j10 hj10
      rw [dpt_s, evs_s] at hj10
      unfold stp at hj10
      rw [evs_d] at hj10
      have hpush : ∀ v : Int32, (if c k < 2000 then dpt c k + 1 else if c k = 2033 then dpt c k else dpt c k - 1) = dpt c k + 1 →
          (if c k < 1000 then (dpt c k + 1, ups (evs c set r t k).2 (dpt c k) (c k)) else if c k < 2000 then (dpt c k + 1, ups (evs c set r t k).2 (dpt c k) (f_M_signOf (c k - 1000) set r t)) else if c k = 2033 then (dpt c k, ups (evs c set r t k).2 (dpt c k - 1) (f_M_flag (decide ((evs c set r t k).2 (dpt c k - 1) = 0)))) else (dpt c k - 1, ups (evs c set r t k).2 (dpt c k - 2) (f_M_acted (c k - 2000) ((evs c set r t k).2 (dpt c k - 2)) ((evs c set r t k).2 (dpt c k - 1))))).2 = ups (evs c set r t k).2 (dpt c k) v →
          zT (gd (inb (nI (dpt c k)) 60) (lt (sai u (o + 120) (nI (dpt c k)) v) (fun s30 => lt (nI (dpt c k) + 1) (fun v31 => j10 (v31, s30))))) (fun q => q.1 = evl c len set r t ∧ zE (pst o) s q.2) := by
        intro v e1 e2
        rw [e1, e2] at hj10
        rw [sai_n _ _ _ (by omega)]
        refine zT.gu (inb_n (by omega) (by decide)) ?_
        refine zT.ltS ?_
        refine zT.ltS ?_
        rw [nI_1]
        refine hj10 _ ⟨rfl, hE.wi (hpp _), fun i hi => ?_⟩
        rw [gi_i]
        unfold ups
        try dsimp only at hi
        try dsimp only
        by_cases e : i = dpt c k
        · rw [if_pos ⟨rfl, e⟩, if_pos e]
        · rw [if_neg (fun q => e q.2), if_neg e]
          exact hst i (by omega)
      have hjoin : ∀ w ∈ ([(124, 131), (38, 132), (60, 133), (62, 134), (61, 135), (43, 136), (45, 137)] : List (Int32 × Int32)), ¬ c k < 2000 → c k ≠ 2033 → c k - 2000 = w.1 →
          zT (if nI (dpt c k) ≤ (1 : Int32) then j10 (nI (dpt c k), u) else lt (nI (dpt c k) + (-1 : Int32)) (fun v13 => gd (inb (v13 - (1 : Int32)) 60) (gd (inb v13 60) (lt (sai u (o + 120) (v13 - (1 : Int32)) (f_E_joined w.2 (ai u (o + 120) (v13 - (1 : Int32))) (ai u (o + 120) v13))) (fun s16 => j10 (v13, s16)))))) (fun q => q.1 = evl c len set r t ∧ zE (pst o) s q.2) := by
        intro w hwm h1 h2 h3
        have hd2 := hw2 h1 h2
        have h1' : ¬ c k < 1000 := fun q => h1 (lt12 q)
        simp only [if_neg h1, if_neg h1', if_neg h2, h3] at hj10
        refine zT.ie (by rw [show (1 : Int32) = nI 1 from rfl]; exact nI_ge (by omega) (by omega)) ?_
        refine zT.ltS ?_
        have e1 : nI (dpt c k) + (-1) = nI (dpt c k - 1) := by
          rw [← pk_m1 (dpt c k - 1), Nat.sub_add_cancel (by omega)]
        rw [e1, show (1 : Int32) = nI 1 from rfl, pk_sub (by omega), ai_n _ _ (by omega), ai_n _ _ (by omega), sai_n _ _ _ (by omega), joined_acted w hwm]
        refine zT.gu (inb_n (by omega) (by decide)) ?_
        refine zT.gu (inb_n (by omega) (by decide)) ?_
        refine zT.ltS ?_
        refine hj10 _ ⟨rfl, hE.wi (hpp _), fun i hi => ?_⟩
        rw [gi_i]
        unfold ups
        try dsimp only at hi
        try dsimp only
        by_cases e : i = dpt c k - 1 - 1
        · rw [if_pos ⟨rfl, e⟩, if_pos (by omega), hst _ (by omega), hst _ (by omega)]
          rw [show dpt c k - 1 - 1 = dpt c k - 2 by omega]
        · rw [if_neg (fun q => e q.2), if_neg (by omega)]
          exact hst i (by omega)
      have h60 : ¬ (60 : Int32) ≤ nI (dpt c k) := by
        rw [show (60 : Int32) = nI 60 from rfl]; exact nI_ge (by omega) (by decide)
      rcases hm with ⟨v, hv, e⟩ | ⟨v, hv, e⟩ | e | e | e | e | e | e | e | e
      · have e6 : v6 = nI v := by
          rw [hv6, e]; unfold xph
          rw [if_pos (by rw [show (1000 : Int32) = nI 1000 from rfl]; exact nI_lt (by omega) (by decide))]
        have c1 : c k < 1000 := by rw [e, show (1000 : Int32) = nI 1000 from rfl]; exact nI_lt (by omega) (by decide)
        rw [e6]
        refine zT.jo ?_
        refine zT.ie (by rw [show (130 : Int32) = nI 130 from rfl]; exact nI_ge (by omega) (by decide)) ?_
        refine zT.ie h60 ?_
        refine zT.ltS ?_
        rw [if_neg (by rw [show (100 : Int32) = nI 100 from rfl]; exact nI_ge (by omega) (by decide))]
        refine hpush _ (by rw [if_pos (lt12 c1)]) (by rw [if_pos c1, e])
      · have e2 : c k < 2000 := by rw [e, show (2000 : Int32) = nI 2000 from rfl]; exact nI_lt (by omega) (by decide)
        have e1 : ¬ c k < 1000 := by rw [e, show (1000 : Int32) = nI 1000 from rfl]; exact nI_nlt (by omega) (by omega)
        have e3 : c k - 1000 = nI v := by rw [e, show (1000 : Int32) = nI 1000 from rfl, pk_sub (by omega)]; exact congrArg nI (by omega)
        by_cases hv12 : v < 12
        · have e6 : v6 = nI (100 + v) := by
            rw [hv6]; unfold xph
            rw [if_neg e1, if_pos (by rw [e, show (1012 : Int32) = nI 1012 from rfl]; exact nI_lt (by omega) (by decide)), e, show (900 : Int32) = nI 900 from rfl, pk_sub (by omega)]
            exact congrArg nI (by omega)
          rw [e6]
          refine zT.jo ?_
          refine zT.ie (by rw [show (130 : Int32) = nI 130 from rfl]; exact nI_ge (by omega) (by decide)) ?_
          refine zT.ie h60 ?_
          refine zT.ltS ?_
          rw [if_pos (by rw [show (100 : Int32) = nI 100 from rfl]; exact nI_le (by omega) (by omega)), if_neg (by rw [show (120 : Int32) = nI 120 from rfl]; exact nI_ge (by omega) (by decide)), show (100 : Int32) = nI 100 from rfl, pk_sub (by omega), show 100 + v - 100 = v by omega]
          refine hpush _ (by rw [if_pos e2]) (by rw [if_neg e1, if_pos e2, e3, sign_lt hv12])
        · have e6 : v6 = nI (108 + v) := by
            rw [hv6]; unfold xph
            rw [if_neg e1, if_neg (by rw [e, show (1012 : Int32) = nI 1012 from rfl]; exact nI_nlt (by omega) (by omega)), if_pos e2, e, show (892 : Int32) = nI 892 from rfl, pk_sub (by omega)]
            exact congrArg nI (by omega)
          have hv15 : v = 12 ∨ v = 13 ∨ v = 14 := by omega
          have hpp := hpush (f_M_signOf (nI v) set r t) (by rw [if_pos e2]) (by rw [if_neg e1, if_pos e2, e3])
          rw [e6]
          refine zT.jo ?_
          rcases hv15 with rfl | rfl | rfl
          · exact zT.ie (by decide) (zT.ie h60 hpp)
          · exact zT.ie (by decide) (zT.ie h60 hpp)
          · exact zT.ie (by decide) (zT.ie h60 hpp)
      · have e6 : v6 = 130 := by rw [hv6, e]; rfl
        have e2 : ¬ c k < 2000 := by rw [e]; decide
        have e1 : ¬ c k < 1000 := by rw [e]; decide
        have hd1 := hw1 e2
        simp only [if_neg e1, if_neg e2, if_pos e] at hj10
        rw [e6]
        refine zT.jo (zT.it (by decide) (zT.jo (zT.it rfl ?_)))
        refine zT.ie (nI_nle (by omega) (by omega)) ?_
        rw [show (1 : Int32) = nI 1 from rfl, pk_sub hd1, ai_n _ _ (by omega)]
        refine zT.gu (inb_n (by omega) (by decide)) ?_
        refine zT.ln (fun x21 hx => ?_)
        rw [sai_n _ _ _ (by omega)]
        refine zT.ltS ?_
        refine hj10 _ ⟨rfl, hE.wi (hpp _), fun i hi => ?_⟩
        rw [gi_i]
        unfold ups
        try dsimp only at hi
        try dsimp only
        by_cases ei : i = dpt c k - 1
        · rw [if_pos ⟨rfl, ei⟩, if_pos ei, hx, hst _ (by omega)]
          by_cases q : (evs c set r t k).2 (dpt c k - 1) = 0
          · simp [q]; rfl
          · simp [q]; rfl
        · rw [if_neg (fun q => ei q.2), if_neg ei]
          exact hst i hi
      · have e6 : v6 = 131 := by rw [hv6, e]; rfl
        rw [e6]
        exact zT.jo (zT.it (by decide) (zT.jo (zT.ie (by decide) (hjoin (124, 131) (by simp) (by rw [e]; decide) (by rw [e]; decide) (by rw [e]; decide)))))
      · have e6 : v6 = 132 := by rw [hv6, e]; rfl
        rw [e6]
        exact zT.jo (zT.it (by decide) (zT.jo (zT.ie (by decide) (hjoin (38, 132) (by simp) (by rw [e]; decide) (by rw [e]; decide) (by rw [e]; decide)))))
      · have e6 : v6 = 133 := by rw [hv6, e]; rfl
        rw [e6]
        exact zT.jo (zT.it (by decide) (zT.jo (zT.ie (by decide) (hjoin (60, 133) (by simp) (by rw [e]; decide) (by rw [e]; decide) (by rw [e]; decide)))))
      · have e6 : v6 = 134 := by rw [hv6, e]; rfl
        rw [e6]
        exact zT.jo (zT.it (by decide) (zT.jo (zT.ie (by decide) (hjoin (62, 134) (by simp) (by rw [e]; decide) (by rw [e]; decide) (by rw [e]; decide)))))
      · have e6 : v6 = 135 := by rw [hv6, e]; rfl
        rw [e6]
        exact zT.jo (zT.it (by decide) (zT.jo (zT.ie (by decide) (hjoin (61, 135) (by simp) (by rw [e]; decide) (by rw [e]; decide) (by rw [e]; decide)))))
      · have e6 : v6 = 136 := by rw [hv6, e]; rfl
        rw [e6]
        exact zT.jo (zT.it (by decide) (zT.jo (zT.ie (by decide) (hjoin (43, 136) (by simp) (by rw [e]; decide) (by rw [e]; decide) (by rw [e]; decide)))))
      · have e6 : v6 = 137 := by rw [hv6, e]; rfl
        rw [e6]
        exact zT.jo (zT.it (by decide) (zT.jo (zT.ie (by decide) (hjoin (45, 137) (by simp) (by rw [e]; decide) (by rw [e]; decide) (by rw [e]; decide)))))
end Z23
