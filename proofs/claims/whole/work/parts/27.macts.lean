-- ACTS in the reference
section Z27
def MK (s : ZSt) (nb nr : Nat) (dn : Nat → Nat) (D : ZD) (lim opn : Nat → Int32) (rm f : Nat → Nat) : Prop :=
  RMc s nb nr dn D ∧ (∀ b, b < nb → gi s 104 b = lim b) ∧ (∀ b, b < 12 → gi s 105 b = opn b) ∧ (∀ t, t < 3 → gi s 107 t = nI (rm t) ∧ rm t ≤ 6) ∧ (∀ t, t < 3 → gi s 108 t = nI (f t)) ∧ okF nb f
def noM (p : Nat → Nat → Bool) : Prop := noC p ∧ (∀ j, p 104 j = false) ∧ (∀ j, p 105 j = false) ∧ (∀ j, p 107 j = false) ∧ (∀ j, p 108 j = false)
theorem MK.fr {p : Nat → Nat → Bool} {s t : ZSt} {nb nr : Nat} {dn : Nat → Nat} {D : ZD} {lim opn : Nat → Int32} {rm f : Nat → Nat} (h : MK s nb nr dn D lim opn rm f) (hE : zE p s t) (hp : noM p) : MK t nb nr dn D lim opn rm f := by
  obtain ⟨a, b, c, d, e, g⟩ := h
  obtain ⟨p1, p2, p3, p4, p5⟩ := hp
  refine ⟨a.fr hE p1, fun k hk => by rw [hE.i (p2 k)]; exact b k hk, fun k hk => by rw [hE.i (p3 k)]; exact c k hk, fun k hk => ?_, fun k hk => by rw [hE.i (p5 k)]; exact e k hk, g⟩
  rw [hE.i (p4 k)]; exact d k hk
theorem noM116 : noM p116 := ⟨noC116, fun _ => rfl, fun _ => rfl, fun _ => rfl, fun _ => rfl⟩
theorem tI_lt {t : Nat} (h : t < 3) : tI t = nI t := by unfold tI; rw [if_pos h]
theorem tI_3 {t : Nat} (h : ¬ t < 3) : tI t = -1 := by unfold tI; rw [if_neg h]
theorem tI_neg (t : Nat) : tI t < 0 ↔ ¬ t < 3 := by
  unfold tI
  split
  · rename_i h
    exact ⟨fun q => absurd q (nI_pos (by omega)), fun q => absurd h q⟩
  · rename_i h
    exact ⟨fun _ => h, fun _ => by decide⟩
theorem tI_pos (t : Nat) : 0 ≤ tI t ↔ t < 3 := by
  unfold tI
  split
  · rename_i h
    exact ⟨fun _ => h, fun _ => nI_pos' (by omega)⟩
  · rename_i h
    exact ⟨fun q => absurd q (by decide), fun q => absurd q h⟩
theorem tI_m1 (t : Nat) : tI t = -1 ↔ ¬ t < 3 := by
  unfold tI
  split
  · rename_i h
    exact ⟨fun q => absurd q (nI_not_m1 (by omega)), fun q => absurd h q⟩
  · rename_i h
    exact ⟨fun _ => h, fun _ => rfl⟩
theorem tI_eq {t k : Nat} (hk : k < 3) : tI t = nI k ↔ t = k := by
  unfold tI
  split
  · rename_i h
    exact nI_eq (by omega) (by omega)
  · rename_i h
    exact ⟨fun q => absurd q.symm (nI_not_m1 (by omega)), fun q => by omega⟩
theorem tof_first {f : Nat → Nat} {b k : Nat} (hl : ∀ u, u < k → (f u).testBit b = false) (hk : k < 3) (h : (f k).testBit b = true) : tof f b = k := by
  unfold tof
  rcases (show k = 0 ∨ k = 1 ∨ k = 2 by omega) with rfl | rfl | rfl
  · rw [if_pos h]
  · rw [hl 0 (by decide), if_neg (by decide), if_pos h]
  · rw [hl 0 (by decide), if_neg (by decide), hl 1 (by decide), if_neg (by decide), if_pos h]
theorem tof_last {f : Nat → Nat} {b : Nat} (hl : ∀ u, u < 3 → (f u).testBit b = false) : tof f b = 3 := by
  unfold tof
  rw [hl 0 (by decide), hl 1 (by decide), hl 2 (by decide)]
  rfl
theorem m_tableOf {n b : Nat} {s : ZSt} {f : Nat → Nat} (hn : 3 < n) (hf : ∀ t, t < 3 → gi s 108 t = nI (f t)) (hS : okS f) (hb : b < 32) : f_M_tableOf n (nI b) s = some (tI (tof f b)) := by
  apply zT.eq
  unfold f_M_tableOf
  refine zT.cnt 3 (fun k x => x = nI k ∧ ∀ u, u < k → (f u).testBit b = false) hn ⟨rfl, fun u h => absurd h (Nat.not_lt_zero _)⟩ ?_
  rintro j k _ hk ⟨rfl, hl⟩ hj
  refine zT.ite (fun h => ?_) (fun h => ?_)
  · rw [show (3 : Int32) = nI 3 from rfl, nI_leI (by omega) (by omega)] at h
    have e : k = 3 := by omega
    subst e
    exact zT.ret (by rw [tof_last hl]; rfl)
  · rw [show (3 : Int32) = nI 3 from rfl, nI_leI (by omega) (by omega)] at h
    have hk3 : k < 3 := by omega
    have hlt : f k < 4096 := by
      obtain ⟨h0, h1, h2⟩ := hS
      rcases (show k = 0 ∨ k = 1 ∨ k = 2 by omega) with rfl | rfl | rfl <;> assumption
    refine zT.gu (inb_n hk3 (by decide)) ?_
    rw [ai_n _ _ (by omega), hf k hk3, has_n (by omega) hb]
    refine zT.ite (fun hc => ?_) (fun hc => ?_)
    · exact zT.ret (by rw [tof_first hl hk3 hc, tI_lt hk3])
    · refine zT.ltS ?_
      rw [nI_1]
      refine hj hk3 _ ⟨rfl, fun u hu => ?_⟩
      by_cases e : u = k
      · subst e; exact Bool.not_eq_true _ ▸ hc
      · exact hl u (by omega)
theorem rem20 {a : Nat} (h : a < 2 ^ 31) : remI (nI a) (20 : Int32) = nI (a % 20) := nI_rem h (by decide) (by decide)
theorem div20 {a : Nat} (h : a < 2 ^ 31) : nI a / (20 : Int32) = nI (a / 20) := nI_dv h (by decide) (by decide)
theorem okS_t {f : Nat → Nat} (h : okS f) {t : Nat} (ht : t < 3) : f t < 4096 := by
  obtain ⟨h0, h1, h2⟩ := h
  rcases (show t = 0 ∨ t = 1 ∨ t = 2 by omega) with rfl | rfl | rfl <;> assumption
section
variable {n nb nr : Nat} {dn : Nat → Nat} {D : ZD} {lim opn : Nat → Int32} {rm f : Nat → Nat} {s : ZSt}
theorem MK.S (h : MK s nb nr dn D lim opn rm f) : okS f := h.2.2.2.2.2.S h.1.2.1
theorem m_isBook (h3 : gi s 0 3 = nI nb) (hnb : nb ≤ 12) (x : Int32) : f_M_isBook x s = true ↔ ∃ b, b < nb ∧ x = nI b := by
  unfold f_M_isBook
  rw [h3]
  exact in_upto x (by omega)
theorem m_isReader (h9 : gi s 0 9 = nI nr) (hnr : nr ≤ 6) (x : Int32) : f_M_isReader x s = true ↔ ∃ r, r < nr ∧ x = nI r := by
  unfold f_M_isReader
  rw [h9]
  exact in_upto x (by omega)
theorem m_isAct (h3 : gi s 0 3 = nI nb) (hnb : nb ≤ 12) (x : Int32) : f_M_isAct x s = true ↔ ∃ a, a < 140 ∧ a % 20 < nb ∧ x = nI a := by
  have e1 : f_M_in x.toInt64 (0 : Int64) (139 : Int64) = true ↔ ∃ k, k < 140 ∧ x = nI k := in_lit x (n := 139) (by decide) (by decide)
  unfold f_M_isAct
  constructor
  · intro h
    by_cases c1 : f_M_in x.toInt64 (0 : Int64) (139 : Int64) = true
    · rw [if_pos c1] at h
      obtain ⟨a, ha, rfl⟩ := e1.mp c1
      by_cases c2 : f_M_isBook (remI (nI a) (20 : Int32)) s = true
      · obtain ⟨b, hb, e⟩ := (m_isBook h3 hnb _).mp c2
        rw [rem20 (by omega), nI_eq (by omega) (by omega)] at e
        exact ⟨a, ha, by omega, rfl⟩
      · rw [if_neg c2] at h; cases h
    · rw [if_neg c1] at h; cases h
  · rintro ⟨a, ha, hb, rfl⟩
    rw [if_pos (e1.mpr ⟨a, ha, rfl⟩), if_pos ((m_isBook h3 hnb _).mpr ⟨a % 20, hb, by rw [rem20 (by omega)]⟩)]
theorem m_noPlace {b t : Nat} (hn : 60 < n) (h : MK s nb nr dn D lim opn rm f) (hb : b < nb) (ht : t < 3) : zT (f_M_noPlace n (nI b) (nI t) s) (fun q => q.1 = npl D rm f b t ∧ zE p116 s q.2) := by
  have hft := okS_t h.S ht
  obtain ⟨hR, hl, ho, hr, hf, hF⟩ := h
  have hp := pcn_le (f t)
  unfold f_M_noPlace
  refine zT.gu (inb_n ht (by decide)) ?_
  rw [ai_n _ _ (by omega), ai_n _ _ (by omega), hf t ht, (hr t ht).1, bc_n _ hft]
  have hr6 := (hr t ht).2
  unfold npl
  refine zT.ite (fun hc => ?_) (fun hc => ?_)
  · rw [nI_ltI (by omega) (by omega)] at hc
    rw [if_pos hc]
    refine zT.bnT (m_may hn hR hb) ?_
    rintro ⟨_, u⟩ ⟨rfl, hE⟩
    dsimp only
    refine zT.ite (fun hv => ?_) (fun hv => ?_)
    · rw [if_pos hv]; exact zT.ret ⟨rfl, hE⟩
    · rw [if_neg hv]; exact zT.ret ⟨rfl, hE⟩
  · rw [nI_ltI (by omega) (by omega)] at hc
    rw [if_neg hc]
    exact zT.ret ⟨rfl, zE.refl _ _⟩
theorem m_whyNot {a : Nat} (hn : 60 < n) (h : MK s nb nr dn D lim opn rm f) (ha : a < 140) (hb : a % 20 < nb) : zT (f_M_whyNot n (nI a) s) (fun q => q.1 = wy D rm f (fun b => decide (opn b < lim b)) a ∧ zE p116 s q.2) := by
  have hS := h.S
  have hnb := h.1.2.1
  have h' := h
  obtain ⟨hR, hl, ho, hr, hf, hF⟩ := h
  unfold f_M_whyNot
  refine zT.ltS ?_
  rw [rem20 (by omega)]
  refine zT.bnE (m_tableOf (by omega) hf hS (by omega)) ?_
  rw [div20 (by omega)]
  unfold wy
  refine zT.ite (fun h60 => ?_) (fun h60 => ?_)
  · rw [show (60 : Int32) = nI 60 from rfl, nI_leI (by omega) (by omega)] at h60
    rw [if_neg (show ¬ a < 60 by omega)]
    refine zT.ite (fun h80 => ?_) (fun h80 => ?_)
    · rw [show (80 : Int32) = nI 80 from rfl, nI_leI (by omega) (by omega)] at h80
      rw [if_neg (show ¬ a < 80 by omega), show (4 : Int32) = nI 4 from rfl, pk_sub (by omega)]
      have hq := tof_le f (a % 20)
      refine zT.jo ?_
      refine zT.ite (fun hc => ?_) (fun hc => ?_)
      · rw [tI_neg] at hc
        rw [if_pos (Or.inl (by omega))]
        exact zT.ret ⟨rfl, zE.refl _ _⟩
      · rw [tI_neg] at hc
        refine zT.ite (fun hc2 => ?_) (fun hc2 => ?_)
        · rw [tI_eq (by omega)] at hc2
          rw [if_pos (Or.inr hc2)]
          exact zT.ret ⟨rfl, zE.refl _ _⟩
        · rw [tI_eq (by omega)] at hc2
          rw [if_neg (show ¬ (tof f (a % 20) = 3 ∨ tof f (a % 20) = a / 20 - 4) by omega)]
          refine zT.bnT (m_noPlace hn h' hb (by omega)) ?_
          rintro ⟨_, u⟩ ⟨rfl, hE⟩
          exact zT.ret ⟨rfl, hE⟩
    · rw [show (80 : Int32) = nI 80 from rfl, nI_leI (by omega) (by omega)] at h80
      rw [if_pos (show a < 80 by omega)]
      refine zT.ite (fun hc => ?_) (fun hc => ?_)
      · rw [tI_pos] at hc
        rw [if_pos hc]
        exact zT.ret ⟨rfl, zE.refl _ _⟩
      · rw [tI_pos] at hc
        rw [if_neg hc]
        exact zT.ret ⟨rfl, zE.refl _ _⟩
  · rw [show (60 : Int32) = nI 60 from rfl, nI_leI (by omega) (by omega)] at h60
    rw [if_pos (show a < 60 by omega)]
    refine zT.ite (fun hc => ?_) (fun hc => ?_)
    · rw [tI_neg] at hc
      rw [if_neg hc]
      refine zT.gu (inb_n (by omega) (by decide)) ?_
      rw [ai_n _ _ (by omega), ai_n _ _ (by omega), ho _ (by omega), hl _ hb]
      refine zT.ite (fun hc2 => ?_) (fun hc2 => ?_)
      · rw [if_pos (decide_eq_true hc2)]
        refine zT.bnT (m_noPlace hn h' hb (by omega)) ?_
        rintro ⟨_, u⟩ ⟨rfl, hE⟩
        exact zT.ret ⟨rfl, hE⟩
      · rw [if_neg (by simpa using hc2)]
        exact zT.ret ⟨rfl, zE.refl _ _⟩
    · rw [tI_neg] at hc
      rw [if_pos (by omega)]
      exact zT.ret ⟨rfl, zE.refl _ _⟩
def pact : Nat → Nat → Bool := fun o _ => o == 116 || o == 108
def pmak : Nat → Nat → Bool := fun o _ => o == 116 || o == 108 || o == 105
theorem le_act {s t : ZSt} (h : zE p116 s t) : zE pact s t := h.mono (fun a j e => by simp [p116, pact] at *; exact e.1)
theorem noC_act : noC pact := ⟨rfl, rfl, fun _ => rfl, fun _ => rfl, fun _ => rfl, fun _ => rfl⟩
theorem MK.put (h : MK s nb nr dn D lim opn rm f) {u : ZSt} (hE : zE pact s u) {g : Nat → Nat} (hg : ∀ t, t < 3 → gi u 108 t = nI (g t)) (hok : okF nb g) : MK u nb nr dn D lim opn rm g := by
  obtain ⟨a, b, c, d, e, q⟩ := h
  refine ⟨a.fr hE noC_act, fun k hk => by rw [hE.i (o := 104) rfl]; exact b k hk, fun k hk => by rw [hE.i (o := 105) rfl]; exact c k hk, fun k hk => ?_, hg, hok⟩
  rw [hE.i (o := 107) rfl]; exact d k hk
theorem m_shut {b : Nat} (hn : 60 < n) (h : MK s nb nr dn D lim opn rm f) (hb : b < nb) (hf3 : tof f b < 3) : zT (f_M_shut n (nI b) s) (fun q => q.1 = nI (ndf (ndf (f (tof f b)) (2 ^ b)) (shu D nb f b (tof f b))) ∧ zE pact s q.2 ∧ MK q.2 nb nr dn D lim opn rm (shu D nb f b)) := by
  have hS := h.S
  have hft := okS_t hS hf3
  have hnb := h.1.2.1
  have h' := h
  obtain ⟨hR, hl, ho, hr, hf, hF⟩ := h
  have hlt := hF.1 _ hf3
  unfold f_M_shut
  refine zT.bnE (m_tableOf (by omega) hf hS (by omega)) ?_
  rw [tI_lt hf3]
  refine zT.gu (inb_n hf3 (by decide)) ?_
  refine zT.ltS ?_
  rw [ai_n _ _ (by omega), hf _ hf3, shI_n (by omega), nI_andn]
  refine zT.bnT (m_settled hn hR (Nat.lt_of_le_of_lt (ndf_le _ _) hlt)) ?_
  rintro ⟨_, u⟩ ⟨rfl, hE⟩
  refine zT.ltS ?_
  rw [sai_n _ _ _ (by omega)]
  dsimp only
  have e5 : gi (si u 108 (tof f b) (nI (sto (fun x => mmk D (tof f b) x nb) (ndf (f (tof f b)) (2 ^ b))))) 108 (tof f b) = nI (shu D nb f b (tof f b)) := by
    rw [gi_i, if_pos ⟨rfl, rfl⟩]
    unfold shu stt
    rw [if_pos hf3, ups_s]
  rw [ai_n _ _ (by omega), e5, nI_andn]
  refine zT.ret ⟨rfl, (le_act hE).wi rfl, h'.put ((le_act hE).wi rfl) (fun t ht => ?_) (shu_ok hF)⟩
  by_cases e : t = tof f b
  · subst e; exact e5
  · dsimp only
    rw [gi_i, if_neg (fun q => e q.2), hE.i (o := 108) rfl, hf t ht]
    unfold shu
    rw [if_pos hf3, ups_n _ _ e]
theorem m_opens {b t : Nat} (hn : 60 < n) (h : MK s nb nr dn D lim opn rm f) (hb : b < nb) (ht : t < 3) (hf3 : ¬ tof f b < 3) : zT (f_M_opens n (nI b) (nI t) s) (fun q => q.1 = nI (ndf (f t ||| 2 ^ b) (opw D nb f b t t)) ∧ zE pact s q.2 ∧ MK q.2 nb nr dn D lim opn rm (opw D nb f b t)) := by
  have hS := h.S
  have hft := okS_t hS ht
  have hnb := h.1.2.1
  have h' := h
  obtain ⟨hR, hl, ho, hr, hf, hF⟩ := h
  have hlt := hF.1 _ ht
  unfold f_M_opens
  refine zT.gu (inb_n ht (by decide)) ?_
  refine zT.ltS ?_
  rw [ai_n _ _ (by omega), hf _ ht, shI_n (by omega), nI_or]
  refine zT.bnT (m_settled hn hR (or_lt hlt (p2_lt hb))) ?_
  rintro ⟨_, u⟩ ⟨rfl, hE⟩
  refine zT.ltS ?_
  rw [sai_n _ _ _ (by omega)]
  dsimp only
  have e5 : gi (si u 108 t (nI (sto (fun x => mmk D t x nb) (f t ||| 2 ^ b)))) 108 t = nI (opw D nb f b t t) := by
    rw [gi_i, if_pos ⟨rfl, rfl⟩]
    unfold opw stt
    rw [ups_s]
  rw [ai_n _ _ (by omega), e5, nI_andn]
  refine zT.ret ⟨rfl, (le_act hE).wi rfl, h'.put ((le_act hE).wi rfl) (fun t' ht' => ?_) (opw_ok hF hb ht hf3)⟩
  by_cases e : t' = t
  · subst e; exact e5
  · dsimp only
    rw [gi_i, if_neg (fun q => e q.2), hE.i (o := 108) rfl, hf t' ht']
    unfold opw
    rw [ups_n _ _ e]
theorem wy_0 {lo : Nat → Bool} {a : Nat} (ha : a < 140) (h : wy D rm f lo a = 0) :
    (a < 60 → ¬ tof f (a % 20) < 3 ∧ lo (a % 20) = true ∧ npl D rm f (a % 20) (a / 20) = 0) ∧ (60 ≤ a → a < 80 → tof f (a % 20) < 3) ∧ (80 ≤ a → tof f (a % 20) < 3 ∧ tof f (a % 20) ≠ a / 20 - 4 ∧ npl D rm f (a % 20) (a / 20 - 4) = 0) := by
  have hq := tof_le f (a % 20)
  unfold wy at h
  refine ⟨fun h1 => ?_, fun h1 h2 => ?_, fun h1 => ?_⟩
  · rw [if_pos h1] at h
    split at h
    · cases h
    · split at h
      · exact ⟨by assumption, by assumption, h⟩
      · cases h
  · rw [if_neg (by omega), if_pos h2] at h
    split at h
    · assumption
    · cases h
  · rw [if_neg (by omega), if_neg (by omega)] at h
    split at h
    · cases h
    · rename_i hc
      exact ⟨by omega, by omega, h⟩
theorem MK.opn1 (h : MK s nb nr dn D lim opn rm f) {b : Nat} (v : Int32) : MK (si s 105 b v) nb nr dn D lim (ups opn b v) rm f := by
  obtain ⟨a, l, c, d, e, q⟩ := h
  have hE : zE (fun o _ => o == 105) s (si s 105 b v) := (zE.refl _ _).wi rfl
  refine ⟨a.fr hE ⟨rfl, rfl, fun _ => rfl, fun _ => rfl, fun _ => rfl, fun _ => rfl⟩, fun k hk => by rw [hE.i (o := 104) rfl]; exact l k hk, fun k hk => ?_, fun k hk => ?_, fun k hk => by rw [hE.i (o := 108) rfl]; exact e k hk, q⟩
  · rw [gi_i]
    unfold ups
    by_cases ek : k = b
    · rw [if_pos ⟨rfl, ek⟩, if_pos ek]
    · rw [if_neg (fun q => ek q.2), if_neg ek]; exact c k hk
  · rw [hE.i (o := 107) rfl]; exact d k hk
/-- what has been opened behind an act -/
def opa (opn : Nat → Int32) (a : Nat) : Nat → Int32 := if a < 60 then ups opn (a % 20) (opn (a % 20) + 1) else opn
theorem m_makes {a : Nat} (hn : 60 < n) (h : MK s nb nr dn D lim opn rm f) (ha : a < 140) (hb : a % 20 < nb) (hw : wy D rm f (fun b => decide (opn b < lim b)) a = 0) : zT (f_M_makes n (nI a) s) (fun q => q.1 = nI (gon f (aft D nb f a) a) ∧ zE pmak s q.2 ∧ MK q.2 nb nr dn D lim (opa opn a) rm (aft D nb f a)) := by
  have hnb := h.1.2.1
  have le_m : ∀ {u v : ZSt}, zE pact u v → zE pmak u v := fun h => h.mono (fun a j e => by simp [pmak, pact] at *; exact e.1)
  obtain ⟨w1, w2, w3⟩ := wy_0 ha hw
  unfold f_M_makes
  refine zT.ltS ?_
  rw [rem20 (by omega), div20 (by omega)]
  unfold aft gon opa
  refine zT.ite (fun h60 => ?_) (fun h60 => ?_)
  · rw [show (60 : Int32) = nI 60 from rfl, nI_leI (by omega) (by omega)] at h60
    rw [if_neg (show ¬ a < 60 by omega)]
    have hf3 : tof f (a % 20) < 3 := by
      rcases Nat.lt_or_ge a 80 with e | e
      · exact w2 h60 e
      · exact (w3 e).1
    refine zT.bnT (m_shut hn h hb hf3) ?_
    rintro ⟨_, u⟩ ⟨rfl, hE, hK⟩
    dsimp only
    refine zT.ite (fun h80 => ?_) (fun h80 => ?_)
    · rw [show (80 : Int32) = nI 80 from rfl, nI_leI (by omega) (by omega)] at h80
      obtain ⟨w4, w5, w6⟩ := w3 h80
      simp only [if_neg (show ¬ (60 ≤ a ∧ a < 80) by omega)]
      have et : tgt a = a / 20 - 4 := by unfold tgt; rw [if_neg (by omega)]
      rw [et, show (4 : Int32) = nI 4 from rfl, pk_sub (by omega)]
      refine zT.bnT (m_opens hn hK hb (t := a / 20 - 4) (by omega) (shu_none h.2.2.2.2.2)) ?_
      rintro ⟨_, v⟩ ⟨rfl, hE2, hK2⟩
      refine zT.ret ⟨?_, le_m (hE.trans hE2), hK2⟩
      show nI _ ||| nI _ = nI _
      rw [nI_or, gon_hand h.2.2.2.2.2.2 (by omega) hf3 w5]
    · rw [show (80 : Int32) = nI 80 from rfl, nI_leI (by omega) (by omega)] at h80
      simp only [if_pos (show 60 ≤ a ∧ a < 80 by omega)]
      refine zT.ret ⟨?_, le_m hE, hK⟩
      show nI _ = nI _
      rw [gon_shut h.2.2.2.2.2.2 hf3]
  · rw [show (60 : Int32) = nI 60 from rfl, nI_leI (by omega) (by omega)] at h60
    rw [if_pos (show a < 60 by omega)]
    obtain ⟨w4, w5, w6⟩ := w1 (by omega)
    simp only [if_neg (show ¬ (60 ≤ a ∧ a < 80) by omega)]
    have et : tgt a = a / 20 := by unfold tgt; rw [if_pos (by omega)]
    have es : shu D nb f (a % 20) = f := by unfold shu; rw [if_neg w4]
    rw [et, es]
    refine zT.gu (inb_n (by omega) (by decide)) ?_
    refine zT.ltS ?_
    rw [ai_n _ _ (by omega), sai_n _ _ _ (by omega), h.2.2.1 _ (by omega)]
    refine zT.bnT (m_opens hn (h.opn1 _) hb (t := a / 20) (by omega) w4) ?_
    rintro ⟨_, v⟩ ⟨rfl, hE2, hK2⟩
    refine zT.ret ⟨?_, ?_, hK2⟩
    · show nI _ = nI _
      rw [gon_open h.2.2.2.2.2.2 (by omega) w4]
    · exact zE.trans ((zE.refl _ _).wi rfl) (le_m hE2)
end
end Z27
