-- count, log, an entry of the log
section Z39
def sCount (x : Int32) (a : ZA) : Int32 := if x = 0 then nI a.2.1.1 else if x = 1 then nI a.2.2.1.1 else if x = 2 then a.2.2.2.1.2.2.2.2.1 else if x = 3 then nI (anyw a.2.2.2.1.1) else if x = 4 then nI a.2.2.2.1.2.2.2.2.2.length else if x = 5 then nI a.1.2.2.length else if x = 6 then nI a.1.1.length else -1
theorem m_count {s : ZSt} {a : ZA} (x : Int32) (h : MA s a) : zT (f_M_count x s) (mP (sCount x a) a s) := by
  unfold f_M_count sCount
  refine zT.ln (fun s1 hs1 => ?_)
  obtain ⟨hz, hE0, _⟩ := mz h hs1
  clear hs1
  have ok : ∀ v w, v = w → zT (some ((v : Int32), s1)) (mP w a s) := fun v w e => by subst e; exact zT.ret ⟨rfl, hE0, hz⟩
  have hC := hz.2.1
  obtain ⟨h2, h3, h4, h5, h6, h7⟩ := hz.2.2
  by_cases c : x = 0
  · rw [if_pos c, if_pos c]; exact ok _ _ hC.1.1
  rw [if_neg c, if_neg c]
  by_cases c : x = 1
  · rw [if_pos c, if_pos c]; exact ok _ _ hC.1.2.2.1
  rw [if_neg c, if_neg c]
  by_cases c : x = 2
  · rw [if_pos c, if_pos c]; exact ok _ _ h6.1
  rw [if_neg c, if_neg c]
  by_cases c : x = 3
  · rw [if_pos c, if_pos c]
    refine ok _ _ ?_
    rw [show (0 : Int32) = nI 0 from rfl, show (1 : Int32) = nI 1 from rfl, show (2 : Int32) = nI 2 from rfl, ai_n _ _ (by omega), ai_n _ _ (by omega), ai_n _ _ (by omega), hC.2.2.2.2.1 0 (by omega), hC.2.2.2.2.1 1 (by omega), hC.2.2.2.2.1 2 (by omega), nI_or, nI_or]; rfl
  rw [if_neg c, if_neg c]
  by_cases c : x = 4
  · rw [if_pos c, if_pos c]; exact ok _ _ h6.2.1
  rw [if_neg c, if_neg c]
  by_cases c : x = 5
  · rw [if_pos c, if_pos c]; exact ok _ _ h4.1
  rw [if_neg c, if_neg c]
  by_cases c : x = 6
  · rw [if_pos c, if_pos c]; exact ok _ _ h2.1
  rw [if_neg c, if_neg c]
  exact ok _ _ rfl
theorem imin_n {a b : Nat} (ha : a < 2 ^ 31) (hb : b < 2 ^ 31) : imin (nI a) (nI b) = nI (min a b) := by
  unfold imin
  by_cases c : b < a
  · rw [if_pos (nI_lt c ha), Nat.min_eq_right (by omega)]
  · rw [if_neg (nI_nlt (by omega) hb), Nat.min_eq_left (by omega)]
theorem x_logKept {T : Nat} {s : ZSt} {a : ZA} (hT : T < 2 ^ 29) (h : XO s T a) : f_X_logKept s = nI a.2.2.2.1.2.2.2.2.2.length := by
  obtain ⟨_, tot, h1, h2, h3⟩ := h.2.2.2.2.2.1
  unfold f_X_logKept
  rw [h2, show (60 : Int32) = nI 60 from rfl, imin_n (by omega) (by omega), h3.1]
theorem x_count {T : Nat} {s : ZSt} {a : ZA} (x : Int32) (hT : T < 2 ^ 29) (h : XX s T a) : f_X_count x s = sCount x a := by
  obtain ⟨hA, ⟨st, hst, hB⟩, hO⟩ := h
  unfold f_X_count sCount
  rw [hB.1.1.1, hO.2.2.2.2.1.1, hO.2.2.2.2.2.1.1, hB.2.2.2.1, gd_any hB.2.2.2.2 hA.2.2.2.1, x_logKept hT hO, hO.2.2.1.1, hO.1.1]
def sLog (x : Int32) (a : ZA) : Int32 := if 0 ≤ x then (if nI a.2.2.2.1.2.2.2.2.2.length ≤ x then -2 else lF a.2.2.2.1.2.2.2.2.2 (a.2.2.2.1.2.2.2.2.2.length - 1 - x.toNatClampNeg)) else -1
theorem m_log {s : ZSt} {a : ZA} (x : Int32) (h : MA s a) : zT (f_M_log x s) (mP (sLog x a) a s) := by
  have hl : a.2.2.2.1.2.2.2.2.2.length ≤ 60 := h.1.2.2.2.2.2.2.2.1.2.2.2
  generalize hr : sLog x a = r
  unfold sLog at hr
  unfold f_M_log
  refine zT.ln (fun s1 hs1 => ?_)
  obtain ⟨hz, hE0, _⟩ := mz h hs1
  clear hs1
  have h6 := hz.2.2.2.2.2.2.1
  rw [h6.2.1]
  refine zT.ite (fun c => ?_) (fun c => ?_)
  · rw [if_pos c] at hr
    refine zT.ite (fun c2 => ?_) (fun c2 => ?_)
    · rw [if_pos c2] at hr; subst hr
      exact zT.ret ⟨rfl, hE0, hz⟩
    · rw [if_neg c2] at hr; subst hr
      rcases nI_cases x a.2.2.2.1.2.2.2.2.2.length (by omega) with ⟨k, hk, rfl⟩ | q | q
      · rw [nI_clamp (by omega), show (1 : Int32) = nI 1 from rfl, pk_sub (by omega), pk_sub (by omega)]
        refine zT.gu (inb_n (by omega) (by decide)) (zT.ret ⟨?_, hE0, hz⟩)
        have := h6.2.2 (a.2.2.2.1.2.2.2.2.2.length - 1 - k) (by omega)
        rw [Nat.zero_add] at this
        show ai s1 128 _ = _
        rw [ai_n _ _ (by omega), this]
      · exact absurd q (Int32.not_lt.mpr c)
      · exact absurd q c2
  · rw [if_neg c] at hr; subst hr
    exact zT.ret ⟨rfl, hE0, hz⟩
theorem rem60 {a : Nat} (h : a < 2 ^ 31) : remI (nI a) (60 : Int32) = nI (a % 60) := nI_rem h (by decide) (by decide)
theorem x_log {T : Nat} {s : ZSt} {a : ZA} (x : Int32) (hT : T < 2 ^ 29) (h : XX s T a) : f_X_log x s = some (sLog x a) := by
  obtain ⟨hA, ⟨st, hst, hB⟩, hO⟩ := h
  have hl : a.2.2.2.1.2.2.2.2.2.length ≤ 60 := hA.2.2.2.2.2.2.2.1.2.2.2
  generalize hr : sLog x a = r
  unfold sLog at hr
  apply zT.eq
  unfold f_X_log
  rw [x_logKept hT hO]
  obtain ⟨_, tot, h1, h2, h3⟩ := hO.2.2.2.2.2.1
  rw [h2]
  refine zT.ite (fun c => ?_) (fun c => ?_)
  · rw [if_pos c] at hr
    refine zT.ite (fun c2 => ?_) (fun c2 => ?_)
    · rw [if_pos c2] at hr; exact zT.ret hr
    · rw [if_neg c2] at hr; subst hr
      rcases nI_cases x a.2.2.2.1.2.2.2.2.2.length (by omega) with ⟨k, hk, rfl⟩ | q | q
      · have h31 := h3.1
        rw [nI_clamp (by omega), show (1 : Int32) = nI 1 from rfl, pk_sub (by omega), pk_sub (by omega), rem60 (by omega)]
        refine zT.gu (inb_n (by omega) (by decide)) (zT.ret ?_)
        have := h3.2 (a.2.2.2.1.2.2.2.2.2.length - 1 - k) (by omega)
        rw [ai_n _ _ (by omega), ← this]
        congr 2
        omega
      · exact absurd q (Int32.not_lt.mpr c)
      · exact absurd q c2
  · rw [if_neg c] at hr; exact zT.ret hr
-- an entry
def lgp (l : List Int32) (v : Int32) : List Int32 := if l.length = 60 then l.drop 1 ++ [v] else l ++ [v]
def aLog (a : ZA) (v : Int32) : ZA := putS a (a.2.2.2.1.1, a.2.2.2.1.2.1, a.2.2.2.1.2.2.1, a.2.2.2.1.2.2.2.1, a.2.2.2.1.2.2.2.2.1, lgp a.2.2.2.1.2.2.2.2.2 v)
theorem lgp_len {l : List Int32} {v : Int32} (h : l.length ≤ 60) : (lgp l v).length = min (l.length + 1) 60 := by
  unfold lgp
  split
  · rw [List.length_append, List.length_drop]; simp; omega
  · rw [List.length_append]; simp; omega
theorem lF_drop (l : List Int32) (k : Nat) : lF (l.drop 1) k = lF l (k + 1) := by
  unfold lF
  rw [List.getD_eq_getElem?_getD, List.getD_eq_getElem?_getD, List.getElem?_drop, Nat.add_comm]
theorem okA_log {a : ZA} (h : okA a) (v : Int32) : okA (aLog a v) := by
  obtain ⟨h1, h2, h3, h4, h5, h6, h7, ⟨h8, h9, h10, h11⟩, h12⟩ := h
  refine ⟨h1, h2, h3, h4, h5, h6, h7, ⟨h8, h9, h10, ?_⟩, h12⟩
  show (lgp a.2.2.2.1.2.2.2.2.2 v).length ≤ 60
  rw [lgp_len h11]; omega
def pml2 : Nat → Nat → Bool := fun o j => o == 128 || (o == 0 && j == 27)
theorem MA.log {s t : ZSt} {a : ZA} (h : MA s a) (hE : zE pml2 s t) (v : Int32) (h1 : MLo t a.2.2.2.1.2.2.2.2.1 (lgp a.2.2.2.1.2.2.2.2.2 v)) : MA t (aLog a v) := by
  obtain ⟨hA, hC, h2, h3, h4, h5, h6, h7⟩ := h
  exact ⟨okA_log hA v, MC.onC hC (fun o j e => hE.i (by simp [qC, pml2] at *; omega)), h2.fr hE ⟨rfl, fun _ => rfl⟩, MRl.fr h3 hA.2.1 hE ⟨rfl, fun _ _ => rfl⟩, h4.fr hE ⟨rfl, fun _ => rfl⟩, h5.fr hE (fun _ => ⟨rfl, rfl, rfl⟩), h1, MKs.fr h7 hE (fun _ => ⟨rfl, rfl⟩)⟩
theorem m_notes {n : Nat} {s : ZSt} {a : ZA} (v : Int32) (hn : 60 < n) (h : MA s a) : zT (f_M_notes n v s) (fun t => zE pml2 s t ∧ MA t (aLog a v)) := by
  have hl : a.2.2.2.1.2.2.2.2.2.length ≤ 60 := h.1.2.2.2.2.2.2.2.1.2.2.2
  obtain ⟨h1, h2, h3⟩ := h.2.2.2.2.2.2.1
  unfold f_M_notes
  refine zT.jnQ (fun x1 => zE pml2 s x1 ∧ ∃ l', l'.length < 60 ∧ lgp a.2.2.2.1.2.2.2.2.2 v = l' ++ [v] ∧ gi x1 0 27 = nI l'.length ∧ lst x1 128 0 l') ?_ ?_
  · rintro x1 ⟨hE, l', q1, q2, q3, q4⟩
    rw [q3]
    refine zT.gu (inb_n q1 (by decide)) ?_
    rw [sai_n _ _ _ (by omega)]
    refine zT.ltS ?_
    rw [gi_i, if_neg (by omega), q3, nI_1]
    have hE2 : zE pml2 s (si (si x1 128 l'.length v) 0 27 (nI (l'.length + 1))) := (hE.wi rfl).wi rfl
    refine zT.ltS (zT.ret ⟨hE2, h.log hE2 v ⟨(hE2.i rfl).trans h1, ?_, ?_⟩⟩)
    · rw [gi_i, if_pos ⟨rfl, rfl⟩, q2, List.length_append]; rfl
    · rw [q2]
      refine lst_app q4 (fun j hj => ?_) ?_
      · rw [gi_i, if_neg (by omega), gi_i, if_neg (fun w => hj w.2)]
      · rw [gi_i, if_neg (by omega), gi_i, if_pos ⟨rfl, rfl⟩]
  · intro j5 hj5
    rw [h2]
    refine zT.ite (fun c => ?_) (fun c => ?_)
    · have e60 : a.2.2.2.1.2.2.2.2.2.length = 60 := (nI_eq (by omega) (by decide)).mp c
      refine zT.cnt 59 (fun k x => x.1 = nI (k + 1) ∧ zE (fun o _ => o == 128) s x.2 ∧ ∀ j, j < 60 → gi x.2 128 j = if j < k then gi s 128 (j + 1) else gi s 128 j) (by omega) ⟨rfl, zE.refl _ _, fun j hj => by rw [if_neg (by omega)]⟩ ?_
      rintro j k ⟨_, u⟩ hk ⟨rfl, hE, hb⟩ hj
      dsimp only at *
      refine zT.ite (fun c2 => ?_) (fun c2 => ?_)
      · rw [show (60 : Int32) = nI 60 from rfl, nI_leI (by omega) (by omega)] at c2
        have e : k = 59 := by omega
        subst e
        refine zT.ltS ?_
        rw [hE.i (o := 0) rfl, h2, show (1 : Int32) = nI 1 from rfl, pk_sub (by omega)]
        refine hj5 _ ⟨(hE.mono (fun o j e => by simp [pml2] at *; omega)).wi rfl, a.2.2.2.1.2.2.2.2.2.drop 1, by rw [List.length_drop]; omega, ?_, ?_, ?_⟩
        · unfold lgp; rw [if_pos e60]
        · rw [gi_i, if_pos ⟨rfl, rfl⟩, List.length_drop]
        · intro j hj
          rw [List.length_drop] at hj
          rw [gi_i, if_neg (by omega), Nat.zero_add, hb j (by omega), if_pos (by omega), lF_drop]
          have := h3 (j + 1) (by omega)
          rwa [Nat.zero_add] at this
      · rw [show (60 : Int32) = nI 60 from rfl, nI_leI (by omega) (by omega)] at c2
        rw [show nI (k + 1) - (1 : Int32) = nI k from nI_pred k]
        refine zT.gu (inb_n (by omega) (by decide)) (zT.gu (inb_n (by omega) (by decide)) ?_)
        rw [ai_n _ _ (by omega), sai_n _ _ _ (by omega)]
        refine zT.ltS (zT.ltS ?_)
        rw [nI_1]
        refine hj (by omega) _ ⟨rfl, hE.wi rfl, fun j hj => ?_⟩
        dsimp only
        rw [gi_i]
        by_cases e : j = k
        · rw [if_pos ⟨rfl, e⟩, if_pos (by omega), hb (k + 1) (by omega), if_neg (by omega), e]
        · rw [if_neg (fun w => e w.2), hb j hj]
          by_cases q : j < k
          · rw [if_pos q, if_pos (by omega)]
          · rw [if_neg q, if_neg (by omega)]
    · have e60 : ¬ a.2.2.2.1.2.2.2.2.2.length = 60 := fun e => c (by rw [e]; rfl)
      refine hj5 _ ⟨zE.refl _ _, a.2.2.2.1.2.2.2.2.2, by omega, ?_, h2, h3⟩
      unfold lgp; rw [if_neg e60]
theorem XLg.put {s t : ZSt} {tot : Nat} {l : List Int32} {v : Int32} (h : XLg s 210 tot l) (h1 : ∀ j, j < 60 → gi t 210 j = if j = tot % 60 then v else gi s 210 j) : XLg t 210 (tot + 1) (lgp l v) := by
  obtain ⟨h2, h3⟩ := h
  refine ⟨by rw [lgp_len (by omega), h2]; omega, fun k hk => ?_⟩
  rw [lgp_len (by omega)] at hk ⊢
  rw [h1 _ (by omega)]
  unfold lgp
  by_cases c : l.length = 60
  · rw [if_pos c]
    by_cases e : k = 59
    · rw [if_pos (by omega), lF_ge (by rw [List.length_drop]; omega), List.length_drop]
      rw [show k - (l.length - 1) = 0 by omega]; rfl
    · rw [if_neg (by omega), lF_lt (by rw [List.length_drop]; omega), lF_drop, ← h3 (k + 1) (by omega)]
      congr 2; omega
  · rw [if_neg c]
    by_cases e : k = l.length
    · rw [if_pos (by omega), e, lF_app]
    · rw [if_neg (by omega), lF_lt (by omega), ← h3 k (by omega)]
      congr 2; omega
def pxn : Nat → Nat → Bool := fun o j => o == 210 || (o == 1 && j == 11)
theorem x_note {T : Nat} {s : ZSt} {a : ZA} {v : Int32} (w u b : Int32) (hv : v = (100 * w + 20 * u) + b) (hT : T < 2 ^ 29) (h : XX s T a) : zT (f_X_note w u b s) (fun t => zE pxn s t ∧ XX t (T + 1) (aLog a v)) := by
  obtain ⟨hA, ⟨st, hst, hB⟩, hO⟩ := h
  obtain ⟨k1, k2, k3, k4, k5, ⟨k6, tot, k7, k8, k9⟩, k10⟩ := hO.mono (T' := T + 1) (by omega)
  obtain ⟨_, tot', t1, t2, t3⟩ := hO.2.2.2.2.2.1
  have et : tot' = tot := by
    rw [t2, nI_eq (by omega) (by omega)] at k8; exact k8
  unfold f_X_note
  rw [k8, rem60 (by omega)]
  refine zT.gu (inb_n (by omega) (by decide)) ?_
  rw [sai_n _ _ _ (by omega), ← hv]
  refine zT.ltS ?_
  rw [gi_i, if_neg (by omega), k8, nI_1]
  have hE : zE pxn s (si (si s 210 (tot % 60) v) 1 11 (nI (tot + 1))) := ((zE.refl _ _).wi rfl).wi rfl
  refine zT.ltS (zT.ret ⟨hE, okA_log hA v, ⟨st, by omega, ?_⟩, k1.fr hE ⟨rfl, fun _ => rfl⟩, k2.fr hE ⟨rfl, fun _ => rfl⟩, k3.fr hE ⟨rfl, fun _ => rfl⟩, k4.fr hE (fun b hb => ⟨?_, ?_⟩), k5.fr hA.2.2.2.2.2.1 hE ⟨rfl, fun r j hr => ?_⟩, ⟨(hE.i rfl).trans k6, tot + 1, by omega, rfl, k9.put (fun j hj => ?_)⟩, XKs.fr k10 hE (fun o j h1 h2 => ?_)⟩)
  · exact XA.fr2 hB hE ⟨⟨rfl, fun b hb => ⟨by simp [pxn]; omega, by simp [pxn]; omega, by simp [pxn]; omega, by simp [pxn]; omega, fun k => by simp [pxn]; omega, fun k => by simp [pxn]; omega⟩, fun t => rfl⟩, rfl, fun b hb => ⟨by simp [pxn]; omega, by simp [pxn]; omega⟩, rfl, fun j => ⟨rfl, rfl⟩⟩
  · simp [pxn]; omega
  · simp [pxn]; omega
  · simp [pxn]; omega
  · rw [gi_i, if_neg (by omega), gi_i]
    by_cases e : j = tot % 60
    · rw [if_pos ⟨rfl, e⟩, if_pos e]
    · rw [if_neg (fun q => e q.2), if_neg e]
  · simp [pxn]; omega
end Z39
