-- readers: reader, sit, read, of
section Z36
theorem cntr_eq {dn dn' : Nat → Nat} {b nr : Nat} (h : ∀ r, r < nr → (dn' r).testBit b = (dn r).testBit b) : cntr dn' b nr = cntr dn b nr := by
  induction nr with
  | zero => rfl
  | succ k ih =>
    show cntr dn' b k + _ = cntr dn b k + _
    rw [ih (fun r hr => h r (by omega)), h k (by omega)]
theorem cntr_one {dn : Nat → Nat} {b nr r v : Nat} (hr : r < nr) (h0 : (dn r).testBit b = false) (h1 : v.testBit b = true) : cntr (ups dn r v) b nr = cntr dn b nr + 1 := by
  induction nr with
  | zero => omega
  | succ k ih =>
    show cntr (ups dn r v) b k + _ = cntr dn b k + _ + 1
    by_cases e : r = k
    · subst e
      rw [ups_s, h0, h1, cntr_eq (dn := dn) (fun q hq => by rw [ups_n _ _ (by omega)])]
      rfl
    · rw [ih (by omega), ups_n _ _ (Ne.symm e)]; omega
/-- dynamics put: what changes of the state -/
def putS (a : ZA) (S : ZS) : ZA := (a.1, a.2.1, a.2.2.1, S, a.2.2.2.2)
/-- a reader has read a book -/
def afd (a : ZA) (r b : Nat) : ZS := (a.2.2.2.1.1, a.2.2.2.1.2.1, ups a.2.2.2.1.2.2.1 r (a.2.2.2.1.2.2.1 r ||| 2 ^ b), a.2.2.2.1.2.2.2)
def afin (a : ZA) (r b : Nat) : ZA := putA (putS a (afd a r b)) (ups a.2.2.2.1.1 (a.2.2.2.1.2.2.2.1 r) (stt (aD (putS a (afd a r b))) a.2.1.1 (a.2.2.2.1.2.2.2.1 r) (a.2.2.2.1.1 (a.2.2.2.1.2.2.2.1 r)))) a.2.2.2.1.2.1
theorem okA_afd {a : ZA} (h : okA a) {r b : Nat} (hb : b < a.2.1.1) : okA (putS a (afd a r b)) := by
  obtain ⟨h1, h2, h3, h4, h5, h6, h7, ⟨h8, h9, h10, h11⟩, h12⟩ := h
  refine ⟨h1, h2, h3, h4, h5, h6, h7, ⟨h8, h9, fun k hk => ⟨?_, (h10 k hk).2⟩, h11⟩, h12⟩
  show ups a.2.2.2.1.2.2.1 r (a.2.2.2.1.2.2.1 r ||| 2 ^ b) k < 2 ^ a.2.1.1
  rw [ups_i]
  by_cases e : k = r
  · rw [if_pos e, ← e]; exact or_lt (h10 k hk).1 (p2_lt hb)
  · rw [if_neg e]; exact (h10 k hk).1
theorem up_ok {D : ZD} {nb t : Nat} {f : Nat → Nat} (h : okF nb f) : okF nb (ups f t (stt D nb t (f t))) := sub_ok h (fun u hu => by
  rw [ups_i]
  by_cases e : u = t
  · rw [if_pos e, e]; exact ⟨stl_le _ _ 12, fun i hi => stt_sub hi⟩
  · rw [if_neg e]; exact ⟨Nat.le_refl _, fun i hi => hi⟩)
theorem okA_afin {a : ZA} (h : okA a) {r b : Nat} (hb : b < a.2.1.1) : okA (afin a r b) := okA_f (okA_afd h hb) (up_ok h.2.2.2.2.2.2.2.1.1)
/-- what of the state the reference holds, when the readers' part has changed -/
theorem MA.put3 {p : Nat → Nat → Bool} {s t : ZSt} {a : ZA} (h : MA s a) (hE : zE p s t) (hp : ∀ o j, qM o j = true → (o == 113 || o == 108 || o == 105) = false → p o j = false) {S : ZS} (hs : S.2.2.2 = a.2.2.2.1.2.2.2) (hA' : okA (putS a S)) (hC : MC t (putS a S)) : MA t (putS a S) := by
  obtain ⟨hA, _, h2, h3, h4, h5, h6, h7⟩ := h
  have h5' : MRs s (putS a S).2.2.1 (putS a S).2.2.2.1.2.2.2.1 := by show MRs s a.2.2.1 S.2.2.2.1; rw [hs]; exact h5
  have h6' : MLo s (putS a S).2.2.2.1.2.2.2.2.1 (putS a S).2.2.2.1.2.2.2.2.2 := by show MLo s S.2.2.2.2.1 S.2.2.2.2.2; rw [hs]; exact h6
  exact ⟨hA', hC, h2.fr hE ⟨hp _ _ rfl rfl, fun _ => hp _ _ rfl rfl⟩, MRl.fr h3 hA.2.1 hE ⟨hp _ _ rfl rfl, fun _ _ => hp _ _ (by simp [qM]; omega) rfl⟩, h4.fr hE ⟨hp _ _ rfl rfl, fun _ => hp _ _ rfl rfl⟩, h5'.fr hE (fun _ => ⟨hp _ _ rfl rfl, hp _ _ rfl rfl, hp _ _ rfl rfl⟩), h6'.fr hE ⟨hp _ _ rfl rfl, hp _ _ rfl rfl, fun _ => hp _ _ rfl rfl⟩, MKs.fr h7 hE (fun _ => ⟨hp _ _ rfl rfl, hp _ _ rfl rfl⟩)⟩
def prd : Nat → Nat → Bool := fun o _ => o == 116 || o == 108 || o == 113
theorem prd_mo {s t : ZSt} (h : zE prd s t) : zE pMo s t := h.mono (fun o j e => by simp [pMo, prd] at *; omega)
theorem MC.afd {s : ZSt} {a : ZA} (hA : okA a) (h : MC s a) {r b : Nat} (hr : r < a.2.2.1.1) (hb : b < a.2.1.1) : MC (si s 113 r (nI (a.2.2.2.1.2.2.1 r ||| 2 ^ b))) (putS a (afd a r b)) := by
  obtain ⟨⟨a1, a2, a3, a4, a5, a6⟩, c1, c2, c3, c4, c5⟩ := h
  have hE : zE (fun o _ => o == 113) s (si s 113 r (nI (a.2.2.2.1.2.2.1 r ||| 2 ^ b))) := (zE.refl _ _).wi rfl
  have hp : 2 ^ a.2.1.1 ≤ 4096 := Nat.pow_le_pow_right (n := 2) (by decide) a2
  refine ⟨⟨(hE.i rfl).trans a1, a2, (hE.i rfl).trans a3, a4, fun k hk => ?_, fun k hk => ?_⟩, fun k hk => (hE.i rfl).trans (c1 k hk), fun k hk => (hE.i rfl).trans (c2 k hk), fun k hk => ⟨(hE.i rfl).trans (c3 k hk).1, (c3 k hk).2⟩, fun k hk => (hE.i rfl).trans (c4 k hk), c5⟩
  · show gi _ 113 k = nI (ups a.2.2.2.1.2.2.1 r (a.2.2.2.1.2.2.1 r ||| 2 ^ b) k) ∧ ups a.2.2.2.1.2.2.1 r (a.2.2.2.1.2.2.1 r ||| 2 ^ b) k < 4096
    rw [gi_i, ups_i]
    by_cases e : k = r
    · rw [if_pos ⟨rfl, e⟩, if_pos e]
      exact ⟨rfl, Nat.lt_of_lt_of_le (or_lt ((hA.2.2.2.2.2.2.2.1.2.2.1 r hr).1) (p2_lt hb)) hp⟩
    · rw [if_neg (fun q => e q.2), if_neg e]
      exact a5 k hk
  · obtain ⟨q1, q2, q3, q4, q5, q6, q7⟩ := a6 k hk
    exact ⟨q1.on (fun _ => hE.i rfl) (fun _ => hE.i rfl), q2.on (fun _ => hE.i rfl) (fun _ => hE.i rfl), q3, q4, (hE.i rfl).trans q5, q6, rfl⟩
theorem m_hasRead {n r b : Nat} {s : ZSt} {a : ZA} (hn : 60 < n) (h : MA s a) (hr : r < a.2.2.1.1) (hb : b < a.2.1.1) : zT (f_M_hasRead n (nI r) (nI b) s) (fun q => q.1 = nI (cntr (ups a.2.2.2.1.2.2.1 r (a.2.2.2.1.2.2.1 r ||| 2 ^ b)) b a.2.2.1.1) ∧ zE prd s q.2 ∧ MA q.2 (afin a r b)) := by
  have hnb := h.1.2.2.2.1
  have hnr := h.1.2.2.2.2.2.1
  have hC := h.2.1
  have ht := (h.1.2.2.2.2.2.2.2.1.2.2.1 r hr).2
  have hF := h.1.2.2.2.2.2.2.2.1.1
  unfold f_M_hasRead
  refine zT.gu (inb_n (by omega) (by decide)) ?_
  rw [ai_n _ _ (by omega), (hC.1.2.2.2.2.1 r hr).1, shI_n (by omega), nI_or, sai_n _ _ _ (by omega)]
  refine zT.ltS ?_
  have hC2 := MC.afd h.1 hC hr hb
  rw [ai_n _ _ (by omega), show gi (si s 113 r (nI (a.2.2.2.1.2.2.1 r ||| 2 ^ b))) 110 r = nI (a.2.2.2.1.2.2.2.1 r) from (h.2.2.2.2.2.1 r hr).1]
  refine zT.ltS (zT.gu (inb_n ht (by decide)) ?_)
  have hCM : RMc (si s 113 r (nI (a.2.2.2.1.2.2.1 r ||| 2 ^ b))) a.2.1.1 a.2.2.1.1 (ups a.2.2.2.1.2.2.1 r (a.2.2.2.1.2.2.1 r ||| 2 ^ b)) (aD (putS a (afd a r b))) := hC2.1
  rw [ai_n _ _ (by omega), show gi (si s 113 r (nI (a.2.2.2.1.2.2.1 r ||| 2 ^ b))) 108 (a.2.2.2.1.2.2.2.1 r) = nI (a.2.2.2.1.1 (a.2.2.2.1.2.2.2.1 r)) from hC.2.2.2.2.1 _ ht]
  refine zT.bnT (m_settled hn hCM (hF.1 _ ht)) ?_
  rintro ⟨_, u⟩ ⟨rfl, hE⟩
  refine zT.ltS ?_
  rw [sai_n _ _ _ (by omega)]
  dsimp only
  have hE3 : zE pact (si s 113 r (nI (a.2.2.2.1.2.2.1 r ||| 2 ^ b))) (si u 108 (a.2.2.2.1.2.2.2.1 r) (nI (sto (fun x => mmk (aD (putS a (afd a r b))) (a.2.2.2.1.2.2.2.1 r) x a.2.1.1) (a.2.2.2.1.1 (a.2.2.2.1.2.2.2.1 r))))) := (le_act hE).wi rfl
  have hC3 : MC (si u 108 (a.2.2.2.1.2.2.2.1 r) (nI (sto (fun x => mmk (aD (putS a (afd a r b))) (a.2.2.2.1.2.2.2.1 r) x a.2.1.1) (a.2.2.2.1.1 (a.2.2.2.1.2.2.2.1 r))))) (afin a r b) := by
    refine MK.put hC2 hE3 (fun t ht' => ?_) (up_ok hF)
    show _ = nI (ups a.2.2.2.1.1 (a.2.2.2.1.2.2.2.1 r) (stt (aD (putS a (afd a r b))) a.2.1.1 (a.2.2.2.1.2.2.2.1 r) (a.2.2.2.1.1 (a.2.2.2.1.2.2.2.1 r))) t)
    rw [ups_i]
    by_cases e : t = a.2.2.2.1.2.2.2.1 r
    · subst e; rw [if_pos rfl, gi_i, if_pos ⟨rfl, rfl⟩]; rfl
    · rw [if_neg e, gi_i, if_neg (fun q => e q.2), hE.i (o := 108) rfl]
      exact hC.2.2.2.2.1 t ht'
  have hE4 : zE prd s (si u 108 (a.2.2.2.1.2.2.2.1 r) (nI (sto (fun x => mmk (aD (putS a (afd a r b))) (a.2.2.2.1.2.2.2.1 r) x a.2.1.1) (a.2.2.2.1.1 (a.2.2.2.1.2.2.2.1 r))))) := zE.trans (t := si s 113 r (nI (a.2.2.2.1.2.2.1 r ||| 2 ^ b))) ((zE.refl _ _).wi rfl) (hE3.mono (fun o j e => by simp [prd, pact] at *; omega))
  refine zT.bnE (m_readBy (by omega) hC3.1.2.2.1 hnr hC3.1.2.2.2.2.1 (by omega)) ?_
  exact zT.ret ⟨rfl, hE4, h.put3 hE4 (fun o j e1 e2 => by simp [qM, prd] at *; omega) (S := (afin a r b).2.2.2.1) rfl (okA_afin h.1 hb) hC3⟩
def sRead (x y : Int32) (a : ZA) : Int32 × ZA :=
  if inb x a.2.2.1.1 = true ∧ inb y a.2.1.1 = true then (if (a.2.2.2.1.1 (a.2.2.2.1.2.2.2.1 x.toNatClampNeg)).testBit y.toNatClampNeg = true then (nI (cntr (ups a.2.2.2.1.2.2.1 x.toNatClampNeg (a.2.2.2.1.2.2.1 x.toNatClampNeg ||| 2 ^ y.toNatClampNeg)) y.toNatClampNeg a.2.2.1.1), afin a x.toNatClampNeg y.toNatClampNeg) else (-2, a)) else (-1, a)
theorem m_read {n : Nat} {s : ZSt} {a : ZA} (x y : Int32) (hn : 60 < n) (h : MA s a) : zT (f_M_read n x y s) (mP (sRead x y a).1 (sRead x y a).2 s) := by
  have hnb := h.1.2.2.2.1
  have hnr := h.1.2.2.2.2.2.1
  generalize hr : sRead x y a = r
  unfold sRead at hr
  unfold f_M_read
  refine zT.ln (fun s1 hs1 => ?_)
  obtain ⟨hz, hE0, h00⟩ := mz h hs1
  clear hs1
  have hC := hz.2.1
  rw [inb_isReader hC.1.2.2.1 hnr, inb_isBook hC.1.1 hnb]
  refine zT.ite (fun c1 => ?_) (fun c1 => ?_)
  · refine zT.ite (fun c2 => ?_) (fun c2 => ?_)
    · rw [if_pos ⟨c1, c2⟩] at hr
      obtain ⟨k, hk, rfl⟩ := (inb_iff (by omega)).mp c1
      obtain ⟨b, hb, rfl⟩ := (inb_iff (by omega)).mp c2
      rw [nI_clamp (by omega), nI_clamp (by omega)] at hr
      have ht := (hz.1.2.2.2.2.2.2.2.1.2.2.1 k hk).2
      refine zT.gu (inb_n (by omega) (by decide)) ?_
      rw [ai_n _ _ (by omega), (hz.2.2.2.2.2.1 k hk).1]
      refine zT.gu (inb_n ht (by decide)) ?_
      have hlt := okS_t hC.S ht
      have hg : gi s1 108 (a.2.2.2.1.2.2.2.1 k) = nI (a.2.2.2.1.1 (a.2.2.2.1.2.2.2.1 k)) := hC.2.2.2.2.1 _ ht
      rw [ai_n _ _ (by omega), hg, has_n (by omega) (by omega)]
      refine zT.ite (fun c3 => ?_) (fun c3 => ?_)
      · rw [if_pos c3] at hr
        subst hr
        refine zT.bnT (m_hasRead hn hz hk hb) ?_
        rintro ⟨v, u⟩ ⟨hv, hE, hM⟩
        exact zT.ret ⟨hv, hE0.trans (prd_mo hE), hM⟩
      · rw [if_neg c3] at hr
        subst hr
        exact zT.ret ⟨rfl, hE0, hz⟩
    · rw [if_neg (fun q => c2 q.2)] at hr
      subst hr
      exact zT.ret ⟨rfl, hE0, hz⟩
  · rw [if_neg (fun q => c1 q.1)] at hr
    subst hr
    exact zT.ret ⟨rfl, hE0, hz⟩
-- the class
theorem zb_R : ∀ r, r < 6 → z_isO (500 + r) 3 = true := by decide +kernel
def pxf : Nat → Nat → Bool := fun o j => o == 243 || o == 244 || (decide (440 ≤ o) && decide (o < 475)) || (o == 1 && j == 8) || (decide (300 ≤ o) && decide (o < 312) && j == 5) || (o == 201 && j == 5) || (decide (500 ≤ o) && decide (o < 506) && j == 3)
theorem pxf_xo {s t : ZSt} (h : zE pxf s t) : zE pXo s t := h.mono (fun o j e => by simp [pXo, pxf] at *; omega)
theorem ups_same {α : Type} (f : Nat → α) (t : Nat) : ups f t (f t) = f := by
  funext k
  rw [ups_i]
  split
  · rename_i e; rw [e]
  · rfl
theorem or_same {x b : Nat} (h : x.testBit b = true) : x ||| 2 ^ b = x := by
  apply Nat.eq_of_testBit_eq
  intro i
  rw [Nat.testBit_or, tb2]
  by_cases e : b = i
  · subst e; rw [h]; rfl
  · simp [e]
/-- the readers' read books and what is counted: the class's part -/
theorem XB.afd {s : ZSt} {st : Nat} {a : ZA} (hA : okA a) (h : XB s st a) (hst : st + 1 < 2 ^ 30) {r b : Nat} (hr : r < a.2.2.1.1) (hb : b < a.2.1.1) (h0 : (a.2.2.2.1.2.2.1 r).testBit b = false) :
    XB (si (si (si s (500 + r) 3 (nI (a.2.2.2.1.2.2.1 r ||| 2 ^ b))) (300 + b) 5 (gi s (300 + b) 5 + 1)) 201 5 (nI st + 1)) (st + 1) (putS a (afd a r b)) := by
  have hnb := hA.2.2.2.1
  have hnr := hA.2.2.2.2.2.1
  obtain ⟨⟨⟨a1, a2, a3⟩, ⟨k1, k2, k3⟩, c⟩, d, e, g, k⟩ := h
  have hE : zE (fun o j => (o == 500 + r && j == 3) || (o == 300 + b && j == 5) || (o == 201 && j == 5)) s (si (si (si s (500 + r) 3 (nI (a.2.2.2.1.2.2.1 r ||| 2 ^ b))) (300 + b) 5 (gi s (300 + b) 5 + 1)) 201 5 (nI st + 1)) := (((zE.refl _ _).wi (by simp)).wi (by simp)).wi (by simp)
  refine ⟨⟨⟨(hE.i (by simp)).trans a1, a2, fun q hq => ?_⟩, ⟨by rw [gi_i, if_pos ⟨rfl, rfl⟩, nI_1], hst, fun i hi => ?_⟩, fun t ht => ⟨(hE.i (by simp <;> omega)).trans (c t ht).1, (c t ht).2⟩⟩, fun q (hq : q < a.2.1.1) => (hE.i (by simp <;> omega)).trans (d q hq), fun q hq => (hE.i (by simp <;> omega)).trans (e q hq), g, k⟩
  · obtain ⟨c1, c2, c3, c4, c5, c6, c7, c8⟩ := a3 q hq
    have hq12 : q < 12 := by have : a.2.1.1 ≤ 12 := hnb; have : q < a.2.1.1 := hq; omega
    have hc5 := cntr_le (ups a.2.2.2.1.2.2.1 r (a.2.2.2.1.2.2.1 r ||| 2 ^ b)) q a.2.2.1.1
    refine ⟨c1.on (hE.i (by simp <;> omega)) (fun j => hE.i (by simp <;> omega)), c2.on (hE.i (by simp <;> omega)) (fun j => hE.i (by simp <;> omega)), c3, c4, (hE.i (by simp <;> omega)).trans c5, c6, ?_, ?_⟩
    · show gi _ (300 + q) 5 = nI (cntr (ups a.2.2.2.1.2.2.1 r (a.2.2.2.1.2.2.1 r ||| 2 ^ b)) q a.2.2.1.1)
      rw [gi_i, if_neg (by omega), gi_i]
      by_cases e : q = b
      · subst e
        rw [if_pos ⟨rfl, rfl⟩, c7, nI_1, cntr_one hr h0 (by rw [Nat.testBit_or, tb2]; simp)]; rfl
      · rw [if_neg (by omega), gi_i, if_neg (by omega), c7, cntr_eq (dn := a.2.2.2.1.2.2.1) (fun u hu => by
          rw [ups_i]
          by_cases eu : u = r
          · rw [if_pos eu, Nat.testBit_or, tb2, eu]; simp [Ne.symm e]
          · rw [if_neg eu])]
        rfl
    · show cntr (ups a.2.2.2.1.2.2.1 r (a.2.2.2.1.2.2.1 r ||| 2 ^ b)) q a.2.2.1.1 ≤ 6
      omega
  · obtain ⟨v, q1, q2, q3⟩ := k3 i hi
    exact ⟨v, by omega, (hE.i (by simp <;> omega)).trans q2, fun e => by omega⟩
end Z36
