-- LEVEL 3: the programs, plainly. zT t P: the program t ends and its value keeps P
section Z20
def zT {α : Type} (t : Option α) (P : α → Prop) : Prop := ∃ a, t = some a ∧ P a
theorem zT.ret {α : Type} {a : α} {P : α → Prop} (h : P a) : zT (some a) P := ⟨a, rfl, h⟩
theorem zT.ln {α β : Type} {v : β} {f : β → Option α} {P : α → Prop} (h : ∀ x, x = v → zT (f x) P) : zT (lt v f) P := h v rfl
theorem zT.ltS {α β : Type} {v : β} {f : β → Option α} {P : α → Prop} (h : zT (f v) P) : zT (lt v f) P := h
theorem zT.gu {α : Type} {b : Bool} {t : Option α} {P : α → Prop} (hb : b = true) (h : zT t P) : zT (gd b t) P := by
  subst hb; exact h
theorem zT.bi {α β : Type} {t : Option α} {f : α → Option β} {P : β → Prop} (h : zT t (fun a => zT (f a) P)) : zT (bn t f) P := by
  obtain ⟨a, rfl, h⟩ := h
  exact h
theorem zT.bnE {α β : Type} {t : Option α} {a : α} {f : α → Option β} {P : β → Prop} (ht : t = some a) (h : zT (f a) P) : zT (bn t f) P := by
  subst ht; exact h
theorem zT.bnT {α β : Type} {t : Option α} {Q : α → Prop} {f : α → Option β} {P : β → Prop} (ht : zT t Q) (h : ∀ a, Q a → zT (f a) P) : zT (bn t f) P := by
  obtain ⟨a, rfl, hq⟩ := ht
  exact h a hq
theorem zT.mono {α : Type} {t : Option α} {Q P : α → Prop} (h : zT t Q) (hi : ∀ a, Q a → P a) : zT t P := by
  obtain ⟨a, e, q⟩ := h
  exact ⟨a, e, hi a q⟩
theorem zT.jo {α β : Type} {rest : β → Option α} {f : (β → Option α) → Option α} {P : α → Prop} (h : zT (f rest) P) : zT (jn rest f) P := h
theorem zT.jnQ {α β : Type} {rest : β → Option α} {f : (β → Option α) → Option α} {P : α → Prop} (Q : β → Prop) (hr : ∀ x, Q x → zT (rest x) P) (h : ∀ j : β → Option α, (∀ x, Q x → zT (j x) P) → zT (f j) P) : zT (jn rest f) P := h rest hr
theorem zT.ite {α : Type} {c : Prop} [Decidable c] {t1 t2 : Option α} {P : α → Prop} (h1 : c → zT t1 P) (h2 : ¬ c → zT t2 P) : zT (if c then t1 else t2) P := by
  by_cases hc : c
  · rw [if_pos hc]; exact h1 hc
  · rw [if_neg hc]; exact h2 hc
theorem zT.it {α : Type} {c : Prop} [Decidable c] {t1 t2 : Option α} {P : α → Prop} (hc : c) (h1 : zT t1 P) : zT (if c then t1 else t2) P := by rw [if_pos hc]; exact h1
theorem zT.ie {α : Type} {c : Prop} [Decidable c] {t1 t2 : Option α} {P : α → Prop} (hc : ¬ c) (h1 : zT t2 P) : zT (if c then t1 else t2) P := by rw [if_neg hc]; exact h1
theorem zT.loop {S α : Type} {body : (S → Option α) → S → Option α} {P : α → Prop} (I : S → Prop) (m : S → Nat)
    (hb : ∀ j x, I x → (∀ y, I y → m y < m x → zT (j y) P) → zT (body j x) P) : ∀ n x, I x → m x < n → zT (lpN body n x) P
  | 0, _, _, h => absurd h (Nat.not_lt_zero _)
  | n + 1, x, hx, hm => hb (lpN body n) x hx (fun y hy hlt => zT.loop I m hb n y hy (by omega))
/-- a loop whose state says how often it has turned, N times at most -/
theorem zT.cnt {S α : Type} {body : (S → Option α) → S → Option α} {P : α → Prop} (N : Nat) (I : Nat → S → Prop) {n : Nat} {x0 : S} (hn : N < n) (h0 : I 0 x0)
    (hb : ∀ j k x, k ≤ N → I k x → (k < N → ∀ y, I (k + 1) y → zT (j y) P) → zT (body j x) P) : zT (lpN body n x0) P := by
  have key : ∀ m k x, k ≤ N → I k x → N - k < m → zT (lpN body m x) P := by
    intro m
    induction m with
    | zero => intro k x _ _ h; exact absurd h (Nat.not_lt_zero _)
    | succ m ih => exact fun k x hk hI h => hb (lpN body m) k x hk hI (fun hlt y hy => ih (k + 1) y (by omega) hy (by omega))
  exact key n 0 x0 (Nat.zero_le _) h0 (by omega)
theorem zT.val {α : Type} {t : Option α} {a : α} (h : t = some a) {P : α → Prop} (hp : P a) : zT t P := ⟨a, h, hp⟩
-- the store
theorem gi_i (s : ZSt) (o j : Nat) (v : Int32) (o' j' : Nat) : gi (si s o j v) o' j' = if o' = o ∧ j' = j then v else gi s o' j' := rfl
theorem gi_l (s : ZSt) (o j : Nat) (v : Int64) (o' j' : Nat) : gi (sl s o j v) o' j' = gi s o' j' := rfl
theorem gl_i (s : ZSt) (o j : Nat) (v : Int32) (o' j' : Nat) : gl (si s o j v) o' j' = gl s o' j' := rfl
theorem gl_l (s : ZSt) (o j : Nat) (v : Int64) (o' j' : Nat) : gl (sl s o j v) o' j' = if o' = o ∧ j' = j then v else gl s o' j' := rfl
theorem gi_c (s : ZSt) (a b n o' j' : Nat) : gi (cpyA s a b n) o' j' = if o' = b ∧ j' < n then gi s a j' else gi s o' j' := rfl
theorem gl_c (s : ZSt) (a b n o' j' : Nat) : gl (cpyA s a b n) o' j' = gl s o' j' := rfl
theorem ai_n (s : ZSt) (a : Nat) {k : Nat} (h : k < 2 ^ 31) : ai s a (nI k) = gi s a k := by unfold ai; rw [nI_clamp h]
theorem al_n (s : ZSt) (a : Nat) {k : Nat} (h : k < 2 ^ 31) : al s a (nI k) = gl s a k := by unfold al; rw [nI_clamp h]
theorem sai_n (s : ZSt) (a : Nat) {k : Nat} (v : Int32) (h : k < 2 ^ 31) : sai s a (nI k) v = si s a k v := by unfold sai; rw [nI_clamp h]
theorem sal_n (s : ZSt) (a : Nat) {k : Nat} (v : Int64) (h : k < 2 ^ 31) : sal s a (nI k) v = sl s a k v := by unfold sal; rw [nI_clamp h]
theorem inb_n {k n : Nat} (h : k < n) (hn : n < 2 ^ 31) : inb (nI k) n = true := by
  unfold inb
  rw [decide_eq_true_eq]
  exact ⟨nI_pos' (by omega), by rw [nI_clamp (by omega)]; exact h⟩
/-- nothing but p has changed -/
def zE (p : Nat → Nat → Bool) (s t : ZSt) : Prop := ∀ o j, p o j = false → gi t o j = gi s o j ∧ gl t o j = gl s o j
theorem zE.refl (p : Nat → Nat → Bool) (s : ZSt) : zE p s s := fun _ _ _ => ⟨rfl, rfl⟩
theorem zE.trans {p : Nat → Nat → Bool} {s t u : ZSt} (h : zE p s t) (k : zE p t u) : zE p s u := fun o j e => ⟨(k o j e).1.trans (h o j e).1, (k o j e).2.trans (h o j e).2⟩
theorem zE.mono {p q : Nat → Nat → Bool} {s t : ZSt} (h : zE p s t) (hpq : ∀ o j, q o j = false → p o j = false) : zE q s t := fun o j e => h o j (hpq o j e)
theorem zE.wi {p : Nat → Nat → Bool} {s t : ZSt} {o j : Nat} {v : Int32} (h : zE p s t) (hp : p o j = true) : zE p s (si t o j v) := by
  intro o' j' e
  refine ⟨?_, (h o' j' e).2⟩
  rw [gi_i, if_neg]
  · exact (h o' j' e).1
  · rintro ⟨rfl, rfl⟩
    rw [hp] at e; cases e
theorem zE.wl {p : Nat → Nat → Bool} {s t : ZSt} {o j : Nat} {v : Int64} (h : zE p s t) (hp : p o j = true) : zE p s (sl t o j v) := by
  intro o' j' e
  refine ⟨(h o' j' e).1, ?_⟩
  rw [gl_l, if_neg]
  · exact (h o' j' e).2
  · rintro ⟨rfl, rfl⟩
    rw [hp] at e; cases e
theorem zE.i {p : Nat → Nat → Bool} {s t : ZSt} (h : zE p s t) {o j : Nat} (e : p o j = false) : gi t o j = gi s o j := (h o j e).1
theorem zE.l {p : Nat → Nat → Bool} {s t : ZSt} (h : zE p s t) {o j : Nat} (e : p o j = false) : gl t o j = gl s o j := (h o j e).2
-- numbers
theorem nI_k (n : Nat) : (OfNat.ofNat n : Int32) = nI n := rfl
theorem i_1 : (1 : Int32) = nI 1 := rfl
theorem i_0 : (0 : Int32) = nI 0 := rfl
theorem i_0Z : (0 : Int32) = (0 : Int32) := rfl
theorem i_m1_lt : (-1 : Int32) < 0 := by decide
theorem nI_not_m1 {n : Nat} (h : n < 2 ^ 31) : ¬ nI n = (-1 : Int32) := by
  intro e
  have := nI_pos h
  rw [e] at this
  exact this (by decide)
theorem nI_mulL (a b : Nat) : nI a * nI b = nI (a * b) := pk_mul a b
theorem nI_rem {a d : Nat} (ha : a < 2 ^ 31) (h0 : 0 < d) (hd : d < 2 ^ 31) : remI (nI a) (nI d) = nI (a % d) := pk_rem ha h0 hd
theorem nI_dv {a d : Nat} (ha : a < 2 ^ 31) (h0 : 0 < d) (hd : d < 2 ^ 31) : nI a / nI d = nI (a / d) := pk_div ha h0 hd
theorem nI_and (a b : Nat) : nI a &&& nI b = nI (a &&& b) := by
  apply Int32.toBitVec.inj
  simp [nI, Int32.toBitVec_and, BitVec.ofNat_and]
theorem nI_or (a b : Nat) : nI a ||| nI b = nI (a ||| b) := by
  apply Int32.toBitVec.inj
  simp [nI, Int32.toBitVec_or, BitVec.ofNat_or]
theorem nI_xor (a b : Nat) : nI a ^^^ nI b = nI (a ^^^ b) := by
  apply Int32.toBitVec.inj
  simp [nI, Int32.toBitVec_xor, BitVec.ofNat_xor]
end Z20
