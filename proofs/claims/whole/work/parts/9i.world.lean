-- the world at the start (written by gen9i.py)
section Z9i
def mkL : List Nat := [1, 200, 353, 433, 473, 354, 434, 474, 224, 201, 240, 241, 243, 244, 300, 320, 400, 440, 340, 420, 460, 301, 321, 401, 441, 341, 421, 461, 302, 322, 402, 442, 342, 422, 462, 303, 323, 403, 443, 343, 423, 463, 304, 324, 404, 444, 344, 424, 464, 305, 325, 405, 445, 345, 425, 465, 306, 326, 406, 446, 346, 426, 466, 307, 327, 407, 447, 347, 427, 467, 308, 328, 408, 448, 348, 428, 468, 309, 329, 409, 449, 349, 429, 469, 310, 330, 410, 450, 350, 430, 470, 311, 331, 411, 451, 351, 431, 471, 202, 260, 261, 262, 263, 264, 266, 267, 268, 269, 203, 352, 432, 472, 205, 206, 210, 212, 214, 215, 216, 217, 218, 500, 501, 502, 503, 504, 505, 510, 520, 525, 530, 535, 511, 521, 526, 531, 536, 512, 522, 527, 532, 537, 0, 102, 104, 105, 106, 107, 108, 110, 111, 112, 113, 114, 115, 116, 117, 123, 124, 125, 126, 128, 130, 131, 136, 137, 138, 139, 141, 142, 143, 144, 145, 146, 147, 148, 150, 151, 152, 550]
def bAt (g : ZG) (h : Nat) (l : ZBs) (H : Heap) : Prop := ∀ i e, l[i]? = some e → va_at g.2.1 z_cls (h + i, e) H
theorem bAt.c {g : ZG} {h : Nat} {e : va_E} {l : ZBs} {H : Heap} (q : bAt g h (e :: l) H) : va_at g.2.1 z_cls (h, e) H ∧ bAt g (h + 1) l H :=
  ⟨q 0 e rfl, fun i x hx => by have := q (i + 1) x hx; rw [show h + (i + 1) = h + 1 + i by omega] at this; exact this⟩
theorem bAt.a {g : ZG} {h u : Nat} {A B : ZBs} {H : Heap} (q : bAt g h (A ++ B) H) (hu : A.length = u) : bAt g h A H ∧ bAt g (h + u) B H := by
  refine ⟨fun i e he => q i e ?_, fun i e he => ?_⟩
  · rw [List.getElem?_append_left (List.getElem?_eq_some_iff.mp he).1]; exact he
  · have := q (u + i) e (by rw [List.getElem?_append_right (by omega), ← hu, show A.length + i - A.length = i by omega]; exact he)
    rw [← Nat.add_assoc] at this; exact this
theorem vP_n {g : ZG} {H : Heap} : va_P g.2.1 z_cls [] H := fun k q h => by cases h
theorem vP_c {g : ZG} {H : Heap} {q : Nat × va_E} {l : va_W} (h : va_at g.2.1 z_cls q H) (t : va_P g.2.1 z_cls l H) : va_P g.2.1 z_cls (q :: l) H := fun k x hx => by
  cases k with
  | zero => cases hx; exact h
  | succ k => exact t k x hx
def Good (g : ZG) (H : Heap) (o : Nat) : Prop := va_at g.2.1 z_cls (g.2.2.2 o, z_ct g s0 o) H
theorem Good.o {g : ZG} {H : Heap} {o c x : Nat} {fs : List Value} (hk : z_kd o = (0, c)) (ha : g.2.2.2 o = x) (h : va_at g.2.1 z_cls (x, bO c fs) H) (hf : (List.range (z_nf c)).map (fun j => z_fv g s0 o c j) = fs) : Good g H o := by
  unfold Good; rw [z_ct_o hk, hf, ha]; exact h
theorem Good.i {g : ZG} {H : Heap} {o n x : Nat} (hk : z_kd o = (1, n)) (ha : g.2.2.2 o = x) (h : va_at g.2.1 z_cls (x, bI g n) H) (hz : ∀ j, gi s0 o j = 0) : Good g H o := by
  unfold Good; rw [z_ct_i hk, show s0.1 o = fun _ => 0 from funext hz, ha]; exact h
theorem Good.l {g : ZG} {H : Heap} {o n x : Nat} (hk : z_kd o = (2, n)) (ha : g.2.2.2 o = x) (h : va_at g.2.1 z_cls (x, bJ g n) H) : Good g H o := by
  unfold Good; rw [z_ct_l hk, ha]; exact h
theorem Good.z {g : ZG} {H : Heap} {o n x : Nat} (hk : z_kd o = (3, n)) (ha : g.2.2.2 o = x) (h : va_at g.2.1 z_cls (x, bZ g n) H) (hz : ∀ j, gi s0 o j = 0) : Good g H o := by
  unfold Good; rw [z_ct_z hk, show s0.1 o = fun _ => 0 from funext hz, ha]; exact h
theorem arrV_c {cA : ClassId} {N : Nat} {f f' : Nat → Value} (h : ∀ j, j < N → f j = f' j) : arrV cA N f = arrV cA N f' := by
  unfold arrV
  congr 1
  apply congrArg
  funext j
  exact h j.1 j.2
theorem Good.r {g : ZG} {H : Heap} {o x : Nat} (hk : z_kd o = (1, 3)) (ho : o = 107 ∨ o = 241) (ha : g.2.2.2 o = x) (h : va_at g.2.1 z_cls (x, bRoom g) H) : Good g H o := by
  unfold Good; rw [z_ct_i hk, ha]
  have h : H[x]? = some (vp_cell _ _) := h
  show H[x]? = some (vp_cell _ _)
  rw [h, vp_cell_i, vp_cell_i]
  congr 1
  refine arrV_c (fun j hj => ?_)
  have e : s0.1 o j = 3 := s0_r ho hj
  rw [e]
  rcases (show j = 0 ∨ j = 1 ∨ j = 2 by omega) with rfl | rfl | rfl <;> rfl
theorem Good.q {g : ZG} {H : Heap} {o n t x : Nat} {f : Nat → Option Nat} (hk : z_kd o = (t + 4, n)) (ht : t < 3) (ha : g.2.2.2 o = x) (h : va_at g.2.1 z_cls (x, bA g (t + 3) n f) H) (hf : ∀ j, j < n → f j = some (g.2.2.2 (z_ra o j))) : Good g H o := by
  unfold Good; rw [z_ct_q hk ht, ha]
  have h : H[x]? = some (vp_cell _ _) := h
  show H[x]? = some (vp_cell _ _)
  rw [h, vp_cell_q, vp_cell_q]
  congr 1
  refine arrV_c (fun j hj => ?_)
  rw [hf j hj]
theorem up_at {f : Nat → (Nat → Option Nat)} {v : Nat → Nat} (h : ∀ i, f (i + 1) = va_up (f i) (nI i).toNatClampNeg (some (v i))) : ∀ n, n < 2 ^ 31 → ∀ j, j < n → f n j = some (v j)
  | 0, _, j, hj => absurd hj (Nat.not_lt_zero _)
  | n + 1, hn, j, hj => by
    rw [h n, nI_clamp (by omega)]
    by_cases e : j = n
    · subst e; simp [va_up]
    · have := up_at h n (by omega) j (by omega)
      simp [va_up, e, this]
theorem Good.E {g : ZG} {H : Heap} {o x : Nat} (hk : z_kd o = (0, 1) ∧ z_kd (o + 80) = (1, 60) ∧ z_kd (o + 120) = (1, 60)) (hz : 320 ≤ o ∧ o < 355) (ha : g.2.2.2 o = x ∧ g.2.2.2 (o + 80) = x + 1 ∧ g.2.2.2 (o + 120) = x + 2) (h : bAt g x (kE g x) H) : Good g H o ∧ Good g H (o + 80) ∧ Good g H (o + 120) := by
  obtain ⟨h1, h⟩ := h.c
  obtain ⟨h2, h⟩ := h.c
  obtain ⟨h3, _⟩ := h.c
  refine ⟨Good.o hk.1 ha.1 h1 ?_, Good.i hk.2.1 ha.2.1 h2 (fun j => s0_z (by omega)), Good.i hk.2.2 ha.2.2 h3 (fun j => s0_z (by omega))⟩
  show [Value.ref (g.2.2.2 (o + 80)), .ref (g.2.2.2 (o + 120)), .int (gi s0 o 2)] = _
  rw [ha.2.1, ha.2.2, s0_z (by omega)]
theorem tB_at {g : ZG} {H : Heap} {x a : Nat} : ∀ n, bAt g x (tB g a n) H → ∀ i, i < n → bAt g (x + 7 * i) (kB g (a + (4 + 7 * i + 1))) H
  | 0, _, i, hi => absurd hi (Nat.not_lt_zero _)
  | n + 1, h, i, hi => by
    have h : bAt g x (tB g a n ++ kB g (a + (4 + 7 * n + 1))) H := h
    obtain ⟨h1, h2⟩ := h.a (tB_len g a n)
    by_cases e : i = n
    · subst e; exact h2
    · exact tB_at n h1 i (by omega)
theorem xRb_at {g : ZG} {H : Heap} {x a : Nat} : ∀ n, bAt g x (xRb g a n) H → ∀ i, i < n → bAt g (x + i) (kR g (a + (120 + i + 1))) H
  | 0, _, i, hi => absurd hi (Nat.not_lt_zero _)
  | n + 1, h, i, hi => by
    have h : bAt g x (xRb g a n ++ kR g (a + (120 + n + 1))) H := h
    obtain ⟨h1, h2⟩ := h.a (xRb_len g a n)
    by_cases e : i = n
    · subst e; exact h2
    · exact xRb_at n h1 i (by omega)
theorem xKb_at {g : ZG} {H : Heap} {x a : Nat} : ∀ n, bAt g x (xKb g a n) H → ∀ i, i < n → bAt g (x + 5 * i) (kK g (a + (126 + 5 * i + 1))) H
  | 0, _, i, hi => absurd hi (Nat.not_lt_zero _)
  | n + 1, h, i, hi => by
    have h : bAt g x (xKb g a n ++ kK g (a + (126 + 5 * n + 1))) H := h
    obtain ⟨h1, h2⟩ := h.a (xKb_len g a n)
    by_cases e : i = n
    · subst e; exact h2
    · exact xKb_at n h1 i (by omega)
theorem bAt.e {g : ZG} {h h' : Nat} {l l' : ZBs} {H : Heap} (q : bAt g h l H) (e : h = h') (e2 : l = l') : bAt g h' l' H := by subst e e2; exact q
variable {g : ZG} {b0 : Nat} {H : Heap}
def hasA (g : ZG) (b0 : Nat) : Prop := ∀ p o, mkL[p]? = some o → g.2.2.2 o = b0 + p
set_option maxHeartbeats 8000000 in
set_option maxRecDepth 10000 in
theorem world_ok (hA : hasA g b0) (h : bAt g b0 (kX g b0 ++ kM g (b0 + 142) ++ [bJ g 1]) H) : va_P g.2.1 z_cls (z_wl g s0) H := by
  obtain ⟨h, hO⟩ := h.a (u := 179) (by rw [List.length_append]; show (xPre g b0 ++ (bA g 4 6 (xRf b0 6) :: bA g 5 3 (xKf b0 3) :: (xArr g ++ xRb g b0 6 ++ xKb g b0 3))).length + 1 + 37 = 179; rw [List.length_append, xPre_len, List.length_cons, List.length_cons, List.length_append, List.length_append, xRb_len, xKb_len]; rfl)
  obtain ⟨h, hM⟩ := h.a (u := 142) (by show (xPre g b0 ++ (bA g 4 6 (xRf b0 6) :: bA g 5 3 (xKf b0 3) :: (xArr g ++ xRb g b0 6 ++ xKb g b0 3))).length + 1 = 142; rw [List.length_append, xPre_len, List.length_cons, List.length_cons, List.length_append, List.length_append, xRb_len, xKb_len]; rfl)
  obtain ⟨cO, _⟩ := bAt.c hO
  have G550 : Good g H 550 := Good.l (by decide +kernel) (hA 179 550 rfl) cO
  obtain ⟨cX, h⟩ := bAt.c h
  have G1 : Good g H 1 := Good.o (by decide +kernel) (hA 0 1 rfl) cX (by
    show [Value.ref (g.2.2.2 200), .ref (g.2.2.2 201), .ref (g.2.2.2 202), .ref (g.2.2.2 203), .ref (g.2.2.2 352), .ref (g.2.2.2 205), .ref (g.2.2.2 206), .int 0, .long 0, .int 0, .ref (g.2.2.2 210), .int 0, .ref (g.2.2.2 212), .int 0, .ref (g.2.2.2 214), .ref (g.2.2.2 215), .ref (g.2.2.2 216), .ref (g.2.2.2 217), .ref (g.2.2.2 218)] = _
    rw [hA 1 200 rfl, hA 9 201 rfl, hA 98 202 rfl, hA 108 203 rfl, hA 109 352 rfl, hA 112 205 rfl, hA 113 206 rfl, hA 114 210 rfl, hA 115 212 rfl, hA 116 214 rfl, hA 117 215 rfl, hA 118 216 rfl, hA 119 217 rfl, hA 120 218 rfl] <;> rfl)
  obtain ⟨hpre, h⟩ := bAt.a h (xPre_len g b0)
  obtain ⟨c205, h⟩ := bAt.c h
  obtain ⟨c206, h⟩ := bAt.c h
  obtain ⟨h, hK⟩ := bAt.a h (u := 13) (by rw [List.length_append, xRb_len]; rfl)
  obtain ⟨h, hR⟩ := bAt.a h (u := 7) rfl
  obtain ⟨c210, h⟩ := bAt.c h
  have G210 : Good g H 210 := Good.i (by decide +kernel) (hA 114 210 rfl) c210 (fun j => s0_z (by omega))
  obtain ⟨c212, h⟩ := bAt.c h
  have G212 : Good g H 212 := Good.i (by decide +kernel) (hA 115 212 rfl) c212 (fun j => s0_z (by omega))
  obtain ⟨c214, h⟩ := bAt.c h
  have G214 : Good g H 214 := Good.i (by decide +kernel) (hA 116 214 rfl) c214 (fun j => s0_z (by omega))
  obtain ⟨c215, h⟩ := bAt.c h
  have G215 : Good g H 215 := Good.i (by decide +kernel) (hA 117 215 rfl) c215 (fun j => s0_z (by omega))
  obtain ⟨c216, h⟩ := bAt.c h
  have G216 : Good g H 216 := Good.i (by decide +kernel) (hA 118 216 rfl) c216 (fun j => s0_z (by omega))
  obtain ⟨c217, h⟩ := bAt.c h
  have G217 : Good g H 217 := Good.i (by decide +kernel) (hA 119 217 rfl) c217 (fun j => s0_z (by omega))
  obtain ⟨c218, h⟩ := bAt.c h
  have G218 : Good g H 218 := Good.i (by decide +kernel) (hA 120 218 rfl) c218 (fun j => s0_z (by omega))
  obtain ⟨c500, _⟩ := bAt.c (xRb_at 6 hR 0 (by decide))
  have G500 : Good g H 500 := Good.o (by decide +kernel) (hA 121 500 rfl) c500 rfl
  obtain ⟨c501, _⟩ := bAt.c (xRb_at 6 hR 1 (by decide))
  have G501 : Good g H 501 := Good.o (by decide +kernel) (hA 122 501 rfl) c501 rfl
  obtain ⟨c502, _⟩ := bAt.c (xRb_at 6 hR 2 (by decide))
  have G502 : Good g H 502 := Good.o (by decide +kernel) (hA 123 502 rfl) c502 rfl
  obtain ⟨c503, _⟩ := bAt.c (xRb_at 6 hR 3 (by decide))
  have G503 : Good g H 503 := Good.o (by decide +kernel) (hA 124 503 rfl) c503 rfl
  obtain ⟨c504, _⟩ := bAt.c (xRb_at 6 hR 4 (by decide))
  have G504 : Good g H 504 := Good.o (by decide +kernel) (hA 125 504 rfl) c504 rfl
  obtain ⟨c505, _⟩ := bAt.c (xRb_at 6 hR 5 (by decide))
  have G505 : Good g H 505 := Good.o (by decide +kernel) (hA 126 505 rfl) c505 rfl
  have hk0 := (xKb_at 3 hK 0 (by decide)).e (h' := b0 + 127) (l' := kK g (b0 + 127)) (by omega) (by congr 1)
  obtain ⟨c510, hk0⟩ := bAt.c hk0
  have G510 : Good g H 510 := Good.o (by decide +kernel) (hA 127 510 rfl) c510 (by
    show [Value.int 0, .long 0, .int 0, .int 0, .int 0, .ref (g.2.2.2 520), .ref (g.2.2.2 525), .ref (g.2.2.2 530), .ref (g.2.2.2 535)] = _
    rw [hA 128 520 rfl, hA 129 525 rfl, hA 130 530 rfl, hA 131 535 rfl] <;> rfl)
  obtain ⟨c520, hk0⟩ := bAt.c hk0
  have G520 : Good g H 520 := Good.i (by decide +kernel) (hA 128 520 rfl) c520 (fun j => s0_z (by omega))
  obtain ⟨c525, hk0⟩ := bAt.c hk0
  have G525 : Good g H 525 := Good.i (by decide +kernel) (hA 129 525 rfl) c525 (fun j => s0_z (by omega))
  obtain ⟨c530, hk0⟩ := bAt.c hk0
  have G530 : Good g H 530 := Good.i (by decide +kernel) (hA 130 530 rfl) c530 (fun j => s0_z (by omega))
  obtain ⟨c535, hk0⟩ := bAt.c hk0
  have G535 : Good g H 535 := Good.i (by decide +kernel) (hA 131 535 rfl) c535 (fun j => s0_z (by omega))
  have hk1 := (xKb_at 3 hK 1 (by decide)).e (h' := b0 + 132) (l' := kK g (b0 + 132)) (by omega) (by congr 1)
  obtain ⟨c511, hk1⟩ := bAt.c hk1
  have G511 : Good g H 511 := Good.o (by decide +kernel) (hA 132 511 rfl) c511 (by
    show [Value.int 0, .long 0, .int 0, .int 0, .int 0, .ref (g.2.2.2 521), .ref (g.2.2.2 526), .ref (g.2.2.2 531), .ref (g.2.2.2 536)] = _
    rw [hA 133 521 rfl, hA 134 526 rfl, hA 135 531 rfl, hA 136 536 rfl] <;> rfl)
  obtain ⟨c521, hk1⟩ := bAt.c hk1
  have G521 : Good g H 521 := Good.i (by decide +kernel) (hA 133 521 rfl) c521 (fun j => s0_z (by omega))
  obtain ⟨c526, hk1⟩ := bAt.c hk1
  have G526 : Good g H 526 := Good.i (by decide +kernel) (hA 134 526 rfl) c526 (fun j => s0_z (by omega))
  obtain ⟨c531, hk1⟩ := bAt.c hk1
  have G531 : Good g H 531 := Good.i (by decide +kernel) (hA 135 531 rfl) c531 (fun j => s0_z (by omega))
  obtain ⟨c536, hk1⟩ := bAt.c hk1
  have G536 : Good g H 536 := Good.i (by decide +kernel) (hA 136 536 rfl) c536 (fun j => s0_z (by omega))
  have hk2 := (xKb_at 3 hK 2 (by decide)).e (h' := b0 + 137) (l' := kK g (b0 + 137)) (by omega) (by congr 1)
  obtain ⟨c512, hk2⟩ := bAt.c hk2
  have G512 : Good g H 512 := Good.o (by decide +kernel) (hA 137 512 rfl) c512 (by
    show [Value.int 0, .long 0, .int 0, .int 0, .int 0, .ref (g.2.2.2 522), .ref (g.2.2.2 527), .ref (g.2.2.2 532), .ref (g.2.2.2 537)] = _
    rw [hA 138 522 rfl, hA 139 527 rfl, hA 140 532 rfl, hA 141 537 rfl] <;> rfl)
  obtain ⟨c522, hk2⟩ := bAt.c hk2
  have G522 : Good g H 522 := Good.i (by decide +kernel) (hA 138 522 rfl) c522 (fun j => s0_z (by omega))
  obtain ⟨c527, hk2⟩ := bAt.c hk2
  have G527 : Good g H 527 := Good.i (by decide +kernel) (hA 139 527 rfl) c527 (fun j => s0_z (by omega))
  obtain ⟨c532, hk2⟩ := bAt.c hk2
  have G532 : Good g H 532 := Good.i (by decide +kernel) (hA 140 532 rfl) c532 (fun j => s0_z (by omega))
  obtain ⟨c537, hk2⟩ := bAt.c hk2
  have G537 : Good g H 537 := Good.i (by decide +kernel) (hA 141 537 rfl) c537 (fun j => s0_z (by omega))
  have G205 : Good g H 205 := Good.q (t := 1) (by decide +kernel) (by decide) (hA 112 205 rfl) c205 (fun j hj => by
    rw [up_at (f := xRf b0) (v := fun i => b0 + (120 + i + 1)) (fun _ => rfl) 6 (by decide) j hj]
    have e : mkL[121 + 1 * j]? = some (500 + j) := by revert j; decide +kernel
    rw [show z_ra 205 j = 500 + j from rfl, hA _ _ e]
    congr 1
    omega)
  have G206 : Good g H 206 := Good.q (t := 2) (by decide +kernel) (by decide) (hA 113 206 rfl) c206 (fun j hj => by
    rw [up_at (f := xKf b0) (v := fun i => b0 + (126 + 5 * i + 1)) (fun _ => rfl) 3 (by decide) j hj]
    have e : mkL[127 + 5 * j]? = some (510 + j) := by revert j; decide +kernel
    rw [show z_ra 206 j = 510 + j from rfl, hA _ _ e]
    congr 1
    omega)
  obtain ⟨hpre, hE⟩ := bAt.a (A := kP g (b0 + 1) ++ kT g (b0 + 9) ++ kS g (b0 + 98) ++ kV g (b0 + 108)) (B := kE g (b0 + 109)) hpre (u := 108) (by simp only [List.length_append]; rw [kT_len]; rfl)
  obtain ⟨hpre, hV⟩ := bAt.a hpre (u := 107) (by simp only [List.length_append]; rw [kT_len]; rfl)
  obtain ⟨hpre, hS⟩ := bAt.a hpre (u := 97) (by simp only [List.length_append]; rw [kT_len]; rfl)
  obtain ⟨hP, hT⟩ := bAt.a hpre (u := 8) rfl
  obtain ⟨G352, G432, G472⟩ : Good g H 352 ∧ Good g H 432 ∧ Good g H 472 := Good.E (o := 352) (x := b0 + 109) ⟨by decide +kernel, by decide +kernel, by decide +kernel⟩ (by omega) ⟨(hA 109 352 rfl), (hA 110 432 rfl), (hA 111 472 rfl)⟩ (hE.e (by omega) (by first | rfl | (congr 1; omega)))
  obtain ⟨c203, _⟩ := bAt.c hV
  have G203 : Good g H 203 := Good.o (by decide +kernel) (hA 108 203 rfl) c203 rfl
  obtain ⟨c202, hS⟩ := bAt.c hS
  have G202 : Good g H 202 := Good.o (by decide +kernel) (hA 98 202 rfl) c202 (by
    show [Value.ref (g.2.2.2 260), .ref (g.2.2.2 261), .ref (g.2.2.2 262), .ref (g.2.2.2 263), .ref (g.2.2.2 264), .int 0, .ref (g.2.2.2 266), .ref (g.2.2.2 267), .ref (g.2.2.2 268), .ref (g.2.2.2 269)] = _
    rw [hA 99 260 rfl, hA 100 261 rfl, hA 101 262 rfl, hA 102 263 rfl, hA 103 264 rfl, hA 104 266 rfl, hA 105 267 rfl, hA 106 268 rfl, hA 107 269 rfl] <;> rfl)
  obtain ⟨c260, hS⟩ := bAt.c hS
  have G260 : Good g H 260 := Good.l (by decide +kernel) (hA 99 260 rfl) c260
  obtain ⟨c261, hS⟩ := bAt.c hS
  have G261 : Good g H 261 := Good.i (by decide +kernel) (hA 100 261 rfl) c261 (fun j => s0_z (by omega))
  obtain ⟨c262, hS⟩ := bAt.c hS
  have G262 : Good g H 262 := Good.i (by decide +kernel) (hA 101 262 rfl) c262 (fun j => s0_z (by omega))
  obtain ⟨c263, hS⟩ := bAt.c hS
  have G263 : Good g H 263 := Good.i (by decide +kernel) (hA 102 263 rfl) c263 (fun j => s0_z (by omega))
  obtain ⟨c264, hS⟩ := bAt.c hS
  have G264 : Good g H 264 := Good.i (by decide +kernel) (hA 103 264 rfl) c264 (fun j => s0_z (by omega))
  obtain ⟨c266, hS⟩ := bAt.c hS
  have G266 : Good g H 266 := Good.i (by decide +kernel) (hA 104 266 rfl) c266 (fun j => s0_z (by omega))
  obtain ⟨c267, hS⟩ := bAt.c hS
  have G267 : Good g H 267 := Good.i (by decide +kernel) (hA 105 267 rfl) c267 (fun j => s0_z (by omega))
  obtain ⟨c268, hS⟩ := bAt.c hS
  have G268 : Good g H 268 := Good.i (by decide +kernel) (hA 106 268 rfl) c268 (fun j => s0_z (by omega))
  obtain ⟨c269, hS⟩ := bAt.c hS
  have G269 : Good g H 269 := Good.i (by decide +kernel) (hA 107 269 rfl) c269 (fun j => s0_z (by omega))
  obtain ⟨c200, hP⟩ := bAt.c hP
  have G200 : Good g H 200 := Good.o (by decide +kernel) (hA 1 200 rfl) c200 (by
    show [Value.ref (g.2.2.2 353), .ref (g.2.2.2 354), .int 0, .int 0, .ref (g.2.2.2 224), .ref (g.2.2.2 353), .int 0, .int 0] = _
    rw [hA 2 353 rfl, hA 5 354 rfl, hA 8 224 rfl] <;> rfl)
  obtain ⟨hP, hs⟩ := bAt.a hP (u := 6) rfl
  obtain ⟨hP1, hP2⟩ := bAt.a hP (u := 3) rfl
  obtain ⟨G353, G433, G473⟩ : Good g H 353 ∧ Good g H 433 ∧ Good g H 473 := Good.E (o := 353) (x := b0 + 2) ⟨by decide +kernel, by decide +kernel, by decide +kernel⟩ (by omega) ⟨(hA 2 353 rfl), (hA 3 433 rfl), (hA 4 473 rfl)⟩ (hP1.e (by omega) (by first | rfl | (congr 1; omega)))
  obtain ⟨G354, G434, G474⟩ : Good g H 354 ∧ Good g H 434 ∧ Good g H 474 := Good.E (o := 354) (x := b0 + 5) ⟨by decide +kernel, by decide +kernel, by decide +kernel⟩ (by omega) ⟨(hA 5 354 rfl), (hA 6 434 rfl), (hA 7 474 rfl)⟩ (hP2.e (by omega) (by first | rfl | (congr 1; omega)))
  obtain ⟨c224, _⟩ := bAt.c hs
  have G224 : Good g H 224 := Good.i (by decide +kernel) (hA 8 224 rfl) c224 (fun j => s0_z (by omega))
  obtain ⟨c201, hT⟩ := bAt.c hT
  have G201 : Good g H 201 := Good.o (by decide +kernel) (hA 9 201 rfl) c201 (by
    show [Value.ref (g.2.2.2 240), .ref (g.2.2.2 241), .int 0, .ref (g.2.2.2 243), .ref (g.2.2.2 244), .int 1] = _
    rw [hA 10 240 rfl, hA 11 241 rfl, hA 12 243 rfl, hA 13 244 rfl] <;> rfl)
  obtain ⟨c240, hT⟩ := bAt.c hT
  obtain ⟨hT, hB⟩ := bAt.a hT (u := 3) rfl
  obtain ⟨c241, hT⟩ := bAt.c hT
  have G241 : Good g H 241 := Good.r (by decide +kernel) (by omega) (hA 11 241 rfl) c241
  obtain ⟨c243, hT⟩ := bAt.c hT
  have G243 : Good g H 243 := Good.i (by decide +kernel) (hA 12 243 rfl) c243 (fun j => s0_z (by omega))
  obtain ⟨c244, hT⟩ := bAt.c hT
  have G244 : Good g H 244 := Good.i (by decide +kernel) (hA 13 244 rfl) c244 (fun j => s0_z (by omega))
  have G240 : Good g H 240 := Good.q (t := 0) (by decide +kernel) (by decide) (hA 10 240 rfl) c240 (fun j hj => by
    rw [up_at (f := tF (b0 + 9)) (v := fun i => b0 + 9 + (4 + 7 * i + 1)) (fun _ => rfl) 12 (by decide) j hj]
    have e : mkL[14 + 7 * j]? = some (300 + j) := by revert j; decide +kernel
    rw [show z_ra 240 j = 300 + j from rfl, hA _ _ e]
    congr 1
    omega)
  have hb0 := (tB_at 12 hB 0 (by decide)).e (h' := b0 + 14) (l' := kB g (b0 + 14)) (by omega) (by congr 1)
  obtain ⟨c300, hb0⟩ := bAt.c hb0
  have G300 : Good g H 300 := Good.o (by decide +kernel) (hA 14 300 rfl) c300 (by
    show [Value.ref (g.2.2.2 320), .ref (g.2.2.2 340), .int 0, .int 99, .int 0, .int 0] = _
    rw [hA 15 320 rfl, hA 18 340 rfl] <;> rfl)
  obtain ⟨hc0, hd0⟩ := bAt.a hb0 (u := 3) rfl
  obtain ⟨G320, G400, G440⟩ : Good g H 320 ∧ Good g H 400 ∧ Good g H 440 := Good.E (o := 320) (x := b0 + 15) ⟨by decide +kernel, by decide +kernel, by decide +kernel⟩ (by omega) ⟨(hA 15 320 rfl), (hA 16 400 rfl), (hA 17 440 rfl)⟩ (hc0.e (by omega) (by first | rfl | (congr 1; omega)))
  obtain ⟨G340, G420, G460⟩ : Good g H 340 ∧ Good g H 420 ∧ Good g H 460 := Good.E (o := 340) (x := b0 + 18) ⟨by decide +kernel, by decide +kernel, by decide +kernel⟩ (by omega) ⟨(hA 18 340 rfl), (hA 19 420 rfl), (hA 20 460 rfl)⟩ (hd0.e (by omega) (by first | rfl | (congr 1; omega)))
  have hb1 := (tB_at 12 hB 1 (by decide)).e (h' := b0 + 21) (l' := kB g (b0 + 21)) (by omega) (by congr 1)
  obtain ⟨c301, hb1⟩ := bAt.c hb1
  have G301 : Good g H 301 := Good.o (by decide +kernel) (hA 21 301 rfl) c301 (by
    show [Value.ref (g.2.2.2 321), .ref (g.2.2.2 341), .int 0, .int 99, .int 0, .int 0] = _
    rw [hA 22 321 rfl, hA 25 341 rfl] <;> rfl)
  obtain ⟨hc1, hd1⟩ := bAt.a hb1 (u := 3) rfl
  obtain ⟨G321, G401, G441⟩ : Good g H 321 ∧ Good g H 401 ∧ Good g H 441 := Good.E (o := 321) (x := b0 + 22) ⟨by decide +kernel, by decide +kernel, by decide +kernel⟩ (by omega) ⟨(hA 22 321 rfl), (hA 23 401 rfl), (hA 24 441 rfl)⟩ (hc1.e (by omega) (by first | rfl | (congr 1; omega)))
  obtain ⟨G341, G421, G461⟩ : Good g H 341 ∧ Good g H 421 ∧ Good g H 461 := Good.E (o := 341) (x := b0 + 25) ⟨by decide +kernel, by decide +kernel, by decide +kernel⟩ (by omega) ⟨(hA 25 341 rfl), (hA 26 421 rfl), (hA 27 461 rfl)⟩ (hd1.e (by omega) (by first | rfl | (congr 1; omega)))
  have hb2 := (tB_at 12 hB 2 (by decide)).e (h' := b0 + 28) (l' := kB g (b0 + 28)) (by omega) (by congr 1)
  obtain ⟨c302, hb2⟩ := bAt.c hb2
  have G302 : Good g H 302 := Good.o (by decide +kernel) (hA 28 302 rfl) c302 (by
    show [Value.ref (g.2.2.2 322), .ref (g.2.2.2 342), .int 0, .int 99, .int 0, .int 0] = _
    rw [hA 29 322 rfl, hA 32 342 rfl] <;> rfl)
  obtain ⟨hc2, hd2⟩ := bAt.a hb2 (u := 3) rfl
  obtain ⟨G322, G402, G442⟩ : Good g H 322 ∧ Good g H 402 ∧ Good g H 442 := Good.E (o := 322) (x := b0 + 29) ⟨by decide +kernel, by decide +kernel, by decide +kernel⟩ (by omega) ⟨(hA 29 322 rfl), (hA 30 402 rfl), (hA 31 442 rfl)⟩ (hc2.e (by omega) (by first | rfl | (congr 1; omega)))
  obtain ⟨G342, G422, G462⟩ : Good g H 342 ∧ Good g H 422 ∧ Good g H 462 := Good.E (o := 342) (x := b0 + 32) ⟨by decide +kernel, by decide +kernel, by decide +kernel⟩ (by omega) ⟨(hA 32 342 rfl), (hA 33 422 rfl), (hA 34 462 rfl)⟩ (hd2.e (by omega) (by first | rfl | (congr 1; omega)))
  have hb3 := (tB_at 12 hB 3 (by decide)).e (h' := b0 + 35) (l' := kB g (b0 + 35)) (by omega) (by congr 1)
  obtain ⟨c303, hb3⟩ := bAt.c hb3
  have G303 : Good g H 303 := Good.o (by decide +kernel) (hA 35 303 rfl) c303 (by
    show [Value.ref (g.2.2.2 323), .ref (g.2.2.2 343), .int 0, .int 99, .int 0, .int 0] = _
    rw [hA 36 323 rfl, hA 39 343 rfl] <;> rfl)
  obtain ⟨hc3, hd3⟩ := bAt.a hb3 (u := 3) rfl
  obtain ⟨G323, G403, G443⟩ : Good g H 323 ∧ Good g H 403 ∧ Good g H 443 := Good.E (o := 323) (x := b0 + 36) ⟨by decide +kernel, by decide +kernel, by decide +kernel⟩ (by omega) ⟨(hA 36 323 rfl), (hA 37 403 rfl), (hA 38 443 rfl)⟩ (hc3.e (by omega) (by first | rfl | (congr 1; omega)))
  obtain ⟨G343, G423, G463⟩ : Good g H 343 ∧ Good g H 423 ∧ Good g H 463 := Good.E (o := 343) (x := b0 + 39) ⟨by decide +kernel, by decide +kernel, by decide +kernel⟩ (by omega) ⟨(hA 39 343 rfl), (hA 40 423 rfl), (hA 41 463 rfl)⟩ (hd3.e (by omega) (by first | rfl | (congr 1; omega)))
  have hb4 := (tB_at 12 hB 4 (by decide)).e (h' := b0 + 42) (l' := kB g (b0 + 42)) (by omega) (by congr 1)
  obtain ⟨c304, hb4⟩ := bAt.c hb4
  have G304 : Good g H 304 := Good.o (by decide +kernel) (hA 42 304 rfl) c304 (by
    show [Value.ref (g.2.2.2 324), .ref (g.2.2.2 344), .int 0, .int 99, .int 0, .int 0] = _
    rw [hA 43 324 rfl, hA 46 344 rfl] <;> rfl)
  obtain ⟨hc4, hd4⟩ := bAt.a hb4 (u := 3) rfl
  obtain ⟨G324, G404, G444⟩ : Good g H 324 ∧ Good g H 404 ∧ Good g H 444 := Good.E (o := 324) (x := b0 + 43) ⟨by decide +kernel, by decide +kernel, by decide +kernel⟩ (by omega) ⟨(hA 43 324 rfl), (hA 44 404 rfl), (hA 45 444 rfl)⟩ (hc4.e (by omega) (by first | rfl | (congr 1; omega)))
  obtain ⟨G344, G424, G464⟩ : Good g H 344 ∧ Good g H 424 ∧ Good g H 464 := Good.E (o := 344) (x := b0 + 46) ⟨by decide +kernel, by decide +kernel, by decide +kernel⟩ (by omega) ⟨(hA 46 344 rfl), (hA 47 424 rfl), (hA 48 464 rfl)⟩ (hd4.e (by omega) (by first | rfl | (congr 1; omega)))
  have hb5 := (tB_at 12 hB 5 (by decide)).e (h' := b0 + 49) (l' := kB g (b0 + 49)) (by omega) (by congr 1)
  obtain ⟨c305, hb5⟩ := bAt.c hb5
  have G305 : Good g H 305 := Good.o (by decide +kernel) (hA 49 305 rfl) c305 (by
    show [Value.ref (g.2.2.2 325), .ref (g.2.2.2 345), .int 0, .int 99, .int 0, .int 0] = _
    rw [hA 50 325 rfl, hA 53 345 rfl] <;> rfl)
  obtain ⟨hc5, hd5⟩ := bAt.a hb5 (u := 3) rfl
  obtain ⟨G325, G405, G445⟩ : Good g H 325 ∧ Good g H 405 ∧ Good g H 445 := Good.E (o := 325) (x := b0 + 50) ⟨by decide +kernel, by decide +kernel, by decide +kernel⟩ (by omega) ⟨(hA 50 325 rfl), (hA 51 405 rfl), (hA 52 445 rfl)⟩ (hc5.e (by omega) (by first | rfl | (congr 1; omega)))
  obtain ⟨G345, G425, G465⟩ : Good g H 345 ∧ Good g H 425 ∧ Good g H 465 := Good.E (o := 345) (x := b0 + 53) ⟨by decide +kernel, by decide +kernel, by decide +kernel⟩ (by omega) ⟨(hA 53 345 rfl), (hA 54 425 rfl), (hA 55 465 rfl)⟩ (hd5.e (by omega) (by first | rfl | (congr 1; omega)))
  have hb6 := (tB_at 12 hB 6 (by decide)).e (h' := b0 + 56) (l' := kB g (b0 + 56)) (by omega) (by congr 1)
  obtain ⟨c306, hb6⟩ := bAt.c hb6
  have G306 : Good g H 306 := Good.o (by decide +kernel) (hA 56 306 rfl) c306 (by
    show [Value.ref (g.2.2.2 326), .ref (g.2.2.2 346), .int 0, .int 99, .int 0, .int 0] = _
    rw [hA 57 326 rfl, hA 60 346 rfl] <;> rfl)
  obtain ⟨hc6, hd6⟩ := bAt.a hb6 (u := 3) rfl
  obtain ⟨G326, G406, G446⟩ : Good g H 326 ∧ Good g H 406 ∧ Good g H 446 := Good.E (o := 326) (x := b0 + 57) ⟨by decide +kernel, by decide +kernel, by decide +kernel⟩ (by omega) ⟨(hA 57 326 rfl), (hA 58 406 rfl), (hA 59 446 rfl)⟩ (hc6.e (by omega) (by first | rfl | (congr 1; omega)))
  obtain ⟨G346, G426, G466⟩ : Good g H 346 ∧ Good g H 426 ∧ Good g H 466 := Good.E (o := 346) (x := b0 + 60) ⟨by decide +kernel, by decide +kernel, by decide +kernel⟩ (by omega) ⟨(hA 60 346 rfl), (hA 61 426 rfl), (hA 62 466 rfl)⟩ (hd6.e (by omega) (by first | rfl | (congr 1; omega)))
  have hb7 := (tB_at 12 hB 7 (by decide)).e (h' := b0 + 63) (l' := kB g (b0 + 63)) (by omega) (by congr 1)
  obtain ⟨c307, hb7⟩ := bAt.c hb7
  have G307 : Good g H 307 := Good.o (by decide +kernel) (hA 63 307 rfl) c307 (by
    show [Value.ref (g.2.2.2 327), .ref (g.2.2.2 347), .int 0, .int 99, .int 0, .int 0] = _
    rw [hA 64 327 rfl, hA 67 347 rfl] <;> rfl)
  obtain ⟨hc7, hd7⟩ := bAt.a hb7 (u := 3) rfl
  obtain ⟨G327, G407, G447⟩ : Good g H 327 ∧ Good g H 407 ∧ Good g H 447 := Good.E (o := 327) (x := b0 + 64) ⟨by decide +kernel, by decide +kernel, by decide +kernel⟩ (by omega) ⟨(hA 64 327 rfl), (hA 65 407 rfl), (hA 66 447 rfl)⟩ (hc7.e (by omega) (by first | rfl | (congr 1; omega)))
  obtain ⟨G347, G427, G467⟩ : Good g H 347 ∧ Good g H 427 ∧ Good g H 467 := Good.E (o := 347) (x := b0 + 67) ⟨by decide +kernel, by decide +kernel, by decide +kernel⟩ (by omega) ⟨(hA 67 347 rfl), (hA 68 427 rfl), (hA 69 467 rfl)⟩ (hd7.e (by omega) (by first | rfl | (congr 1; omega)))
  have hb8 := (tB_at 12 hB 8 (by decide)).e (h' := b0 + 70) (l' := kB g (b0 + 70)) (by omega) (by congr 1)
  obtain ⟨c308, hb8⟩ := bAt.c hb8
  have G308 : Good g H 308 := Good.o (by decide +kernel) (hA 70 308 rfl) c308 (by
    show [Value.ref (g.2.2.2 328), .ref (g.2.2.2 348), .int 0, .int 99, .int 0, .int 0] = _
    rw [hA 71 328 rfl, hA 74 348 rfl] <;> rfl)
  obtain ⟨hc8, hd8⟩ := bAt.a hb8 (u := 3) rfl
  obtain ⟨G328, G408, G448⟩ : Good g H 328 ∧ Good g H 408 ∧ Good g H 448 := Good.E (o := 328) (x := b0 + 71) ⟨by decide +kernel, by decide +kernel, by decide +kernel⟩ (by omega) ⟨(hA 71 328 rfl), (hA 72 408 rfl), (hA 73 448 rfl)⟩ (hc8.e (by omega) (by first | rfl | (congr 1; omega)))
  obtain ⟨G348, G428, G468⟩ : Good g H 348 ∧ Good g H 428 ∧ Good g H 468 := Good.E (o := 348) (x := b0 + 74) ⟨by decide +kernel, by decide +kernel, by decide +kernel⟩ (by omega) ⟨(hA 74 348 rfl), (hA 75 428 rfl), (hA 76 468 rfl)⟩ (hd8.e (by omega) (by first | rfl | (congr 1; omega)))
  have hb9 := (tB_at 12 hB 9 (by decide)).e (h' := b0 + 77) (l' := kB g (b0 + 77)) (by omega) (by congr 1)
  obtain ⟨c309, hb9⟩ := bAt.c hb9
  have G309 : Good g H 309 := Good.o (by decide +kernel) (hA 77 309 rfl) c309 (by
    show [Value.ref (g.2.2.2 329), .ref (g.2.2.2 349), .int 0, .int 99, .int 0, .int 0] = _
    rw [hA 78 329 rfl, hA 81 349 rfl] <;> rfl)
  obtain ⟨hc9, hd9⟩ := bAt.a hb9 (u := 3) rfl
  obtain ⟨G329, G409, G449⟩ : Good g H 329 ∧ Good g H 409 ∧ Good g H 449 := Good.E (o := 329) (x := b0 + 78) ⟨by decide +kernel, by decide +kernel, by decide +kernel⟩ (by omega) ⟨(hA 78 329 rfl), (hA 79 409 rfl), (hA 80 449 rfl)⟩ (hc9.e (by omega) (by first | rfl | (congr 1; omega)))
  obtain ⟨G349, G429, G469⟩ : Good g H 349 ∧ Good g H 429 ∧ Good g H 469 := Good.E (o := 349) (x := b0 + 81) ⟨by decide +kernel, by decide +kernel, by decide +kernel⟩ (by omega) ⟨(hA 81 349 rfl), (hA 82 429 rfl), (hA 83 469 rfl)⟩ (hd9.e (by omega) (by first | rfl | (congr 1; omega)))
  have hb10 := (tB_at 12 hB 10 (by decide)).e (h' := b0 + 84) (l' := kB g (b0 + 84)) (by omega) (by congr 1)
  obtain ⟨c310, hb10⟩ := bAt.c hb10
  have G310 : Good g H 310 := Good.o (by decide +kernel) (hA 84 310 rfl) c310 (by
    show [Value.ref (g.2.2.2 330), .ref (g.2.2.2 350), .int 0, .int 99, .int 0, .int 0] = _
    rw [hA 85 330 rfl, hA 88 350 rfl] <;> rfl)
  obtain ⟨hc10, hd10⟩ := bAt.a hb10 (u := 3) rfl
  obtain ⟨G330, G410, G450⟩ : Good g H 330 ∧ Good g H 410 ∧ Good g H 450 := Good.E (o := 330) (x := b0 + 85) ⟨by decide +kernel, by decide +kernel, by decide +kernel⟩ (by omega) ⟨(hA 85 330 rfl), (hA 86 410 rfl), (hA 87 450 rfl)⟩ (hc10.e (by omega) (by first | rfl | (congr 1; omega)))
  obtain ⟨G350, G430, G470⟩ : Good g H 350 ∧ Good g H 430 ∧ Good g H 470 := Good.E (o := 350) (x := b0 + 88) ⟨by decide +kernel, by decide +kernel, by decide +kernel⟩ (by omega) ⟨(hA 88 350 rfl), (hA 89 430 rfl), (hA 90 470 rfl)⟩ (hd10.e (by omega) (by first | rfl | (congr 1; omega)))
  have hb11 := (tB_at 12 hB 11 (by decide)).e (h' := b0 + 91) (l' := kB g (b0 + 91)) (by omega) (by congr 1)
  obtain ⟨c311, hb11⟩ := bAt.c hb11
  have G311 : Good g H 311 := Good.o (by decide +kernel) (hA 91 311 rfl) c311 (by
    show [Value.ref (g.2.2.2 331), .ref (g.2.2.2 351), .int 0, .int 99, .int 0, .int 0] = _
    rw [hA 92 331 rfl, hA 95 351 rfl] <;> rfl)
  obtain ⟨hc11, hd11⟩ := bAt.a hb11 (u := 3) rfl
  obtain ⟨G331, G411, G451⟩ : Good g H 331 ∧ Good g H 411 ∧ Good g H 451 := Good.E (o := 331) (x := b0 + 92) ⟨by decide +kernel, by decide +kernel, by decide +kernel⟩ (by omega) ⟨(hA 92 331 rfl), (hA 93 411 rfl), (hA 94 451 rfl)⟩ (hc11.e (by omega) (by first | rfl | (congr 1; omega)))
  obtain ⟨G351, G431, G471⟩ : Good g H 351 ∧ Good g H 431 ∧ Good g H 471 := Good.E (o := 351) (x := b0 + 95) ⟨by decide +kernel, by decide +kernel, by decide +kernel⟩ (by omega) ⟨(hA 95 351 rfl), (hA 96 431 rfl), (hA 97 471 rfl)⟩ (hd11.e (by omega) (by first | rfl | (congr 1; omega)))
  obtain ⟨c0, hM⟩ := bAt.c hM
  have G0 : Good g H 0 := Good.o (by decide +kernel) (hA 142 0 rfl) c0 (by
    show [Value.int 0, .int 0, .ref (g.2.2.2 102), .int 0, .ref (g.2.2.2 104), .ref (g.2.2.2 105), .ref (g.2.2.2 106), .ref (g.2.2.2 107), .ref (g.2.2.2 108), .int 0, .ref (g.2.2.2 110), .ref (g.2.2.2 111), .ref (g.2.2.2 112), .ref (g.2.2.2 113), .ref (g.2.2.2 114), .ref (g.2.2.2 115), .ref (g.2.2.2 116), .ref (g.2.2.2 117), .int 0, .int 0, .int 0, .int 0, .int 0, .ref (g.2.2.2 123), .ref (g.2.2.2 124), .ref (g.2.2.2 125), .ref (g.2.2.2 126), .int 0, .ref (g.2.2.2 128), .int 0, .ref (g.2.2.2 130), .ref (g.2.2.2 131), .int 0, .int 0, .int 0, .int 0, .ref (g.2.2.2 136), .ref (g.2.2.2 137), .ref (g.2.2.2 138), .ref (g.2.2.2 139), .int 0, .ref (g.2.2.2 141), .ref (g.2.2.2 142), .ref (g.2.2.2 143), .ref (g.2.2.2 144), .ref (g.2.2.2 145), .ref (g.2.2.2 146), .ref (g.2.2.2 147), .ref (g.2.2.2 148), .int 0, .ref (g.2.2.2 150), .ref (g.2.2.2 151), .ref (g.2.2.2 152)] = _
    rw [hA 143 102 rfl, hA 144 104 rfl, hA 145 105 rfl, hA 146 106 rfl, hA 147 107 rfl, hA 148 108 rfl, hA 149 110 rfl, hA 150 111 rfl, hA 151 112 rfl, hA 152 113 rfl, hA 153 114 rfl, hA 154 115 rfl, hA 155 116 rfl, hA 156 117 rfl, hA 157 123 rfl, hA 158 124 rfl, hA 159 125 rfl, hA 160 126 rfl, hA 161 128 rfl, hA 162 130 rfl, hA 163 131 rfl, hA 164 136 rfl, hA 165 137 rfl, hA 166 138 rfl, hA 167 139 rfl, hA 168 141 rfl, hA 169 142 rfl, hA 170 143 rfl, hA 171 144 rfl, hA 172 145 rfl, hA 173 146 rfl, hA 174 147 rfl, hA 175 148 rfl, hA 176 150 rfl, hA 177 151 rfl, hA 178 152 rfl] <;> rfl)
  obtain ⟨c102, hM⟩ := bAt.c hM
  have G102 : Good g H 102 := Good.i (by decide +kernel) (hA 143 102 rfl) c102 (fun j => s0_z (by omega))
  obtain ⟨c104, hM⟩ := bAt.c hM
  have G104 : Good g H 104 := Good.i (by decide +kernel) (hA 144 104 rfl) c104 (fun j => s0_z (by omega))
  obtain ⟨c105, hM⟩ := bAt.c hM
  have G105 : Good g H 105 := Good.i (by decide +kernel) (hA 145 105 rfl) c105 (fun j => s0_z (by omega))
  obtain ⟨c106, hM⟩ := bAt.c hM
  have G106 : Good g H 106 := Good.i (by decide +kernel) (hA 146 106 rfl) c106 (fun j => s0_z (by omega))
  obtain ⟨c107, hM⟩ := bAt.c hM
  have G107 : Good g H 107 := Good.r (by decide +kernel) (by omega) (hA 147 107 rfl) c107
  obtain ⟨c108, hM⟩ := bAt.c hM
  have G108 : Good g H 108 := Good.i (by decide +kernel) (hA 148 108 rfl) c108 (fun j => s0_z (by omega))
  obtain ⟨c110, hM⟩ := bAt.c hM
  have G110 : Good g H 110 := Good.i (by decide +kernel) (hA 149 110 rfl) c110 (fun j => s0_z (by omega))
  obtain ⟨c111, hM⟩ := bAt.c hM
  have G111 : Good g H 111 := Good.i (by decide +kernel) (hA 150 111 rfl) c111 (fun j => s0_z (by omega))
  obtain ⟨c112, hM⟩ := bAt.c hM
  have G112 : Good g H 112 := Good.i (by decide +kernel) (hA 151 112 rfl) c112 (fun j => s0_z (by omega))
  obtain ⟨c113, hM⟩ := bAt.c hM
  have G113 : Good g H 113 := Good.i (by decide +kernel) (hA 152 113 rfl) c113 (fun j => s0_z (by omega))
  obtain ⟨c114, hM⟩ := bAt.c hM
  have G114 : Good g H 114 := Good.i (by decide +kernel) (hA 153 114 rfl) c114 (fun j => s0_z (by omega))
  obtain ⟨c115, hM⟩ := bAt.c hM
  have G115 : Good g H 115 := Good.i (by decide +kernel) (hA 154 115 rfl) c115 (fun j => s0_z (by omega))
  obtain ⟨c116, hM⟩ := bAt.c hM
  have G116 : Good g H 116 := Good.i (by decide +kernel) (hA 155 116 rfl) c116 (fun j => s0_z (by omega))
  obtain ⟨c117, hM⟩ := bAt.c hM
  have G117 : Good g H 117 := Good.i (by decide +kernel) (hA 156 117 rfl) c117 (fun j => s0_z (by omega))
  obtain ⟨c123, hM⟩ := bAt.c hM
  have G123 : Good g H 123 := Good.i (by decide +kernel) (hA 157 123 rfl) c123 (fun j => s0_z (by omega))
  obtain ⟨c124, hM⟩ := bAt.c hM
  have G124 : Good g H 124 := Good.i (by decide +kernel) (hA 158 124 rfl) c124 (fun j => s0_z (by omega))
  obtain ⟨c125, hM⟩ := bAt.c hM
  have G125 : Good g H 125 := Good.i (by decide +kernel) (hA 159 125 rfl) c125 (fun j => s0_z (by omega))
  obtain ⟨c126, hM⟩ := bAt.c hM
  have G126 : Good g H 126 := Good.i (by decide +kernel) (hA 160 126 rfl) c126 (fun j => s0_z (by omega))
  obtain ⟨c128, hM⟩ := bAt.c hM
  have G128 : Good g H 128 := Good.i (by decide +kernel) (hA 161 128 rfl) c128 (fun j => s0_z (by omega))
  obtain ⟨c130, hM⟩ := bAt.c hM
  have G130 : Good g H 130 := Good.i (by decide +kernel) (hA 162 130 rfl) c130 (fun j => s0_z (by omega))
  obtain ⟨c131, hM⟩ := bAt.c hM
  have G131 : Good g H 131 := Good.i (by decide +kernel) (hA 163 131 rfl) c131 (fun j => s0_z (by omega))
  obtain ⟨c136, hM⟩ := bAt.c hM
  have G136 : Good g H 136 := Good.i (by decide +kernel) (hA 164 136 rfl) c136 (fun j => s0_z (by omega))
  obtain ⟨c137, hM⟩ := bAt.c hM
  have G137 : Good g H 137 := Good.i (by decide +kernel) (hA 165 137 rfl) c137 (fun j => s0_z (by omega))
  obtain ⟨c138, hM⟩ := bAt.c hM
  have G138 : Good g H 138 := Good.i (by decide +kernel) (hA 166 138 rfl) c138 (fun j => s0_z (by omega))
  obtain ⟨c139, hM⟩ := bAt.c hM
  have G139 : Good g H 139 := Good.i (by decide +kernel) (hA 167 139 rfl) c139 (fun j => s0_z (by omega))
  obtain ⟨c141, hM⟩ := bAt.c hM
  have G141 : Good g H 141 := Good.i (by decide +kernel) (hA 168 141 rfl) c141 (fun j => s0_z (by omega))
  obtain ⟨c142, hM⟩ := bAt.c hM
  have G142 : Good g H 142 := Good.i (by decide +kernel) (hA 169 142 rfl) c142 (fun j => s0_z (by omega))
  obtain ⟨c143, hM⟩ := bAt.c hM
  have G143 : Good g H 143 := Good.l (by decide +kernel) (hA 170 143 rfl) c143
  obtain ⟨c144, hM⟩ := bAt.c hM
  have G144 : Good g H 144 := Good.i (by decide +kernel) (hA 171 144 rfl) c144 (fun j => s0_z (by omega))
  obtain ⟨c145, hM⟩ := bAt.c hM
  have G145 : Good g H 145 := Good.i (by decide +kernel) (hA 172 145 rfl) c145 (fun j => s0_z (by omega))
  obtain ⟨c146, hM⟩ := bAt.c hM
  have G146 : Good g H 146 := Good.i (by decide +kernel) (hA 173 146 rfl) c146 (fun j => s0_z (by omega))
  obtain ⟨c147, hM⟩ := bAt.c hM
  have G147 : Good g H 147 := Good.i (by decide +kernel) (hA 174 147 rfl) c147 (fun j => s0_z (by omega))
  obtain ⟨c148, hM⟩ := bAt.c hM
  have G148 : Good g H 148 := Good.i (by decide +kernel) (hA 175 148 rfl) c148 (fun j => s0_z (by omega))
  obtain ⟨c150, hM⟩ := bAt.c hM
  have G150 : Good g H 150 := Good.i (by decide +kernel) (hA 176 150 rfl) c150 (fun j => s0_z (by omega))
  obtain ⟨c151, hM⟩ := bAt.c hM
  have G151 : Good g H 151 := Good.z (by decide +kernel) (hA 177 151 rfl) c151 (fun j => s0_z (by omega))
  obtain ⟨c152, hM⟩ := bAt.c hM
  have G152 : Good g H 152 := Good.i (by decide +kernel) (hA 178 152 rfl) c152 (fun j => s0_z (by omega))
  show va_P g.2.1 z_cls (z_ids.map (fun k => (g.2.2.2 k, z_ct g s0 k))) H
  refine vP_c G0 ?_
  refine vP_c G1 ?_
  refine vP_c G102 ?_
  refine vP_c G104 ?_
  refine vP_c G105 ?_
  refine vP_c G106 ?_
  refine vP_c G107 ?_
  refine vP_c G108 ?_
  refine vP_c G110 ?_
  refine vP_c G111 ?_
  refine vP_c G112 ?_
  refine vP_c G113 ?_
  refine vP_c G114 ?_
  refine vP_c G115 ?_
  refine vP_c G116 ?_
  refine vP_c G117 ?_
  refine vP_c G123 ?_
  refine vP_c G124 ?_
  refine vP_c G125 ?_
  refine vP_c G126 ?_
  refine vP_c G128 ?_
  refine vP_c G130 ?_
  refine vP_c G131 ?_
  refine vP_c G136 ?_
  refine vP_c G137 ?_
  refine vP_c G138 ?_
  refine vP_c G139 ?_
  refine vP_c G141 ?_
  refine vP_c G142 ?_
  refine vP_c G143 ?_
  refine vP_c G144 ?_
  refine vP_c G145 ?_
  refine vP_c G146 ?_
  refine vP_c G147 ?_
  refine vP_c G148 ?_
  refine vP_c G150 ?_
  refine vP_c G151 ?_
  refine vP_c G152 ?_
  refine vP_c G200 ?_
  refine vP_c G201 ?_
  refine vP_c G202 ?_
  refine vP_c G203 ?_
  refine vP_c G205 ?_
  refine vP_c G206 ?_
  refine vP_c G210 ?_
  refine vP_c G212 ?_
  refine vP_c G214 ?_
  refine vP_c G215 ?_
  refine vP_c G216 ?_
  refine vP_c G217 ?_
  refine vP_c G218 ?_
  refine vP_c G224 ?_
  refine vP_c G240 ?_
  refine vP_c G241 ?_
  refine vP_c G243 ?_
  refine vP_c G244 ?_
  refine vP_c G260 ?_
  refine vP_c G261 ?_
  refine vP_c G262 ?_
  refine vP_c G263 ?_
  refine vP_c G264 ?_
  refine vP_c G266 ?_
  refine vP_c G267 ?_
  refine vP_c G268 ?_
  refine vP_c G269 ?_
  refine vP_c G300 ?_
  refine vP_c G301 ?_
  refine vP_c G302 ?_
  refine vP_c G303 ?_
  refine vP_c G304 ?_
  refine vP_c G305 ?_
  refine vP_c G306 ?_
  refine vP_c G307 ?_
  refine vP_c G308 ?_
  refine vP_c G309 ?_
  refine vP_c G310 ?_
  refine vP_c G311 ?_
  refine vP_c G320 ?_
  refine vP_c G321 ?_
  refine vP_c G322 ?_
  refine vP_c G323 ?_
  refine vP_c G324 ?_
  refine vP_c G325 ?_
  refine vP_c G326 ?_
  refine vP_c G327 ?_
  refine vP_c G328 ?_
  refine vP_c G329 ?_
  refine vP_c G330 ?_
  refine vP_c G331 ?_
  refine vP_c G340 ?_
  refine vP_c G341 ?_
  refine vP_c G342 ?_
  refine vP_c G343 ?_
  refine vP_c G344 ?_
  refine vP_c G345 ?_
  refine vP_c G346 ?_
  refine vP_c G347 ?_
  refine vP_c G348 ?_
  refine vP_c G349 ?_
  refine vP_c G350 ?_
  refine vP_c G351 ?_
  refine vP_c G352 ?_
  refine vP_c G353 ?_
  refine vP_c G354 ?_
  refine vP_c G400 ?_
  refine vP_c G401 ?_
  refine vP_c G402 ?_
  refine vP_c G403 ?_
  refine vP_c G404 ?_
  refine vP_c G405 ?_
  refine vP_c G406 ?_
  refine vP_c G407 ?_
  refine vP_c G408 ?_
  refine vP_c G409 ?_
  refine vP_c G410 ?_
  refine vP_c G411 ?_
  refine vP_c G420 ?_
  refine vP_c G421 ?_
  refine vP_c G422 ?_
  refine vP_c G423 ?_
  refine vP_c G424 ?_
  refine vP_c G425 ?_
  refine vP_c G426 ?_
  refine vP_c G427 ?_
  refine vP_c G428 ?_
  refine vP_c G429 ?_
  refine vP_c G430 ?_
  refine vP_c G431 ?_
  refine vP_c G432 ?_
  refine vP_c G433 ?_
  refine vP_c G434 ?_
  refine vP_c G440 ?_
  refine vP_c G441 ?_
  refine vP_c G442 ?_
  refine vP_c G443 ?_
  refine vP_c G444 ?_
  refine vP_c G445 ?_
  refine vP_c G446 ?_
  refine vP_c G447 ?_
  refine vP_c G448 ?_
  refine vP_c G449 ?_
  refine vP_c G450 ?_
  refine vP_c G451 ?_
  refine vP_c G460 ?_
  refine vP_c G461 ?_
  refine vP_c G462 ?_
  refine vP_c G463 ?_
  refine vP_c G464 ?_
  refine vP_c G465 ?_
  refine vP_c G466 ?_
  refine vP_c G467 ?_
  refine vP_c G468 ?_
  refine vP_c G469 ?_
  refine vP_c G470 ?_
  refine vP_c G471 ?_
  refine vP_c G472 ?_
  refine vP_c G473 ?_
  refine vP_c G474 ?_
  refine vP_c G500 ?_
  refine vP_c G501 ?_
  refine vP_c G502 ?_
  refine vP_c G503 ?_
  refine vP_c G504 ?_
  refine vP_c G505 ?_
  refine vP_c G510 ?_
  refine vP_c G511 ?_
  refine vP_c G512 ?_
  refine vP_c G520 ?_
  refine vP_c G521 ?_
  refine vP_c G522 ?_
  refine vP_c G525 ?_
  refine vP_c G526 ?_
  refine vP_c G527 ?_
  refine vP_c G530 ?_
  refine vP_c G531 ?_
  refine vP_c G532 ?_
  refine vP_c G535 ?_
  refine vP_c G536 ?_
  refine vP_c G537 ?_
  refine vP_c G550 ?_
  exact vP_n
theorem mk_all : ∀ o ∈ z_ids, o ∈ mkL := by decide +kernel
theorem mk_len : mkL.length = 180 := by decide +kernel
theorem world_D (hA : hasA g b0) {A : Nat → Prop} (hq : ∀ q, b0 ≤ q → A q) : va_D A (z_wl g s0) := by
  refine ⟨fun i j p q hi hj e => ?_, fun k q h => ?_⟩
  · obtain ⟨o1, h1, e1, m1⟩ := z_addr hi
    obtain ⟨o2, h2, e2, m2⟩ := z_addr hj
    obtain ⟨p1, hp1⟩ := List.getElem?_of_mem (mk_all o1 m1)
    obtain ⟨p2, hp2⟩ := List.getElem?_of_mem (mk_all o2 m2)
    have e3 : p1 = p2 := by
      have a1 := hA p1 o1 hp1
      have a2 := hA p2 o2 hp2
      rw [e1, e2] at e
      omega
    subst e3
    cases Option.some.inj (hp1.symm.trans hp2)
    have hil : i < z_ids.length := (List.getElem?_eq_some_iff.mp h1).1
    exact (List.getElem?_inj hil z_ids_nd).mp (h1.trans h2.symm)
  · obtain ⟨o1, h1, e1, m1⟩ := z_addr h
    obtain ⟨p1, hp1⟩ := List.getElem?_of_mem (mk_all o1 m1)
    rw [e1, hA p1 o1 hp1]
    exact hq _ (Nat.le_add_right _ _)
end Z9i
