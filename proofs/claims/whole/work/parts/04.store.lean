-- ROWS OF THE STORE: fields, arrays, calls, ends
section ZHs
variable {α : Type} {g : ZG} {d : Nat} {y : ZMI} {u : ZU} {pc : Nat} {L : List (Nat × Value)} {S : List Value} {σ : ZSt} {t : Option α} {K : α → (Option (Option Value)) × ZSt × Nat}
/-- what the tables say of a class of the world -/
def ZCL (c : Nat) (R : String) (T : u_T) (N : Nat) : Prop := z_cls[c]? = some (R, T, N) ∧ (∀ w ∈ u_ws R T N, w ∈ GW) ∧ N = z_nf c ∧ (∃ ty0 : Nat → FieldType, ∀ k, k < N → parseFieldDescriptor (T k).2.2.1 = some (ty0 k)) ∧ (∀ a, a < N → ∀ b, b < N → a ≠ b → (T a).2.1 ≠ (T b).2.1)
/-- .. and of a field's place in a pool -/
def ZFL (own : String) (ix c j : Nat) : Prop := ∃ R T N, ZCL c R T N ∧ j < N ∧ Cond.fieldLink own ix (T j).1 (T j).2.1 (T j).2.2.1 ∈ GW
def ZFP (own : String) (ix c j : Nat) (ty : FieldType) : Prop := ∃ R T N, ZCL c R T N ∧ j < N ∧ Cond.fieldLink own ix (T j).1 (T j).2.1 (T j).2.2.1 ∈ GW ∧ (T j).2.2.2 = false ∧ parseFieldDescriptor (T j).2.2.1 = some ty
theorem z_addr {g : ZG} {σ : ZSt} {k : Nat} {q : Nat × va_E} (h : (z_wl g σ)[k]? = some q) : ∃ o, z_ids[k]? = some o ∧ q.1 = g.2.2.2 o ∧ o ∈ z_ids := by
  simp only [z_wl, List.getElem?_map, Option.map_eq_some_iff] at h
  obtain ⟨o, h1, rfl⟩ := h
  exact ⟨o, h1, rfl, List.mem_of_getElem? h1⟩
theorem z_wlk {g : ZG} {σ τ : ZSt} {k : Nat} {q : Nat × va_E} (h : (z_wl g σ)[k]? = some q) : ∃ q', (z_wl g τ)[k]? = some q' ∧ q'.1 = q.1 := by
  obtain ⟨o, h1, h2, h3⟩ := z_addr h
  exact ⟨(g.2.2.2 o, z_ct g τ o), by simp [z_wl, h1], h2.symm⟩
/-- that the addresses are apart says nothing of what lies there -/
theorem z_D {g : ZG} {σ τ : ZSt} {A B : Nat → Prop} (h : va_D A (z_wl g σ)) (hB : ∀ o, o ∈ z_ids → B (g.2.2.2 o)) : va_D B (z_wl g τ) := by
  refine ⟨fun i j p q hi hj hpq => ?_, fun k q hk => ?_⟩
  · obtain ⟨p', h1, h2⟩ := z_wlk (τ := σ) hi
    obtain ⟨q', h3, h4⟩ := z_wlk (τ := σ) hj
    exact h.1 i j p' q' h1 h3 (by rw [h2, h4, hpq])
  · obtain ⟨o, -, h2, h3⟩ := z_addr hk
    rw [h2]
    exact hB o h3
theorem z_Aid {g : ZG} {sz o : Nat} (h : o ∈ z_ids) : z_A g sz (g.2.2.2 o) := Or.inl ⟨o, h, rfl⟩
theorem z_rng {g : ZG} {σ : ZSt} {o c j : Nat} (hj : j < z_nf c) : ((List.range (z_nf c)).map (fun j => z_fv g σ o c j))[j]? = some (z_fv g σ o c j) := by simp [hj]
theorem z_fv_0 {g : ZG} {σ : ZSt} {o c j : Nat} (h : z_fk c j = 0) : z_fv g σ o c j = .int (gi σ o j) := by unfold z_fv; rw [h]; rfl
theorem z_fv_1 {g : ZG} {σ : ZSt} {o c j : Nat} (h : z_fk c j = 1) : z_fv g σ o c j = .long (gl σ o j) := by unfold z_fv; rw [h]; rfl
theorem z_fv_2 {g : ZG} {σ : ZSt} {o c j : Nat} (h : z_fk c j = 2) : z_fv g σ o c j = .ref (g.2.2.2 (z_rf c o j)) := by unfold z_fv; rw [h]; rfl
theorem z_fv_3 {g : ZG} {σ : ZSt} {o c j : Nat} (h : z_fk c j = 3) : z_fv g σ o c j = .ref (g.2.2.2 (gi σ o j).toNatClampNeg) := by unfold z_fv; rw [h]; rfl
/-- reading a field, whatever it is -/
theorem ZO.getV {o c j ix : Nat} {v : Value} {rest : List Value} (hd : decode y.2.1 pc = .ok (.getfield ix, 3)) (ho : z_isO o c = true) (hf : ZFL y.1.cls ix c j) (hv : ∀ g : ZG, z_fv g σ o c j = z_v g v) (k : ZO g d y u (pc + 3) L (v :: rest) σ t K) : ZO g d y u pc L (.ref o :: rest) σ t K := by
  refine ZO.lift (fun p e R s m args below meth c' hC Z H locs ls hR hL kk => ?_) k
  obtain ⟨hx, hb, hml, hown, hts, hlk, hK, hrm, hXs, hsc⟩ := hC
  obtain ⟨hP, hD, hS⟩ := hR
  obtain ⟨hid, hkd⟩ := z_isO_id ho
  obtain ⟨Rn, T, N, ⟨hc, hin, hN, -, -⟩, hj, hlink⟩ := hf
  obtain ⟨i, -, hi⟩ := z_at g σ hid
  rw [z_ct_o hkd] at hi
  refine va_get hx hb hts (fun w hw => z_wsi (hin w hw)) hown hK hP i hi hc j hj (hts _ (z_wsi hlink)) (fun _ h9 => h9) (v := z_v g v) ?_ hd (kk H locs ls ⟨hP, hD, hS⟩ hL)
  rw [z_rng (by rw [← hN]; exact hj), hv g]
theorem ZO.getI {o c j ix : Nat} {rest : List Value} (hd : decode y.2.1 pc = .ok (.getfield ix, 3)) (ho : z_isO o c = true) (hf : ZFL y.1.cls ix c j) (hk : z_fk c j = 0) (k : ZO g d y u (pc + 3) L (.int (gi σ o j) :: rest) σ t K) : ZO g d y u pc L (.ref o :: rest) σ t K := ZO.getV hd ho hf (fun g => z_fv_0 hk) k
theorem ZO.getJ {o c j ix : Nat} {rest : List Value} (hd : decode y.2.1 pc = .ok (.getfield ix, 3)) (ho : z_isO o c = true) (hf : ZFL y.1.cls ix c j) (hk : z_fk c j = 1) (k : ZO g d y u (pc + 3) L (.long (gl σ o j) :: rest) σ t K) : ZO g d y u pc L (.ref o :: rest) σ t K := ZO.getV hd ho hf (fun g => z_fv_1 hk) k
theorem ZO.getA {o c j ix : Nat} (w : Nat) {rest : List Value} (hd : decode y.2.1 pc = .ok (.getfield ix, 3)) (ho : z_isO o c = true) (hf : ZFL y.1.cls ix c j) (hk : z_fk c j = 2) (hw : z_rf c o j = w) (k : ZO g d y u (pc + 3) L (.ref w :: rest) σ t K) : ZO g d y u pc L (.ref o :: rest) σ t K := ZO.getV hd ho hf (fun g => by rw [z_fv_2 hk, hw]; rfl) k
theorem ZO.getD {o c j ix : Nat} {rest : List Value} (hd : decode y.2.1 pc = .ok (.getfield ix, 3)) (ho : z_isO o c = true) (hf : ZFL y.1.cls ix c j) (hk : z_fk c j = 3) (k : ZO g d y u (pc + 3) L (.ref (gi σ o j).toNatClampNeg :: rest) σ t K) : ZO g d y u pc L (.ref o :: rest) σ t K := ZO.getV hd ho hf (fun g => z_fv_3 hk) k
theorem z_fs_set {g : ZG} {σ τ : ZSt} {o c j : Nat} (hj : j < z_nf c) (h : ∀ i, i ≠ j → z_fv g τ o c i = z_fv g σ o c i) : ((List.range (z_nf c)).map (fun j => z_fv g σ o c j)).set j (z_fv g τ o c j) = (List.range (z_nf c)).map (fun j => z_fv g τ o c j) := by
  apply List.ext_getElem?
  intro i
  rw [List.getElem?_set]
  by_cases hi : j = i
  · subst hi
    simp [hj]
  · rw [if_neg hi]
    by_cases hi2 : i < z_nf c
    · simp [hi2, h i (fun e => hi e.symm)]
    · simp [hi2]
/-- writing a field -/
theorem ZO.putV {o c j ix : Nat} {v : Value} {ty : FieldType} {τ : ZSt} {rest : List Value} (hd : decode y.2.1 pc = .ok (.putfield ix, 3)) (ho : z_isO o c = true) (hf : ZFP y.1.cls ix c j ty) (hv : ∀ g : ZG, z_fv g τ o c j = z_v g v) (hn : ∀ g : ZG, narrow ty (z_v g v) = z_v g v ∧ fits ty (z_v g v) = true) (h1 : ∀ (g : ZG) (i : Nat), i ≠ j → z_fv g τ o c i = z_fv g σ o c i) (h2 : ∀ (g : ZG) (k : Nat), k ≠ o → z_ct g τ k = z_ct g σ k) (k : ZO g d y u (pc + 3) L rest τ t K) : ZO g d y u pc L (v :: .ref o :: rest) σ t K := by
  refine ZO.lift (fun p e R s m args below meth c' hC Z H locs ls hR hL kk => ?_) k
  obtain ⟨hx, hb, hml, hown, hts, hlk, hK, hrm, hXs, hsc⟩ := hC
  obtain ⟨hP, hD, hS⟩ := hR
  obtain ⟨hid, hkd⟩ := z_isO_id ho
  obtain ⟨Rn, T, N, ⟨hc, hin, hN, ⟨ty0, hty⟩, hnm⟩, hj, hlink, hfin, hdd⟩ := hf
  obtain ⟨i, hi0, hi⟩ := z_at g σ hid
  rw [z_ct_o hkd] at hi
  have hj' : j < z_nf c := by rw [← hN]; exact hj
  refine va_put hx hb hts (fun w hw => z_wsi (hin w hw)) ty0 hty hnm hown hK hP hD hS i hi hc j hj (hts _ (z_wsi hlink)) (fun _ h9 => h9) hfin hdd (v := z_v g v) (hn g).1 (hn g).2 (by simpa using hj') hd (fun H1 locs1 hP1 hD1 hS1 => kk H1 locs1 ls ⟨?_, ?_, hS1⟩ hL)
  · rw [← hv g, z_fs_set hj' (h1 g), ← z_ct_o (σ := τ) hkd, z_set hi0 (fun k _ hk => h2 g k hk)] at hP1
    exact hP1
  · rw [← hv g, z_fs_set hj' (h1 g), ← z_ct_o (σ := τ) hkd, z_set hi0 (fun k _ hk => h2 g k hk)] at hD1
    exact hD1
theorem z_fv_si {g : ZG} {σ : ZSt} {o c j i : Nat} {v : Int32} (h : i ≠ j) : z_fv g (si σ o j v) o c i = z_fv g σ o c i := by
  unfold z_fv
  have e : (si σ o j v).1 o i = σ.1 o i := by simp [si, h]
  rw [e]
  rfl
theorem z_fv_sl {g : ZG} {σ : ZSt} {o c j i : Nat} {v : Int64} (h : i ≠ j) : z_fv g (sl σ o j v) o c i = z_fv g σ o c i := by
  unfold z_fv
  have e : (sl σ o j v).2 o i = σ.2 o i := by simp [sl, h]
  rw [e]
  rfl
theorem gi_si {σ : ZSt} {o j : Nat} {v : Int32} : gi (si σ o j v) o j = v := by simp [gi, si]
theorem gl_sl {σ : ZSt} {o j : Nat} {v : Int64} : gl (sl σ o j v) o j = v := by simp [gl, sl]
theorem ZO.putI {o c j ix : Nat} {x : Int32} {rest : List Value} (hd : decode y.2.1 pc = .ok (.putfield ix, 3)) (ho : z_isO o c = true) (hf : ZFP y.1.cls ix c j .int) (hk : z_fk c j = 0) (k : ZO g d y u (pc + 3) L rest (si σ o j x) t K) : ZO g d y u pc L (.int x :: .ref o :: rest) σ t K :=
  ZO.putV hd ho hf (fun g => by rw [z_fv_0 hk, gi_si]; rfl) (fun g => ⟨rfl, rfl⟩) (fun g i hi => z_fv_si hi) (fun g k hk => z_ct_si hk) k
theorem ZO.putB {o c j ix : Nat} {x : Bool} {rest : List Value} (hd : decode y.2.1 pc = .ok (.putfield ix, 3)) (ho : z_isO o c = true) (hf : ZFP y.1.cls ix c j .boolean) (hk : z_fk c j = 0) (k : ZO g d y u (pc + 3) L rest (si σ o j (b2i x)) t K) : ZO g d y u pc L (.int (b2i x) :: .ref o :: rest) σ t K :=
  ZO.putV hd ho hf (fun g => by rw [z_fv_0 hk, gi_si]; rfl) (fun g => ⟨b2i_nar x, by cases x <;> rfl⟩) (fun g i hi => z_fv_si hi) (fun g k hk => z_ct_si hk) k
theorem ZO.putJ {o c j ix : Nat} {x : Int64} {rest : List Value} (hd : decode y.2.1 pc = .ok (.putfield ix, 3)) (ho : z_isO o c = true) (hf : ZFP y.1.cls ix c j .long) (hk : z_fk c j = 1) (k : ZO g d y u (pc + 3) L rest (sl σ o j x) t K) : ZO g d y u pc L (.long x :: .ref o :: rest) σ t K :=
  ZO.putV hd ho hf (fun g => by rw [z_fv_1 hk, gl_sl]; rfl) (fun g => ⟨rfl, rfl⟩) (fun g i hi => z_fv_sl hi) (fun g k hk => z_ct_sl hk) k
theorem ZO.putD {o c j ix w : Nat} {C : String} {rest : List Value} (hd : decode y.2.1 pc = .ok (.putfield ix, 3)) (ho : z_isO o c = true) (hf : ZFP y.1.cls ix c j (.object C)) (hk : z_fk c j = 3) (hw : w < 2 ^ 31) (k : ZO g d y u (pc + 3) L rest (si σ o j (nI w)) t K) : ZO g d y u pc L (.ref w :: .ref o :: rest) σ t K :=
  ZO.putV hd ho hf (fun g => by rw [z_fv_3 hk, gi_si, nI_clamp hw]; rfl) (fun g => ⟨rfl, rfl⟩) (fun g i hi => z_fv_si hi) (fun g k hk => z_ct_si hk) k
-- arrays
def ai (σ : ZSt) (a : Nat) (i : Int32) : Int32 := gi σ a i.toNatClampNeg
def al (σ : ZSt) (a : Nat) (i : Int32) : Int64 := gl σ a i.toNatClampNeg
def sai (σ : ZSt) (a : Nat) (i v : Int32) : ZSt := si σ a i.toNatClampNeg v
def sal (σ : ZSt) (a : Nat) (i : Int32) (v : Int64) : ZSt := sl σ a i.toNatClampNeg v
theorem ZO.iald {a n : Nat} {i : Int32} {rest : List Value} (hd : decode y.2.1 pc = .ok (.iaload, 1)) (ha : z_isA 1 a n = true) (hi : inb i n = true) (k : ZO g d y u (pc + 1) L (.int (ai σ a i) :: rest) σ t K) : ZO g d y u pc L (.int i :: .ref a :: rest) σ t K := by
  refine ZO.lift (fun p e R s m args below meth c' hC Z H locs ls hR hL kk => ?_) k
  obtain ⟨hx, hb, hml, hown, hts, hlk, hK, hrm, hXs, hsc⟩ := hC
  obtain ⟨hP, hD, hS⟩ := hR
  obtain ⟨hid, hkd⟩ := z_isA_id ha
  obtain ⟨q, -, hq⟩ := z_at g σ hid
  rw [z_ct_i hkd] at hq
  exact va_iald hx hb hK hP q 0 hq rfl (inb_vp hi) hd (kk H locs ls ⟨hP, hD, hS⟩ hL)
theorem ZO.lald {a n : Nat} {i : Int32} {rest : List Value} (hd : decode y.2.1 pc = .ok (.laload, 1)) (ha : z_isA 2 a n = true) (hi : inb i n = true) (k : ZO g d y u (pc + 1) L (.long (al σ a i) :: rest) σ t K) : ZO g d y u pc L (.int i :: .ref a :: rest) σ t K := by
  refine ZO.lift (fun p e R s m args below meth c' hC Z H locs ls hR hL kk => ?_) k
  obtain ⟨hx, hb, hml, hown, hts, hlk, hK, hrm, hXs, hsc⟩ := hC
  obtain ⟨hP, hD, hS⟩ := hR
  obtain ⟨hid, hkd⟩ := z_isA_id ha
  obtain ⟨q, -, hq⟩ := z_at g σ hid
  rw [z_ct_l hkd] at hq
  exact va_lald hx hb hK hP q 1 hq rfl (inb_vp hi) hd (kk H locs ls ⟨hP, hD, hS⟩ hL)
theorem ZO.bald {a n : Nat} {i : Int32} {rest : List Value} (hd : decode y.2.1 pc = .ok (.baload, 1)) (ha : z_isA 3 a n = true) (hi : inb i n = true) (k : ZO g d y u (pc + 1) L (.int (ai σ a i) :: rest) σ t K) : ZO g d y u pc L (.int i :: .ref a :: rest) σ t K := by
  refine ZO.lift (fun p e R s m args below meth c' hC Z H locs ls hR hL kk => ?_) k
  obtain ⟨hx, hb, hml, hown, hts, hlk, hK, hrm, hXs, hsc⟩ := hC
  obtain ⟨hP, hD, hS⟩ := hR
  obtain ⟨hid, hkd⟩ := z_isA_id ha
  obtain ⟨q, -, hq⟩ := z_at g σ hid
  rw [z_ct_z hkd] at hq
  exact va_zald hx hb hK hP q 2 hq rfl (inb_vp hi) hd (kk H locs ls ⟨hP, hD, hS⟩ hL)
theorem ZO.aald {a n q0 : Nat} {i : Int32} {rest : List Value} (hd : decode y.2.1 pc = .ok (.aaload, 1)) (hq0 : q0 < 3) (ha : z_isA (q0 + 4) a n = true) (hi : inb i n = true) (k : ZO g d y u (pc + 1) L (.ref (z_ra a i.toNatClampNeg) :: rest) σ t K) : ZO g d y u pc L (.int i :: .ref a :: rest) σ t K := by
  refine ZO.lift (fun p e R s m args below meth c' hC Z H locs ls hR hL kk => ?_) k
  obtain ⟨hx, hb, hml, hown, hts, hlk, hK, hrm, hXs, hsc⟩ := hC
  obtain ⟨hP, hD, hS⟩ := hR
  obtain ⟨hid, hkd⟩ := z_isA_id ha
  obtain ⟨q, -, hq⟩ := z_at g σ hid
  rw [z_ct_q hkd hq0] at hq
  rcases (show q0 = 0 ∨ q0 = 1 ∨ q0 = 2 by omega) with rfl | rfl | rfl
  · exact va_aldq hx hb hK hP q 3 hq rfl (inb_vp hi) hd (kk H locs ls ⟨hP, hD, hS⟩ hL)
  · exact va_aldq hx hb hK hP q 4 hq rfl (inb_vp hi) hd (kk H locs ls ⟨hP, hD, hS⟩ hL)
  · exact va_aldq hx hb hK hP q 5 hq rfl (inb_vp hi) hd (kk H locs ls ⟨hP, hD, hS⟩ hL)
theorem ZO.iast {a n : Nat} {i v : Int32} {rest : List Value} (hd : decode y.2.1 pc = .ok (.iastore, 1)) (ha : z_isA 1 a n = true) (hi : inb i n = true) (k : ZO g d y u (pc + 1) L rest (sai σ a i v) t K) : ZO g d y u pc L (.int v :: .int i :: .ref a :: rest) σ t K := by
  refine ZO.lift (fun p e R s m args below meth c' hC Z H locs ls hR hL kk => ?_) k
  obtain ⟨hx, hb, hml, hown, hts, hlk, hK, hrm, hXs, hsc⟩ := hC
  obtain ⟨hP, hD, hS⟩ := hR
  obtain ⟨hid, hkd⟩ := z_isA_id ha
  obtain ⟨q, hq0, hq⟩ := z_at g σ hid
  rw [z_ct_i hkd] at hq
  have e : (upd (σ.1 a) i.toNatClampNeg v) = (sai σ a i v).1 a := by funext b; simp [upd, sai, si]
  refine va_iast hx hb hK hP hD hS q 0 hq rfl (inb_vp hi) hd (fun H1 locs1 hP1 hD1 hS1 => kk H1 locs1 ls ⟨?_, ?_, hS1⟩ hL)
  · rw [e, ← z_ct_i (σ := sai σ a i v) hkd, z_set (τ := sai σ a i v) hq0 (fun k _ hk => z_ct_si hk)] at hP1
    exact hP1
  · rw [e, ← z_ct_i (σ := sai σ a i v) hkd, z_set (τ := sai σ a i v) hq0 (fun k _ hk => z_ct_si hk)] at hD1
    exact hD1
theorem ZO.bast {a n : Nat} {i : Int32} {v : Bool} {rest : List Value} (hd : decode y.2.1 pc = .ok (.bastore, 1)) (ha : z_isA 3 a n = true) (hi : inb i n = true) (k : ZO g d y u (pc + 1) L rest (sai σ a i (b2i v)) t K) : ZO g d y u pc L (.int (b2i v) :: .int i :: .ref a :: rest) σ t K := by
  refine ZO.lift (fun p e R s m args below meth c' hC Z H locs ls hR hL kk => ?_) k
  obtain ⟨hx, hb, hml, hown, hts, hlk, hK, hrm, hXs, hsc⟩ := hC
  obtain ⟨hP, hD, hS⟩ := hR
  obtain ⟨hid, hkd⟩ := z_isA_id ha
  obtain ⟨q, hq0, hq⟩ := z_at g σ hid
  rw [z_ct_z hkd] at hq
  have e0 : vp_nar .boolean (b2i v) = b2i v := by cases v <;> rfl
  have e : (upd (σ.1 a) i.toNatClampNeg (b2i v)) = (sai σ a i (b2i v)).1 a := by funext b; simp [upd, sai, si]
  refine va_zast hx hb hK hP hD hS q 2 hq rfl (inb_vp hi) hd (fun H1 locs1 hP1 hD1 hS1 => kk H1 locs1 ls ⟨?_, ?_, hS1⟩ hL)
  · rw [e0, e, ← z_ct_z (σ := sai σ a i (b2i v)) hkd, z_set (τ := sai σ a i (b2i v)) hq0 (fun k _ hk => z_ct_si hk)] at hP1
    exact hP1
  · rw [e0, e, ← z_ct_z (σ := sai σ a i (b2i v)) hkd, z_set (τ := sai σ a i (b2i v)) hq0 (fun k _ hk => z_ct_si hk)] at hD1
    exact hD1
theorem ZO.last {a n : Nat} {i : Int32} {v : Int64} {rest : List Value} (hd : decode y.2.1 pc = .ok (.lastore, 1)) (ha : z_isA 2 a n = true) (hi : inb i n = true) (k : ZO g d y u (pc + 1) L rest (sal σ a i v) t K) : ZO g d y u pc L (.long v :: .int i :: .ref a :: rest) σ t K := by
  refine ZO.lift (fun p e R s m args below meth c' hC Z H locs ls hR hL kk => ?_) k
  obtain ⟨hx, hb, hml, hown, hts, hlk, hK, hrm, hXs, hsc⟩ := hC
  obtain ⟨hP, hD, hS⟩ := hR
  obtain ⟨hid, hkd⟩ := z_isA_id ha
  obtain ⟨q, hq0, hq⟩ := z_at g σ hid
  rw [z_ct_l hkd] at hq
  have e : (vp_updL (σ.2 a) i.toNatClampNeg v) = (sal σ a i v).2 a := by funext b; simp [vp_updL, sal, sl]
  refine va_last hx hb hK hP hD hS q 1 hq rfl (inb_vp hi) hd (fun H1 locs1 hP1 hD1 hS1 => kk H1 locs1 ls ⟨?_, ?_, hS1⟩ hL)
  · rw [e, ← z_ct_l (σ := sal σ a i v) hkd, z_set (τ := sal σ a i v) hq0 (fun k _ hk => z_ct_sl hk)] at hP1
    exact hP1
  · rw [e, ← z_ct_l (σ := sal σ a i v) hkd, z_set (τ := sal σ a i v) hq0 (fun k _ hk => z_ct_sl hk)] at hD1
    exact hD1
theorem ZO.alen {a n : Nat} (v : Int32) {rest : List Value} (hd : decode y.2.1 pc = .ok (.arraylength, 1)) (ha : z_isA 1 a n = true) (hv : Int32.ofNat n = v) (k : ZO g d y u (pc + 1) L (.int v :: rest) σ t K) : ZO g d y u pc L (.ref a :: rest) σ t K := by
  refine ZO.lift (fun p e R s m args below meth c' hC Z H locs ls hR hL kk => ?_) k
  obtain ⟨hx, hb, hml, hown, hts, hlk, hK, hrm, hXs, hsc⟩ := hC
  obtain ⟨hP, hD, hS⟩ := hR
  obtain ⟨hid, hkd⟩ := z_isA_id ha
  obtain ⟨q, -, hq⟩ := z_at g σ hid
  rw [z_ct_i hkd] at hq
  exact va_alen hx hb hK hP q 0 hq rfl hv hd (kk H locs ls ⟨hP, hD, hS⟩ hL)
/-- the script: object 600 -/
theorem ZO.sld {Ls : Nat} {xs : Nat → Int32} {i : Int32} {rest : List Value} (hu : u.1.1 = some (Ls, xs)) (hd : decode y.2.1 pc = .ok (.iaload, 1)) (hi : inb i Ls = true) (k : ZO g d y u (pc + 1) L (.int (xs i.toNatClampNeg) :: rest) σ t K) : ZO g d y u pc L (.int i :: .ref 600 :: rest) σ t K := by
  refine ZO.lift (fun p e R s m args below meth c' hC Z H locs ls hR hL kk => ?_) k
  obtain ⟨hx, hb, hml, hown, hts, hlk, hK, hrm, hXs, hsc⟩ := hC
  obtain ⟨h1, h2, h3⟩ := hsc.2 _ _ hu
  exact va_sld hx hb h1 h2 h3 hR.2.2 (inb_vp hi) hd (kk H locs ls hR hL)
theorem ZO.slen {Ls : Nat} {xs : Nat → Int32} {rest : List Value} (hu : u.1.1 = some (Ls, xs)) (hd : decode y.2.1 pc = .ok (.arraylength, 1)) (k : ZO g d y u (pc + 1) L (.int (Int32.ofNat Ls) :: rest) σ t K) : ZO g d y u pc L (.ref 600 :: rest) σ t K := by
  refine ZO.lift (fun p e R s m args below meth c' hC Z H locs ls hR hL kk => ?_) k
  obtain ⟨hx, hb, hml, hown, hts, hlk, hK, hrm, hXs, hsc⟩ := hC
  obtain ⟨h1, h2, h3⟩ := hsc.2 _ _ hu
  exact va_slen hx hb h1 h2 h3 hR.2.2 hd (kk H locs ls hR hL)
-- ends
theorem ZO.iret {v : Int32} {a : α} (hd : decode y.2.1 pc = .ok (.ireturn, 1)) (hr : y.2.2.2 = some .int) (ht : t = some a) (hK : K a = (some (some (.int v)), σ, 0)) : ZO g d y u pc L [.int v] σ t K := by
  intro b hb p e R s m args below meth c hC Z hE H locs ls hR hL
  rw [ht] at hb; cases hb
  exact hE.here.1 pc H locs ls σ v .int hd hr rfl hR ⟨by rw [hK], by rw [hK]⟩
theorem ZO.zret {v : Bool} {a : α} (hd : decode y.2.1 pc = .ok (.ireturn, 1)) (hr : y.2.2.2 = some .boolean) (ht : t = some a) (hK : K a = (some (some (.int (b2i v))), σ, 0)) : ZO g d y u pc L [.int (b2i v)] σ t K := by
  intro b hb p e R s m args below meth c hC Z hE H locs ls hR hL
  rw [ht] at hb; cases hb
  exact hE.here.1 pc H locs ls σ (b2i v) .boolean hd hr (b2i_nar v) hR ⟨by rw [hK], by rw [hK]⟩
theorem ZO.lret {v : Int64} {a : α} (hd : decode y.2.1 pc = .ok (.lreturn, 1)) (hr : y.2.2.2 = some .long) (ht : t = some a) (hK : K a = (some (some (.long v)), σ, 0)) : ZO g d y u pc L [.long v] σ t K := by
  intro b hb p e R s m args below meth c hC Z hE H locs ls hR hL
  rw [ht] at hb; cases hb
  exact hE.here.2.1 pc H locs ls σ v hd hr hR ⟨by rw [hK], by rw [hK]⟩
theorem ZO.aret {v : Nat} {C : String} {a : α} (hd : decode y.2.1 pc = .ok (.areturn, 1)) (hr : y.2.2.2 = some (.object C)) (ht : t = some a) (hK : K a = (some (some (.ref v)), σ, 0)) : ZO g d y u pc L [.ref v] σ t K := by
  intro b hb p e R s m args below meth c hC Z hE H locs ls hR hL
  rw [ht] at hb; cases hb
  exact hE.here.2.2.1 pc H locs ls σ v C hd hr hR ⟨by rw [hK], by rw [hK]⟩
theorem ZO.vret {a : α} (hd : decode y.2.1 pc = .ok (.return_, 1)) (hr : y.2.2.2 = none) (ht : t = some a) (hK : K a = (some none, σ, 0)) : ZO g d y u pc L [] σ t K := by
  intro b hb p e R s m args below meth c hC Z hE H locs ls hR hL
  rw [ht] at hb; cases hb
  exact hE.here.2.2.2.1 pc H locs ls σ hd hr hR ⟨by rw [hK], by rw [hK]⟩
theorem ZO.thr {a : α} (ht : t = some a) (hK : K a = (none, σ, pc)) : ZO g d y u pc L [] σ t K := by
  intro b hb p e R s m args below meth c hC Z hE H locs ls hR hL
  rw [ht] at hb; cases hb
  exact hE.here.2.2.2.2 pc H locs ls σ ⟨by rw [hK], by rw [hK], by rw [hK]⟩ hR hL.1
-- contracts
def ZMr (d : Nat) : Room := { frames := d, cells := 0, slots := 0, locals := 40 * d }
def ZMQ (g : ZG) (sz : Nat) (Q : Option Value → ZSt → Prop) : Array Value → State → Outcome → State → Prop := fun _ st o t =>
  (∃ (r : Option Value) (τ : ZSt), o = .returned (r.map (z_v g)) ∧ Q r τ ∧ va_P g.2.1 z_cls (z_wl g τ) t.heap) ∧ va_F (z_A g sz) st t
def ZMP (g : ZG) (As : List Value) (σ : ZSt) (sz : Nat) : Array Value → State → Prop :=
  va_Pc (As.map (z_v g)) (fun U => U.heap.size = sz ∧ va_P g.2.1 z_cls (z_wl g σ) U.heap ∧ va_K g.2.1 z_cls (z_tys g) U ∧ va_D (fun _ => True) (z_wl g σ) ∧ ZX g U)
def ZM (g : ZG) (d : Nat) (y : ZMI) (As : List Value) (σ : ZSt) (Q : Option Value → ZSt → Prop) : Prop :=
  ∀ sz : Nat, Met g.1 y.1 (z_ws y) (ZMr d) (ZMP g As σ sz) (ZMQ g sz Q) 0 0 (z_A g sz)
theorem z_args (g : ZG) (As : List Value) : ∀ i, lv_args i (As.map (z_v g)) = z_vl g (lv_args i As) := by
  induction As with
  | nil => intro i; rfl
  | cons v vs ih =>
    intro i
    simp only [List.map_cons, lv_args, z_vl, z_cat]
    rw [ih]
    rfl
theorem z_sllen (g : ZG) (As : List Value) : (lg_sl (As.map (z_v g))).length = (lg_sl As).length := by
  induction As with
  | nil => rfl
  | cons v vs ih =>
    simp only [lg_sl, List.map_cons, List.flatMap_cons, List.length_append, z_cat] at ih ⊢
    rw [ih]
    congr 1
    split <;> rfl
theorem ZM.of {As : List Value} {Q : Option Value → ZSt → Prop} (hy : plainName y.1.cls = true) (hlen : (lg_sl As).length ≤ y.2.2.1) (h : ZW g d y zu0 0 (lv_args 0 As) [] σ Q (fun _ _ => False)) : ZM g d y As σ Q := by
  intro sz
  refine Met.ofW (cc := y.2.1) (maxL := y.2.2.1) (ret := y.2.2.2) (ws' := GW) hy rfl ?_
  intro p e s m args below meth c s₁ B hml hv
  obtain ⟨rfl, hsz, hP, hK, hD0, hXs⟩ := hv
  subst hsz
  have hr := B.returns
  have hlocks := B.notSynchronized
  have hx := B.exec
  have hb := B.bytes
  have htab : c.exceptionTable.toList = tableOf [] := by
    obtain ⟨meth9, c9, h1, h2, -, -, -, -, h7, -⟩ := Cond.code_spec B.named (atoms_spec (ws := z_ws y) B.pre _ List.mem_cons_self)
    cases Option.some.inj (h1.symm.trans B.method)
    cases Option.some.inj (h2.symm.trans (Stand.of_body B).code)
    rw [Array.isEmpty_iff.mp h7]
    rfl
  have hC : ZC g d y zu0 p (headSpec (z_ws y) (ZMr d)).room s m ((As.map (z_v g)).toArray) meth c :=
    ⟨B.exec, B.bytes, hml, findClass_of_methodNamed B.named, fun w hw => atoms_spec (ws := z_ws y) B.pre w (z_wsm hw), hlocks, hK, ⟨Nat.le_refl _, Nat.le_refl _, Nat.le_refl _, Nat.le_refl _⟩, hXs, htab, fun L xs h => by cases h⟩
  have hl := lv_entry (As.map (z_v g)) (n := y.2.2.1) (by rw [z_sllen]; exact hlen)
  rw [lg_entry_eq]
  generalize (lg_sl (As.map (z_v g)) ++ List.replicate (y.2.2.1 - (lg_sl (As.map (z_v g))).length) Slot.unset).toArray = ls at hl ⊢
  refine h p e _ s m _ below meth c hC _ (fun k0 n0 hk0 => ?_) s.heap [] ls ⟨hP, z_D hD0 (fun o ho => z_Aid ho), va_S.rf⟩ (by rw [z_args] at hl; exact hl)
  obtain ⟨rfl, rfl⟩ : k0 = 0 ∧ n0 = 0 := ⟨Nat.le_zero.mp hk0.1.2, Nat.le_zero.mp hk0.2.2⟩
  refine ⟨?_, ?_, ?_, ?_, ?_⟩
  · intro pc H locs ls τ v ty hd hty hn hR hQ
    exact W.zret hx hb (hr.trans hty) hn (fun t ht hW => ⟨⟨some (.int v), τ, rfl, hQ, by rw [ht]; exact hR.1⟩, hR.2.2.F ht⟩) hR.2.2.2.2 hd
  · intro pc H locs ls τ v hd hty hR hQ
    exact W.lret hx hb (hr.trans hty) (fun t ht hW => ⟨⟨some (.long v), τ, rfl, hQ, by rw [ht]; exact hR.1⟩, hR.2.2.F ht⟩) hR.2.2.2.2 hd
  · intro pc H locs ls τ v C hd hty hR hQ
    exact W.aret hx hb (hr.trans hty) (Or.inl ⟨C, rfl⟩) (Or.inr ⟨_, rfl⟩) (fun t ht hW => ⟨⟨some (.ref v), τ, rfl, hQ, by rw [ht]; exact hR.1⟩, hR.2.2.F ht⟩) hR.2.2.2.2 hd
  · intro pc H locs ls τ hd hty hR hQ
    exact W.vret hx hb (hr.trans hty) (fun t ht hW => ⟨⟨none, τ, rfl, hQ, by rw [ht]; exact hR.1⟩, hR.2.2.F ht⟩) hR.2.2.2.2 hd
  · intro pc H locs ls τ hq
    exact hq.elim
/-- a method against its program -/
def ZF {β : Type} (g : ZG) (d : Nat) (y : ZMI) (As : List Value) (σ : ZSt) (t : Option β) (rv : β → Option Value) (sv : β → ZSt) : Prop := ∀ b, t = some b → ZM g d y As σ (fun r τ => r = rv b ∧ τ = sv b)
theorem ZF.of {β : Type} {As : List Value} {t : Option β} {rv : β → Option Value} {sv : β → ZSt} (hy : plainName y.1.cls = true) (hlen : (lg_sl As).length ≤ y.2.2.1) (h : ZO g d y zu0 0 (lv_args 0 As) [] σ t (fun b => (some (rv b), sv b, 0))) : ZF g d y As σ t rv sv := by
  intro b hb
  refine ZM.of hy hlen ?_
  have h1 := h b hb
  intro p e R s m args below meth c hC Z hE H locs ls hR hL
  refine h1 p e R s m args below meth c hC Z (fun k0 n0 hk0 => ?_) H locs ls hR hL
  have hE := hE k0 n0 hk0
  refine ⟨?_, ?_, ?_, ?_, ?_⟩
  · intro pc H locs ls τ v ty a1 a2 a3 a4 a5
    exact hE.1 pc H locs ls τ v ty a1 a2 a3 a4 ⟨(Option.some.inj a5.1).symm, a5.2.symm⟩
  · intro pc H locs ls τ v a1 a2 a4 a5
    exact hE.2.1 pc H locs ls τ v a1 a2 a4 ⟨(Option.some.inj a5.1).symm, a5.2.symm⟩
  · intro pc H locs ls τ v C a1 a2 a4 a5
    exact hE.2.2.1 pc H locs ls τ v C a1 a2 a4 ⟨(Option.some.inj a5.1).symm, a5.2.symm⟩
  · intro pc H locs ls τ a1 a2 a4 a5
    exact hE.2.2.2.1 pc H locs ls τ a1 a2 a4 ⟨(Option.some.inj a5.1).symm, a5.2.symm⟩
  · intro pc H locs ls τ a1
    exact absurd a1.1 (by simp)
-- calls
/-- what the tables say of a call by its place in a pool -/
def ZCV (own : String) (ix : Nat) (y : ZMI) (n : Nat) : Prop :=
  Cond.methodLink own ix y.1 ∈ GW ∧ Cond.instanceMethod y.1 ∈ GW ∧ Cond.selects y.1.cls y.1 y.1 ∈ GW ∧ Cond.initialized y.1.cls ∈ GW ∧ Cond.code y.1 y.2.1 y.2.2.1 y.2.2.2 ∈ GW ∧ (y.1.cls ≠ "java/lang/invoke/MethodHandle" ∧ y.1.cls ≠ "java/lang/invoke/VarHandle") ∧ (parseMethodDescriptor y.1.desc).map (fun d => d.parameters.length) = some n ∧ y.2.2.1 ≤ 21
def ZCS (own : String) (ix : Nat) (y : ZMI) (n : Nat) : Prop :=
  Cond.methodLink own ix y.1 ∈ GW ∧ Cond.static y.1 ∈ GW ∧ Cond.initialized y.1.cls ∈ GW ∧ Cond.code y.1 y.2.1 y.2.2.1 y.2.2.2 ∈ GW ∧ (y.1.cls ≠ "java/lang/invoke/MethodHandle" ∧ y.1.cls ≠ "java/lang/invoke/VarHandle") ∧ (parseMethodDescriptor y.1.desc).map (fun d => d.parameters.length) = some n ∧ y.2.2.1 ≤ 21
theorem z_good {y' : ZMI} (hc : Cond.code y'.1 y'.2.1 y'.2.2.1 y'.2.2.2 ∈ GW) : GoodIn GW (z_ws y') := by
  intro w hw
  rcases List.mem_cons.mp hw with rfl | h
  · exact ⟨z_wsi hc, good_of_word (gw_g hc)⟩
  · exact ⟨z_wsi h, good_of_word (gw_g h)⟩
theorem z_blind {g : ZG} {As : List Value} {σ : ZSt} {sz : Nat} : FrameBlind (ZMP g As σ sz) := fun a U g' mk q => by
  obtain ⟨q0, q1, qP, qK, qD, qX⟩ := q
  refine ⟨q0, q1, qP, va_K.moved (u := U) (U := U.calling g' mk a) (Vm.Alike.refl U.vm) qK, qD, ?_⟩
  exact qX.blind g' mk a
/-- behind a call -/
theorem ZO.after {β : Type} {y' : ZMI} {As : List Value} {t' : Option β} {rv : β → Option Value} {sv : β → ZSt} {f : β → Option α} {d' : Nat} {rest : List Value}
    (hF : ZF g d' y' As σ t' rv sv)
    (hrun : ∀ p e R s m args below meth c, ZC g d y u p R s m args meth c → ∀ H locs ls, ZR g s σ H locs → ZL g y L ls → ∀ b, t' = some b →
      va_Run p g.1 e R s m args below meth c H locs u.2.1 u.2.2 0 0 (F0 m pc ls (S.map (z_v g))) (rest.map (z_v g)) (ZMQ g H.size (fun r τ => r = rv b ∧ τ = sv b) ((As.map (z_v g)).toArray)) (z_A g H.size))
    (k : ∀ b, t' = some b → ZO g d y u (pc + 3) L ((rv b).toList ++ rest) (sv b) (f b) K) : ZO g d y u pc L S σ (bn t' f) K := by
  intro a ha p e R s m args below meth c hC Z hE H locs ls hR hL
  obtain ⟨b, hb, hfb⟩ := Option.bind_eq_some_iff.mp ha
  have hr := hrun p e R s m args below meth c hC H locs ls hR hL b hb
  intro T hT X
  obtain ⟨v, st₀, t1, T', L1, h0, X', hL1, e1, e2, ⟨⟨r, τ, hv, ⟨hr1, hτ⟩, hP1⟩, hz, hk⟩, st⟩ := hr T hT X
  subst hr1
  subst hτ
  cases hv
  rw [h0] at hz hk
  obtain ⟨hP, hD, hS⟩ := hR
  have hR' : ZR g s (sv b) T'.heap (locs ++ L1) := by
    refine ⟨by rw [e1]; exact hP1, z_D hD (fun o ho => z_Aid ho), ⟨Nat.le_trans hS.1 (by rw [e1]; exact hz), ?_, ?_⟩⟩
    · intro q h1 h2
      rw [e1, hk q (Nat.lt_of_lt_of_le h1 hS.1) ?_]
      · exact hS.2.1 q h1 h2
      · intro hq
        rcases hq with ⟨o, ho, rfl⟩ | hq
        · exact h2 (z_Aid ho)
        · exact absurd (Nat.le_trans hS.1 hq) (Nat.not_le.mpr h1)
    · intro q hq
      rcases List.mem_append.mp hq with h | h
      · exact hS.2.2 q h
      · rcases hL1 q h with ⟨o, ho, e⟩ | h2
        · rw [e]; exact z_Aid ho
        · exact Or.inr (Nat.le_trans hS.1 h2)
  obtain ⟨t2, a1, b1⟩ := k b hb a hfb p e R s m args below meth c hC Z hE T'.heap (locs ++ L1) ls hR' hL T' rfl X'
  refine ⟨t2, st t2 ?_, b1⟩
  have e9 : ((rv b).map (z_v g)).toList ++ rest.map (z_v g) = ((rv b).toList ++ rest).map (z_v g) := by
    cases rv b <;> simp
  rw [e9]
  exact a1
theorem ZO.callV {β : Type} {y' : ZMI} {o c n ix d' : Nat} {As rest : List Value} {t' : Option β} {rv : β → Option Value} {sv : β → ZSt} {f : β → Option α}
    (hd : decode y.2.1 pc = .ok (.invokevirtual ix, 3)) (hw : ZCV y.1.cls ix y' n) (hdd : d' < d) (ho : z_isO o c = true) (hc : (z_cls[c]?).map (fun q => q.1) = some y'.1.cls) (hn : As.length = n) (hS : S = As.reverse ++ .ref o :: rest) (hcat : (rest.map fun v => v.category).sum ≤ 8)
    (hF : ZF g d' y' (.ref o :: As) σ t' rv sv)
    (k : ∀ b, t' = some b → ZO g d y u (pc + 3) L ((rv b).toList ++ rest) (sv b) (f b) K) : ZO g d y u pc L S σ (bn t' f) K := by
  refine ZO.after hF (rest := rest) (fun p e R s m args below meth c' hC H locs ls hR hL b hb => ?_) k
  obtain ⟨hx, hb', hml, hown, hts, hlk, hK, ⟨hr1, hr2, hr3, hr4⟩, hXs, hsc⟩ := hC
  obtain ⟨w1, w2, w3, w4, w5, w6, w7, w8⟩ := hw
  obtain ⟨hP, hD, hS1⟩ := hR
  obtain ⟨hid, hkd⟩ := z_isO_id ho
  obtain ⟨i, -, hi⟩ := z_at g σ hid
  rw [z_ct_o hkd] at hi
  have hG : GoodIn GW (wsV y.1.cls ix y'.1.cls y'.1 (z_ws y')) := by
    intro w hw
    simp only [wsV, List.mem_append, List.mem_cons, List.not_mem_nil, or_false] at hw
    rcases hw with (rfl | rfl | rfl | rfl) | h
    · exact ⟨z_wsi w1, good_of_word (gw_g w1)⟩
    · exact ⟨z_wsi w2, good_of_word (gw_g w2)⟩
    · exact ⟨z_wsi w3, good_of_word (gw_g w3)⟩
    · exact ⟨z_wsi w4, good_of_word (gw_g w4)⟩
    · exact z_good w5 w h
  have hcq : ∃ q : vw_C, z_cls[c]? = some q ∧ q.1 = y'.1.cls := by
    cases hq : z_cls[c]? with
    | none => rw [hq] at hc; cases hc
    | some q => rw [hq] at hc; exact ⟨q, rfl, Option.some.inj hc⟩
  obtain ⟨q, hq1, hq2⟩ := hcq
  have hrecv := va_recv hK hP (ci := c) (q0 := i) hq1 hi
  rw [hq2] at hrecv
  have hcw := cwV (R := R) (args := args) (mc := 0) (ms := 0) (rm := ZMr d') n hts hG rfl rfl rfl ⟨rfl, w6.1, w6.2, w7⟩ ⟨by show d' + 1 ≤ R.frames; omega, by show 8 + (y'.2.2.1 + 11) + 40 * d' ≤ R.locals; omega⟩
  have hlen : (As.map (z_v g)).length = n := by rw [List.length_map]; exact hn
  have hstk : (F0 m pc ls (S.map (z_v g))).stack = (As.map (z_v g)).reverse ++ .ref (g.2.2.2 o) :: rest.map (z_v g) := by
    subst hS
    simp [z_v]
  refine va_runV (As := As.map (z_v g)) (rest := rest.map (z_v g)) (nL := y.2.2.1) ⟨hx, hb', hml, hown, hts⟩ (hF b hb H.size) hcw ⟨z_blind, hrecv, fun U hU hW => ?_⟩ rfl hlen hL.1 hstk (lv_room ?_) hd ⟨by omega, by omega⟩
  · refine ⟨rfl, by rw [hU], by rw [hU]; exact hP, va_K.moved hW.alike hK, hD.weaken (fun _ _ _ _ => trivial), hXs.on hS1 hU hW⟩
  · rw [List.map_map]
    have e8 : ((fun v : Value => v.category) ∘ z_v g) = fun v => v.category := by funext v; exact z_cat g v
    rw [e8]; exact hcat
theorem ZO.callS {β : Type} {y' : ZMI} {n ix d' : Nat} {As rest : List Value} {t' : Option β} {rv : β → Option Value} {sv : β → ZSt} {f : β → Option α}
    (hd : decode y.2.1 pc = .ok (.invokestatic ix, 3)) (hw : ZCS y.1.cls ix y' n) (hdd : d' < d) (hn : As.length = n) (hS : S = As.reverse ++ rest) (hcat : (rest.map fun v => v.category).sum ≤ 8)
    (hF : ZF g d' y' As σ t' rv sv)
    (k : ∀ b, t' = some b → ZO g d y u (pc + 3) L ((rv b).toList ++ rest) (sv b) (f b) K) : ZO g d y u pc L S σ (bn t' f) K := by
  refine ZO.after hF (rest := rest) (fun p e R s m args below meth c' hC H locs ls hR hL b hb => ?_) k
  obtain ⟨hx, hb', hml, hown, hts, hlk, hK, ⟨hr1, hr2, hr3, hr4⟩, hXs, hsc⟩ := hC
  obtain ⟨w1, w2, w4, w5, w6, w7, w8⟩ := hw
  obtain ⟨hP, hD, hS1⟩ := hR
  have hcb := callB_of (R := R) (args := args) (mc := 0) (ms := 0) (rm := ZMr d') n hts (z_good w5) rfl rfl rfl (hts _ (z_wsi w4)) (hts _ (z_wsi w1)) ⟨w6.1, w6.2, w7⟩ ⟨by show d' + 1 ≤ R.frames; omega, by show 8 + (y'.2.2.1 + 11) + 40 * d' ≤ R.locals; omega⟩
  have hlen : (As.map (z_v g)).length = n := by rw [List.length_map]; exact hn
  have hstk : (F0 m pc ls (S.map (z_v g))).stack = (As.map (z_v g)).reverse ++ rest.map (z_v g) := by
    subst hS
    simp
  refine va_runS (As := As.map (z_v g)) (rest := rest.map (z_v g)) (nL := y.2.2.1) ⟨hx, hb', hml, hown, hts⟩ (hF b hb H.size) ⟨hcb, hts _ (z_wsi w2)⟩ ⟨z_blind, fun U hU hW => ?_⟩ rfl hlen hL.1 hstk (lv_room ?_) hd ⟨by omega, by omega⟩
  · refine ⟨rfl, by rw [hU], by rw [hU]; exact hP, va_K.moved hW.alike hK, hD.weaken (fun _ _ _ _ => trivial), hXs.on hS1 hU hW⟩
  · rw [List.map_map]
    have e8 : ((fun v : Value => v.category) ∘ z_v g) = fun v => v.category := by funext v; exact z_cat g v
    rw [e8]; exact hcat
def ZCN (own : String) (ix : Nat) (y : ZMI) (n : Nat) : Prop :=
  Cond.methodLinkNest own ix y.1 "BesideAnother" ∈ tables_1 ∧ Cond.static y.1 ∈ GW ∧ Cond.initialized y.1.cls ∈ GW ∧ Cond.code y.1 y.2.1 y.2.2.1 y.2.2.2 ∈ GW ∧ (y.1.cls ≠ "java/lang/invoke/MethodHandle" ∧ y.1.cls ≠ "java/lang/invoke/VarHandle") ∧ (parseMethodDescriptor y.1.desc).map (fun d => d.parameters.length) = some n ∧ y.2.2.1 ≤ 21
theorem ZO.callSN {β : Type} {y' : ZMI} {n ix d' : Nat} {As rest : List Value} {t' : Option β} {rv : β → Option Value} {sv : β → ZSt} {f : β → Option α}
    (hd : decode y.2.1 pc = .ok (.invokestatic ix, 3)) (hw : ZCN y.1.cls ix y' n) (hdd : d' < d) (hn : As.length = n) (hS : S = As.reverse ++ rest) (hcat : (rest.map fun v => v.category).sum ≤ 8)
    (hF : ZF g d' y' As σ t' rv sv)
    (k : ∀ b, t' = some b → ZO g d y u (pc + 3) L ((rv b).toList ++ rest) (sv b) (f b) K) : ZO g d y u pc L S σ (bn t' f) K := by
  refine ZO.after hF (rest := rest) (fun p e R s m args below meth c' hC H locs ls hR hL b hb => ?_) k
  obtain ⟨hx, hb', hml, hown, hts, hlk, hK, ⟨hr1, hr2, hr3, hr4⟩, hXs, hsc⟩ := hC
  obtain ⟨w1, w2, w4, w5, w6, w7, w8⟩ := hw
  obtain ⟨hP, hD, hS1⟩ := hR
  have hcb := va_cnB (R := R) (args := args) (mc := 0) (ms := 0) (rm := ZMr d') n hts (z_good w5) rfl rfl rfl (hXs.1 _ _ _ _ w1) (hts _ (z_wsi w4)) ⟨w6.1, w6.2, w7⟩ ⟨by show d' + 1 ≤ R.frames; omega, by show 8 + (y'.2.2.1 + 11) + 40 * d' ≤ R.locals; omega⟩
  have hlen : (As.map (z_v g)).length = n := by rw [List.length_map]; exact hn
  have hstk : (F0 m pc ls (S.map (z_v g))).stack = (As.map (z_v g)).reverse ++ rest.map (z_v g) := by
    subst hS
    simp
  refine va_runSN (As := As.map (z_v g)) (rest := rest.map (z_v g)) (nL := y.2.2.1) ⟨hx, hb', hml, hown, hts⟩ (hF b hb H.size) ⟨hcb, hts _ (z_wsi w2), trivial⟩ ⟨z_blind, fun U hU hW => ?_⟩ rfl hlen hL.1 hstk (lv_room ?_) hd ⟨by omega, by omega⟩
  · refine ⟨rfl, by rw [hU], by rw [hU]; exact hP, va_K.moved hW.alike hK, hD.weaken (fun _ _ _ _ => trivial), hXs.on hS1 hU hW⟩
  · rw [List.map_map]
    have e8 : ((fun v : Value => v.category) ∘ z_v g) = fun v => v.category := by funext v; exact z_cat g v
    rw [e8]; exact hcat
-- the calls by what they answer
theorem ZO.cVI {β : Type} {y' : ZMI} {o c n ix d' : Nat} {As rest : List Value} {t' : Option β} {π : β → Int32} {sv : β → ZSt} {f : β → Option α} (hd : decode y.2.1 pc = .ok (.invokevirtual ix, 3)) (hw : ZCV y.1.cls ix y' n) (hdd : d' < d) (ho : z_isO o c = true) (hc : (z_cls[c]?).map (fun q => q.1) = some y'.1.cls) (hn : As.length = n) (hS : S = As.reverse ++ .ref o :: rest) (hcat : (rest.map fun v => v.category).sum ≤ 8) (hF : ZF g d' y' (.ref o :: As) σ t' (fun b => some (.int (π b))) sv) (k : ∀ b, t' = some b → ZO g d y u (pc + 3) L (.int (π b) :: rest) (sv b) (f b) K) : ZO g d y u pc L S σ (bn t' f) K := ZO.callV hd hw hdd ho hc hn hS hcat hF k
theorem ZO.tVI {β : Type} {y' : ZMI} {o c n ix d' : Nat} {As rest : List Value} {b : β} {π : β → Int32} {sv : β → ZSt} (hd : decode y.2.1 pc = .ok (.invokevirtual ix, 3)) (hw : ZCV y.1.cls ix y' n) (hdd : d' < d) (ho : z_isO o c = true) (hc : (z_cls[c]?).map (fun q => q.1) = some y'.1.cls) (hn : As.length = n) (hS : S = As.reverse ++ .ref o :: rest) (hcat : (rest.map fun v => v.category).sum ≤ 8) (hF : ZF g d' y' (.ref o :: As) σ (some b) (fun b => some (.int (π b))) sv) (k : ZO g d y u (pc + 3) L (.int (π b) :: rest) (sv b) t K) : ZO g d y u pc L S σ t K := ZO.callV (f := fun _ => t) hd hw hdd ho hc hn hS hcat hF (fun b' hb => by cases hb; exact k)
theorem ZO.cSI {β : Type} {y' : ZMI} {n ix d' : Nat} {As rest : List Value} {t' : Option β} {π : β → Int32} {sv : β → ZSt} {f : β → Option α} (hd : decode y.2.1 pc = .ok (.invokestatic ix, 3)) (hw : ZCS y.1.cls ix y' n) (hdd : d' < d) (hn : As.length = n) (hS : S = As.reverse ++ rest) (hcat : (rest.map fun v => v.category).sum ≤ 8) (hF : ZF g d' y' As σ t' (fun b => some (.int (π b))) sv) (k : ∀ b, t' = some b → ZO g d y u (pc + 3) L (.int (π b) :: rest) (sv b) (f b) K) : ZO g d y u pc L S σ (bn t' f) K := ZO.callS hd hw hdd hn hS hcat hF k
theorem ZO.tSI {β : Type} {y' : ZMI} {n ix d' : Nat} {As rest : List Value} {b : β} {π : β → Int32} {sv : β → ZSt} (hd : decode y.2.1 pc = .ok (.invokestatic ix, 3)) (hw : ZCS y.1.cls ix y' n) (hdd : d' < d) (hn : As.length = n) (hS : S = As.reverse ++ rest) (hcat : (rest.map fun v => v.category).sum ≤ 8) (hF : ZF g d' y' As σ (some b) (fun b => some (.int (π b))) sv) (k : ZO g d y u (pc + 3) L (.int (π b) :: rest) (sv b) t K) : ZO g d y u pc L S σ t K := ZO.callS (f := fun _ => t) hd hw hdd hn hS hcat hF (fun b' hb => by cases hb; exact k)
theorem ZO.cSNI {β : Type} {y' : ZMI} {n ix d' : Nat} {As rest : List Value} {t' : Option β} {π : β → Int32} {sv : β → ZSt} {f : β → Option α} (hd : decode y.2.1 pc = .ok (.invokestatic ix, 3)) (hw : ZCN y.1.cls ix y' n) (hdd : d' < d) (hn : As.length = n) (hS : S = As.reverse ++ rest) (hcat : (rest.map fun v => v.category).sum ≤ 8) (hF : ZF g d' y' As σ t' (fun b => some (.int (π b))) sv) (k : ∀ b, t' = some b → ZO g d y u (pc + 3) L (.int (π b) :: rest) (sv b) (f b) K) : ZO g d y u pc L S σ (bn t' f) K := ZO.callSN hd hw hdd hn hS hcat hF k
theorem ZO.tSNI {β : Type} {y' : ZMI} {n ix d' : Nat} {As rest : List Value} {b : β} {π : β → Int32} {sv : β → ZSt} (hd : decode y.2.1 pc = .ok (.invokestatic ix, 3)) (hw : ZCN y.1.cls ix y' n) (hdd : d' < d) (hn : As.length = n) (hS : S = As.reverse ++ rest) (hcat : (rest.map fun v => v.category).sum ≤ 8) (hF : ZF g d' y' As σ (some b) (fun b => some (.int (π b))) sv) (k : ZO g d y u (pc + 3) L (.int (π b) :: rest) (sv b) t K) : ZO g d y u pc L S σ t K := ZO.callSN (f := fun _ => t) hd hw hdd hn hS hcat hF (fun b' hb => by cases hb; exact k)
theorem ZO.cVB {β : Type} {y' : ZMI} {o c n ix d' : Nat} {As rest : List Value} {t' : Option β} {π : β → Bool} {sv : β → ZSt} {f : β → Option α} (hd : decode y.2.1 pc = .ok (.invokevirtual ix, 3)) (hw : ZCV y.1.cls ix y' n) (hdd : d' < d) (ho : z_isO o c = true) (hc : (z_cls[c]?).map (fun q => q.1) = some y'.1.cls) (hn : As.length = n) (hS : S = As.reverse ++ .ref o :: rest) (hcat : (rest.map fun v => v.category).sum ≤ 8) (hF : ZF g d' y' (.ref o :: As) σ t' (fun b => some (.int (b2i (π b)))) sv) (k : ∀ b, t' = some b → ZO g d y u (pc + 3) L (.int (b2i (π b)) :: rest) (sv b) (f b) K) : ZO g d y u pc L S σ (bn t' f) K := ZO.callV hd hw hdd ho hc hn hS hcat hF k
theorem ZO.tVB {β : Type} {y' : ZMI} {o c n ix d' : Nat} {As rest : List Value} {b : β} {π : β → Bool} {sv : β → ZSt} (hd : decode y.2.1 pc = .ok (.invokevirtual ix, 3)) (hw : ZCV y.1.cls ix y' n) (hdd : d' < d) (ho : z_isO o c = true) (hc : (z_cls[c]?).map (fun q => q.1) = some y'.1.cls) (hn : As.length = n) (hS : S = As.reverse ++ .ref o :: rest) (hcat : (rest.map fun v => v.category).sum ≤ 8) (hF : ZF g d' y' (.ref o :: As) σ (some b) (fun b => some (.int (b2i (π b)))) sv) (k : ZO g d y u (pc + 3) L (.int (b2i (π b)) :: rest) (sv b) t K) : ZO g d y u pc L S σ t K := ZO.callV (f := fun _ => t) hd hw hdd ho hc hn hS hcat hF (fun b' hb => by cases hb; exact k)
theorem ZO.cSB {β : Type} {y' : ZMI} {n ix d' : Nat} {As rest : List Value} {t' : Option β} {π : β → Bool} {sv : β → ZSt} {f : β → Option α} (hd : decode y.2.1 pc = .ok (.invokestatic ix, 3)) (hw : ZCS y.1.cls ix y' n) (hdd : d' < d) (hn : As.length = n) (hS : S = As.reverse ++ rest) (hcat : (rest.map fun v => v.category).sum ≤ 8) (hF : ZF g d' y' As σ t' (fun b => some (.int (b2i (π b)))) sv) (k : ∀ b, t' = some b → ZO g d y u (pc + 3) L (.int (b2i (π b)) :: rest) (sv b) (f b) K) : ZO g d y u pc L S σ (bn t' f) K := ZO.callS hd hw hdd hn hS hcat hF k
theorem ZO.tSB {β : Type} {y' : ZMI} {n ix d' : Nat} {As rest : List Value} {b : β} {π : β → Bool} {sv : β → ZSt} (hd : decode y.2.1 pc = .ok (.invokestatic ix, 3)) (hw : ZCS y.1.cls ix y' n) (hdd : d' < d) (hn : As.length = n) (hS : S = As.reverse ++ rest) (hcat : (rest.map fun v => v.category).sum ≤ 8) (hF : ZF g d' y' As σ (some b) (fun b => some (.int (b2i (π b)))) sv) (k : ZO g d y u (pc + 3) L (.int (b2i (π b)) :: rest) (sv b) t K) : ZO g d y u pc L S σ t K := ZO.callS (f := fun _ => t) hd hw hdd hn hS hcat hF (fun b' hb => by cases hb; exact k)
theorem ZO.cSNB {β : Type} {y' : ZMI} {n ix d' : Nat} {As rest : List Value} {t' : Option β} {π : β → Bool} {sv : β → ZSt} {f : β → Option α} (hd : decode y.2.1 pc = .ok (.invokestatic ix, 3)) (hw : ZCN y.1.cls ix y' n) (hdd : d' < d) (hn : As.length = n) (hS : S = As.reverse ++ rest) (hcat : (rest.map fun v => v.category).sum ≤ 8) (hF : ZF g d' y' As σ t' (fun b => some (.int (b2i (π b)))) sv) (k : ∀ b, t' = some b → ZO g d y u (pc + 3) L (.int (b2i (π b)) :: rest) (sv b) (f b) K) : ZO g d y u pc L S σ (bn t' f) K := ZO.callSN hd hw hdd hn hS hcat hF k
theorem ZO.tSNB {β : Type} {y' : ZMI} {n ix d' : Nat} {As rest : List Value} {b : β} {π : β → Bool} {sv : β → ZSt} (hd : decode y.2.1 pc = .ok (.invokestatic ix, 3)) (hw : ZCN y.1.cls ix y' n) (hdd : d' < d) (hn : As.length = n) (hS : S = As.reverse ++ rest) (hcat : (rest.map fun v => v.category).sum ≤ 8) (hF : ZF g d' y' As σ (some b) (fun b => some (.int (b2i (π b)))) sv) (k : ZO g d y u (pc + 3) L (.int (b2i (π b)) :: rest) (sv b) t K) : ZO g d y u pc L S σ t K := ZO.callSN (f := fun _ => t) hd hw hdd hn hS hcat hF (fun b' hb => by cases hb; exact k)
theorem ZO.cVJ {β : Type} {y' : ZMI} {o c n ix d' : Nat} {As rest : List Value} {t' : Option β} {π : β → Int64} {sv : β → ZSt} {f : β → Option α} (hd : decode y.2.1 pc = .ok (.invokevirtual ix, 3)) (hw : ZCV y.1.cls ix y' n) (hdd : d' < d) (ho : z_isO o c = true) (hc : (z_cls[c]?).map (fun q => q.1) = some y'.1.cls) (hn : As.length = n) (hS : S = As.reverse ++ .ref o :: rest) (hcat : (rest.map fun v => v.category).sum ≤ 8) (hF : ZF g d' y' (.ref o :: As) σ t' (fun b => some (.long (π b))) sv) (k : ∀ b, t' = some b → ZO g d y u (pc + 3) L (.long (π b) :: rest) (sv b) (f b) K) : ZO g d y u pc L S σ (bn t' f) K := ZO.callV hd hw hdd ho hc hn hS hcat hF k
theorem ZO.tVJ {β : Type} {y' : ZMI} {o c n ix d' : Nat} {As rest : List Value} {b : β} {π : β → Int64} {sv : β → ZSt} (hd : decode y.2.1 pc = .ok (.invokevirtual ix, 3)) (hw : ZCV y.1.cls ix y' n) (hdd : d' < d) (ho : z_isO o c = true) (hc : (z_cls[c]?).map (fun q => q.1) = some y'.1.cls) (hn : As.length = n) (hS : S = As.reverse ++ .ref o :: rest) (hcat : (rest.map fun v => v.category).sum ≤ 8) (hF : ZF g d' y' (.ref o :: As) σ (some b) (fun b => some (.long (π b))) sv) (k : ZO g d y u (pc + 3) L (.long (π b) :: rest) (sv b) t K) : ZO g d y u pc L S σ t K := ZO.callV (f := fun _ => t) hd hw hdd ho hc hn hS hcat hF (fun b' hb => by cases hb; exact k)
theorem ZO.cSJ {β : Type} {y' : ZMI} {n ix d' : Nat} {As rest : List Value} {t' : Option β} {π : β → Int64} {sv : β → ZSt} {f : β → Option α} (hd : decode y.2.1 pc = .ok (.invokestatic ix, 3)) (hw : ZCS y.1.cls ix y' n) (hdd : d' < d) (hn : As.length = n) (hS : S = As.reverse ++ rest) (hcat : (rest.map fun v => v.category).sum ≤ 8) (hF : ZF g d' y' As σ t' (fun b => some (.long (π b))) sv) (k : ∀ b, t' = some b → ZO g d y u (pc + 3) L (.long (π b) :: rest) (sv b) (f b) K) : ZO g d y u pc L S σ (bn t' f) K := ZO.callS hd hw hdd hn hS hcat hF k
theorem ZO.tSJ {β : Type} {y' : ZMI} {n ix d' : Nat} {As rest : List Value} {b : β} {π : β → Int64} {sv : β → ZSt} (hd : decode y.2.1 pc = .ok (.invokestatic ix, 3)) (hw : ZCS y.1.cls ix y' n) (hdd : d' < d) (hn : As.length = n) (hS : S = As.reverse ++ rest) (hcat : (rest.map fun v => v.category).sum ≤ 8) (hF : ZF g d' y' As σ (some b) (fun b => some (.long (π b))) sv) (k : ZO g d y u (pc + 3) L (.long (π b) :: rest) (sv b) t K) : ZO g d y u pc L S σ t K := ZO.callS (f := fun _ => t) hd hw hdd hn hS hcat hF (fun b' hb => by cases hb; exact k)
theorem ZO.cSNJ {β : Type} {y' : ZMI} {n ix d' : Nat} {As rest : List Value} {t' : Option β} {π : β → Int64} {sv : β → ZSt} {f : β → Option α} (hd : decode y.2.1 pc = .ok (.invokestatic ix, 3)) (hw : ZCN y.1.cls ix y' n) (hdd : d' < d) (hn : As.length = n) (hS : S = As.reverse ++ rest) (hcat : (rest.map fun v => v.category).sum ≤ 8) (hF : ZF g d' y' As σ t' (fun b => some (.long (π b))) sv) (k : ∀ b, t' = some b → ZO g d y u (pc + 3) L (.long (π b) :: rest) (sv b) (f b) K) : ZO g d y u pc L S σ (bn t' f) K := ZO.callSN hd hw hdd hn hS hcat hF k
theorem ZO.tSNJ {β : Type} {y' : ZMI} {n ix d' : Nat} {As rest : List Value} {b : β} {π : β → Int64} {sv : β → ZSt} (hd : decode y.2.1 pc = .ok (.invokestatic ix, 3)) (hw : ZCN y.1.cls ix y' n) (hdd : d' < d) (hn : As.length = n) (hS : S = As.reverse ++ rest) (hcat : (rest.map fun v => v.category).sum ≤ 8) (hF : ZF g d' y' As σ (some b) (fun b => some (.long (π b))) sv) (k : ZO g d y u (pc + 3) L (.long (π b) :: rest) (sv b) t K) : ZO g d y u pc L S σ t K := ZO.callSN (f := fun _ => t) hd hw hdd hn hS hcat hF (fun b' hb => by cases hb; exact k)
theorem ZO.cVA {β : Type} {y' : ZMI} {o c n ix d' : Nat} {As rest : List Value} {t' : Option β} {π : β → Nat} {sv : β → ZSt} {f : β → Option α} (hd : decode y.2.1 pc = .ok (.invokevirtual ix, 3)) (hw : ZCV y.1.cls ix y' n) (hdd : d' < d) (ho : z_isO o c = true) (hc : (z_cls[c]?).map (fun q => q.1) = some y'.1.cls) (hn : As.length = n) (hS : S = As.reverse ++ .ref o :: rest) (hcat : (rest.map fun v => v.category).sum ≤ 8) (hF : ZF g d' y' (.ref o :: As) σ t' (fun b => some (.ref (π b))) sv) (k : ∀ b, t' = some b → ZO g d y u (pc + 3) L (.ref (π b) :: rest) (sv b) (f b) K) : ZO g d y u pc L S σ (bn t' f) K := ZO.callV hd hw hdd ho hc hn hS hcat hF k
theorem ZO.tVA {β : Type} {y' : ZMI} {o c n ix d' : Nat} {As rest : List Value} {b : β} {π : β → Nat} {sv : β → ZSt} (hd : decode y.2.1 pc = .ok (.invokevirtual ix, 3)) (hw : ZCV y.1.cls ix y' n) (hdd : d' < d) (ho : z_isO o c = true) (hc : (z_cls[c]?).map (fun q => q.1) = some y'.1.cls) (hn : As.length = n) (hS : S = As.reverse ++ .ref o :: rest) (hcat : (rest.map fun v => v.category).sum ≤ 8) (hF : ZF g d' y' (.ref o :: As) σ (some b) (fun b => some (.ref (π b))) sv) (k : ZO g d y u (pc + 3) L (.ref (π b) :: rest) (sv b) t K) : ZO g d y u pc L S σ t K := ZO.callV (f := fun _ => t) hd hw hdd ho hc hn hS hcat hF (fun b' hb => by cases hb; exact k)
theorem ZO.cSA {β : Type} {y' : ZMI} {n ix d' : Nat} {As rest : List Value} {t' : Option β} {π : β → Nat} {sv : β → ZSt} {f : β → Option α} (hd : decode y.2.1 pc = .ok (.invokestatic ix, 3)) (hw : ZCS y.1.cls ix y' n) (hdd : d' < d) (hn : As.length = n) (hS : S = As.reverse ++ rest) (hcat : (rest.map fun v => v.category).sum ≤ 8) (hF : ZF g d' y' As σ t' (fun b => some (.ref (π b))) sv) (k : ∀ b, t' = some b → ZO g d y u (pc + 3) L (.ref (π b) :: rest) (sv b) (f b) K) : ZO g d y u pc L S σ (bn t' f) K := ZO.callS hd hw hdd hn hS hcat hF k
theorem ZO.tSA {β : Type} {y' : ZMI} {n ix d' : Nat} {As rest : List Value} {b : β} {π : β → Nat} {sv : β → ZSt} (hd : decode y.2.1 pc = .ok (.invokestatic ix, 3)) (hw : ZCS y.1.cls ix y' n) (hdd : d' < d) (hn : As.length = n) (hS : S = As.reverse ++ rest) (hcat : (rest.map fun v => v.category).sum ≤ 8) (hF : ZF g d' y' As σ (some b) (fun b => some (.ref (π b))) sv) (k : ZO g d y u (pc + 3) L (.ref (π b) :: rest) (sv b) t K) : ZO g d y u pc L S σ t K := ZO.callS (f := fun _ => t) hd hw hdd hn hS hcat hF (fun b' hb => by cases hb; exact k)
theorem ZO.cSNA {β : Type} {y' : ZMI} {n ix d' : Nat} {As rest : List Value} {t' : Option β} {π : β → Nat} {sv : β → ZSt} {f : β → Option α} (hd : decode y.2.1 pc = .ok (.invokestatic ix, 3)) (hw : ZCN y.1.cls ix y' n) (hdd : d' < d) (hn : As.length = n) (hS : S = As.reverse ++ rest) (hcat : (rest.map fun v => v.category).sum ≤ 8) (hF : ZF g d' y' As σ t' (fun b => some (.ref (π b))) sv) (k : ∀ b, t' = some b → ZO g d y u (pc + 3) L (.ref (π b) :: rest) (sv b) (f b) K) : ZO g d y u pc L S σ (bn t' f) K := ZO.callSN hd hw hdd hn hS hcat hF k
theorem ZO.tSNA {β : Type} {y' : ZMI} {n ix d' : Nat} {As rest : List Value} {b : β} {π : β → Nat} {sv : β → ZSt} (hd : decode y.2.1 pc = .ok (.invokestatic ix, 3)) (hw : ZCN y.1.cls ix y' n) (hdd : d' < d) (hn : As.length = n) (hS : S = As.reverse ++ rest) (hcat : (rest.map fun v => v.category).sum ≤ 8) (hF : ZF g d' y' As σ (some b) (fun b => some (.ref (π b))) sv) (k : ZO g d y u (pc + 3) L (.ref (π b) :: rest) (sv b) t K) : ZO g d y u pc L S σ t K := ZO.callSN (f := fun _ => t) hd hw hdd hn hS hcat hF (fun b' hb => by cases hb; exact k)
theorem ZO.cVV {β : Type} {y' : ZMI} {o c n ix d' : Nat} {As rest : List Value} {t' : Option β} {sv : β → ZSt} {f : β → Option α} (hd : decode y.2.1 pc = .ok (.invokevirtual ix, 3)) (hw : ZCV y.1.cls ix y' n) (hdd : d' < d) (ho : z_isO o c = true) (hc : (z_cls[c]?).map (fun q => q.1) = some y'.1.cls) (hn : As.length = n) (hS : S = As.reverse ++ .ref o :: rest) (hcat : (rest.map fun v => v.category).sum ≤ 8) (hF : ZF g d' y' (.ref o :: As) σ t' (fun b => none) sv) (k : ∀ b, t' = some b → ZO g d y u (pc + 3) L (rest) (sv b) (f b) K) : ZO g d y u pc L S σ (bn t' f) K := ZO.callV hd hw hdd ho hc hn hS hcat hF k
theorem ZO.tVV {β : Type} {y' : ZMI} {o c n ix d' : Nat} {As rest : List Value} {b : β} {sv : β → ZSt} (hd : decode y.2.1 pc = .ok (.invokevirtual ix, 3)) (hw : ZCV y.1.cls ix y' n) (hdd : d' < d) (ho : z_isO o c = true) (hc : (z_cls[c]?).map (fun q => q.1) = some y'.1.cls) (hn : As.length = n) (hS : S = As.reverse ++ .ref o :: rest) (hcat : (rest.map fun v => v.category).sum ≤ 8) (hF : ZF g d' y' (.ref o :: As) σ (some b) (fun b => none) sv) (k : ZO g d y u (pc + 3) L (rest) (sv b) t K) : ZO g d y u pc L S σ t K := ZO.callV (f := fun _ => t) hd hw hdd ho hc hn hS hcat hF (fun b' hb => by cases hb; exact k)
theorem ZO.cSV {β : Type} {y' : ZMI} {n ix d' : Nat} {As rest : List Value} {t' : Option β} {sv : β → ZSt} {f : β → Option α} (hd : decode y.2.1 pc = .ok (.invokestatic ix, 3)) (hw : ZCS y.1.cls ix y' n) (hdd : d' < d) (hn : As.length = n) (hS : S = As.reverse ++ rest) (hcat : (rest.map fun v => v.category).sum ≤ 8) (hF : ZF g d' y' As σ t' (fun b => none) sv) (k : ∀ b, t' = some b → ZO g d y u (pc + 3) L (rest) (sv b) (f b) K) : ZO g d y u pc L S σ (bn t' f) K := ZO.callS hd hw hdd hn hS hcat hF k
theorem ZO.tSV {β : Type} {y' : ZMI} {n ix d' : Nat} {As rest : List Value} {b : β} {sv : β → ZSt} (hd : decode y.2.1 pc = .ok (.invokestatic ix, 3)) (hw : ZCS y.1.cls ix y' n) (hdd : d' < d) (hn : As.length = n) (hS : S = As.reverse ++ rest) (hcat : (rest.map fun v => v.category).sum ≤ 8) (hF : ZF g d' y' As σ (some b) (fun b => none) sv) (k : ZO g d y u (pc + 3) L (rest) (sv b) t K) : ZO g d y u pc L S σ t K := ZO.callS (f := fun _ => t) hd hw hdd hn hS hcat hF (fun b' hb => by cases hb; exact k)
theorem ZO.cSNV {β : Type} {y' : ZMI} {n ix d' : Nat} {As rest : List Value} {t' : Option β} {sv : β → ZSt} {f : β → Option α} (hd : decode y.2.1 pc = .ok (.invokestatic ix, 3)) (hw : ZCN y.1.cls ix y' n) (hdd : d' < d) (hn : As.length = n) (hS : S = As.reverse ++ rest) (hcat : (rest.map fun v => v.category).sum ≤ 8) (hF : ZF g d' y' As σ t' (fun b => none) sv) (k : ∀ b, t' = some b → ZO g d y u (pc + 3) L (rest) (sv b) (f b) K) : ZO g d y u pc L S σ (bn t' f) K := ZO.callSN hd hw hdd hn hS hcat hF k
theorem ZO.tSNV {β : Type} {y' : ZMI} {n ix d' : Nat} {As rest : List Value} {b : β} {sv : β → ZSt} (hd : decode y.2.1 pc = .ok (.invokestatic ix, 3)) (hw : ZCN y.1.cls ix y' n) (hdd : d' < d) (hn : As.length = n) (hS : S = As.reverse ++ rest) (hcat : (rest.map fun v => v.category).sum ≤ 8) (hF : ZF g d' y' As σ (some b) (fun b => none) sv) (k : ZO g d y u (pc + 3) L (rest) (sv b) t K) : ZO g d y u pc L S σ t K := ZO.callSN (f := fun _ => t) hd hw hdd hn hS hcat hF (fun b' hb => by cases hb; exact k)
end ZHs
