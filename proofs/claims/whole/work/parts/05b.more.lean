-- MORE ROWS: switches, the JDK's min and max, arraycopy
section ZMo
variable {α : Type} {g : ZG} {d : Nat} {y : ZMI} {u : ZU} {pc : Nat} {L : List (Nat × Value)} {S : List Value} {σ : ZSt} {t : Option α} {K : α → (Option (Option Value)) × ZSt × Nat}
theorem z_bf {b : Bool} (h : b = false) : ¬ b = true := by rw [h]; decide
theorem lt_some {α β : Type} (v : α) (f : α → β) : some (lt v f) = lt v (fun x => some (f x)) := rfl
theorem z_ids_lt : ∀ k ∈ z_ids, k < 2 ^ 31 := by decide +kernel
theorem z_isO_lt {o c : Nat} (h : z_isO o c = true) : o < 2 ^ 31 := z_ids_lt o (z_isO_id h).1
theorem ZO.split {c0 : Prop} [Decidable c0] {t1 t2 : Option α} (hT : t = ite c0 t1 t2) (k1 : c0 → ZO g d y u pc L S σ t1 K) (k2 : ¬ c0 → ZO g d y u pc L S σ t2 K) : ZO g d y u pc L S σ t K := by
  intro a ha
  by_cases hc : c0
  · exact k1 hc a (by rw [hT, if_pos hc] at ha; exact ha)
  · exact k2 hc a (by rw [hT, if_neg hc] at ha; exact ha)
theorem ZO.tswI {dflt lo hi : Int} {offs : Array Int} {len : Nat} {x : Int32} {rest : List Value} (tgt : Nat) (v : Int32) (hx : x = v) (hd : decode y.2.1 pc = .ok (.tableswitch dflt lo hi offs, len)) (h1 : ¬ v.toInt < lo) (h2 : ¬ hi < v.toInt) (ho : offs[(v.toInt - lo).toNat]? = some ((tgt : Int) - pc)) (k : ZO g d y u tgt L rest σ t K) : ZO g d y u pc L (.int x :: rest) σ t K := by
  subst hx
  refine ZO.lift (fun p e R s m args below meth c hC Z H locs ls hR hL kk => ?_) k
  obtain ⟨hx, hb, hml, hown, hts, hlk, hK, hrm, hXs, hsc⟩ := hC
  exact lv_tableIn hx hb hd h1 h2 ho (by omega) (kk H locs ls hR hL)
theorem ZO.tswO {dflt lo hi : Int} {offs : Array Int} {len : Nat} {x : Int32} {rest : List Value} (tgt : Nat) (hd : decode y.2.1 pc = .ok (.tableswitch dflt lo hi offs, len)) (h : x.toInt < lo ∨ hi < x.toInt) (ht : (pc : Int) + dflt = (tgt : Int)) (k : ZO g d y u tgt L rest σ t K) : ZO g d y u pc L (.int x :: rest) σ t K := by
  refine ZO.lift (fun p e R s m args below meth c hC Z H locs ls hR hL kk => ?_) k
  obtain ⟨hx, hb, hml, hown, hts, hlk, hK, hrm, hXs, hsc⟩ := hC
  exact lv_tableOut hx hb hd h ht (kk H locs ls hR hL)
theorem ZO.lswI {dflt : Int} {ps : Array (Int × Int)} {len : Nat} {x : Int32} {rest : List Value} (tgt : Nat) (v : Int32) (hx : x = v) (hd : decode y.2.1 pc = .ok (.lookupswitch dflt ps, len)) (hp : (ps.toList.zip (ps.toList.drop 1)).all (fun (a, next) => a.1 < next.1) = true) (ho : Op.lookupswitch.offset ps.toList dflt v.toInt = (tgt : Int) - pc) (k : ZO g d y u tgt L rest σ t K) : ZO g d y u pc L (.int x :: rest) σ t K := by
  subst hx
  refine ZO.lift (fun p e R s m args below meth c hC Z H locs ls hR hL kk => ?_) k
  obtain ⟨hx, hb, hml, hown, hts, hlk, hK, hrm, hXs, hsc⟩ := hC
  exact lv_lookup hx hb hd hp ho (by omega) (kk H locs ls hR hL)
theorem ZO.lswO {dflt : Int} {ps : Array (Int × Int)} {len : Nat} {x : Int32} {rest : List Value} (tgt : Nat) (hd : decode y.2.1 pc = .ok (.lookupswitch dflt ps, len)) (hp : (ps.toList.zip (ps.toList.drop 1)).all (fun (a, next) => a.1 < next.1) = true) (ho : Op.lookupswitch.offset ps.toList dflt x.toInt = dflt) (ht : (pc : Int) + dflt = (tgt : Int)) (k : ZO g d y u tgt L rest σ t K) : ZO g d y u pc L (.int x :: rest) σ t K := by
  refine ZO.lift (fun p e R s m args below meth c hC Z H locs ls hR hL kk => ?_) k
  obtain ⟨hx, hb, hml, hown, hts, hlk, hK, hrm, hXs, hsc⟩ := hC
  exact lv_lookup hx hb hd hp ho ht (kk H locs ls hR hL)
theorem z_out2 {x : Int32} (h0 : ¬ x = (0 : Int32)) (h1 : ¬ x = (1 : Int32)) : x.toInt < 0 ∨ (1 : Int) < x.toInt := by
  have q0 := lv_neT h0 (show (0 : Int32).toInt = 0 by decide)
  have q1 := lv_neT h1 (show (1 : Int32).toInt = 1 by decide)
  omega
theorem z_out3 {x : Int32} (h0 : ¬ x = (0 : Int32)) (h1 : ¬ x = (1 : Int32)) (h2 : ¬ x = (2 : Int32)) : x.toInt < 0 ∨ (2 : Int) < x.toInt := by
  have q0 := lv_neT h0 (show (0 : Int32).toInt = 0 by decide)
  have q1 := lv_neT h1 (show (1 : Int32).toInt = 1 by decide)
  have q2 := lv_neT h2 (show (2 : Int32).toInt = 2 by decide)
  omega
theorem z_out4 {x : Int32} (h0 : ¬ x = (0 : Int32)) (h1 : ¬ x = (1 : Int32)) (h2 : ¬ x = (2 : Int32)) (h3 : ¬ x = (3 : Int32)) : x.toInt < 0 ∨ (3 : Int) < x.toInt := by
  have q0 := lv_neT h0 (show (0 : Int32).toInt = 0 by decide)
  have q1 := lv_neT h1 (show (1 : Int32).toInt = 1 by decide)
  have q2 := lv_neT h2 (show (2 : Int32).toInt = 2 by decide)
  have q3 := lv_neT h3 (show (3 : Int32).toInt = 3 by decide)
  omega
theorem z_out5 {x : Int32} (h0 : ¬ x = (0 : Int32)) (h1 : ¬ x = (1 : Int32)) (h2 : ¬ x = (2 : Int32)) (h3 : ¬ x = (3 : Int32)) (h4 : ¬ x = (4 : Int32)) : x.toInt < 0 ∨ (4 : Int) < x.toInt := by
  have q0 := lv_neT h0 (show (0 : Int32).toInt = 0 by decide)
  have q1 := lv_neT h1 (show (1 : Int32).toInt = 1 by decide)
  have q2 := lv_neT h2 (show (2 : Int32).toInt = 2 by decide)
  have q3 := lv_neT h3 (show (3 : Int32).toInt = 3 by decide)
  have q4 := lv_neT h4 (show (4 : Int32).toInt = 4 by decide)
  omega
theorem z_out6 {x : Int32} (h0 : ¬ x = (0 : Int32)) (h1 : ¬ x = (1 : Int32)) (h2 : ¬ x = (2 : Int32)) (h3 : ¬ x = (3 : Int32)) (h4 : ¬ x = (4 : Int32)) (h5 : ¬ x = (5 : Int32)) : x.toInt < 0 ∨ (5 : Int) < x.toInt := by
  have q0 := lv_neT h0 (show (0 : Int32).toInt = 0 by decide)
  have q1 := lv_neT h1 (show (1 : Int32).toInt = 1 by decide)
  have q2 := lv_neT h2 (show (2 : Int32).toInt = 2 by decide)
  have q3 := lv_neT h3 (show (3 : Int32).toInt = 3 by decide)
  have q4 := lv_neT h4 (show (4 : Int32).toInt = 4 by decide)
  have q5 := lv_neT h5 (show (5 : Int32).toInt = 5 by decide)
  omega
theorem z_out7 {x : Int32} (h0 : ¬ x = (0 : Int32)) (h1 : ¬ x = (1 : Int32)) (h2 : ¬ x = (2 : Int32)) (h3 : ¬ x = (3 : Int32)) (h4 : ¬ x = (4 : Int32)) (h5 : ¬ x = (5 : Int32)) (h6 : ¬ x = (6 : Int32)) : x.toInt < 0 ∨ (6 : Int) < x.toInt := by
  have q0 := lv_neT h0 (show (0 : Int32).toInt = 0 by decide)
  have q1 := lv_neT h1 (show (1 : Int32).toInt = 1 by decide)
  have q2 := lv_neT h2 (show (2 : Int32).toInt = 2 by decide)
  have q3 := lv_neT h3 (show (3 : Int32).toInt = 3 by decide)
  have q4 := lv_neT h4 (show (4 : Int32).toInt = 4 by decide)
  have q5 := lv_neT h5 (show (5 : Int32).toInt = 5 by decide)
  have q6 := lv_neT h6 (show (6 : Int32).toInt = 6 by decide)
  omega
theorem z_out8 {x : Int32} (h0 : ¬ x = (0 : Int32)) (h1 : ¬ x = (1 : Int32)) (h2 : ¬ x = (2 : Int32)) (h3 : ¬ x = (3 : Int32)) (h4 : ¬ x = (4 : Int32)) (h5 : ¬ x = (5 : Int32)) (h6 : ¬ x = (6 : Int32)) (h7 : ¬ x = (7 : Int32)) : x.toInt < 0 ∨ (7 : Int) < x.toInt := by
  have q0 := lv_neT h0 (show (0 : Int32).toInt = 0 by decide)
  have q1 := lv_neT h1 (show (1 : Int32).toInt = 1 by decide)
  have q2 := lv_neT h2 (show (2 : Int32).toInt = 2 by decide)
  have q3 := lv_neT h3 (show (3 : Int32).toInt = 3 by decide)
  have q4 := lv_neT h4 (show (4 : Int32).toInt = 4 by decide)
  have q5 := lv_neT h5 (show (5 : Int32).toInt = 5 by decide)
  have q6 := lv_neT h6 (show (6 : Int32).toInt = 6 by decide)
  have q7 := lv_neT h7 (show (7 : Int32).toInt = 7 by decide)
  omega
theorem z_out41 {x : Int32} (h0 : ¬ x = (0 : Int32)) (h1 : ¬ x = (1 : Int32)) (h2 : ¬ x = (2 : Int32)) (h3 : ¬ x = (3 : Int32)) (h4 : ¬ x = (4 : Int32)) (h5 : ¬ x = (5 : Int32)) (h6 : ¬ x = (6 : Int32)) (h7 : ¬ x = (7 : Int32)) (h8 : ¬ x = (8 : Int32)) (h9 : ¬ x = (9 : Int32)) (h10 : ¬ x = (10 : Int32)) (h11 : ¬ x = (11 : Int32)) (h12 : ¬ x = (12 : Int32)) (h13 : ¬ x = (13 : Int32)) (h14 : ¬ x = (14 : Int32)) (h15 : ¬ x = (15 : Int32)) (h16 : ¬ x = (16 : Int32)) (h17 : ¬ x = (17 : Int32)) (h18 : ¬ x = (18 : Int32)) (h19 : ¬ x = (19 : Int32)) (h20 : ¬ x = (20 : Int32)) (h21 : ¬ x = (21 : Int32)) (h22 : ¬ x = (22 : Int32)) (h23 : ¬ x = (23 : Int32)) (h24 : ¬ x = (24 : Int32)) (h25 : ¬ x = (25 : Int32)) (h26 : ¬ x = (26 : Int32)) (h27 : ¬ x = (27 : Int32)) (h28 : ¬ x = (28 : Int32)) (h29 : ¬ x = (29 : Int32)) (h30 : ¬ x = (30 : Int32)) (h31 : ¬ x = (31 : Int32)) (h32 : ¬ x = (32 : Int32)) (h33 : ¬ x = (33 : Int32)) (h34 : ¬ x = (34 : Int32)) (h35 : ¬ x = (35 : Int32)) (h36 : ¬ x = (36 : Int32)) (h37 : ¬ x = (37 : Int32)) (h38 : ¬ x = (38 : Int32)) (h39 : ¬ x = (39 : Int32)) (h40 : ¬ x = (40 : Int32)) : x.toInt < 0 ∨ (40 : Int) < x.toInt := by
  have q0 := lv_neT h0 (show (0 : Int32).toInt = 0 by decide)
  have q1 := lv_neT h1 (show (1 : Int32).toInt = 1 by decide)
  have q2 := lv_neT h2 (show (2 : Int32).toInt = 2 by decide)
  have q3 := lv_neT h3 (show (3 : Int32).toInt = 3 by decide)
  have q4 := lv_neT h4 (show (4 : Int32).toInt = 4 by decide)
  have q5 := lv_neT h5 (show (5 : Int32).toInt = 5 by decide)
  have q6 := lv_neT h6 (show (6 : Int32).toInt = 6 by decide)
  have q7 := lv_neT h7 (show (7 : Int32).toInt = 7 by decide)
  have q8 := lv_neT h8 (show (8 : Int32).toInt = 8 by decide)
  have q9 := lv_neT h9 (show (9 : Int32).toInt = 9 by decide)
  have q10 := lv_neT h10 (show (10 : Int32).toInt = 10 by decide)
  have q11 := lv_neT h11 (show (11 : Int32).toInt = 11 by decide)
  have q12 := lv_neT h12 (show (12 : Int32).toInt = 12 by decide)
  have q13 := lv_neT h13 (show (13 : Int32).toInt = 13 by decide)
  have q14 := lv_neT h14 (show (14 : Int32).toInt = 14 by decide)
  have q15 := lv_neT h15 (show (15 : Int32).toInt = 15 by decide)
  have q16 := lv_neT h16 (show (16 : Int32).toInt = 16 by decide)
  have q17 := lv_neT h17 (show (17 : Int32).toInt = 17 by decide)
  have q18 := lv_neT h18 (show (18 : Int32).toInt = 18 by decide)
  have q19 := lv_neT h19 (show (19 : Int32).toInt = 19 by decide)
  have q20 := lv_neT h20 (show (20 : Int32).toInt = 20 by decide)
  have q21 := lv_neT h21 (show (21 : Int32).toInt = 21 by decide)
  have q22 := lv_neT h22 (show (22 : Int32).toInt = 22 by decide)
  have q23 := lv_neT h23 (show (23 : Int32).toInt = 23 by decide)
  have q24 := lv_neT h24 (show (24 : Int32).toInt = 24 by decide)
  have q25 := lv_neT h25 (show (25 : Int32).toInt = 25 by decide)
  have q26 := lv_neT h26 (show (26 : Int32).toInt = 26 by decide)
  have q27 := lv_neT h27 (show (27 : Int32).toInt = 27 by decide)
  have q28 := lv_neT h28 (show (28 : Int32).toInt = 28 by decide)
  have q29 := lv_neT h29 (show (29 : Int32).toInt = 29 by decide)
  have q30 := lv_neT h30 (show (30 : Int32).toInt = 30 by decide)
  have q31 := lv_neT h31 (show (31 : Int32).toInt = 31 by decide)
  have q32 := lv_neT h32 (show (32 : Int32).toInt = 32 by decide)
  have q33 := lv_neT h33 (show (33 : Int32).toInt = 33 by decide)
  have q34 := lv_neT h34 (show (34 : Int32).toInt = 34 by decide)
  have q35 := lv_neT h35 (show (35 : Int32).toInt = 35 by decide)
  have q36 := lv_neT h36 (show (36 : Int32).toInt = 36 by decide)
  have q37 := lv_neT h37 (show (37 : Int32).toInt = 37 by decide)
  have q38 := lv_neT h38 (show (38 : Int32).toInt = 38 by decide)
  have q39 := lv_neT h39 (show (39 : Int32).toInt = 39 by decide)
  have q40 := lv_neT h40 (show (40 : Int32).toInt = 40 by decide)
  omega
def imax (x y : Int32) : Int32 := if x < y then y else x
def imin (x y : Int32) : Int32 := if y < x then y else x
def ZMX (own : String) (ix : Nat) : Prop := Cond.methodLink own ix Lib.Math.max.name ∈ GW ∧ Cond.static Lib.Math.max.name ∈ GW ∧ Cond.initialized "java/lang/Math" ∈ GW ∧ Cond.code Lib.Math.max.name Lib.Math.max.code 2 (some .int) ∈ GW
def ZMN (own : String) (ix : Nat) : Prop := Cond.methodLink own ix Lib.Math.min.name ∈ GW ∧ Cond.static Lib.Math.min.name ∈ GW ∧ Cond.initialized "java/lang/Math" ∈ GW ∧ Cond.code Lib.Math.min.name Lib.Math.min.code 2 (some .int) ∈ GW
theorem z_cats {g : ZG} {rest : List Value} : ((rest.map (z_v g)).map fun v => v.category).sum = (rest.map fun v => v.category).sum := by
  rw [List.map_map]
  have e8 : ((fun v : Value => v.category) ∘ z_v g) = fun v => v.category := by funext v; exact z_cat g v
  rw [e8]
theorem ZO.imax {ix : Nat} {xx yy : Int32} {rest : List Value} (hd : decode y.2.1 pc = .ok (.invokestatic ix, 3)) (hw : ZMX y.1.cls ix) (hdd : 0 < d) (hcat : (rest.map fun v => v.category).sum ≤ 8) (k : ZO g d y u (pc + 3) L (.int (imax xx yy) :: rest) σ t K) : ZO g d y u pc L (.int yy :: .int xx :: rest) σ t K := by
  refine ZO.lift (fun p e R s m args below meth c hC Z H locs ls hR hL kk => ?_) k
  obtain ⟨hx, hb, hml, hown, hts, hlk, hK, hrm, hXs, hsc⟩ := hC
  exact va_mmax hx hb (hml.trans hL.1.symm) hown (hts _ (z_wsi hw.1)) (hts _ (z_wsi hw.2.1)) (hts _ (z_wsi hw.2.2.1)) (hts _ (z_wsi hw.2.2.2)) (by omega) (by rw [z_cats]; omega) (by omega) (by omega) hd (kk H locs ls hR hL)
theorem ZO.imin {ix : Nat} {xx yy : Int32} {rest : List Value} (hd : decode y.2.1 pc = .ok (.invokestatic ix, 3)) (hw : ZMN y.1.cls ix) (hdd : 0 < d) (hcat : (rest.map fun v => v.category).sum ≤ 8) (k : ZO g d y u (pc + 3) L (.int (imin xx yy) :: rest) σ t K) : ZO g d y u pc L (.int yy :: .int xx :: rest) σ t K := by
  refine ZO.lift (fun p e R s m args below meth c hC Z H locs ls hR hL kk => ?_) k
  obtain ⟨hx, hb, hml, hown, hts, hlk, hK, hrm, hXs, hsc⟩ := hC
  exact va_mmin hx hb (hml.trans hL.1.symm) hown (hts _ (z_wsi hw.1)) (hts _ (z_wsi hw.2.1)) (hts _ (z_wsi hw.2.2.1)) (hts _ (z_wsi hw.2.2.2)) (by omega) (by rw [z_cats]; omega) (by omega) (by omega) hd (kk H locs ls hR hL)
def cpyA (σ : ZSt) (a b n : Nat) : ZSt := (fun o j => if o = b ∧ j < n then σ.1 a j else σ.1 o j, σ.2)
def ZAC (own : String) (ix : Nat) : Prop := Cond.methodLink own ix arraycopyName ∈ GW ∧ Cond.native arraycopyName ∈ GW ∧ Cond.static arraycopyName ∈ GW ∧ Cond.initialized "java/lang/System" ∈ GW
theorem z_ct_cpy {g : ZG} {σ : ZSt} {a b n k : Nat} (h : k ≠ b) : z_ct g (cpyA σ a b n) k = z_ct g σ k := by
  have e1 : (cpyA σ a b n).1 k = σ.1 k := by funext j; simp [cpyA, h]
  have e2 : (cpyA σ a b n).2 = σ.2 := rfl
  unfold z_ct z_fv
  rw [e1, e2]
theorem ZO.acopy {ix a b na nb : Nat} {nn : Int32} {rest : List Value} (hd : decode y.2.1 pc = .ok (.invokestatic ix, 3)) (hw : ZAC y.1.cls ix) (ha : z_isA 1 a na = true) (hb' : z_isA 1 b nb = true) (hn : 0 ≤ nn ∧ nn.toNatClampNeg ≤ na ∧ nn.toNatClampNeg ≤ nb) (hdd : 0 < d) (hcat : rest = []) (k : ZO g d y u (pc + 3) L rest (cpyA σ a b nn.toNatClampNeg) t K) : ZO g d y u pc L (.int nn :: .int 0 :: .ref b :: .int 0 :: .ref a :: rest) σ t K := by
  subst hcat
  refine ZO.lift (fun p e R s m args below meth c hC Z H locs ls hR hL kk => ?_) k
  obtain ⟨hx, hb, hml, hown, hts, hlk, hK, hrm, hXs, hsc⟩ := hC
  obtain ⟨hP, hD, hS⟩ := hR
  obtain ⟨hid, hkd⟩ := z_isA_id ha
  obtain ⟨hid', hkd'⟩ := z_isA_id hb'
  obtain ⟨q, hq0, hq⟩ := z_at g σ hid
  obtain ⟨q', hq0', hq'⟩ := z_at g σ hid'
  rw [z_ct_i hkd] at hq
  rw [z_ct_i hkd'] at hq'
  have e : va_cpy (σ.1 a) (σ.1 b) (0 : Int32).toNatClampNeg (0 : Int32).toNatClampNeg nn.toNatClampNeg = (cpyA σ a b nn.toNatClampNeg).1 b := by
    funext j
    have z0 : (0 : Int32).toNatClampNeg = 0 := by decide
    simp [va_cpy, cpyA, z0]
  have z0 : (0 : Int32).toNatClampNeg = 0 := by decide
  refine va_copyi hx hb (hml.trans hL.1.symm) hown (hts _ (z_wsi hw.1)) (hts _ (z_wsi hw.2.1)) (hts _ (z_wsi hw.2.2.1)) (hts _ (z_wsi hw.2.2.2)) hK hP hD hS q q' 0 0 hq hq' rfl rfl rfl (by decide) (by decide) (Int32.not_lt.mpr hn.1) (by rw [z0]; omega) (by rw [z0]; omega) (fun i _ => rfl) (by omega) ?_ hd (fun H1 locs1 hP1 hD1 hS1 => kk H1 locs1 ls ⟨?_, ?_, hS1⟩ hL)
  · have e9 : nativeFrameWords "java/lang/System" "arraycopy" 5 ≤ 29 := by decide +kernel
    show 0 + (nativeFrameWords "java/lang/System" "arraycopy" 5 + 11) ≤ R.locals
    omega
  · rw [e, ← z_ct_i (σ := cpyA σ a b nn.toNatClampNeg) hkd', z_set (τ := cpyA σ a b nn.toNatClampNeg) hq0' (fun k _ hk => z_ct_cpy hk)] at hP1
    exact hP1
  · rw [e, ← z_ct_i (σ := cpyA σ a b nn.toNatClampNeg) hkd', z_set (τ := cpyA σ a b nn.toNatClampNeg) hq0' (fun k _ hk => z_ct_cpy hk)] at hD1
    exact hD1
end ZMo
theorem zy_E_22 : ZAC "BesideAnother$Expression" 22 := ⟨(gwc2 189 rfl rfl), (gwc2 191 rfl rfl), (gwc2 190 rfl rfl), (gwc1 12 rfl rfl)⟩
theorem zm_P_32 : ZMN "BesideAnother$Text" 32 := ⟨(gwc2 130 rfl rfl), (gwc2 131 rfl rfl), (gwc1 11 rfl rfl), (gwc2 132 rfl rfl)⟩
theorem zm_X_151 : ZMN "BesideAnother" 151 := ⟨(gwc3 17 rfl rfl), (gwc2 131 rfl rfl), (gwc1 11 rfl rfl), (gwc2 132 rfl rfl)⟩
theorem zm_X_156 : ZMX "BesideAnother" 156 := ⟨(gwc3 18 rfl rfl), (gwc3 19 rfl rfl), (gwc1 11 rfl rfl), (gwc3 20 rfl rfl)⟩
theorem zy_X_395 : ZAC "BesideAnother" 395 := ⟨(gwc4 75 rfl rfl), (gwc2 191 rfl rfl), (gwc2 190 rfl rfl), (gwc1 12 rfl rfl)⟩
theorem zm_M_112 : ZMN "BesideAnotherModel" 112 := ⟨(gwc4 214 rfl rfl), (gwc2 131 rfl rfl), (gwc1 11 rfl rfl), (gwc2 132 rfl rfl)⟩
theorem zm_M_204 : ZMX "BesideAnotherModel" 204 := ⟨(gwc5 140 rfl rfl), (gwc3 19 rfl rfl), (gwc1 11 rfl rfl), (gwc3 20 rfl rfl)⟩
