-- the class's search: one kind's acts
section Z65
theorem bacts_le {i : Nat} : ∀ (l : List (Nat × Nat)) (Q : ZQ) (es : List Nat) (Q' : ZQ) (es' : List Nat), bacts l i Q es = some (Q', es') → i < Q.1 → Q'.2.1 i = Q.2.1 i ∧ i < Q'.1 ∧ es'.length = es.length + l.length
  | [], Q, es, Q', es', h, hi => by
    cases h
    exact ⟨rfl, hi, rfl⟩
  | (a, c) :: r, Q, es, Q', es', h, hi => by
    have h : (match qput Q c (nI i) (nI a) (Q.2.2.2.2 i + 1) with
      | none => none
      | some (k, Q') => bacts r i Q' (es ++ [k])) = some (Q', es') := h
    cases hq : qput Q c (nI i) (nI a) (Q.2.2.2.2 i + 1) with
    | none => rw [hq] at h; cases h
    | some w =>
      obtain ⟨k, Q2⟩ := w
      rw [hq] at h
      obtain ⟨p1, p2, p3⟩ := qput_le hq
      obtain ⟨r1, r2, r3⟩ := bacts_le r Q2 (es ++ [k]) Q' es' h (by omega)
      refine ⟨r1.trans (p3 i hi).1, r2, ?_⟩
      rw [r3, List.length_append, List.length_singleton, List.length_cons]
      omega
theorem skd_s (a : ZA) (c kd k : Nat) : skd a c kd (k + 1) = if (posA a (dcd c) kd).testBit k = true then skd a c kd k ++ [(20 * kd + k, en (aft (aD a) a.2.1.1 (dcd c) (20 * kd + k)))] else skd a c kd k := rfl
theorem skd_pre (a : ZA) (c kd k : Nat) (hk : k ≤ 12) : ∃ r, skd a c kd 12 = skd a c kd k ++ r := by
  have key : ∀ m, k ≤ m → ∃ r, skd a c kd m = skd a c kd k ++ r := by
    intro m
    induction m with
    | zero => intro h; rw [show k = 0 by omega]; exact ⟨[], (List.append_nil _).symm⟩
    | succ m ih =>
      intro h
      by_cases e : k = m + 1
      · rw [e]; exact ⟨[], (List.append_nil _).symm⟩
      · obtain ⟨r, hr⟩ := ih (by omega)
        rw [skd_s, hr]
        split
        · exact ⟨r ++ [(20 * kd + m, en (aft (aD a) a.2.1.1 (dcd c) (20 * kd + m)))], by rw [List.append_assoc]⟩
        · exact ⟨r, rfl⟩
  exact key 12 hk
theorem skd_end (a : ZA) (c kd k : Nat) (hk : k ≤ 12) (h : ∀ j, k ≤ j → (posA a (dcd c) kd).testBit j = false) : skd a c kd 12 = skd a c kd k := by
  have key : ∀ m, k ≤ m → skd a c kd m = skd a c kd k := by
    intro m
    induction m with
    | zero => intro h; rw [show k = 0 by omega]
    | succ m ih =>
      intro hm
      by_cases e : k = m + 1
      · rw [e]
      · rw [skd_s, h m (by omega), if_neg (by decide)]
        exact ih (by omega)
  exact key 12 hk
theorem xs_kind {n st i kd c : Nat} {s u : ZSt} {a : ZA} {Q0 : ZQ} {ed : Nat → List Nat} {es0 : List Nat} {P : Bool × ZSt → Prop} {j20 : Int32 × ZSt → Option (Bool × ZSt)}
    (hn : 20000 < n) (hnb : a.2.1.1 ≤ 12) (h : SX s u a st i Q0 ed es0) (hc : Q0.2.1 i = c) (hkd : kd < 7) (hi : i < 5000) (hlen : qof ed i + (es0.length + (skd a c kd 12).length) ≤ 180000)
    (hF : ∀ v, bacts (skd a c kd 12) i Q0 es0 = none → zE pxs s v → XK v a.2.1.1 (aD a) a.2.1.2.2.2.2.2 st → XS v → P (false, v))
    (hG : ∀ v Q es, bacts (skd a c kd 12) i Q0 es0 = some (Q, es) → SX s v a st i Q ed es → zT (j20 (nI (qof ed i + es.length), v)) P) :
    zT (lpN (fun (j22 : Int32 × Int32 × ZSt → Option (Bool × ZSt)) (x21 : Int32 × Int32 × ZSt) => (if (srI (nI (posA a (dcd c) kd)) x21.2.1) = 0 then j20 (x21.1, x21.2.2) else (if (12 : Int32) ≤ x21.2.1 then j20 (x21.1, x21.2.2) else (jn (fun (x25 : Int32 × ZSt) => lt (x21.2.1 + (1 : Int32)) (fun v26 => j22 (x25.1, v26, x25.2))) (fun j27 => if ((srI (nI (posA a (dcd c) kd)) x21.2.1) &&& (1 : Int32)) = 0 then j27 (x21.1, x21.2.2) else lt (nI kd * (20 : Int32) + x21.2.1) (fun v29 => gd (inb (nI i) 5000) (bn (f_T_after n (al x21.2.2 260 (nI i)) v29 x21.2.2) (fun p31 => bn (f_S_place n p31.1 (nI i) v29 p31.2) (fun p32 => (if p32.1 = (-1 : Int32) then some (false, p32.2) else (if x21.1 < (180000 : Int32) then gd (inb x21.1 180000) (lt (sai p32.2 269 x21.1 p32.1) (fun s36 => lt (x21.1 + (1 : Int32)) (fun v37 => j27 (v37, s36)))) else some (false, p32.2)))))))))))) n (nI (qof ed i + es0.length), (0 : Int32), u)) P := by
  have hok0 := h.2.2.2.1 i h.2.2.2.2.2.2.2
  rw [hc] at hok0
  have hpl : posA a (dcd c) kd < 2 ^ a.2.1.1 := pos_lt hok0
  have h12 := pw_12 hnb
  refine zT.cnt 12 (fun k x => ∃ Q es, x.1 = nI (qof ed i + es.length) ∧ x.2.1 = nI k ∧ bacts (skd a c kd k) i Q0 es0 = some (Q, es) ∧ SX s x.2.2 a st i Q ed es) (by omega) ⟨Q0, es0, rfl, rfl, rfl, h⟩ ?_
  rintro j k ⟨_, _, v⟩ hk ⟨Q, es, rfl, rfl, hb, hS⟩ hj
  dsimp only at *
  have done : (∀ j, k ≤ j → (posA a (dcd c) kd).testBit j = false) → zT (j20 (nI (qof ed i + es.length), v)) P := fun hz => hG v Q es (by rw [skd_end a c kd k hk hz]; exact hb) hS
  rw [srI_n (by omega) (by omega)]
  have hsr : posA a (dcd c) kd >>> k ≤ posA a (dcd c) kd := Nat.shiftRight_le _ _
  refine zT.ite (fun c1 => ?_) (fun c1 => ?_)
  · have c1 := (nI_eq (b := 0) (by omega) (by decide)).mp c1
    refine done (fun j hj => ?_)
    have := congrArg (fun z => z.testBit (j - k)) c1
    simp only [Nat.testBit_shiftRight, Nat.zero_testBit] at this
    rw [show k + (j - k) = j by omega] at this
    exact this
  · refine zT.ite (fun c2 => ?_) (fun c2 => ?_)
    · rw [show (12 : Int32) = nI 12 from rfl, nI_leI (by omega) (by omega)] at c2
      exact done (fun j hj => tb_big hpl (by omega))
    · rw [show (12 : Int32) = nI 12 from rfl, nI_leI (by omega) (by omega)] at c2
      obtain ⟨b1, b2, b3⟩ := bacts_le _ _ _ _ _ hb h.2.2.2.2.2.2.2
      refine zT.jnQ (fun y => ∃ Q es, y.1 = nI (qof ed i + es.length) ∧ bacts (skd a c kd (k + 1)) i Q0 es0 = some (Q, es) ∧ SX s y.2 a st i Q ed es) ?_ ?_
      · rintro ⟨_, y⟩ ⟨Q2, es2, rfl, q1, q2⟩
        rw [nI_1]
        exact zT.ltS (hj (by omega) _ ⟨Q2, es2, rfl, rfl, q1, q2⟩)
      · intro j27 hj27
        rw [← srI_n (by omega) (by omega)]
        refine zT.ite (fun c3 => ?_) (fun c3 => ?_)
        · rw [bit0 (by omega) (by omega)] at c3
          exact hj27 _ ⟨Q, es, rfl, by rw [skd_s, c3, if_neg (by decide)]; exact hb, hS⟩
        · rw [bit0 (by omega) (by omega)] at c3
          have c3 : (posA a (dcd c) kd).testBit k = true := by simpa using c3
          have hkb : k < a.2.1.1 := by
            rcases Nat.lt_or_ge k a.2.1.1 with q | q
            · exact q
            · rw [tb_big hpl q] at c3; cases c3
          have hsk : skd a c kd (k + 1) = skd a c kd k ++ [(20 * kd + k, en (aft (aD a) a.2.1.1 (dcd c) (20 * kd + k)))] := by rw [skd_s, if_pos c3]
          obtain ⟨r, hr⟩ := skd_pre a c kd (k + 1) (by omega)
          have hcQ : Q.2.1 i = c := b1.trans hc
          have hlen2 : qof ed i + es.length < 180000 := by
            rw [hr, hsk, List.length_append, List.length_append, List.length_singleton] at hlen
            omega
          refine xs_act hn hnb hS hkd hkb hlen2 hi (fun w q e1 e2 e3 => ?_) (fun w m Q2 q e1 => ?_)
          · rw [hcQ] at q
            refine hF w ?_ e1 e2 e3
            rw [hr, bacts_app, hsk, bacts_app, hb]
            show (match (match qput Q _ _ _ _ with
              | none => none
              | some (k, Q') => bacts [] i Q' (es ++ [k])) with
              | none => none
              | some (Q', es') => bacts r i Q' es') = none
            rw [q]
          · rw [hcQ] at q
            refine hj27 _ ⟨Q2, es ++ [m], by rw [List.length_append, List.length_singleton]; rfl, ?_, e1⟩
            rw [hsk, bacts_app, hb]
            show (match qput Q _ _ _ _ with
              | none => none
              | some (k, Q') => bacts [] i Q' (es ++ [k])) = _
            rw [q]; rfl
end Z65
