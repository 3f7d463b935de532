-- the class's search: one state's acts
section Z66
theorem sks_s (a : ZA) (w : Nat → Bool) (c k : Nat) : sks a w c (k + 1) = if w k = true then sks a w c k ++ skd a c k 12 else sks a w c k := rfl
theorem sks_pre (a : ZA) (w : Nat → Bool) (c k : Nat) (hk : k ≤ 7) : ∃ r, sucA a w c = sks a w c k ++ r := by
  have key : ∀ m, k ≤ m → ∃ r, sks a w c m = sks a w c k ++ r := by
    intro m
    induction m with
    | zero => intro h; rw [show k = 0 by omega]; exact ⟨[], (List.append_nil _).symm⟩
    | succ m ih =>
      intro h
      by_cases e : k = m + 1
      · rw [e]; exact ⟨[], (List.append_nil _).symm⟩
      · obtain ⟨r, hr⟩ := ih (by omega)
        rw [sks_s, hr]
        split
        · exact ⟨r ++ skd a c m 12, by rw [List.append_assoc]⟩
        · exact ⟨r, rfl⟩
  exact key 7 hk
theorem xs_node {n st i c : Nat} {a1 : Int32} {w : Nat → Bool} {s u : ZSt} {a : ZA} {Q0 : ZQ} {ed : Nat → List Nat} {P : Bool × ZSt → Prop} {j7 : Int32 × Int32 × ZSt → Option (Bool × ZSt)}
    (hn : 20000 < n) (hnb : a.2.1.1 ≤ 12) (h : SX s u a st i Q0 ed []) (hc : Q0.2.1 i = c) (hi : i < 5000) (hlen : qof ed i + (sucA a w c).length ≤ 180000)
    (hw : ∀ k, k < 7 → (w k = true ↔ (a1 = -1 ∨ nI k = a1 ∨ k = 3)))
    (hF : ∀ v, bacts (sucA a w c) i Q0 [] = none → zE pxs s v → XK v a.2.1.1 (aD a) a.2.1.2.2.2.2.2 st → XS v → P (false, v))
    (hG : ∀ v Q es, bacts (sucA a w c) i Q0 [] = some (Q, es) → SX s v a st i Q ed es → zT (j7 (nI (qof ed i + es.length), nI (i + 1), v)) P) :
    zT (lpN (fun (j13 : Int32 × Int32 × ZSt → Option (Bool × ZSt)) (x12 : Int32 × Int32 × ZSt) => (if (7 : Int32) ≤ x12.2.1 then lt (nI i + (1 : Int32)) (fun v15 => j7 (x12.1, v15, x12.2.2)) else (lt ((if a1 = (-1 : Int32) then (1 : Int32) else (if x12.2.1 = a1 then (1 : Int32) else (if x12.2.1 = (3 : Int32) then (1 : Int32) else (0 : Int32)))) : Int32) (fun x16 => (jn (fun (x17 : Int32 × ZSt) => jn (fun (x18 : Int32 × ZSt) => lt (x12.2.1 + (1 : Int32)) (fun v19 => j13 (x18.1, v19, x18.2))) (fun j20 =>
      lpN (fun (j22 : Int32 × Int32 × ZSt → Option (Bool × ZSt)) (x21 : Int32 × Int32 × ZSt) => (if (srI x17.1 x21.2.1) = 0 then j20 (x21.1, x21.2.2) else (if (12 : Int32) ≤ x21.2.1 then j20 (x21.1, x21.2.2) else (jn (fun (x25 : Int32 × ZSt) => lt (x21.2.1 + (1 : Int32)) (fun v26 => j22 (x25.1, v26, x25.2))) (fun j27 => if ((srI x17.1 x21.2.1) &&& (1 : Int32)) = 0 then j27 (x21.1, x21.2.2) else lt (x12.2.1 * (20 : Int32) + x21.2.1) (fun v29 => gd (inb (nI i) 5000) (bn (f_T_after n (al x21.2.2 260 (nI i)) v29 x21.2.2) (fun p31 => bn (f_S_place n p31.1 (nI i) v29 p31.2) (fun p32 => (if p32.1 = (-1 : Int32) then some (false, p32.2) else (if x21.1 < (180000 : Int32) then gd (inb x21.1 180000) (lt (sai p32.2 269 x21.1 p32.1) (fun s36 => lt (x21.1 + (1 : Int32)) (fun v37 => j27 (v37, s36)))) else some (false, p32.2)))))))))))) n (x12.1, (0 : Int32), x17.2))) (fun j38 =>
      if x16 = 0 then j38 ((0 : Int32), x12.2.2) else gd (inb (nI i) 5000) (bn (f_T_possible n (al x12.2.2 260 (nI i)) (nI (spk (loA a) a.2.1.1)) x12.2.1 x12.2.2) (fun p41 => j38 (p41.1, p41.2))))))))) n (nI (qof ed i), (0 : Int32), u)) P := by
  refine zT.cnt 7 (fun k x => ∃ Q es, x.1 = nI (qof ed i + es.length) ∧ x.2.1 = nI k ∧ bacts (sks a w c k) i Q0 [] = some (Q, es) ∧ SX s x.2.2 a st i Q ed es) (by omega) ⟨Q0, [], rfl, rfl, rfl, h⟩ ?_
  rintro j k ⟨_, _, v⟩ hk ⟨Q, es, rfl, rfl, hb, hS⟩ hj
  dsimp only at *
  refine zT.ite (fun c1 => ?_) (fun c1 => ?_)
  · rw [show (7 : Int32) = nI 7 from rfl, nI_leI (by omega) (by omega)] at c1
    have e : k = 7 := by omega
    subst e
    rw [nI_1]
    exact zT.ltS (hG v Q es hb hS)
  · rw [show (7 : Int32) = nI 7 from rfl, nI_leI (by omega) (by omega)] at c1
    obtain ⟨b1, b2, b3⟩ := bacts_le _ _ _ _ _ hb h.2.2.2.2.2.2.2
    have hcQ : Q.2.1 i = c := b1.trans hc
    have hgo : ∀ Q2 es2 x, bacts (sks a w c (k + 1)) i Q0 [] = some (Q2, es2) → SX s x a st i Q2 ed es2 → zT (j (nI (qof ed i + es2.length), nI k + 1, x)) P := fun Q2 es2 x q1 q2 => by
      rw [nI_1]
      exact hj (by omega) _ ⟨Q2, es2, rfl, rfl, q1, q2⟩
    refine zT.ln (fun x16 hx => ?_)
    have h16 : x16 = 0 ↔ ¬ w k = true := by
      rw [hw k (by omega), hx]
      by_cases q1 : a1 = -1
      · simp [q1]
      · by_cases q2 : nI k = a1
        · simp [q1, q2]
        · by_cases q3 : k = 3
          · subst q3
            simp [q1, q2, show nI 3 = (3 : Int32) from rfl]
          · have q4 : ¬ nI k = 3 := fun z => q3 ((nI_eq (b := 3) (by omega) (by decide)).mp z)
            simp [q1, q2, q3, q4]
    by_cases hwk : w k = true
    · have hsk : sks a w c (k + 1) = sks a w c k ++ skd a c k 12 := by rw [sks_s, if_pos hwk]
      obtain ⟨r, hr⟩ := sks_pre a w c (k + 1) (by omega)
      refine zT.jnQ (fun y => y.1 = nI (posA a (dcd c) k) ∧ SX s y.2 a st i Q ed es) ?_ ?_
      · rintro ⟨_, y⟩ ⟨rfl, hy⟩
        dsimp only at hy ⊢
        refine zT.jnQ (fun z => ∃ Q2 es2, z.1 = nI (qof ed i + es2.length) ∧ bacts (sks a w c (k + 1)) i Q0 [] = some (Q2, es2) ∧ SX s z.2 a st i Q2 ed es2) ?_ ?_
        · rintro ⟨_, z⟩ ⟨Q2, es2, rfl, q1, q2⟩
          exact zT.ltS (hgo Q2 es2 z q1 q2)
        · intro j20 hj20
          refine xs_kind hn hnb hy hcQ (by omega) hi ?_ (fun x q e1 e2 e3 => ?_) (fun x Q2 es2 q e1 => ?_)
          · rw [hr, hsk, List.length_append, List.length_append] at hlen
            rw [List.length_nil, Nat.zero_add] at b3
            omega
          · refine hF x ?_ e1 e2 e3
            rw [hr, bacts_app, hsk, bacts_app, hb]
            show (match bacts (skd a c k 12) i Q es with
              | none => none
              | some (Q', es') => bacts r i Q' es') = none
            rw [q]
          · refine hj20 _ ⟨Q2, es2, rfl, ?_, e1⟩
            rw [hsk, bacts_app, hb]
            exact q
      · intro j38 hj38
        refine zT.ie (fun z => h16.mp z hwk) (zT.gu (inb_n hi (by decide)) ?_)
        obtain ⟨s1, s2, ⟨cl, sl', s3⟩, s4, s5, s6, s7, s8⟩ := id hS
        obtain ⟨g1, g2, _⟩ := s3.2.1 i s8
        rw [al_n _ _ (by omega), g1, show lN (Q.2.1 i) = lN (en (dcd (Q.2.1 i))) from by rw [en_dcd g2], hcQ]
        have hokc := s4 i s8
        rw [hcQ] at hokc
        refine zT.bnT (t_possible (by omega) s2 hokc (show k < 7 by omega)) ?_
        rintro ⟨_, y⟩ ⟨rfl, hE, hK⟩
        exact hj38 _ ⟨rfl, hS.mb hE hK⟩
    · have hsk : sks a w c (k + 1) = sks a w c k := by rw [sks_s, if_neg hwk]
      refine zT.jnQ (fun y => y = (0, v)) ?_ ?_
      · rintro _ rfl
        dsimp only
        refine zT.jnQ (fun z => z = (nI (qof ed i + es.length), v)) ?_ ?_
        · rintro _ rfl
          exact zT.ltS (hgo Q es v (by rw [hsk]; exact hb) hS)
        · intro j20 hj20
          refine zT.cnt 1 (fun m x => m = 0 ∧ x = (nI (qof ed i + es.length), 0, v)) (by omega) ⟨rfl, rfl⟩ ?_
          rintro j22 m _ _ ⟨rfl, rfl⟩ _
          exact zT.it (show srI (0 : Int32) (0 : Int32) = 0 by decide) (hj20 _ rfl)
      · intro j38 hj38
        exact zT.it (h16.mpr hwk) (hj38 _ rfl)
end Z66
