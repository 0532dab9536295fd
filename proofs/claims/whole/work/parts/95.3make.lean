def mm_ag (i : Nat) (A B : Nat → List Int32) : Prop :=
  (∀ j, j ≠ 1 → j ≠ 7 → j ≠ 8 → j ≠ 9 → j ≠ 10 → j ≠ 11 → j ≠ 13 → j ≠ 14 → B j = A j) ∧
  (∀ t, t ≠ 0 → t ≠ 1 + i → (B 7).getD t 0 = (A 7).getD t 0) ∧
  (∀ r t, 8 ≤ r → r ≤ 10 → 16 ≤ t → (t < 16 * (1 + i) ∨ 16 * (1 + i) + 16 ≤ t) → (B r).getD t 0 = (A r).getD t 0) ∧
  (∀ t, t ≠ i → (B 11).getD t 0 = (A 11).getD t 0) ∧
  (∀ r t, r = 13 ∨ r = 14 → 40 ≤ t → (B r).getD t 0 = (A r).getD t 0) ∧
  (∀ t, (120 ≤ t ∧ t < 480) ∨ 1760 ≤ t → (B 1).getD t 0 = (A 1).getD t 0)
theorem mm_ag.tr {i : Nat} {A B C : Nat → List Int32} (x : mm_ag i A B) (y : mm_ag i B C) : mm_ag i A C := by
  obtain ⟨x1, x2, x3, x4, x5, x6⟩ := x
  obtain ⟨y1, y2, y3, y4, y5, y6⟩ := y
  refine ⟨fun j a b c d e f g k => ?_, fun t a b => ?_, fun r t a b c d => ?_, fun t a => ?_, fun r t a b => ?_, fun t a => ?_⟩
  · rw [y1 j a b c d e f g k, x1 j a b c d e f g k]
  · rw [y2 t a b, x2 t a b]
  · rw [y3 r t a b c d, x3 r t a b c d]
  · rw [y4 t a, x4 t a]
  · rw [y5 r t a b, x5 r t a b]
  · rw [y6 t a, x6 t a]
theorem mm_ag.ml {i l : Nat} {A B : Nat → List Int32} {ps : dp_P} (x : mm_ag i A B) (h0 : l ≠ 0) (h1 : l ≠ 1 + i) (q : ml A l ps) : ml B l ps := by
  obtain ⟨q1, q2, q3⟩ := q
  refine ⟨by rw [x.2.1 l h0 h1]; exact q1, q2, fun k hk => ?_⟩
  rw [x.2.2.1 8 _ (by omega) (by omega) (by omega) (by omega), x.2.2.1 9 _ (by omega) (by omega) (by omega) (by omega), x.2.2.1 10 _ (by omega) (by omega) (by omega) (by omega)]
  exact q3 k hk
theorem mk_same {A B : Nat → List Int32} {b : Nat} {L : dp_K} (hm : mk A b L) (e13 : B 13 = A 13) (e14 : B 14 = A 14) (e1 : ∀ j, 480 ≤ j → (B 1).getD j 0 = (A 1).getD j 0) : mk B b L := by
  intro j hj
  obtain ⟨q1, q2, q3, q4⟩ := hm j hj
  rw [e13, e14]
  refine ⟨q1, q2, q3, fun t ht => ?_⟩
  rw [e1 _ (by omega)]
  exact q4 t ht
theorem bt_sub_len {bs : List Int32} {s n : Nat} (h : s + n ≤ bs.length) : (bt_sub bs s n).length = n := by
  unfold bt_sub
  rw [List.length_take, List.length_drop]
  omega
theorem bt_sub_at {bs : List Int32} {s n t : Nat} (ht : t < n) : (bt_sub bs s n).getD t 0 = bs.getD (s + t) 0 := by
  unfold bt_sub
  rw [List.getD_eq_getElem?_getD, List.getD_eq_getElem?_getD, List.getElem?_take, if_pos ht, List.getElem?_drop]
theorem dp_isnew_iff {ps : dp_P} {st : dp_K} {k : Nat} (hk : k < ps.length) : dp_isnew ps st k = true ↔ ¬ (ex_kp st (pl_i ps k) ≠ none ∨ ∃ j, j < k ∧ pl_i ps j = pl_i ps k) := by
  rw [← ms_new (os := []) hk, ← ex_kp_some, ← ms_has (os := [])]
  have := ex_kp_some (L := ms_go ps [] st k) (w := pl_i ps k)
  constructor
  · intro q z
    exact this.mp z q
  · intro q
    exact Decidable.byContradiction (fun z => q (this.mpr z))
section MMAKE
variable {xs : List Int32} {h : pm_H} {o : Nat} {A : Nat → List Int32} {I : Nat → Int32} {st : dp_K} {P : dp_P} {Q : Option Value → pm_H → Prop}
theorem ct_M_makeA {i : Nat} (hb : mr_R h o A I) (hP : ml A 0 P) (hk : mk A (40 * 0) st) (h5 : I 5 = nI st.length) (l5 : st.length ≤ 40)
    (kk : ∀ (v3 v4 v5 : Value), pm_W xs 4 mM_make 141 [.ref o, .int (nI i), .int (nI (dp_new P st P.length)), v3, v4, v5] [] h Q) :
    ∀ (r k : Nat) (v4 v5 : Value), k + r = P.length → pm_W xs 4 mM_make 48 [.ref o, .int (nI i), .int (nI (dp_new P st k)), .int (nI k), v4, v5] [] h Q := by
  have h1 := hb.1
  obtain ⟨p1, p2, p3⟩ := hP
  have id : ∀ t, t < P.length → (A 10).getD t 0 = pl_i P t := by
    intro t ht
    have := (p3 t ht).2.2
    rw [show 16 * 0 + t = t by omega] at this
    exact this
  intro r
  induction r with
  | zero =>
    intro k v4 v5 hk2
    have e : k = P.length := by omega
    subst e
    (repeat (first | refine pm_W.ts rfl rfl ?_ | refine pm_W.tl rfl rfl ?_ | refine pm_W.get rfl rfl h1 rfl ?_))
    refine mr_ld (i := 7) (k := 0) hb rfl rfl rfl rfl (show 0 < 7 by omega) ?_
    rw [p1]
    refine pm_W.icmp rfl (fun _ => kk _ _ _) (fun z => ?_)
    have z : ¬ nI P.length ≤ nI P.length := z
    rw [nI_leI (by omega) (by omega)] at z
    omega
  | succ r ih =>
    intro k v4 v5 hk2
    have nx := ih (k + 1)
    rw [dp_new] at nx
    have hn := dp_isnew_iff (ps := P) (st := st) (k := k) (by omega)
    have inner : ∀ (r j : Nat) (c : Bool), j + r = k → (c = true ↔ (ex_kp st (pl_i P k) ≠ none ∨ ∃ t, t < j ∧ pl_i P t = pl_i P k)) → pm_W xs 4 mM_make 82 [.ref o, .int (nI i), .int (nI (dp_new P st k)), .int (nI k), .int (fr_b c), .int (nI j)] [] h Q := by
      intro r
      induction r with
      | zero =>
        intro j c hj hc
        have e : j = k := by omega
        subst e
        (repeat (first | refine pm_W.ts rfl rfl ?_ | refine pm_W.tl rfl rfl ?_))
        refine pm_W.icmp rfl (fun _ => ?_) (fun z => ?_)
        · (iterate 1 (first | refine pm_W.ts rfl rfl ?_ | refine pm_W.tl rfl rfl ?_))
          cases c with
          | true =>
            refine pm_W.ifz rfl (fun z => absurd (show (1 : Int32) = 0 from z) (by decide)) (fun _ => ?_)
            (iterate 1 (first | refine pm_W.ts rfl rfl ?_ | refine pm_W.tl rfl rfl ?_))
            refine pm_W.goto rfl ?_
            (iterate 2 (first | refine pm_W.ts rfl rfl ?_ | refine pm_W.tl rfl rfl ?_))
            refine pm_W.goto rfl ?_
            rw [fr_inc]
            rw [if_neg (fun z => hn.mp z (hc.mp rfl)), Nat.add_zero] at nx
            exact nx _ _ (by omega)
          | false =>
            refine pm_W.ifz rfl (fun _ => ?_) (fun z => absurd rfl z)
            (iterate 3 (first | refine pm_W.ts rfl rfl ?_ | refine pm_W.tl rfl rfl ?_))
            rw [fr_inc]
            (iterate 2 (first | refine pm_W.ts rfl rfl ?_ | refine pm_W.tl rfl rfl ?_))
            refine pm_W.goto rfl ?_
            rw [fr_inc]
            rw [if_pos (hn.mpr (fun z => absurd (hc.mpr z) Bool.false_ne_true))] at nx
            exact nx _ _ (by omega)
        · have z : ¬ nI j ≤ nI j := z
          rw [nI_leI (by omega) (by omega)] at z
          omega
      | succ r ih2 =>
        intro j c hj hc
        have yes : (ex_kp st (pl_i P k) ≠ none ∨ ∃ t, t < j + 1 ∧ pl_i P t = pl_i P k) → pm_W xs 4 mM_make 109 [.ref o, .int (nI i), .int (nI (dp_new P st k)), .int (nI k), .int (fr_b c), .int (nI j)] [] h Q := by
          intro q
          (iterate 1 (first | refine pm_W.ts rfl rfl ?_ | refine pm_W.tl rfl rfl ?_))
          refine pm_W.goto rfl ?_
          (iterate 2 (first | refine pm_W.ts rfl rfl ?_ | refine pm_W.tl rfl rfl ?_))
          refine pm_W.goto rfl ?_
          rw [fr_inc]
          exact ih2 (j + 1) true (by omega) ⟨fun _ => q, fun _ => rfl⟩
        (repeat (first | refine pm_W.ts rfl rfl ?_ | refine pm_W.tl rfl rfl ?_))
        refine pm_W.icmp rfl (fun z => ?_) (fun _ => ?_)
        · have z : nI k ≤ nI j := z
          rw [nI_leI (by omega) (by omega)] at z
          omega
        · (iterate 1 (first | refine pm_W.ts rfl rfl ?_ | refine pm_W.tl rfl rfl ?_))
          cases c with
          | true =>
            refine pm_W.ifz rfl (fun _ => yes ?_) (fun z => absurd (show ¬ (1 : Int32) = 0 by decide) z)
            rcases hc.mp rfl with q | ⟨t, ht, q⟩
            · exact Or.inl q
            · exact Or.inr ⟨t, by omega, q⟩
          | false =>
            refine pm_W.ifz rfl (fun z => absurd rfl z) (fun _ => ?_)
            (repeat (first | refine pm_W.ts rfl rfl ?_ | refine pm_W.tl rfl rfl ?_ | refine pm_W.get rfl rfl h1 rfl ?_))
            refine mr_ld (i := 10) (k := j) hb rfl rfl rfl rfl (show j < 112 by omega) ?_
            rw [id j (by omega)]
            (repeat (first | refine pm_W.ts rfl rfl ?_ | refine pm_W.tl rfl rfl ?_ | refine pm_W.get rfl rfl h1 rfl ?_))
            refine mr_ld (i := 10) (k := k) hb rfl rfl rfl rfl (show k < 112 by omega) ?_
            rw [id k (by omega)]
            refine pm_W.icmp rfl (fun z => ?_) (fun z => ?_)
            · have z : ¬ pl_i P j = pl_i P k := z
              (iterate 3 (first | refine pm_W.ts rfl rfl ?_ | refine pm_W.tl rfl rfl ?_))
              refine pm_W.goto rfl ?_
              rw [fr_inc]
              refine ih2 (j + 1) false (by omega) ⟨fun q => absurd q Bool.false_ne_true, fun q => ?_⟩
              refine hc.mpr ?_
              rcases q with q | ⟨t, ht, q⟩
              · exact Or.inl q
              · by_cases ct : t = j
                · rw [ct] at q; exact absurd q z
                · exact Or.inr ⟨t, by omega, q⟩
            · have z : ¬ ¬ pl_i P j = pl_i P k := z
              exact yes (Or.inr ⟨j, by omega, Decidable.not_not.mp z⟩)
    (repeat (first | refine pm_W.ts rfl rfl ?_ | refine pm_W.tl rfl rfl ?_ | refine pm_W.get rfl rfl h1 rfl ?_))
    refine mr_ld (i := 7) (k := 0) hb rfl rfl rfl rfl (show 0 < 7 by omega) ?_
    rw [p1]
    refine pm_W.icmp rfl (fun z => ?_) (fun _ => ?_)
    · have z : nI P.length ≤ nI k := z
      rw [nI_leI (by omega) (by omega)] at z
      omega
    · (repeat (first | refine pm_W.ts rfl rfl ?_ | refine pm_W.tl rfl rfl ?_ | refine pm_W.get rfl rfl h1 rfl ?_))
      refine mr_ld (i := 10) (k := k) hb rfl rfl rfl rfl (show k < 112 by omega) ?_
      rw [id k (by omega)]
      refine pm_W.callV (d' := 0) (as := [.int (nI 0), .int (pl_i P k)]) rfl rfl rfl rfl (fr_ble rfl) h1 (fr_ble rfl) (ct_M_find (q := 0) hb hk (Or.inl ⟨rfl, h5, l5⟩) (fun j he hj => ?_) (fun he => ?_))
      · refine pm_W.ifz rfl (fun z => absurd z (nI_pos (by omega))) (fun _ => ?_)
        (iterate 1 (first | refine pm_W.ts rfl rfl ?_ | refine pm_W.tl rfl rfl ?_))
        refine pm_W.goto rfl ?_
        (iterate 3 (first | refine pm_W.ts rfl rfl ?_ | refine pm_W.tl rfl rfl ?_))
        exact inner k 0 true (by omega) ⟨fun _ => Or.inl (by rw [he]; intro q; cases q), fun _ => rfl⟩
      · refine pm_W.ifz rfl (fun _ => ?_) (fun z => absurd (show (-1 : Int32) < 0 by decide) z)
        (iterate 4 (first | refine pm_W.ts rfl rfl ?_ | refine pm_W.tl rfl rfl ?_))
        refine inner k 0 false (by omega) ⟨fun q => absurd q Bool.false_ne_true, fun q => ?_⟩
        rcases q with q | ⟨t, ht, -⟩
        · exact absurd he q
        · exact absurd ht (Nat.not_lt_zero _)
end MMAKE
