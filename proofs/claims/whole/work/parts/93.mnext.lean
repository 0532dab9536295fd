theorem od_b {p : Nat} : ∀ i, od p i < 32 ^ i := by
  intro i
  induction i with
  | zero => exact Nat.one_pos
  | succ i ih =>
    have := pa_n_lt (p := p) (i := i)
    rw [od_s, Nat.pow_succ]
    omega
theorem od_30 {p : Nat} : od p 6 < 2 ^ 30 := od_b 6
def em_v (b : Nat) : Option Nat → Int32
  | none => -1
  | some s => nI (b + (s - 1))
theorem pa_last_div {p : Nat} (h : pa_ok p = true) (h0 : p ≠ 0) : p / 2 ^ (5 * (pa_d p - 1)) = pa_last p := by
  have hd := pa_d_pos h h0
  have hl := pa_ok_lt h
  unfold pa_last pa_n
  rw [Nat.mod_eq_of_lt]
  apply Nat.div_lt_of_lt_mul
  rw [show 32 = 2 ^ 5 from rfl, ← Nat.pow_add, show 5 * (pa_d p - 1) + 5 = 5 * pa_d p by omega]
  exact hl
theorem mb_app {A B : Nat → List Int32} {f : Nat} {bs : List Int32} {x : Int32} (h : mb A f bs) (hl : f + bs.length < (A 1).length) (e : B 1 = (A 1).set (f + bs.length) x) : mb B f (bs ++ [x]) := by
  intro k hk
  rw [List.length_append] at hk
  have hk : k < bs.length + 1 := hk
  rw [e, fr_getD_set hl, fr_gapp]
  by_cases c : k < bs.length
  · rw [if_neg (by omega), if_pos c]
    exact h k c
  · rw [if_pos (by omega), if_neg c, show k - bs.length = 0 by omega]
    rfl
theorem mt_rows {A B : Nat → List Int32} {b : Nat} {T : te_T} (hm : mt A b T) (e3 : B 3 = A 3) (e4 : B 4 = A 4) (e5 : B 5 = A 5) (e6 : B 6 = A 6) : mt B b T := by
  intro e he
  have := hm e he
  rw [e3, e4, e5, e6]
  exact this
section MNEXT
variable {xs : List Int32} {h : pm_H} {o b : Nat} {A : Nat → List Int32} {I : Nat → Int32} {T : te_T} {Q : Option Value → pm_H → Prop}
theorem ct_M_next {l : Nat} (hb : mr_R h o A I) (hm : mt A b T) (hV : tV T) (hbb : b ≤ 10) (hl : l < 2 ^ 30) (k : Q (some (.int (em_v b (em_nx T l)))) h) : pm_X xs 1 mM_next [.ref o, .int (nI b), .int (nI l)] h Q := by
  have h1 := hb.1
  have loop : ∀ (r n : Nat), n + r = 10 → pm_W xs 1 mM_next 5 [.ref o, .int (nI b), .int (nI l), .int (em_v b (tr_best (fun s => decide (tP T (s - 1) ≠ 0)) (fun s => od (tP T (s - 1)) 6) l n)), .int (nI (b + n))] [] h Q := by
    intro r
    induction r with
    | zero =>
      intro n hn
      have e10 : n = 10 := by omega
      subst e10
      (repeat (first | refine pm_W.ts rfl rfl ?_ | refine pm_W.tl rfl rfl ?_))
      refine pm_W.icmp rfl (fun c => ?_) (fun c => ?_)
      · (repeat (first | refine pm_W.ts rfl rfl ?_ | refine pm_W.tl rfl rfl ?_))
        exact pm_W.iret rfl rfl k
      · have c : ¬ nI b + nI 10 ≤ nI (b + 10) := c
        rw [nI_add, nI_leI (by omega) (by omega)] at c
        omega
    | succ r ih =>
      intro n hn
      have i1 := ih (n + 1) (by omega)
      have ea := (hm n (by omega)).1
      have lt := tV_lt hV (show n < 10 by omega)
      have o1 := od_30 (p := tP T n)
      generalize hbest : tr_best (fun s => decide (tP T (s - 1) ≠ 0)) (fun s => od (tP T (s - 1)) 6) l n = best at i1 ⊢
      have no : tr_best (fun s => decide (tP T (s - 1) ≠ 0)) (fun s => od (tP T (s - 1)) 6) l (n + 1) = best → pm_W xs 1 mM_next 67 [.ref o, .int (nI b), .int (nI l), .int (em_v b best), .int (nI (b + n))] [] h Q := by
        intro e
        rw [e, show b + (n + 1) = b + n + 1 by omega, ← fr_inc (b + n)] at i1
        (repeat (first | refine pm_W.ts rfl rfl ?_ | refine pm_W.tl rfl rfl ?_))
        refine pm_W.goto rfl ?_
        exact i1
      have yes : tr_best (fun s => decide (tP T (s - 1) ≠ 0)) (fun s => od (tP T (s - 1)) 6) l (n + 1) = some (n + 1) → pm_W xs 1 mM_next 64 [.ref o, .int (nI b), .int (nI l), .int (em_v b best), .int (nI (b + n))] [] h Q := by
        intro e
        rw [e, show b + (n + 1) = b + n + 1 by omega, ← fr_inc (b + n)] at i1
        (repeat (first | refine pm_W.ts rfl rfl ?_ | refine pm_W.tl rfl rfl ?_))
        refine pm_W.goto rfl ?_
        exact i1
      (repeat (first | refine pm_W.ts rfl rfl ?_ | refine pm_W.tl rfl rfl ?_))
      refine pm_W.icmp rfl (fun c => ?_) (fun c => ?_)
      · have c : nI b + nI 10 ≤ nI (b + n) := c
        rw [nI_add, nI_leI (by omega) (by omega)] at c
        omega
      · (repeat (first | refine pm_W.ts rfl rfl ?_ | refine pm_W.tl rfl rfl ?_ | refine pm_W.get rfl rfl h1 rfl ?_))
        refine mr_ld (i := 3) (k := b + n) hb rfl rfl rfl rfl (show b + n < 20 by omega) ?_
        rw [ea]
        refine pm_W.ifz rfl (fun c2 => ?_) (fun c2 => ?_)
        · have c2 : nI (tP T n) = nI 0 := c2
          rw [nI_eq (by omega) (by omega)] at c2
          exact no (by rw [tr_best, if_neg (fun z => absurd c2 (of_decide_eq_true z.1)), hbest])
        · have c2 : ¬ nI (tP T n) = nI 0 := c2
          rw [nI_eq (by omega) (by omega)] at c2
          (repeat (first | refine pm_W.ts rfl rfl ?_ | refine pm_W.tl rfl rfl ?_ | refine pm_W.get rfl rfl h1 rfl ?_))
          refine mr_ld (i := 3) (k := b + n) hb rfl rfl rfl rfl (show b + n < 20 by omega) ?_
          rw [ea]
          refine pm_W.callS (d' := 0) rfl rfl rfl rfl (fr_ble rfl) (fr_ble rfl) (ct_M_order (by omega) ?_)
          (repeat (first | refine pm_W.ts rfl rfl ?_ | refine pm_W.tl rfl rfl ?_))
          refine pm_W.icmp rfl (fun c3 => ?_) (fun c3 => ?_)
          · have c3 : nI (od (tP T n) 6) ≤ nI l := c3
            rw [nI_leI (by omega) (by omega)] at c3
            exact no (by rw [tr_best, if_neg (fun z => absurd z.2.1 (Nat.not_lt.mpr c3)), hbest])
          · have c3 : ¬ nI (od (tP T n) 6) ≤ nI l := c3
            rw [nI_leI (by omega) (by omega)] at c3
            (repeat (first | refine pm_W.ts rfl rfl ?_ | refine pm_W.tl rfl rfl ?_))
            cases best with
            | none =>
              refine pm_W.ifz rfl (fun c4 => ?_) (fun c4 => absurd (show (-1 : Int32) < 0 by decide) c4)
              exact yes (by rw [tr_best, if_pos ⟨decide_eq_true c2, Nat.lt_of_not_le c3, fun b' hb' => by rw [hbest] at hb'; cases hb'⟩])
            | some s =>
              have hs := tr_best_le n s hbest
              obtain ⟨e, rfl⟩ : ∃ e, s = e + 1 := ⟨s - 1, by omega⟩
              have eb := (hm e (by omega)).1
              have ltb := tV_lt hV (show e < 10 by omega)
              have o2 := od_30 (p := tP T e)
              refine pm_W.ifz rfl (fun c4 => absurd c4 (nI_pos (by omega))) (fun _ => ?_)
              (repeat (first | refine pm_W.ts rfl rfl ?_ | refine pm_W.tl rfl rfl ?_ | refine pm_W.get rfl rfl h1 rfl ?_))
              refine mr_ld (i := 3) (k := b + n) hb rfl rfl rfl rfl (show b + n < 20 by omega) ?_
              rw [ea]
              refine pm_W.callS (d' := 0) rfl rfl rfl rfl (fr_ble rfl) (fr_ble rfl) (ct_M_order (by omega) ?_)
              (repeat (first | refine pm_W.ts rfl rfl ?_ | refine pm_W.tl rfl rfl ?_ | refine pm_W.get rfl rfl h1 rfl ?_))
              refine mr_ld (i := 3) (k := b + e) hb rfl rfl rfl rfl (show b + e < 20 by omega) ?_
              rw [eb]
              refine pm_W.callS (d' := 0) rfl rfl rfl rfl (fr_ble rfl) (fr_ble rfl) (ct_M_order (by omega) ?_)
              refine pm_W.icmp rfl (fun c5 => ?_) (fun c5 => ?_)
              · have c5 : nI (od (tP T e) 6) ≤ nI (od (tP T n) 6) := c5
                rw [nI_leI (by omega) (by omega)] at c5
                exact no (by rw [tr_best, if_neg (fun z => absurd (z.2.2 (e + 1) hbest) (Nat.not_lt.mpr c5)), hbest])
              · have c5 : ¬ nI (od (tP T e) 6) ≤ nI (od (tP T n) 6) := c5
                rw [nI_leI (by omega) (by omega)] at c5
                exact yes (by rw [tr_best, if_pos ⟨decide_eq_true c2, Nat.lt_of_not_le c3, fun b' hb' => by rw [hbest] at hb'; cases hb'; exact Nat.lt_of_not_le c5⟩])
  unfold pm_X
  (iterate 4 (first | refine pm_W.ts rfl rfl ?_ | refine pm_W.tl rfl rfl ?_))
  exact loop 10 0 (by omega)
theorem ct_M_children {D : Nat} (hb : mr_R h o A I) (hm : mt A b T) (hV : tV T) (hbb : b ≤ 10) (hD : D < 2 ^ 30) (k : Q (some (.int (nI (tr_cnt (em_c T D) 10)))) h) : pm_X xs 2 mM_children [.ref o, .int (nI b), .int (nI D)] h Q := by
  have h1 := hb.1
  have loop : ∀ (r n : Nat), n + r = 10 → pm_W xs 2 mM_children 5 [.ref o, .int (nI b), .int (nI D), .int (nI (tr_cnt (em_c T D) n)), .int (nI (b + n))] [] h Q := by
    intro r
    induction r with
    | zero =>
      intro n hn
      have e10 : n = 10 := by omega
      subst e10
      (repeat (first | refine pm_W.ts rfl rfl ?_ | refine pm_W.tl rfl rfl ?_))
      refine pm_W.icmp rfl (fun c => ?_) (fun c => ?_)
      · (repeat (first | refine pm_W.ts rfl rfl ?_ | refine pm_W.tl rfl rfl ?_))
        exact pm_W.iret rfl rfl k
      · have c : ¬ nI b + nI 10 ≤ nI (b + 10) := c
        rw [nI_add, nI_leI (by omega) (by omega)] at c
        omega
    | succ r ih =>
      intro n hn
      have nx := ih (n + 1) (by omega)
      rw [show tr_cnt (em_c T D) (n + 1) = tr_cnt (em_c T D) n + (if em_c T D (n + 1) = true then 1 else 0) from rfl, show b + (n + 1) = b + n + 1 by omega] at nx
      have ec : em_c T D (n + 1) = decide (tP T n ≠ 0 ∧ pa_up (tP T n) = D) := by unfold em_c; rw [show n + 1 - 1 = n by omega]
      rw [ec] at nx
      have ea := (hm n (by omega)).1
      have lt := tV_lt hV (show n < 10 by omega)
      (repeat (first | refine pm_W.ts rfl rfl ?_ | refine pm_W.tl rfl rfl ?_))
      refine pm_W.icmp rfl (fun c => ?_) (fun c => ?_)
      · have c : nI b + nI 10 ≤ nI (b + n) := c
        rw [nI_add, nI_leI (by omega) (by omega)] at c
        omega
      · (repeat (first | refine pm_W.ts rfl rfl ?_ | refine pm_W.tl rfl rfl ?_ | refine pm_W.get rfl rfl h1 rfl ?_))
        refine mr_ld (i := 3) (k := b + n) hb rfl rfl rfl rfl (show b + n < 20 by omega) ?_
        rw [ea]
        refine pm_W.ifz rfl (fun c2 => ?_) (fun c2 => ?_)
        · have c2 : nI (tP T n) = nI 0 := c2
          rw [nI_eq (by omega) (by omega)] at c2
          (repeat (first | refine pm_W.ts rfl rfl ?_ | refine pm_W.tl rfl rfl ?_))
          refine pm_W.goto rfl ?_
          rw [if_neg (fun z => (of_decide_eq_true z).1 c2), Nat.add_zero, ← fr_inc] at nx
          exact nx
        · have c2 : ¬ nI (tP T n) = nI 0 := c2
          rw [nI_eq (by omega) (by omega)] at c2
          have hok := tV_ok hV (show n < 10 by omega) c2
          have hup : pa_up (tP T n) < 2 ^ 30 := pa_ok_30 (pa_split hok c2).2.2.1
          (repeat (first | refine pm_W.ts rfl rfl ?_ | refine pm_W.tl rfl rfl ?_ | refine pm_W.get rfl rfl h1 rfl ?_))
          refine mr_ld (i := 3) (k := b + n) hb rfl rfl rfl rfl (show b + n < 20 by omega) ?_
          rw [ea]
          refine pm_W.callS (d' := 1) rfl rfl rfl rfl (fr_ble rfl) (fr_ble rfl) (ct_M_up (by omega) (pa_d_pos hok c2) ?_)
          (repeat (first | refine pm_W.ts rfl rfl ?_ | refine pm_W.tl rfl rfl ?_))
          refine pm_W.icmp rfl (fun c3 => ?_) (fun c3 => ?_)
          · have c3 : ¬ nI (pa_up (tP T n)) = nI D := c3
            rw [nI_eq (by omega) (by omega)] at c3
            (repeat (first | refine pm_W.ts rfl rfl ?_ | refine pm_W.tl rfl rfl ?_))
            refine pm_W.goto rfl ?_
            rw [if_neg (fun z => c3 (of_decide_eq_true z).2), Nat.add_zero, ← fr_inc] at nx
            exact nx
          · have c3 : ¬ ¬ nI (pa_up (tP T n)) = nI D := c3
            rw [nI_eq (by omega) (by omega)] at c3
            (repeat (first | refine pm_W.ts rfl rfl ?_ | refine pm_W.tl rfl rfl ?_))
            refine pm_W.goto rfl ?_
            (repeat (first | refine pm_W.ts rfl rfl ?_ | refine pm_W.tl rfl rfl ?_))
            refine pm_W.goto rfl ?_
            rw [if_pos (decide_eq_true ⟨c2, Decidable.not_not.mp c3⟩), ← fr_inc, ← fr_inc] at nx
            exact nx
  unfold pm_X
  (iterate 4 (first | refine pm_W.ts rfl rfl ?_ | refine pm_W.tl rfl rfl ?_))
  exact loop 10 0 (by omega)
theorem ct_M_begin {e : Nat} {os : List Int32} (hb : mr_R h o A I) (hI : I 0 = nI os.length) (hm : mt A b T) (hV : tV T) (hbb : b ≤ 10) (he : e < 10) (h0 : tP T e ≠ 0) (hs : mb A 0 os) (hl : (os ++ em_ent T e).length ≤ 117)
    (k : ∀ (g : pm_H) (B : Nat → List Int32), mr_R g o B (fr_up I 0 (nI (os ++ em_ent T e).length)) → mb B 0 (os ++ em_ent T e) → (∀ i, i ≠ 1 → B i = A i) → (∀ j, 120 ≤ j → (B 1).getD j 0 = (A 1).getD j 0) → fr_ag o (o + 15) h g → Q none g) : pm_X xs 1 mM_begin [.ref o, .int (nI (b + e))] h Q := by
  have h1 := hb.1
  obtain ⟨m3, m4⟩ := hm e he
  obtain ⟨m4, m5, m6⟩ := m4 h0
  have hok := tV_ok hV he h0
  have hlt := tV_lt hV he
  obtain ⟨-, vK, v16, -, -⟩ := hV.1 e he h0
  have hd := (pa_d_spec (tP T e)).1
  have hd1 := pa_d_pos hok h0
  have hlast := (pa_split hok h0).2.2.2.2
  have hA1 : (A 1).length = 1952 := hb.len rfl rfl
  rw [List.length_append] at hl
  have e2 : nI (tP T e) >>> ((nI 5 * (nI (pa_d (tP T e)) - nI 1)) &&& 31) = nI (pa_last (tP T e)) := by
    rw [fr_sub (j := 1) hd1, fr_mul, fr_shr (by omega) (by omega), pa_last_div hok h0]
  have hge : 2 ≤ (em_ent T e).length := by
    unfold em_ent em_file
    by_cases c : tK T e = 1
    · rw [if_pos c, List.length_append]
      show 2 ≤ 3 + _
      omega
    · rw [if_neg c]
      exact Nat.le_refl _
  unfold pm_X
  (repeat (first | refine pm_W.ts rfl rfl ?_ | refine pm_W.tl rfl rfl ?_ | refine pm_W.get rfl rfl h1 rfl ?_))
  refine mr_ld (i := 4) (k := b + e) hb rfl rfl rfl rfl (show b + e < 20 by omega) ?_
  rw [m4, hI]
  refine mr_st (i := 1) (k := os.length) hb rfl rfl rfl rfl (show os.length < 1952 by omega) (fun g1 hB1 a1 => ?_)
  have hs1 : mb (fr_up A 1 ((A 1).set os.length (nI (tK T e)))) 0 (os ++ [nI (tK T e)]) := mb_app hs (by omega) (by rw [fr_up_s, Nat.zero_add])
  generalize hA1e : fr_up A 1 ((A 1).set os.length (nI (tK T e))) = A1 at hB1 hs1
  have r1 : ∀ i, i ≠ 1 → A1 i = A i := fun i hi => by rw [← hA1e, fr_up_n hi]
  have q1 : ∀ j, 120 ≤ j → (A1 1).getD j 0 = (A 1).getD j 0 := fun j hj => by rw [← hA1e, fr_up_s, fr_gn (by omega)]
  have t1 := hB1.1
  have hA11 : (A1 1).length = 1952 := hB1.len rfl rfl
  (repeat (first | refine pm_W.ts rfl rfl ?_ | refine pm_W.tl rfl rfl ?_ | refine pm_W.get rfl rfl t1 rfl ?_))
  show pm_W xs 1 mM_begin _ _ [.int (nI (b + e)), .ref (o + 3), .int (I 0 + nI 1), .ref (o + 1)] g1 Q
  refine mr_ld (i := 3) (k := b + e) hB1 rfl rfl rfl rfl (show b + e < 20 by omega) ?_
  rw [r1 3 (by omega), m3, hI, nI_add]
  (repeat (first | refine pm_W.ts rfl rfl ?_ | refine pm_W.tl rfl rfl ?_ | refine pm_W.get rfl rfl t1 rfl ?_))
  refine mr_ld (i := 3) (k := b + e) hB1 rfl rfl rfl rfl (show b + e < 20 by omega) ?_
  rw [r1 3 (by omega), m3]
  refine pm_W.callS (d' := 0) rfl rfl rfl rfl (fr_ble rfl) (fr_ble rfl) (ct_M_depth (by omega) ?_)
  (repeat (first | refine pm_W.ts rfl rfl ?_ | refine pm_W.tl rfl rfl ?_))
  show pm_W xs 1 mM_begin _ _ [.int (nI (tP T e) >>> ((nI 5 * (nI (pa_d (tP T e)) - nI 1)) &&& 31)), .int (nI (os.length + 1)), .ref (o + 1)] g1 Q
  rw [e2]
  refine mr_st (i := 1) (k := os.length + 1) hB1 rfl rfl rfl rfl (show os.length + 1 < 1952 by omega) (fun g2 hB2 a2 => ?_)
  have hs2 : mb (fr_up A1 1 ((A1 1).set (os.length + 1) (nI (pa_last (tP T e))))) 0 (os ++ [nI (tK T e)] ++ [nI (pa_last (tP T e))]) := mb_app hs1 (by rw [List.length_append]; show 0 + (os.length + 1) < _; omega) (by rw [fr_up_s, List.length_append, Nat.zero_add]; rfl)
  generalize hA2e : fr_up A1 1 ((A1 1).set (os.length + 1) (nI (pa_last (tP T e)))) = A2 at hB2 hs2
  have r2 : ∀ i, i ≠ 1 → A2 i = A i := fun i hi => by rw [← hA2e, fr_up_n hi]; exact r1 i hi
  have q2 : ∀ j, 120 ≤ j → (A2 1).getD j 0 = (A 1).getD j 0 := fun j hj => by rw [← hA2e, fr_up_s, fr_gn (by omega)]; exact q1 j hj
  have t2 := hB2.1
  (repeat (first | refine pm_W.ts rfl rfl ?_ | refine pm_W.tl rfl rfl ?_ | refine pm_W.get rfl rfl t2 rfl ?_))
  show pm_W xs 1 mM_begin _ _ [.int (I 0 + nI 2), .ref o] g2 Q
  rw [hI, nI_add]
  refine mr_pt 0 hB2 rfl rfl rfl rfl (Or.inl rfl) (fun g3 hB3 a3 => ?_)
  have t3 := hB3.1
  (repeat (first | refine pm_W.ts rfl rfl ?_ | refine pm_W.tl rfl rfl ?_ | refine pm_W.get rfl rfl t3 rfl ?_))
  refine mr_ld (i := 4) (k := b + e) hB3 rfl rfl rfl rfl (show b + e < 20 by omega) ?_
  rw [r2 4 (by omega), m4]
  (repeat (first | refine pm_W.ts rfl rfl ?_ | refine pm_W.tl rfl rfl ?_))
  refine pm_W.icmp rfl (fun c => ?_) (fun c => ?_)
  · have c : ¬ nI (tK T e) = nI 1 := c
    rw [nI_eq (by omega) (by omega)] at c
    have hk2 : tK T e = 2 := by omega
    have ee : em_ent T e = [nI (tK T e), nI (pa_last (tP T e))] := by unfold em_ent; rw [if_neg c, hk2]; rfl
    refine pm_W.ret rfl rfl (k g3 A2 ?_ ?_ r2 q2 (((a1.tr a2).tr a3)))
    · rw [ee, List.length_append]
      exact hB3
    · rw [ee]
      rw [List.append_assoc] at hs2
      exact hs2
  · have c : ¬ ¬ nI (tK T e) = nI 1 := c
    rw [nI_eq (by omega) (by omega)] at c
    have hk1 : tK T e = 1 := Decidable.not_not.mp c
    have ee : em_ent T e = [nI (tK T e), nI (pa_last (tP T e)), nI (tB T e).length] ++ tB T e := by unfold em_ent em_file; rw [if_pos hk1, hk1]; rfl
    have hll : os.length + (3 + (tB T e).length) ≤ 117 := by rw [ee] at hl; rw [List.length_append] at hl; exact hl
    have hA21 : (A2 1).length = 1952 := hB3.len rfl rfl
    have i0 : fr_up I 0 (nI (os.length + 2)) 0 = nI (os.length + 2) := fr_up_s
    (repeat (first | refine pm_W.ts rfl rfl ?_ | refine pm_W.tl rfl rfl ?_ | refine pm_W.get rfl rfl t3 rfl ?_))
    show pm_W xs 1 mM_begin _ _ [.int (nI (b + e)), .ref (o + 5), .int (nI (os.length + 2)), .ref (o + 1)] g3 Q
    refine mr_ld (i := 5) (k := b + e) hB3 rfl rfl rfl rfl (show b + e < 20 by omega) ?_
    rw [r2 5 (by omega), m5]
    refine mr_st (i := 1) (k := os.length + 2) hB3 rfl rfl rfl rfl (show os.length + 2 < 1952 by omega) (fun g4 hB4 a4 => ?_)
    have hs4 : mb (fr_up A2 1 ((A2 1).set (os.length + 2) (nI (tB T e).length))) 0 (os ++ [nI (tK T e)] ++ [nI (pa_last (tP T e))] ++ [nI (tB T e).length]) := mb_app hs2 (by rw [List.length_append, List.length_append]; show 0 + (os.length + 1 + 1) < _; omega) (by rw [fr_up_s, List.length_append, List.length_append, Nat.zero_add]; rfl)
    generalize hA4e : fr_up A2 1 ((A2 1).set (os.length + 2) (nI (tB T e).length)) = A4 at hB4 hs4
    have r4 : ∀ i, i ≠ 1 → A4 i = A i := fun i hi => by rw [← hA4e, fr_up_n hi]; exact r2 i hi
    have q4 : ∀ j, 120 ≤ j → (A4 1).getD j 0 = (A 1).getD j 0 := fun j hj => by rw [← hA4e, fr_up_s, fr_gn (by omega)]; exact q2 j hj
    have loop : ∀ (r n : Nat) (g : pm_H) (B : Nat → List Int32), n + r = (tB T e).length → mr_R g o B (fr_up I 0 (nI (os.length + 2))) → mb B 0 (os ++ [nI (tK T e)] ++ [nI (pa_last (tP T e))] ++ [nI (tB T e).length] ++ (tB T e).take n) → (∀ i, i ≠ 1 → B i = A i) → (∀ j, 120 ≤ j → (B 1).getD j 0 = (A 1).getD j 0) → fr_ag o (o + 15) h g → pm_W xs 1 mM_begin 83 [.ref o, .int (nI (b + e)), .int (nI n)] [] g Q := by
      intro r
      induction r with
      | zero =>
        intro n g B hn hB hS hr hq hag
        have t := hB.1
        have en : n = (tB T e).length := by omega
        (repeat (first | refine pm_W.ts rfl rfl ?_ | refine pm_W.tl rfl rfl ?_ | refine pm_W.get rfl rfl t rfl ?_))
        refine mr_ld (i := 5) (k := b + e) hB rfl rfl rfl rfl (show b + e < 20 by omega) ?_
        rw [hr 5 (by omega), m5]
        refine pm_W.icmp rfl (fun _ => ?_) (fun z => ?_)
        · (repeat (first | refine pm_W.ts rfl rfl ?_ | refine pm_W.tl rfl rfl ?_ | refine pm_W.get rfl rfl t rfl ?_))
          show pm_W xs 1 mM_begin _ _ [.int (nI (b + e)), .ref (o + 5), .int (nI 1), .int (nI (os.length + 2)), .ref o] g Q
          refine mr_ld (i := 5) (k := b + e) hB rfl rfl rfl rfl (show b + e < 20 by omega) ?_
          rw [hr 5 (by omega), m5]
          (repeat (first | refine pm_W.ts rfl rfl ?_ | refine pm_W.tl rfl rfl ?_))
          show pm_W xs 1 mM_begin _ _ [.int (nI (os.length + 2) + (nI 1 + nI (tB T e).length)), .ref o] g Q
          rw [nI_add, nI_add]
          refine mr_pt 0 hB rfl rfl rfl rfl (Or.inl rfl) (fun g5 hB5 a5 => ?_)
          rw [mr_up_up] at hB5
          refine pm_W.ret rfl rfl (k g5 B ?_ ?_ hr hq (hag.tr a5))
          · rw [ee, List.length_append, List.length_append]
            rw [show os.length + ([nI (tK T e), nI (pa_last (tP T e)), nI (tB T e).length].length + (tB T e).length) = os.length + 2 + (1 + (tB T e).length) by show os.length + (3 + _) = _; omega]
            exact hB5
          · rw [ee]
            rw [en, List.take_length, List.append_assoc, List.append_assoc, List.append_assoc] at hS
            exact hS
        · have z : ¬ nI (tB T e).length ≤ nI n := z
          rw [nI_leI (by omega) (by omega)] at z
          omega
      | succ r ih =>
        intro n g B hn hB hS hr hq hag
        have t := hB.1
        have hBl : (B 1).length = 1952 := hB.len rfl rfl
        (repeat (first | refine pm_W.ts rfl rfl ?_ | refine pm_W.tl rfl rfl ?_ | refine pm_W.get rfl rfl t rfl ?_))
        refine mr_ld (i := 5) (k := b + e) hB rfl rfl rfl rfl (show b + e < 20 by omega) ?_
        rw [hr 5 (by omega), m5]
        refine pm_W.icmp rfl (fun z => ?_) (fun _ => ?_)
        · have z : nI (tB T e).length ≤ nI n := z
          rw [nI_leI (by omega) (by omega)] at z
          omega
        · (repeat (first | refine pm_W.ts rfl rfl ?_ | refine pm_W.tl rfl rfl ?_ | refine pm_W.get rfl rfl t rfl ?_))
          show pm_W xs 1 mM_begin _ _ [.int (nI 16 * nI (b + e) + nI n), .ref (o + 6), .int (nI (os.length + 2) + nI 1 + nI n), .ref (o + 1)] g Q
          rw [fr_mul, nI_add, nI_add, nI_add]
          refine mr_ld (i := 6) (k := 16 * (b + e) + n) hB rfl rfl rfl rfl (show 16 * (b + e) + n < 320 by omega) ?_
          rw [hr 6 (by omega), m6 n (by omega)]
          refine mr_st (i := 1) (k := os.length + 2 + 1 + n) hB rfl rfl rfl rfl (show os.length + 2 + 1 + n < 1952 by omega) (fun g5 hB5 a5 => ?_)
          (iterate 1 (first | refine pm_W.ts rfl rfl ?_ | refine pm_W.tl rfl rfl ?_))
          refine pm_W.goto rfl ?_
          rw [fr_inc]
          have lt : ((tB T e).take n).length = n := by rw [List.length_take]; omega
          have ll : (os ++ [nI (tK T e)] ++ [nI (pa_last (tP T e))] ++ [nI (tB T e).length] ++ (tB T e).take n).length = os.length + 2 + 1 + n := by
            rw [List.length_append, List.length_append, List.length_append, List.length_append, lt]
            rfl
          refine ih (n + 1) g5 _ (by omega) hB5 ?_ (fun i hi => by rw [fr_up_n hi]; exact hr i hi) (fun j hj => by rw [fr_up_s, fr_gn (by omega)]; exact hq j hj) (hag.tr a5)
          have ta : (tB T e).take (n + 1) = (tB T e).take n ++ [(tB T e).getD n 0] := by
            rw [List.take_succ, List.getElem?_eq_getElem (by omega), List.getD_eq_getElem?_getD, List.getElem?_eq_getElem (by omega)]
            rfl
          rw [ta, ← List.append_assoc]
          exact mb_app hS (by rw [ll]; omega) (by rw [fr_up_s, ll, Nat.zero_add])
    (iterate 2 (first | refine pm_W.ts rfl rfl ?_ | refine pm_W.tl rfl rfl ?_))
    refine loop (tB T e).length 0 g4 A4 (by omega) hB4 ?_ r4 q4 (((a1.tr a2).tr a3).tr a4)
    rw [List.take_zero, List.append_nil]
    exact hs4
end MNEXT
