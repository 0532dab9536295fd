def em_J (T : te_T) (f D w l : Nat) (os : List Int32) (t : Nat) : Prop := em_m T (fun _ => 2) l + pa_d D + 1 ≤ f ∧ (em_run T f (some D, w, os)).2.2 = em_out T ∧ pa_ok D = true ∧ w ≤ 31 ∧ em_l T D w l ∧ l < 2 ^ 30 ∧ os.length + em_m T (em_w T) l + 2 * (pa_d D + 1) ≤ 117 ∧ 2 * t + em_m T (fun _ => 2) l ≤ 20
section MEMIT
variable {xs : List Int32} {h : pm_H} {o b : Nat} {A : Nat → List Int32} {I : Nat → Int32} {T : te_T} {Q : Option Value → pm_H → Prop}
theorem em_J_close (hV : tV T) {f D w l t : Nat} {os : List Int32} (j : em_J T (f + 1) D w l os t) (hb : em_best T D w = none) (hD0 : D ≠ 0) : em_J T f (pa_up D) (pa_last D) l (os ++ [9, nI (tr_cnt (em_c T D) 10)]) t := by
  obtain ⟨j1, j2, j3, j4, j5, j6, j7, j8⟩ := j
  obtain ⟨s1, s2, s3, s4, s5⟩ := pa_split j3 hD0
  have e1 := (bh_split j3 hD0).1
  have j2 : (em_run T f (em_step T D w os)).2.2 = em_out T := j2
  have es : em_step T D w os = (some (pa_up D), pa_last D, os ++ [9, nI (tr_cnt (em_c T D) 10)]) := by
    unfold em_step
    rw [hb]
    show (if D = 0 then none else some (pa_up D), _, _) = _
    rw [if_neg hD0]
  rw [es] at j2
  refine ⟨by omega, j2, s3, s5, em_l_close hV j3 j4 hD0 j5 hb, j6, ?_, j8⟩
  rw [List.length_append]
  show os.length + 2 + _ + _ ≤ _
  omega
theorem em_J_end {f w l t : Nat} {os : List Int32} (j : em_J T (f + 1) 0 w l os t) (hb : em_best T 0 w = none) : os ++ [9, nI (tr_cnt (em_c T 0) 10)] = em_out T ∧ (os ++ [9, nI (tr_cnt (em_c T 0) 10)]).length ≤ 117 := by
  obtain ⟨j1, j2, j3, j4, j5, j6, j7, j8⟩ := j
  have j2 : (em_run T f (em_step T 0 w os)).2.2 = em_out T := j2
  have es : em_step T 0 w os = (none, pa_last 0, os ++ [9, nI (tr_cnt (em_c T 0) 10)]) := by
    unfold em_step
    rw [hb]
    rfl
  rw [es, em_run_none] at j2
  refine ⟨j2, ?_⟩
  rw [List.length_append]
  show os.length + 2 ≤ _
  omega
theorem em_J_beg (hV : tV T) {f D w l t c : Nat} {os : List Int32} (j : em_J T (f + 1) D w l os t) (hb : em_best T D w = some (c + 1)) : c < 10 ∧ tP T c ≠ 0 ∧ pa_up (tP T c) = D ∧ em_nx T l = some (c + 1) ∧ (os ++ em_ent T c).length ≤ 117 ∧ (tK T c = 1 → em_J T f D (pa_last (tP T c)) (od (tP T c) 6) (os ++ em_ent T c) (t + 1)) ∧ (tK T c ≠ 1 → em_J T f (tP T c) 0 (od (tP T c) 6) (os ++ em_ent T c) (t + 1)) := by
  obtain ⟨j1, j2, j3, j4, j5, j6, j7, j8⟩ := j
  obtain ⟨c', a1, a2, a3, a4, a5, a6⟩ := em_best_some hb
  have : c' = c := by omega
  subst this
  have hok := tV_ok hV a1 a3
  have nx := em_link hV j3 j5 hb
  have m2 := em_m_next (g := fun _ => 2) hV nx
  have mw := em_m_next (g := em_w T) hV nx
  have el := em_ent_len (T := T) (e := c')
  have hl : (os ++ em_ent T c').length = os.length + (em_ent T c').length := List.length_append
  have hd := (bh_split hok a3).1
  rw [a4] at hd
  have hlast := (pa_split hok a3).2.2.2.2
  have o30 := od_30 (p := tP T c')
  have j2 : (em_run T f (em_step T D w os)).2.2 = em_out T := j2
  have es : em_step T D w os = if tK T c' = 1 then (some D, pa_last (tP T c'), os ++ em_file T c') else (some (tP T c'), 0, os ++ [2, nI (pa_last (tP T c'))]) := by
    unfold em_step
    rw [hb]
    show (if tK T (c' + 1 - 1) = 1 then _ else _) = _
    rw [show c' + 1 - 1 = c' by omega]
  refine ⟨a1, a3, a4, nx, ?_, fun hk => ?_, fun hk => ?_⟩
  · omega
  · have ee : em_ent T c' = em_file T c' := by unfold em_ent; rw [if_pos hk]
    rw [if_pos hk] at el es
    rw [es] at j2
    refine ⟨by omega, by rw [ee]; exact j2, j3, hlast, em_l_file hV a1 a3 a4 hk, o30, by omega, by omega⟩
  · have ee : em_ent T c' = [2, nI (pa_last (tP T c'))] := by unfold em_ent; rw [if_neg hk]
    rw [if_neg hk] at el es
    rw [es] at j2
    refine ⟨by omega, by rw [ee]; exact j2, hok, by omega, em_l_dir hV a1 a3, o30, by omega, by omega⟩
theorem em_J_start (hV : tV T) : em_J T 22 0 0 0 [] 0 := by
  have a := em_m_2 (T := T) (l := 0)
  have b := em_m_w hV (l := 0)
  refine ⟨?_, rfl, rfl, by omega, em_l_start hV, by omega, ?_, by omega⟩
  · show _ + 0 + 1 ≤ 22
    omega
  · show 0 + _ + 2 * (0 + 1) ≤ 117
    omega
theorem ct_M_emit (hb : mr_R h o A I) (hm : mt A b T) (hV : tV T) (hbb : b ≤ 10)
    (k : ∀ (g : pm_H) (B : Nat → List Int32), mr_R g o B (fr_up I 0 (nI (em_out T).length)) → mb B 0 (em_out T) → (∀ i, i ≠ 1 → B i = A i) → (∀ j, 120 ≤ j → (B 1).getD j 0 = (A 1).getD j 0) → (em_out T).length ≤ 117 → fr_ag o (o + 15) h g → Q none g) : pm_X xs 3 mM_emit [.ref o, .int (nI b)] h Q := by
  have h1 := hb.1
  have mtB : ∀ B : Nat → List Int32, (∀ i, i ≠ 1 → B i = A i) → mt B b T := fun B hr => mt_rows hm (hr 3 (by omega)) (hr 4 (by omega)) (hr 5 (by omega)) (hr 6 (by omega))
  have main : ∀ (f D w l t kk : Nat) (os : List Int32) (ev hv : Int32) (g : pm_H) (B : Nat → List Int32), em_J T f D w l os t → kk + pa_d D ≤ 6 → mr_R g o B (fr_up I 0 (nI os.length)) → mb B 0 os → (∀ i, i ≠ 1 → B i = A i) → (∀ j, 120 ≤ j → (B 1).getD j 0 = (A 1).getD j 0) → fr_ag o (o + 15) h g →
      ((em_nx T l = none ∧ ev = -1 ∧ hv = -1) ∨ ∃ e, em_nx T l = some (e + 1) ∧ ev = nI (b + e) ∧ hv = nI (pa_up (tP T e))) →
      pm_W xs 3 mM_emit 51 [.ref o, .int (nI b), .int (nI D), .int (nI l), .int (nI t), .int ev, .int hv, .int (nI kk)] [] g Q := by
    intro f
    induction f with
    | zero =>
      intro D w l t kk os ev hv g B j
      have := j.1
      omega
    | succ f ih =>
      have outer : ∀ (D w l t : Nat) (os : List Int32) (v5 v6 v7 : Value) (g : pm_H) (B : Nat → List Int32), em_J T f D w l os t → mr_R g o B (fr_up I 0 (nI os.length)) → mb B 0 os → (∀ i, i ≠ 1 → B i = A i) → (∀ j, 120 ≤ j → (B 1).getD j 0 = (A 1).getD j 0) → fr_ag o (o + 15) h g →
          pm_W xs 3 mM_emit 12 [.ref o, .int (nI b), .int (nI D), .int (nI l), .int (nI t), v5, v6, v7] [] g Q := by
        intro D w l t os v5 v6 v7 g B j hB hS hr hq hag
        obtain ⟨j1, j2, j3, j4, j5, j6, j7, j8⟩ := id j
        have t1 := hB.1
        have hd6 := (pa_d_spec D).1
        (repeat (first | refine pm_W.ts rfl rfl ?_ | refine pm_W.tl rfl rfl ?_))
        refine pm_W.icmp rfl (fun z => ?_) (fun _ => ?_)
        · have z : nI 10 < nI t := z
          rw [nI_ltI (by omega) (by omega)] at z
          omega
        · (repeat (first | refine pm_W.ts rfl rfl ?_ | refine pm_W.tl rfl rfl ?_))
          refine pm_W.callV (d' := 1) (as := [.int (nI b), .int (nI l)]) rfl rfl rfl rfl (fr_ble rfl) t1 (fr_ble rfl) (ct_M_next hB (mtB B hr) hV hbb j6 ?_)
          cases hn : em_nx T l with
          | none =>
            (iterate 2 (first | refine pm_W.ts rfl rfl ?_ | refine pm_W.tl rfl rfl ?_))
            refine pm_W.ifz rfl (fun z => absurd (show (0 : Int32) ≤ -1 from z) (by decide)) (fun _ => ?_)
            (iterate 1 (first | refine pm_W.ts rfl rfl ?_ | refine pm_W.tl rfl rfl ?_))
            refine pm_W.goto rfl ?_
            (iterate 3 (first | refine pm_W.ts rfl rfl ?_ | refine pm_W.tl rfl rfl ?_))
            exact ih D w l t 0 os _ _ g B j (by omega) hB hS hr hq hag (Or.inl ⟨hn, rfl, rfl⟩)
          | some s =>
            obtain ⟨e, b1, b2, b3, b4, b5⟩ := em_nx_some hn
            subst b2
            have hok := tV_ok hV b1 b3
            have lt := tV_lt hV b1
            have ea := (mtB B hr e b1).1
            (iterate 2 (first | refine pm_W.ts rfl rfl ?_ | refine pm_W.tl rfl rfl ?_))
            refine pm_W.ifz rfl (fun _ => ?_) (fun z => absurd (nI_pos' (by omega)) z)
            (repeat (first | refine pm_W.ts rfl rfl ?_ | refine pm_W.tl rfl rfl ?_ | refine pm_W.get rfl rfl t1 rfl ?_))
            refine mr_ld (i := 3) (k := b + e) hB rfl rfl rfl rfl (show b + e < 20 by omega) ?_
            rw [ea]
            refine pm_W.callS (d' := 1) rfl rfl rfl rfl (fr_ble rfl) (fr_ble rfl) (ct_M_up (by omega) (pa_d_pos hok b3) ?_)
            (iterate 3 (first | refine pm_W.ts rfl rfl ?_ | refine pm_W.tl rfl rfl ?_))
            exact ih D w l t 0 os _ _ g B j (by omega) hB hS hr hq hag (Or.inr ⟨e, hn, rfl, rfl⟩)
      intro D w l t kk os ev hv g B j hkk hB hS hr hq hag hev
      obtain ⟨j1, j2, j3, j4, j5, j6, j7, j8⟩ := id j
      have t1 := hB.1
      have hD30 := pa_ok_30 j3
      have hBl : (B 1).length = 1952 := hB.len rfl rfl
      (repeat (first | refine pm_W.ts rfl rfl ?_ | refine pm_W.tl rfl rfl ?_))
      refine pm_W.icmp rfl (fun z => ?_) (fun _ => ?_)
      · have z : nI 8 ≤ nI kk := z
        rw [nI_leI (by omega) (by omega)] at z
        omega
      · (repeat (first | refine pm_W.ts rfl rfl ?_ | refine pm_W.tl rfl rfl ?_))
        cases hbest : em_best T D w with
        | none =>
          refine pm_W.icmp rfl (fun z => ?_) (fun _ => ?_)
          · exfalso
            have z : nI D = hv := z
            rcases hev with ⟨-, -, e3⟩ | ⟨e, e1, e2, e3⟩
            · rw [e3] at z
              exact fr_not1 (by omega) z
            · obtain ⟨c, b1, b2, b3, b4, b5⟩ := em_nx_some e1
              have : c = e := by omega
              subst this
              have hup : pa_up (tP T c) < 2 ^ 30 := pa_ok_30 (pa_split (tV_ok hV b1 b3) b3).2.2.1
              rw [e3, nI_eq (by omega) (by omega)] at z
              exact em_link0 hV j5 hbest e1 z.symm
          · (repeat (first | refine pm_W.ts rfl rfl ?_ | refine pm_W.tl rfl rfl ?_ | refine pm_W.get rfl rfl t1 rfl ?_))
            show pm_W xs 3 mM_emit _ _ [.int (nI 9), .int (nI os.length), .ref (o + 1)] g Q
            refine mr_st (i := 1) (k := os.length) hB rfl rfl rfl rfl (show os.length < 1952 by omega) (fun g1 hB1 a1 => ?_)
            have hs1 : mb (fr_up B 1 ((B 1).set os.length (nI 9))) 0 (os ++ [nI 9]) := mb_app hS (by omega) (by rw [fr_up_s, Nat.zero_add])
            generalize hA1e : fr_up B 1 ((B 1).set os.length (nI 9)) = B1 at hB1 hs1
            have r1 : ∀ i, i ≠ 1 → B1 i = A i := fun i hi => by rw [← hA1e, fr_up_n hi]; exact hr i hi
            have q1 : ∀ j, 120 ≤ j → (B1 1).getD j 0 = (A 1).getD j 0 := fun j hj => by rw [← hA1e, fr_up_s, fr_gn (by omega)]; exact hq j hj
            have t2 := hB1.1
            have hB1l : (B1 1).length = 1952 := hB1.len rfl rfl
            (repeat (first | refine pm_W.ts rfl rfl ?_ | refine pm_W.tl rfl rfl ?_ | refine pm_W.get rfl rfl t2 rfl ?_))
            show pm_W xs 3 mM_emit _ _ [.int (nI D), .int (nI b), .ref o, .int (nI os.length + nI 1), .ref (o + 1)] g1 Q
            rw [nI_add]
            refine pm_W.callV (d' := 2) (as := [.int (nI b), .int (nI D)]) rfl rfl rfl rfl (fr_ble rfl) t2 (fr_ble rfl) (ct_M_children hB1 (mtB B1 r1) hV hbb hD30 ?_)
            refine mr_st (i := 1) (k := os.length + 1) hB1 rfl rfl rfl rfl (show os.length + 1 < 1952 by omega) (fun g2 hB2 a2 => ?_)
            have hs2 : mb (fr_up B1 1 ((B1 1).set (os.length + 1) (nI (tr_cnt (em_c T D) 10)))) 0 (os ++ [nI 9] ++ [nI (tr_cnt (em_c T D) 10)]) := mb_app hs1 (by rw [List.length_append]; show 0 + (os.length + 1) < _; omega) (by rw [fr_up_s, List.length_append, Nat.zero_add]; rfl)
            generalize hA2e : fr_up B1 1 ((B1 1).set (os.length + 1) (nI (tr_cnt (em_c T D) 10))) = B2 at hB2 hs2
            have r2 : ∀ i, i ≠ 1 → B2 i = A i := fun i hi => by rw [← hA2e, fr_up_n hi]; exact r1 i hi
            have q2 : ∀ j, 120 ≤ j → (B2 1).getD j 0 = (A 1).getD j 0 := fun j hj => by rw [← hA2e, fr_up_s, fr_gn (by omega)]; exact q1 j hj
            rw [List.append_assoc] at hs2
            have hs2 : mb B2 0 (os ++ [9, nI (tr_cnt (em_c T D) 10)]) := hs2
            have t3 := hB2.1
            (repeat (first | refine pm_W.ts rfl rfl ?_ | refine pm_W.tl rfl rfl ?_ | refine pm_W.get rfl rfl t3 rfl ?_))
            show pm_W xs 3 mM_emit _ _ [.int (nI os.length + nI 2), .ref o] g2 Q
            rw [nI_add]
            refine mr_pt 0 hB2 rfl rfl rfl rfl (Or.inl rfl) (fun g3 hB3 a3 => ?_)
            rw [mr_up_up] at hB3
            have hB3 : mr_R g3 o B2 (fr_up I 0 (nI (os ++ [9, nI (tr_cnt (em_c T D) 10)]).length)) := by rw [List.length_append]; exact hB3
            have ag3 := ((hag.tr a1).tr a2).tr a3
            (repeat (first | refine pm_W.ts rfl rfl ?_ | refine pm_W.tl rfl rfl ?_))
            refine pm_W.ifz rfl (fun z => ?_) (fun z => ?_)
            · have z : ¬ nI D = nI 0 := z
              rw [nI_eq (by omega) (by omega)] at z
              have hdp := pa_d_pos j3 z
              have e1 := (bh_split j3 z).1
              (iterate 1 (first | refine pm_W.ts rfl rfl ?_ | refine pm_W.tl rfl rfl ?_))
              refine pm_W.callS (d' := 1) rfl rfl rfl rfl (fr_ble rfl) (fr_ble rfl) (ct_M_up (by omega) hdp ?_)
              (iterate 2 (first | refine pm_W.ts rfl rfl ?_ | refine pm_W.tl rfl rfl ?_))
              refine pm_W.goto rfl ?_
              rw [fr_inc]
              exact ih (pa_up D) (pa_last D) l t (kk + 1) _ ev hv g3 B2 (em_J_close hV j hbest z) (by omega) hB3 hs2 r2 q2 ag3 hev
            · have z : ¬ ¬ nI D = nI 0 := z
              rw [nI_eq (by omega) (by omega)] at z
              have z : D = 0 := Decidable.not_not.mp z
              subst z
              obtain ⟨x1, x2⟩ := em_J_end j hbest
              rw [x1] at hB3 hs2 x2
              exact pm_W.ret rfl rfl (k g3 B2 hB3 hs2 r2 q2 x2 ag3)
        | some s =>
          obtain ⟨c, -, cs, -⟩ := em_best_some hbest
          subst cs
          obtain ⟨c1, c2, c3, c4, c5, c6, c7⟩ := em_J_beg hV j hbest
          obtain ⟨y1, y2⟩ : ev = nI (b + c) ∧ hv = nI D := by
            rcases hev with ⟨e1, -, -⟩ | ⟨e, e1, e2, e3⟩
            · rw [c4] at e1; cases e1
            · rw [c4] at e1
              cases e1
              exact ⟨e2, by rw [e3, c3]⟩
          subst y1
          subst y2
          have hok := tV_ok hV c1 c2
          have lt := tV_lt hV c1
          obtain ⟨-, vK, -, -, -⟩ := hV.1 c c1 c2
          refine pm_W.icmp rfl (fun _ => ?_) (fun z => absurd rfl z)
          (repeat (first | refine pm_W.ts rfl rfl ?_ | refine pm_W.tl rfl rfl ?_))
          refine pm_W.callV (d' := 1) (as := [.int (nI (b + c))]) rfl rfl rfl rfl (fr_ble rfl) t1 (fr_ble rfl) (ct_M_begin hB fr_up_s (mtB B hr) hV hbb c1 c2 hS c5 (fun g1 B1 hB1 hs1 br bq a1 => ?_))
          rw [mr_up_up] at hB1
          have r1 : ∀ i, i ≠ 1 → B1 i = A i := fun i hi => by rw [br i hi]; exact hr i hi
          have q1 : ∀ j, 120 ≤ j → (B1 1).getD j 0 = (A 1).getD j 0 := fun j hj => by rw [bq j hj]; exact hq j hj
          have t2 := hB1.1
          have ea := (mtB B1 r1 c c1).1
          have ek := ((mtB B1 r1 c c1).2 c2).1
          (repeat (first | refine pm_W.ts rfl rfl ?_ | refine pm_W.tl rfl rfl ?_ | refine pm_W.get rfl rfl t2 rfl ?_))
          refine mr_ld (i := 4) (k := b + c) hB1 rfl rfl rfl rfl (show b + c < 20 by omega) ?_
          rw [ek]
          (repeat (first | refine pm_W.ts rfl rfl ?_ | refine pm_W.tl rfl rfl ?_))
          refine pm_W.icmp rfl (fun z => ?_) (fun z => ?_)
          · have z : ¬ nI (tK T c) = nI 2 := z
            rw [nI_eq (by omega) (by omega)] at z
            have hk1 : tK T c = 1 := by omega
            (repeat (first | refine pm_W.ts rfl rfl ?_ | refine pm_W.tl rfl rfl ?_ | refine pm_W.get rfl rfl t2 rfl ?_))
            refine mr_ld (i := 3) (k := b + c) hB1 rfl rfl rfl rfl (show b + c < 20 by omega) ?_
            rw [ea]
            refine pm_W.callS (d' := 0) rfl rfl rfl rfl (fr_ble rfl) (fr_ble rfl) (ct_M_order (by omega) ?_)
            (iterate 2 (first | refine pm_W.ts rfl rfl ?_ | refine pm_W.tl rfl rfl ?_))
            refine pm_W.goto rfl ?_
            rw [fr_inc]
            exact outer D _ _ (t + 1) _ _ _ _ g1 B1 (c6 hk1) hB1 hs1 r1 q1 (hag.tr a1)
          · have z : ¬ ¬ nI (tK T c) = nI 2 := z
            rw [nI_eq (by omega) (by omega)] at z
            have hk1 : tK T c ≠ 1 := by omega
            (repeat (first | refine pm_W.ts rfl rfl ?_ | refine pm_W.tl rfl rfl ?_ | refine pm_W.get rfl rfl t2 rfl ?_))
            refine mr_ld (i := 3) (k := b + c) hB1 rfl rfl rfl rfl (show b + c < 20 by omega) ?_
            rw [ea]
            refine pm_W.goto rfl ?_
            (repeat (first | refine pm_W.ts rfl rfl ?_ | refine pm_W.tl rfl rfl ?_ | refine pm_W.get rfl rfl t2 rfl ?_))
            refine mr_ld (i := 3) (k := b + c) hB1 rfl rfl rfl rfl (show b + c < 20 by omega) ?_
            rw [ea]
            refine pm_W.callS (d' := 0) rfl rfl rfl rfl (fr_ble rfl) (fr_ble rfl) (ct_M_order (by omega) ?_)
            (iterate 2 (first | refine pm_W.ts rfl rfl ?_ | refine pm_W.tl rfl rfl ?_))
            refine pm_W.goto rfl ?_
            rw [fr_inc]
            exact outer (tP T c) _ _ (t + 1) _ _ _ _ g1 B1 (c7 hk1) hB1 hs1 r1 q1 (hag.tr a1)
  unfold pm_X
  (iterate 2 (first | refine pm_W.ts rfl rfl ?_ | refine pm_W.tl rfl rfl ?_))
  refine mr_pt 0 hb rfl rfl rfl rfl (Or.inl rfl) (fun g hB a => ?_)
  have t1 := hB.1
  have j := em_J_start hV
  (repeat (first | refine pm_W.ts rfl rfl ?_ | refine pm_W.tl rfl rfl ?_))
  refine pm_W.icmp rfl (fun z => ?_) (fun _ => ?_)
  · have z : nI 10 < nI 0 := z
    rw [nI_ltI (by omega) (by omega)] at z
    omega
  · (repeat (first | refine pm_W.ts rfl rfl ?_ | refine pm_W.tl rfl rfl ?_))
    refine pm_W.callV (d' := 1) (as := [.int (nI b), .int (nI 0)]) rfl rfl rfl rfl (fr_ble rfl) t1 (fr_ble rfl) (ct_M_next hB hm hV hbb (by omega) ?_)
    have hs0 : mb A 0 [] := fun k hk => absurd hk (Nat.not_lt_zero _)
    cases hn : em_nx T 0 with
    | none =>
      (iterate 2 (first | refine pm_W.ts rfl rfl ?_ | refine pm_W.tl rfl rfl ?_))
      refine pm_W.ifz rfl (fun z => absurd (show (0 : Int32) ≤ -1 from z) (by decide)) (fun _ => ?_)
      (iterate 1 (first | refine pm_W.ts rfl rfl ?_ | refine pm_W.tl rfl rfl ?_))
      refine pm_W.goto rfl ?_
      (iterate 3 (first | refine pm_W.ts rfl rfl ?_ | refine pm_W.tl rfl rfl ?_))
      exact main 22 0 0 0 0 0 [] _ _ g A j (by decide) hB hs0 (fun _ _ => rfl) (fun _ _ => rfl) a (Or.inl ⟨hn, rfl, rfl⟩)
    | some s =>
      obtain ⟨e, b1, b2, b3, b4, b5⟩ := em_nx_some hn
      subst b2
      have hok := tV_ok hV b1 b3
      have lt := tV_lt hV b1
      have ea := (hm e b1).1
      (iterate 2 (first | refine pm_W.ts rfl rfl ?_ | refine pm_W.tl rfl rfl ?_))
      refine pm_W.ifz rfl (fun _ => ?_) (fun z => absurd (nI_pos' (by omega)) z)
      (repeat (first | refine pm_W.ts rfl rfl ?_ | refine pm_W.tl rfl rfl ?_ | refine pm_W.get rfl rfl t1 rfl ?_))
      refine mr_ld (i := 3) (k := b + e) hB rfl rfl rfl rfl (show b + e < 20 by omega) ?_
      rw [ea]
      refine pm_W.callS (d' := 1) rfl rfl rfl rfl (fr_ble rfl) (fr_ble rfl) (ct_M_up (by omega) (pa_d_pos hok b3) ?_)
      (iterate 3 (first | refine pm_W.ts rfl rfl ?_ | refine pm_W.tl rfl rfl ?_))
      exact main 22 0 0 0 0 0 [] _ _ g A j (by decide) hB hs0 (fun _ _ => rfl) (fun _ _ => rfl) a (Or.inr ⟨e, hn, rfl, rfl⟩)
end MEMIT
