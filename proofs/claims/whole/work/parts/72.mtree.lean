theorem fr_gs {l : List Int32} {k : Nat} {x : Int32} (hk : k < l.length) : (l.set k x).getD k 0 = x := by
  rw [List.getD_eq_getElem?_getD, List.getElem?_set_self hk]
  rfl
theorem fr_gn {l : List Int32} {k j : Nat} {x : Int32} (h : k ≠ j) : (l.set k x).getD j 0 = l.getD j 0 := by
  rw [List.getD_eq_getElem?_getD, List.getElem?_set_ne h, List.getD_eq_getElem?_getD]
section MTREE
variable {xs : List Int32} {h : pm_H} {o p : Nat} {A : Nat → List Int32} {I : Nat → Int32} {T : te_T} {Q : Option Value → pm_H → Prop}
theorem mt_create {p v e : Nat} {A' : Nat → List Int32} (hm : mt A 0 T) (he : e < 10) (l3 : e < (A 3).length) (l4 : e < (A 4).length) (l5 : e < (A 5).length) (e3 : A' 3 = (A 3).set e (nI p)) (e4 : A' 4 = (A 4).set e (nI v)) (e5 : A' 5 = (A 5).set e 0) (e6 : A' 6 = A 6) : mt A' 0 (fr_up T e (p, v, [])) := by
  intro j hj
  rw [Nat.zero_add, tP_up, tK_up, tB_up, e3, e4, e5, e6]
  by_cases c : j = e
  · subst c
    rw [if_pos rfl, if_pos rfl, if_pos rfl, fr_gs l3, fr_gs l4, fr_gs l5]
    exact ⟨rfl, fun _ => ⟨rfl, rfl, fun k hk => absurd hk (Nat.not_lt_zero _)⟩⟩
  · rw [if_neg c, if_neg c, if_neg c, fr_gn (fun z => c z.symm), fr_gn (fun z => c z.symm), fr_gn (fun z => c z.symm)]
    have := hm j hj
    rw [Nat.zero_add] at this
    exact this
theorem ct_M_create {y : Int32} (hb : mr_R h o A I) (hm : mt A 0 T) (hV : tV T) (hp : p < 2 ^ 32)
    (k1 : ∀ v e, cr_ok T p y v e → ∀ (g : pm_H) (A' : Nat → List Int32), mr_R g o A' I → mt A' 0 (fr_up T e (p, v, [])) → (∀ i, i < 3 ∨ 6 < i → A' i = A i) → fr_ag o (o + 15) h g → Q (some (.int 1)) g)
    (k0 : (∀ v e, ¬ cr_ok T p y v e) → Q (some (.int 0)) h) : pm_X xs 2 mM_create [.ref o, .int (nI p), .int y] h Q := by
  have h1 := hb.1
  have no : ∀ (v3 v4 v5 : Value), (∀ v e, ¬ cr_ok T p y v e) → pm_W xs 2 mM_create 30 [.ref o, .int (nI p), .int y, v3, v4, v5] [] h Q := by
    intro v3 v4 v5 c
    (repeat (first | refine pm_W.ts rfl rfl ?_ | refine pm_W.tl rfl rfl ?_))
    exact pm_W.iret rfl rfl (k0 c)
  have no2 : ∀ (v3 v4 v5 : Value), (∀ v e, ¬ cr_ok T p y v e) → pm_W xs 2 mM_create 86 [.ref o, .int (nI p), .int y, v3, v4, v5] [] h Q := by
    intro v3 v4 v5 c
    (repeat (first | refine pm_W.ts rfl rfl ?_ | refine pm_W.tl rfl rfl ?_))
    exact pm_W.iret rfl rfl (k0 c)
  have main : ∀ v, (v = 1 ∨ v = 2) → y = nI v → pa_ok p = true → p ≠ 0 → pm_W xs 2 mM_create 21 [.ref o, .int (nI p), .int y, pm_none, pm_none, pm_none] [] h Q := by
    intro v hv hy hpo hp0
    have hp30 := pa_ok_30 hpo
    obtain ⟨-, u2, u3, -⟩ := pa_split hpo hp0
    have hu30 := pa_ok_30 u3
    have hd1 := pa_d_pos hpo hp0
    (repeat (first | refine pm_W.ts rfl rfl ?_ | refine pm_W.tl rfl rfl ?_))
    refine pm_W.callV (d' := 0) (as := [.int (nI 0), .int (nI p)]) rfl rfl rfl rfl (fr_ble rfl) h1 (fr_ble rfl) (ct_M_slot hb hm hV hp30 (fun e he ep hj => ?_) (fun hno => ?_))
    · refine pm_W.ifz rfl (fun z => absurd z (nI_pos (by omega))) (fun _ => no _ _ _ (fun v e' q => q.2.2.2.2.1 e he ep))
    · refine pm_W.ifz rfl (fun _ => ?_) (fun z => absurd (show (-1 : Int32) < 0 by decide) z)
      (repeat (first | refine pm_W.ts rfl rfl ?_ | refine pm_W.tl rfl rfl ?_))
      refine pm_W.callS (d' := 1) rfl rfl rfl rfl (fr_ble rfl) (fr_ble rfl) (ct_M_up (by omega) hd1 ?_)
      have st53 : ∀ x4 : Int32, (pa_up p = 0 ∨ (∃ e1, e1 < 10 ∧ tP T e1 = pa_up p ∧ x4 = nI e1) ∨ ((∀ e1, e1 < 10 → tP T e1 ≠ pa_up p) ∧ x4 = -1)) → pm_W xs 2 mM_create 53 [.ref o, .int (nI p), .int y, .int (nI (pa_up p)), .int x4, pm_none] [] h Q := by
        intro x4 h4
        have st88 : ∀ e, cr_ok T p y v e → pm_W xs 2 mM_create 88 [.ref o, .int (nI p), .int y, .int (nI (pa_up p)), .int x4, .int (nI e)] [] h Q := by
          intro e q
          have he : e < 10 := q.2.2.2.2.2.2.1
          have m3 : (A 3).length = 20 := hb.len (i := 3) rfl rfl
          have m4 : (A 4).length = 20 := hb.len (i := 4) rfl rfl
          have m5 : (A 5).length = 20 := hb.len (i := 5) rfl rfl
          (repeat (first | refine pm_W.ts rfl rfl ?_ | refine pm_W.tl rfl rfl ?_ | refine pm_W.get rfl rfl h1 rfl ?_))
          refine mr_st (i := 3) hb rfl rfl rfl rfl (show e < 20 by omega) (fun g1 r1 a1 => ?_)
          have h2 := r1.1
          (repeat (first | refine pm_W.ts rfl rfl ?_ | refine pm_W.tl rfl rfl ?_ | refine pm_W.get rfl rfl h2 rfl ?_))
          refine mr_st (i := 4) r1 rfl rfl rfl rfl (show e < 20 by omega) (fun g2 r2 a2 => ?_)
          have h3 := r2.1
          (repeat (first | refine pm_W.ts rfl rfl ?_ | refine pm_W.tl rfl rfl ?_ | refine pm_W.get rfl rfl h3 rfl ?_))
          refine mr_st (i := 5) r2 rfl rfl rfl rfl (show e < 20 by omega) (fun g3 r3 a3 => ?_)
          (repeat (first | refine pm_W.ts rfl rfl ?_ | refine pm_W.tl rfl rfl ?_))
          refine pm_W.iret rfl rfl (k1 v e q g3 _ r3 (mt_create hm he (by omega) (by omega) (by omega) rfl ?_ rfl rfl) (fun i hi => ?_) ((a1.tr a2).tr a3))
          · rw [hy]; rfl
          · rw [fr_up_n (by omega), fr_up_n (by omega), fr_up_n (by omega)]
        have st81 : ∀ x5 : Int32, te_dir T (pa_up p) → ((∃ e, e < 10 ∧ tP T e = 0 ∧ (∀ j, j < e → tP T j ≠ 0) ∧ x5 = nI e) ∨ ((∀ e, e < 10 → tP T e ≠ 0) ∧ x5 = -1)) → pm_W xs 2 mM_create 81 [.ref o, .int (nI p), .int y, .int (nI (pa_up p)), .int x4, .int x5] [] h Q := by
          intro x5 hdir h5
          rcases h5 with ⟨e, he, e0, ej, rfl⟩ | ⟨hno0, rfl⟩
          · (repeat (first | refine pm_W.ts rfl rfl ?_ | refine pm_W.tl rfl rfl ?_))
            refine pm_W.ifz rfl (fun _ => st88 e ⟨hpo, hp0, hv, hy, hno, hdir, he, e0, ej⟩) (fun z => absurd (nI_pos' (by omega)) z)
          · (repeat (first | refine pm_W.ts rfl rfl ?_ | refine pm_W.tl rfl rfl ?_))
            refine pm_W.ifz rfl (fun z => absurd (show (0 : Int32) ≤ -1 from z) (by decide)) (fun _ => no2 _ _ _ (fun v e q => hno0 e q.2.2.2.2.2.2.1 q.2.2.2.2.2.2.2.1))
        have st61 : ∀ x5 : Int32, ((∃ e, e < 10 ∧ tP T e = 0 ∧ (∀ j, j < e → tP T j ≠ 0) ∧ x5 = nI e) ∨ ((∀ e, e < 10 → tP T e ≠ 0) ∧ x5 = -1)) → pm_W xs 2 mM_create 61 [.ref o, .int (nI p), .int y, .int (nI (pa_up p)), .int x4, .int x5] [] h Q := by
          intro x5 h5
          (repeat (first | refine pm_W.ts rfl rfl ?_ | refine pm_W.tl rfl rfl ?_))
          refine pm_W.ifz rfl (fun c => ?_) (fun c => ?_)
          · have c : nI (pa_up p) = nI 0 := c
            rw [nI_eq (by omega) (by omega)] at c
            exact st81 x5 (Or.inl c) h5
          · have c : ¬ nI (pa_up p) = nI 0 := c
            rw [nI_eq (by omega) (by omega)] at c
            rcases h4 with z | ⟨e1, g1, g2, rfl⟩ | ⟨g1, rfl⟩
            · exact absurd z c
            · (repeat (first | refine pm_W.ts rfl rfl ?_ | refine pm_W.tl rfl rfl ?_))
              refine pm_W.ifz rfl (fun z => absurd z (nI_pos (by omega))) (fun _ => ?_)
              obtain ⟨ek, -⟩ := (hm e1 g1).2 (by rw [g2]; exact c)
              rw [Nat.zero_add] at ek
              have kk := (hV.1 e1 g1 (by rw [g2]; exact c)).2.1
              (repeat (first | refine pm_W.ts rfl rfl ?_ | refine pm_W.tl rfl rfl ?_ | refine pm_W.get rfl rfl h1 rfl ?_))
              refine mr_ld (i := 4) hb rfl rfl rfl rfl (show e1 < 20 by omega) ?_
              rw [ek]
              (repeat (first | refine pm_W.ts rfl rfl ?_ | refine pm_W.tl rfl rfl ?_))
              refine pm_W.icmp rfl (fun c3 => no2 _ _ _ (fun v' e q => ?_)) (fun c3 => ?_)
              · have c3 : ¬ nI (tK T e1) = nI 2 := c3
                rw [nI_eq (by omega) (by omega)] at c3
                rcases q.2.2.2.2.2.1 with z | ⟨e2, z1, z2, z3⟩
                · exact c z
                · have : e1 = e2 := hV.2.1 e1 e2 g1 z1 (by rw [g2]; exact c) (by rw [g2, z2])
                  rw [this] at c3
                  exact c3 z3
              · have c3 : ¬ ¬ nI (tK T e1) = nI 2 := c3
                rw [nI_eq (by omega) (by omega)] at c3
                exact st81 x5 (Or.inr ⟨e1, g1, g2, Decidable.not_not.mp c3⟩) h5
            · (repeat (first | refine pm_W.ts rfl rfl ?_ | refine pm_W.tl rfl rfl ?_))
              refine pm_W.ifz rfl (fun _ => no2 _ _ _ (fun v' e q => ?_)) (fun z => absurd (show (-1 : Int32) < 0 by decide) z)
              rcases q.2.2.2.2.2.1 with z | ⟨e2, z1, z2, z3⟩
              · exact c z
              · exact g1 e2 z1 z2
        (repeat (first | refine pm_W.ts rfl rfl ?_ | refine pm_W.tl rfl rfl ?_))
        refine pm_W.callV (d' := 0) (as := [.int (nI 0), .int (nI 0)]) rfl rfl rfl rfl (fr_ble rfl) h1 (fr_ble rfl) (ct_M_slot (p := 0) hb hm hV (by omega) (fun e he ep hj => ?_) (fun hno => ?_))
        · (iterate 1 (first | refine pm_W.ts rfl rfl ?_ | refine pm_W.tl rfl rfl ?_))
          exact st61 (nI e) (Or.inl ⟨e, he, ep, hj, rfl⟩)
        · (iterate 1 (first | refine pm_W.ts rfl rfl ?_ | refine pm_W.tl rfl rfl ?_))
          exact st61 (-1) (Or.inr ⟨hno, rfl⟩)
      (iterate 2 (first | refine pm_W.ts rfl rfl ?_ | refine pm_W.tl rfl rfl ?_))
      refine pm_W.ifz rfl (fun c => ?_) (fun c => ?_)
      · have c : ¬ nI (pa_up p) = nI 0 := c
        rw [nI_eq (by omega) (by omega)] at c
        (repeat (first | refine pm_W.ts rfl rfl ?_ | refine pm_W.tl rfl rfl ?_))
        refine pm_W.callV (d' := 0) (as := [.int (nI 0), .int (nI (pa_up p))]) rfl rfl rfl rfl (fr_ble rfl) h1 (fr_ble rfl) (ct_M_slot hb hm hV hu30 (fun e he ep hj => ?_) (fun hno => ?_))
        · (iterate 1 (first | refine pm_W.ts rfl rfl ?_ | refine pm_W.tl rfl rfl ?_))
          exact st53 (nI e) (Or.inr (Or.inl ⟨e, he, ep, rfl⟩))
        · (iterate 1 (first | refine pm_W.ts rfl rfl ?_ | refine pm_W.tl rfl rfl ?_))
          exact st53 (-1) (Or.inr (Or.inr ⟨hno, rfl⟩))
      · have c : ¬ ¬ nI (pa_up p) = nI 0 := c
        rw [nI_eq (by omega) (by omega)] at c
        (iterate 1 (first | refine pm_W.ts rfl rfl ?_ | refine pm_W.tl rfl rfl ?_))
        refine pm_W.goto rfl ?_
        (iterate 1 (first | refine pm_W.ts rfl rfl ?_ | refine pm_W.tl rfl rfl ?_))
        exact st53 (-1) (Or.inl (Decidable.not_not.mp c))
  unfold pm_X
  (repeat (first | refine pm_W.ts rfl rfl ?_ | refine pm_W.tl rfl rfl ?_))
  refine pm_W.callS (d' := 1) rfl rfl rfl rfl (fr_ble rfl) (fr_ble rfl) (ct_M_isPath hp ?_)
  refine pm_W.ifz rfl (fun c => no _ _ _ (fun v e q => by have q1 := q.1; rw [fr_b0 c] at q1; cases q1)) (fun c => ?_)
  have hpo := fr_b1 c
  have hp30 := pa_ok_30 hpo
  (repeat (first | refine pm_W.ts rfl rfl ?_ | refine pm_W.tl rfl rfl ?_))
  refine pm_W.ifz rfl (fun c2 => no _ _ _ (fun v e q => ?_)) (fun c2 => ?_)
  · have c2 : nI p = nI 0 := c2
    rw [nI_eq (by omega) (by omega)] at c2
    exact q.2.1 c2
  · have c2 : ¬ nI p = nI 0 := c2
    rw [nI_eq (by omega) (by omega)] at c2
    (repeat (first | refine pm_W.ts rfl rfl ?_ | refine pm_W.tl rfl rfl ?_))
    refine pm_W.icmp rfl (fun c3 => main 1 (Or.inl rfl) c3 hpo c2) (fun c3 => ?_)
    (repeat (first | refine pm_W.ts rfl rfl ?_ | refine pm_W.tl rfl rfl ?_))
    refine pm_W.icmp rfl (fun c4 => no _ _ _ (fun v e q => ?_)) (fun c4 => main 2 (Or.inr rfl) (Decidable.not_not.mp c4) hpo c2)
    rcases q.2.2.1 with z | z
    · rw [z] at q; exact c3 q.2.2.2.1
    · rw [z] at q; exact c4 q.2.2.2.1
theorem mt_setB {e : Nat} {bs : List Int32} {A' : Nat → List Int32} (hm : mt A 0 T) (hV : tV T) (he : e < 10) (hp0 : p ≠ 0) (ep : tP T e = p) (hk : tK T e = 1) (e3 : A' 3 = A 3) (e4 : A' 4 = A 4) (e5 : ∀ j, j < 10 → (A' 5).getD j 0 = if j = e then nI bs.length else (A 5).getD j 0) (e6 : ∀ j k, j < 10 → k < 16 → j ≠ e → (A' 6).getD (16 * j + k) 0 = (A 6).getD (16 * j + k) 0) (e6' : ∀ k, k < bs.length → (A' 6).getD (16 * e + k) 0 = bs.getD k 0) : mt A' 0 (fr_up T e (p, 1, bs)) := by
  intro j hj
  have hmj := hm j hj
  rw [Nat.zero_add] at hmj ⊢
  rw [tP_up, tK_up, tB_up, e3, e4, e5 j hj]
  by_cases c : j = e
  · subst c
    rw [if_pos rfl, if_pos rfl, if_pos rfl, if_pos rfl]
    rw [ep] at hmj
    refine ⟨hmj.1, fun _ => ⟨?_, rfl, e6'⟩⟩
    have := (hmj.2 hp0).1
    rw [hk] at this
    exact this
  · rw [if_neg c, if_neg c, if_neg c, if_neg c]
    refine ⟨hmj.1, fun z => ⟨(hmj.2 z).1, (hmj.2 z).2.1, fun k hk => ?_⟩⟩
    rw [e6 j k hj (by have := (hV.1 j hj z).2.2.1; omega) c]
    exact (hmj.2 z).2.2 k hk
theorem ct_M_edit {x v : Int32} (hb : mr_R h o A I) (hm : mt A 0 T) (hV : tV T) (hp : p < 2 ^ 32)
    (k1 : ∀ e i, fl_ok T p e → i < (tB T e).length → x = nI i → ∀ (g : pm_H) (A' : Nat → List Int32), mr_R g o A' I → mt A' 0 (fr_up T e (p, 1, (tB T e).set i (v &&& 255))) → (∀ i, i < 3 ∨ 6 < i → A' i = A i) → fr_ag o (o + 15) h g → Q (some (.int 1)) g)
    (k0 : (∀ e i, fl_ok T p e → i < (tB T e).length → x ≠ nI i) → Q (some (.int 0)) h) : pm_X xs 3 mM_edit [.ref o, .int (nI p), .int x, .int v] h Q := by
  have h1 := hb.1
  have no : ∀ (v4 : Value), (∀ e i, fl_ok T p e → i < (tB T e).length → x ≠ nI i) → pm_W xs 3 mM_edit 27 [.ref o, .int (nI p), .int x, .int v, v4] [] h Q := by
    intro v4 c
    (repeat (first | refine pm_W.ts rfl rfl ?_ | refine pm_W.tl rfl rfl ?_))
    exact pm_W.iret rfl rfl (k0 c)
  unfold pm_X
  (repeat (first | refine pm_W.ts rfl rfl ?_ | refine pm_W.tl rfl rfl ?_))
  refine pm_W.callV (d' := 2) (as := [.int (nI p)]) rfl rfl rfl rfl (fr_ble rfl) h1 (fr_ble rfl) (ct_M_file hb hm hV hp (fun e q => ?_) (fun hno => ?_))
  · obtain ⟨q1, q2, q3, q4, q5⟩ := id q
    have uniq : ∀ {e2 : Nat}, fl_ok T p e2 → e2 = e := fun h1 => hV.2.1 _ e h1.2.2.1 q3 (by rw [h1.2.2.2.1]; exact q2) (h1.2.2.2.1.trans q4.symm)
    have hl16 := (hV.1 e q3 (by rw [q4]; exact q2)).2.2.1
    obtain ⟨ek, el, ed⟩ := (hm e q3).2 (by rw [q4]; exact q2)
    rw [Nat.zero_add] at ek el ed
    (repeat (first | refine pm_W.ts rfl rfl ?_ | refine pm_W.tl rfl rfl ?_))
    refine pm_W.ifz rfl (fun z => absurd z (nI_pos (by omega))) (fun _ => ?_)
    (repeat (first | refine pm_W.ts rfl rfl ?_ | refine pm_W.tl rfl rfl ?_))
    refine pm_W.ifz rfl (fun z => no _ (fun e2 i r1 r2 r3 => ?_)) (fun c => ?_)
    · rw [r3] at z
      rw [uniq r1] at r2
      exact nI_pos (by omega) z
    · obtain ⟨i, hi, rfl⟩ := fr_nat (fr_nlt c)
      (repeat (first | refine pm_W.ts rfl rfl ?_ | refine pm_W.tl rfl rfl ?_ | refine pm_W.get rfl rfl h1 rfl ?_))
      refine mr_ld (i := 5) hb rfl rfl rfl rfl (show e < 20 by omega) ?_
      rw [el]
      refine pm_W.icmp rfl (fun c2 => ?_) (fun c2 => no _ (fun e2 i2 r1 r2 r3 => ?_))
      · have c2 : nI i < nI (tB T e).length := c2
        rw [nI_ltI hi (by omega)] at c2
        have m6 : (A 6).length = 320 := hb.len (i := 6) rfl rfl
        (repeat (first | refine pm_W.ts rfl rfl ?_ | refine pm_W.tl rfl rfl ?_ | refine pm_W.get rfl rfl h1 rfl ?_))
        have ei : nI 16 * nI e + nI i = nI (16 * e + i) := by rw [fr_mul, nI_add]
        show pm_W xs 3 mM_edit _ _ [.int (v &&& nI 255), .int (nI 16 * nI e + nI i), .ref (o + 6)] h Q
        rw [ei]
        refine mr_st (i := 6) hb rfl rfl rfl rfl (show 16 * e + i < 320 by omega) (fun g1 r1 a1 => ?_)
        (repeat (first | refine pm_W.ts rfl rfl ?_ | refine pm_W.tl rfl rfl ?_))
        refine pm_W.iret rfl rfl (k1 e i q c2 rfl g1 _ r1 (mt_setB hm hV q3 q2 q4 q5 rfl rfl (fun j hj => ?_) (fun j k hj hk hje => ?_) (fun k hk => ?_)) (fun i hi => fr_up_n (by omega)) a1)
        · rw [List.length_set]
          by_cases c : j = e
          · rw [if_pos c, c]; exact el
          · rw [if_neg c]; rfl
        · rw [fr_up_s, fr_gn (by omega)]
        · rw [List.length_set] at hk
          rw [fr_up_s]
          by_cases c : k = i
          · subst c
            rw [fr_gs (by omega), fr_gs hk]
            rfl
          · rw [fr_gn (by omega), fr_gn (fun z => c z.symm)]
            exact ed k hk
      · have c2 : ¬ nI i < nI (tB T e).length := c2
        rw [nI_ltI hi (by omega)] at c2
        rw [uniq r1] at r2
        rw [nI_eq hi (by omega)] at r3
        omega
  · (repeat (first | refine pm_W.ts rfl rfl ?_ | refine pm_W.tl rfl rfl ?_))
    refine pm_W.ifz rfl (fun _ => no _ (fun e i q => absurd q (hno e))) (fun z => absurd (show (-1 : Int32) < 0 by decide) z)
end MTREE
