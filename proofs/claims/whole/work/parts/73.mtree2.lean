section MTREE2
variable {xs : List Int32} {h : pm_H} {o p : Nat} {A : Nat → List Int32} {I : Nat → Int32} {T : te_T} {Q : Option Value → pm_H → Prop}
theorem ap_bs_at {v : Int32} {n j : Nat} (hj : j < n) : (ap_bs v n).getD j 0 = (v + nI (37 * j)) &&& 255 := by
  rw [List.getD_eq_getElem?_getD]
  simp [ap_bs, hj]
theorem fr_gapp {a b : List Int32} {j : Nat} : (a ++ b).getD j 0 = if j < a.length then a.getD j 0 else b.getD (j - a.length) 0 := by
  rw [List.getD_eq_getElem?_getD]
  split
  · rename_i c
    rw [List.getElem?_append_left c, List.getD_eq_getElem?_getD]
  · rename_i c
    rw [List.getElem?_append_right (by omega), List.getD_eq_getElem?_getD]
theorem ct_M_append {v x : Int32} (hb : mr_R h o A I) (hm : mt A 0 T) (hV : tV T) (hp : p < 2 ^ 32)
    (k1 : ∀ e n, ap_ok T p n e → x = nI n → ∀ (g : pm_H) (A' : Nat → List Int32), mr_R g o A' I → mt A' 0 (fr_up T e (p, 1, tB T e ++ ap_bs v n)) → (∀ i, i < 3 ∨ 6 < i → A' i = A i) → fr_ag o (o + 15) h g → Q (some (.int (nI ((tB T e).length + n)))) g)
    (k0 : (∀ e n, ap_ok T p n e → x ≠ nI n) → Q (some (.int (-1))) h) : pm_X xs 3 mM_append [.ref o, .int (nI p), .int v, .int x] h Q := by
  have h1 := hb.1
  have no : ∀ (v4 v5 : Value), (∀ e n, ap_ok T p n e → x ≠ nI n) → pm_W xs 3 mM_append 48 [.ref o, .int (nI p), .int v, .int x, v4, v5] [] h Q := by
    intro v4 v5 c
    (repeat (first | refine pm_W.ts rfl rfl ?_ | refine pm_W.tl rfl rfl ?_))
    exact pm_W.iret rfl rfl (k0 c)
  unfold pm_X
  (repeat (first | refine pm_W.ts rfl rfl ?_ | refine pm_W.tl rfl rfl ?_))
  refine pm_W.callV (d' := 2) (as := [.int (nI p)]) rfl rfl rfl rfl (fr_ble rfl) h1 (fr_ble rfl) (ct_M_file hb hm hV hp (fun e q => ?_) (fun hno => ?_))
  · obtain ⟨q1, q2, q3, q4, q5⟩ := id q
    have uniq : ∀ {e2 n : Nat}, ap_ok T p n e2 → e2 = e := fun h1 => hV.2.1 _ e h1.1.2.2.1 q3 (by rw [h1.1.2.2.2.1]; exact q2) (h1.1.2.2.2.1.trans q4.symm)
    have hl16 := (hV.1 e q3 (by rw [q4]; exact q2)).2.2.1
    have hfb := hV.2.2
    obtain ⟨ek, el, ed⟩ := (hm e q3).2 (by rw [q4]; exact q2)
    rw [Nat.zero_add] at ek el ed
    (repeat (first | refine pm_W.ts rfl rfl ?_ | refine pm_W.tl rfl rfl ?_))
    refine pm_W.ifz rfl (fun z => absurd z (nI_pos (by omega))) (fun _ => ?_)
    (repeat (first | refine pm_W.ts rfl rfl ?_ | refine pm_W.tl rfl rfl ?_))
    refine pm_W.icmp rfl (fun c => no _ _ (fun e2 n h1 h2 => ?_)) (fun c => ?_)
    · have c : x < nI 1 := c
      have := h1.2.1
      have h3 := h1.2.2.1
      rw [h2, nI_ltI (by omega) (by omega)] at c
      omega
    · have c : ¬ x < nI 1 := c
      (repeat (first | refine pm_W.ts rfl rfl ?_ | refine pm_W.tl rfl rfl ?_))
      refine pm_W.icmp rfl (fun d => no _ _ (fun e2 n h1 h2 => ?_)) (fun d => ?_)
      · have d : nI 16 < x := d
        have h3 := h1.2.2.1
        rw [h2, nI_ltI (by omega) (by omega)] at d
        omega
      · have d : ¬ nI 16 < x := d
        obtain ⟨n, hn, rfl⟩ := fr_nat (x := x) (by
          rw [fr_lt, nI_toInt (by omega)] at c
          rw [fr_le]
          show 0 ≤ x.toInt
          omega)
        rw [nI_ltI hn (by omega)] at c
        rw [nI_ltI (by omega) hn] at d
        (repeat (first | refine pm_W.ts rfl rfl ?_ | refine pm_W.tl rfl rfl ?_ | refine pm_W.get rfl rfl h1 rfl ?_))
        refine mr_ld (i := 5) hb rfl rfl rfl rfl (show e < 20 by omega) ?_
        rw [el]
        (iterate 2 (first | refine pm_W.ts rfl rfl ?_ | refine pm_W.tl rfl rfl ?_))
        rw [nI_add]
        (iterate 1 (first | refine pm_W.ts rfl rfl ?_ | refine pm_W.tl rfl rfl ?_))
        refine pm_W.icmp rfl (fun g1 => no _ _ (fun e2 n2 r1 r2 => ?_)) (fun g1 => ?_)
        · have g1 : nI 16 < nI ((tB T e).length + n) := g1
          rw [nI_ltI (by omega) (by omega)] at g1
          have r3 := r1.2.2.1
          rw [uniq r1] at r3
          rw [nI_eq (by omega) (by omega)] at r2
          omega
        · have g1 : ¬ nI 16 < nI ((tB T e).length + n) := g1
          rw [nI_ltI (by omega) (by omega)] at g1
          (repeat (first | refine pm_W.ts rfl rfl ?_ | refine pm_W.tl rfl rfl ?_))
          refine pm_W.callV (d' := 0) (as := []) rfl rfl rfl rfl (fr_ble rfl) h1 (fr_ble rfl) (ct_M_fileBytes hb hm hV ?_)
          (iterate 1 (first | refine pm_W.ts rfl rfl ?_ | refine pm_W.tl rfl rfl ?_))
          show pm_W xs 3 mM_append _ _ [.int (nI n), .int (nI (te_fb T))] h Q
          (iterate 1 (first | refine pm_W.ts rfl rfl ?_ | refine pm_W.tl rfl rfl ?_))
          rw [nI_add]
          (iterate 1 (first | refine pm_W.ts rfl rfl ?_ | refine pm_W.tl rfl rfl ?_))
          refine pm_W.icmp rfl (fun g2 => ?_) (fun g2 => no _ _ (fun e2 n2 r1 r2 => ?_))
          · have g2 : nI (te_fb T + n) ≤ nI 80 := g2
            rw [nI_leI (by omega) (by omega)] at g2
            have hap : ap_ok T p n e := ⟨q, by omega, by omega, g2⟩
            have loop : ∀ (r k : Nat) (g : pm_H) (B : Nat → List Int32), k + r = n → mr_R g o B I → (∀ i, i ≠ 6 → B i = A i) → (∀ j, j < 16 * e + (tB T e).length ∨ 16 * e + 16 ≤ j → (B 6).getD j 0 = (A 6).getD j 0) → (∀ j, j < k → (B 6).getD (16 * e + (tB T e).length + j) 0 = (v + nI (37 * j)) &&& 255) → fr_ag o (o + 15) h g → pm_W xs 3 mM_append 53 [.ref o, .int (nI p), .int v, .int (nI n), .int (nI e), .int (nI k)] [] g Q := by
              intro r
              induction r with
              | zero =>
                intro k g B hk hB b1 b2 b3 hag
                have e1 : k = n := by omega
                subst e1
                have t1 := hB.1
                (repeat (first | refine pm_W.ts rfl rfl ?_ | refine pm_W.tl rfl rfl ?_))
                refine pm_W.icmp rfl (fun _ => ?_) (fun z => ?_)
                · (repeat (first | refine pm_W.ts rfl rfl ?_ | refine pm_W.tl rfl rfl ?_ | refine pm_W.get rfl rfl t1 rfl ?_))
                  refine mr_ld (i := 5) hB rfl rfl rfl rfl (show e < 20 by omega) ?_
                  rw [b1 5 (by omega), el]
                  (iterate 1 (first | refine pm_W.ts rfl rfl ?_ | refine pm_W.tl rfl rfl ?_))
                  show pm_W xs 3 mM_append _ _ [.int (nI k), .int (nI (tB T e).length), .int (nI e), .ref (o + 5)] g Q
                  (iterate 1 (first | refine pm_W.ts rfl rfl ?_ | refine pm_W.tl rfl rfl ?_))
                  rw [nI_add]
                  refine mr_st (i := 5) hB rfl rfl rfl rfl (show e < 20 by omega) (fun g2 r2 a2 => ?_)
                  have t2 := r2.1
                  have m5 : (B 5).length = 20 := hB.len (i := 5) rfl rfl
                  (repeat (first | refine pm_W.ts rfl rfl ?_ | refine pm_W.tl rfl rfl ?_ | refine pm_W.get rfl rfl t2 rfl ?_))
                  refine mr_ld (i := 5) r2 rfl rfl rfl rfl (show e < 20 by omega) ?_
                  rw [fr_up_s, fr_gs (by omega)]
                  refine pm_W.iret rfl rfl (k1 e k hap rfl g2 _ r2 (mt_setB hm hV q3 q2 q4 q5 ?_ ?_ (fun j hj => ?_) (fun j k hj hk hje => ?_) (fun i hi => ?_)) (fun i hi => ?_) (hag.tr a2))
                  · rw [fr_up_n (by omega)]; exact b1 3 (by omega)
                  · rw [fr_up_n (by omega)]; exact b1 4 (by omega)
                  · rw [fr_up_s, List.length_append, ap_bs_len]
                    by_cases c : j = e
                    · rw [if_pos c, c, fr_gs (by omega)]
                    · rw [if_neg c, fr_gn (fun z => c z.symm), b1 5 (by omega)]
                  · rw [fr_up_n (by omega)]
                    exact b2 (16 * j + k) (by omega)
                  · rw [List.length_append, ap_bs_len] at hi
                    rw [fr_up_n (by omega), fr_gapp]
                    split
                    · rename_i c
                      rw [b2 (16 * e + i) (by omega)]
                      exact ed i c
                    · rename_i c
                      rw [ap_bs_at (by omega), ← b3 (i - (tB T e).length) (by omega)]
                      congr 1
                      omega
                  · rw [fr_up_n (by omega)]
                    exact b1 i (by omega)
                · have z : ¬ nI k ≤ nI k := z
                  rw [nI_leI (by omega) (by omega)] at z
                  omega
              | succ r ih =>
                intro k g B hk hB b1 b2 b3 hag
                have t1 := hB.1
                have m6 : (B 6).length = 320 := hB.len (i := 6) rfl rfl
                (repeat (first | refine pm_W.ts rfl rfl ?_ | refine pm_W.tl rfl rfl ?_))
                refine pm_W.icmp rfl (fun z => ?_) (fun _ => ?_)
                · have z : nI n ≤ nI k := z
                  rw [nI_leI (by omega) (by omega)] at z
                  omega
                · (repeat (first | refine pm_W.ts rfl rfl ?_ | refine pm_W.tl rfl rfl ?_ | refine pm_W.get rfl rfl t1 rfl ?_))
                  refine mr_ld (i := 5) hB rfl rfl rfl rfl (show e < 20 by omega) ?_
                  rw [b1 5 (by omega), el]
                  (repeat (first | refine pm_W.ts rfl rfl ?_ | refine pm_W.tl rfl rfl ?_))
                  have ei : nI 16 * nI e + nI (tB T e).length + nI k = nI (16 * e + (tB T e).length + k) := by rw [fr_mul, nI_add, nI_add]
                  show pm_W xs 3 mM_append _ _ [.int ((v + nI 37 * nI k) &&& 255), .int (nI 16 * nI e + nI (tB T e).length + nI k), .ref (o + 6)] g Q
                  rw [ei, fr_mul]
                  refine mr_st (i := 6) hB rfl rfl rfl rfl (show 16 * e + (tB T e).length + k < 320 by omega) (fun g2 r2 a2 => ?_)
                  (repeat (first | refine pm_W.ts rfl rfl ?_ | refine pm_W.tl rfl rfl ?_))
                  refine pm_W.goto rfl ?_
                  rw [fr_inc]
                  refine ih (k + 1) g2 _ (by omega) r2 (fun i hi => ?_) (fun j hj => ?_) (fun j hj => ?_) (hag.tr a2)
                  · rw [fr_up_n hi]; exact b1 i hi
                  · rw [fr_up_s, fr_gn (by omega)]
                    exact b2 j hj
                  · rw [fr_up_s]
                    by_cases c : j = k
                    · subst c
                      rw [fr_gs (by omega)]
                    · rw [fr_gn (by omega)]
                      exact b3 j (by omega)
            (iterate 2 (first | refine pm_W.ts rfl rfl ?_ | refine pm_W.tl rfl rfl ?_))
            exact loop n 0 h A (by omega) hb (fun _ _ => rfl) (fun _ _ => rfl) (fun j hj => by omega) fr_ag.rf
          · have g2 : ¬ nI (te_fb T + n) ≤ nI 80 := g2
            rw [nI_leI (by omega) (by omega)] at g2
            rw [nI_eq (by omega) (by have := r1.2.2.1; omega)] at r2
            have := r1.2.2.2
            omega
  · (repeat (first | refine pm_W.ts rfl rfl ?_ | refine pm_W.tl rfl rfl ?_))
    refine pm_W.ifz rfl (fun _ => no _ _ (fun e n q => absurd q.1 (hno e))) (fun z => absurd (show (-1 : Int32) < 0 by decide) z)
theorem ct_M_remove (hb : mr_R h o A I) (hm : mt A 0 T) (hV : tV T) (hp : p < 2 ^ 32)
    (k1 : pa_ok p = true → p ≠ 0 → (∃ e, e < 10 ∧ tP T e = p) → ∀ (g : pm_H) (A' : Nat → List Int32), mr_R g o A' I → mt A' 0 (rm_T T p) → (∀ i, i < 3 ∨ 6 < i → A' i = A i) → fr_ag o (o + 15) h g → Q (some (.int (nI (tr_cnt (fun s => rm_g T p (s - 1)) 10)))) g)
    (k0 : ¬ (pa_ok p = true ∧ p ≠ 0 ∧ ∃ e, e < 10 ∧ tP T e = p) → Q (some (.int (-1))) h) : pm_X xs 2 mM_remove [.ref o, .int (nI p)] h Q := by
  have h1 := hb.1
  have hd6 := (pa_d_spec p).1
  have no : ∀ (v2 v3 v4 : Value), ¬ (pa_ok p = true ∧ p ≠ 0 ∧ ∃ e, e < 10 ∧ tP T e = p) → pm_W xs 2 mM_remove 20 [.ref o, .int (nI p), v2, v3, v4] [] h Q := by
    intro v2 v3 v4 c
    (repeat (first | refine pm_W.ts rfl rfl ?_ | refine pm_W.tl rfl rfl ?_))
    exact pm_W.iret rfl rfl (k0 c)
  unfold pm_X
  (repeat (first | refine pm_W.ts rfl rfl ?_ | refine pm_W.tl rfl rfl ?_))
  refine pm_W.callS (d' := 1) rfl rfl rfl rfl (fr_ble rfl) (fr_ble rfl) (ct_M_isPath hp ?_)
  refine pm_W.ifz rfl (fun c => no _ _ _ (fun q => by have q1 := q.1; rw [fr_b0 c] at q1; cases q1)) (fun c => ?_)
  have hpo := fr_b1 c
  have hp30 := pa_ok_30 hpo
  (repeat (first | refine pm_W.ts rfl rfl ?_ | refine pm_W.tl rfl rfl ?_))
  refine pm_W.ifz rfl (fun c2 => no _ _ _ (fun q => ?_)) (fun c2 => ?_)
  · have c2 : nI p = nI 0 := c2
    rw [nI_eq (by omega) (by omega)] at c2
    exact q.2.1 c2
  · have c2 : ¬ nI p = nI 0 := c2
    rw [nI_eq (by omega) (by omega)] at c2
    (repeat (first | refine pm_W.ts rfl rfl ?_ | refine pm_W.tl rfl rfl ?_))
    refine pm_W.callV (d' := 0) (as := [.int (nI 0), .int (nI p)]) rfl rfl rfl rfl (fr_ble rfl) h1 (fr_ble rfl) (ct_M_slot hb hm hV hp30 (fun e0 he0 ep0 hj0 => ?_) (fun hno => ?_))
    · refine pm_W.ifz rfl (fun _ => ?_) (fun z => absurd (nI_pos' (by omega)) z)
      have loop : ∀ (r e : Nat) (g : pm_H) (B : Nat → List Int32), e + r = 10 → mr_R g o B I → (∀ i, i ≠ 3 → B i = A i) → (∀ j, j < 10 → (B 3).getD j 0 = if j < e then nI (tP (rm_T T p) j) else nI (tP T j)) → fr_ag o (o + 15) h g → pm_W xs 2 mM_remove 38 [.ref o, .int (nI p), .int (nI (tr_cnt (fun s => rm_g T p (s - 1)) e)), .int (nI (2 ^ (5 * pa_d p) - 1)), .int (nI e)] [] g Q := by
        intro r
        induction r with
        | zero =>
          intro e g B he hB b1 b2 hag
          have e10 : e = 10 := by omega
          subst e10
          (repeat (first | refine pm_W.ts rfl rfl ?_ | refine pm_W.tl rfl rfl ?_))
          refine pm_W.icmp rfl (fun _ => ?_) (fun z => ?_)
          · (repeat (first | refine pm_W.ts rfl rfl ?_ | refine pm_W.tl rfl rfl ?_))
            refine pm_W.iret rfl rfl (k1 hpo c2 ⟨e0, he0, ep0⟩ g B hB (fun j hj => ?_) (fun i hi => b1 i (by omega)) hag)
            have hmj := hm j hj
            rw [Nat.zero_add] at hmj ⊢
            rw [b2 j hj, if_pos hj, b1 4 (by omega), b1 5 (by omega), b1 6 (by omega)]
            refine ⟨rfl, fun z => ?_⟩
            rw [rm_tP] at z
            by_cases cg : rm_g T p j = true
            · rw [if_pos cg] at z; exact absurd rfl z
            · have cg' : rm_g T p j = false := Bool.eq_false_iff.mpr cg
              rw [if_neg cg] at z
              rw [rm_tK cg', rm_tB cg']
              exact hmj.2 z
          · have z : ¬ nI 10 ≤ nI 10 := z
            rw [nI_leI (by omega) (by omega)] at z
            omega
        | succ r ih =>
          intro e g B he hB b1 b2 hag
          have t1 := hB.1
          have m3 : (B 3).length = 20 := hB.len (i := 3) rfl rfl
          have lt := tV_lt hV (show e < 10 by omega)
          have be := b2 e (by omega)
          rw [if_neg (by omega)] at be
          have nx := fun (g : pm_H) (B : Nat → List Int32) => ih (e + 1) g B (by omega)
          have stay : rm_g T p e = false → pm_W xs 2 mM_remove 79 [.ref o, .int (nI p), .int (nI (tr_cnt (fun s => rm_g T p (s - 1)) e)), .int (nI (2 ^ (5 * pa_d p) - 1)), .int (nI e)] [] g Q := by
            intro cg
            (repeat (first | refine pm_W.ts rfl rfl ?_ | refine pm_W.tl rfl rfl ?_))
            refine pm_W.goto rfl ?_
            rw [fr_inc]
            have := nx g B hB b1 (fun j hj => ?_) hag
            · unfold tr_cnt at this
              rw [show e + 1 - 1 = e by omega, cg] at this
              exact this
            · rw [b2 j hj]
              by_cases c : j < e
              · rw [if_pos c, if_pos (by omega)]
              · rw [if_neg c]
                by_cases c' : j = e
                · subst c'
                  rw [if_pos (by omega), rm_tP, cg]
                  rfl
                · rw [if_neg (by omega)]
          (repeat (first | refine pm_W.ts rfl rfl ?_ | refine pm_W.tl rfl rfl ?_))
          refine pm_W.icmp rfl (fun z => ?_) (fun _ => ?_)
          · have z : nI 10 ≤ nI e := z
            rw [nI_leI (by omega) (by omega)] at z
            omega
          · (repeat (first | refine pm_W.ts rfl rfl ?_ | refine pm_W.tl rfl rfl ?_ | refine pm_W.get rfl rfl t1 rfl ?_))
            refine mr_ld (i := 3) hB rfl rfl rfl rfl (show e < 20 by omega) ?_
            rw [be]
            refine pm_W.ifz rfl (fun d => stay ?_) (fun d => ?_)
            · have d : nI (tP T e) = nI 0 := d
              rw [nI_eq (by omega) (by omega)] at d
              exact decide_eq_false (fun z => z.1 d)
            · have d : ¬ nI (tP T e) = nI 0 := d
              rw [nI_eq (by omega) (by omega)] at d
              (repeat (first | refine pm_W.ts rfl rfl ?_ | refine pm_W.tl rfl rfl ?_ | refine pm_W.get rfl rfl t1 rfl ?_))
              refine mr_ld (i := 3) hB rfl rfl rfl rfl (show e < 20 by omega) ?_
              rw [be]
              (iterate 1 (first | refine pm_W.ts rfl rfl ?_ | refine pm_W.tl rfl rfl ?_))
              show pm_W xs 2 mM_remove _ _ [.int (nI (2 ^ (5 * pa_d p) - 1)), .int (nI (tP T e))] g Q
              (iterate 1 (first | refine pm_W.ts rfl rfl ?_ | refine pm_W.tl rfl rfl ?_))
              rw [fr_mask]
              have hmod : tP T e % 2 ^ (5 * pa_d p) ≤ tP T e := Nat.mod_le _ _
              (iterate 1 (first | refine pm_W.ts rfl rfl ?_ | refine pm_W.tl rfl rfl ?_))
              refine pm_W.icmp rfl (fun d2 => stay ?_) (fun d2 => ?_)
              · have d2 : ¬ nI (tP T e % 2 ^ (5 * pa_d p)) = nI p := d2
                rw [nI_eq (by omega) (by omega)] at d2
                exact decide_eq_false (fun z => d2 z.2)
              · have d2 : ¬ ¬ nI (tP T e % 2 ^ (5 * pa_d p)) = nI p := d2
                rw [nI_eq (by omega) (by omega)] at d2
                have cg : rm_g T p e = true := decide_eq_true ⟨d, Decidable.not_not.mp d2⟩
                (repeat (first | refine pm_W.ts rfl rfl ?_ | refine pm_W.tl rfl rfl ?_ | refine pm_W.get rfl rfl t1 rfl ?_))
                refine mr_st (i := 3) hB rfl rfl rfl rfl (show e < 20 by omega) (fun g2 r2 a2 => ?_)
                (repeat (first | refine pm_W.ts rfl rfl ?_ | refine pm_W.tl rfl rfl ?_))
                refine pm_W.goto rfl ?_
                rw [fr_inc, fr_inc]
                have := nx g2 _ r2 (fun i hi => ?_) (fun j hj => ?_) (hag.tr a2)
                · unfold tr_cnt at this
                  rw [show e + 1 - 1 = e by omega, cg] at this
                  exact this
                · rw [fr_up_n hi]; exact b1 i hi
                · rw [fr_up_s]
                  by_cases c : j = e
                  · subst c
                    rw [fr_gs (by omega), if_pos (by omega), rm_tP, cg]
                    rfl
                  · rw [fr_gn (fun z => c z.symm), b2 j hj]
                    by_cases c' : j < e
                    · rw [if_pos c', if_pos (by omega)]
                    · rw [if_neg c', if_neg (by omega)]
      (repeat (first | refine pm_W.ts rfl rfl ?_ | refine pm_W.tl rfl rfl ?_))
      refine pm_W.callS (d' := 1) rfl rfl rfl rfl (fr_ble rfl) (fr_ble rfl) (pm_X.deep (ct_M_depth (by omega) ?_) (Nat.zero_le _))
      (iterate 3 (first | refine pm_W.ts rfl rfl ?_ | refine pm_W.tl rfl rfl ?_))
      have e : (nI 1 <<< ((nI 5 * nI (pa_d p)) &&& 31)) - nI 1 = nI (2 ^ (5 * pa_d p) - 1) := by
        rw [fr_mul, fr_shl (by omega), Nat.one_mul, fr_sub (j := 1) (Nat.two_pow_pos _)]
      (iterate 4 (first | refine pm_W.ts rfl rfl ?_ | refine pm_W.tl rfl rfl ?_))
      have := loop 10 0 h A (by omega) hb (fun _ _ => rfl) (fun j hj => ?_) fr_ag.rf
      · rw [← e] at this
        exact this
      · have := (hm j hj).1
        rw [Nat.zero_add] at this
        rw [this, if_neg (by omega)]
    · refine pm_W.ifz rfl (fun z => absurd (show (0 : Int32) ≤ -1 from z) (by decide)) (fun _ => no _ _ _ (fun q => ?_))
      obtain ⟨-, -, e, he, ep⟩ := q
      exact hno e he ep
end MTREE2
