section MEXTR
variable {xs : List Int32} {h : pm_H} {o : Nat} {A : Nat → List Int32} {I : Nat → Int32} {im : Nat → dp_P} {st ca : dp_K} {sd : Nat → List Int32 × dp_P} {Q : Option Value → pm_H → Prop}
def me_ag (A B : Nat → List Int32) : Prop := (∀ j, j ≠ 1 → j ≠ 13 → j ≠ 14 → B j = A j) ∧ (∀ r t, r = 13 ∨ r = 14 → t < 40 → (B r).getD t 0 = (A r).getD t 0) ∧ ∀ t, 240 ≤ t → t < 1760 → (B 1).getD t 0 = (A 1).getD t 0
theorem me_ag.tr {A B C : Nat → List Int32} (x : me_ag A B) (y : me_ag B C) : me_ag A C := ⟨fun j a b c => by rw [y.1 j a b c, x.1 j a b c], fun r t a b => by rw [y.2.1 r t a b, x.2.1 r t a b], fun t a b => by rw [y.2.2 t a b, x.2.2 t a b]⟩
theorem me_ag.q {A B : Nat → List Int32} (x : mq_ag 1 A B) : me_ag A B := ⟨x.1, fun r t a b => x.2.1 r t a (by omega), fun t a b => x.2.2 t (by omega)⟩
theorem me_mk {A B : Nat → List Int32} {L : dp_K} (hm : mk A (40 * 0) L) (hl : L.length ≤ 40) (hq : me_ag A B) : mk B (40 * 0) L := by
  intro j hj
  obtain ⟨q1, q2, q3, q4⟩ := hm j hj
  rw [hq.2.1 13 _ (Or.inl rfl) (by omega), hq.2.1 14 _ (Or.inr rfl) (by omega)]
  refine ⟨q1, q2, q3, fun t ht => ?_⟩
  rw [hq.2.2 _ (by omega) (by omega)]
  exact q4 t ht
theorem me_mse {A B : Nat → List Int32} (hm : mse A sd) (hq : me_ag A B) : mse B sd := by
  intro s hs
  obtain ⟨q1, q2, q3, q4⟩ := hm s hs
  refine ⟨by rw [hq.1 2 (by omega) (by omega) (by omega)]; exact q1, q2, fun t ht => ?_, ?_⟩
  · rw [hq.2.2 _ (by omega) (by omega)]
    exact q3 t ht
  · unfold ml mlp at q4 ⊢
    rw [hq.1 7 (by omega) (by omega) (by omega), hq.1 8 (by omega) (by omega) (by omega), hq.1 9 (by omega) (by omega) (by omega), hq.1 10 (by omega) (by omega) (by omega)]
    exact q4
theorem ct_M_extract {x : Int32} (hb : mr_R h o A I) (hm : mi A im) (hv : ∀ i, i < 4 → pl_V (im i) 117) (hst : mk A (40 * 0) st) (h5 : I 5 = nI st.length) (l5 : st.length ≤ 40) (hca : mk A (40 * 1) ca) (h6 : I 6 = nI ca.length) (l6 : ca.length ≤ 6) (hse : mse A sd) (hsd : sd_V sd)
    (k1 : ∀ i : Nat, i < 4 → x = nI i → im i ≠ [] → ∀ (g : pm_H) (B : Nat → List Int32) (J : Nat → Int32), mr_R g o B J → mk B (40 * 1) (ex_go (im i) st sd (im i).length 0 ca [] [0, 0, 0, 0]).2.1 → J 6 = nI (ex_go (im i) st sd (im i).length 0 ca [] [0, 0, 0, 0]).2.1.length → (ex_go (im i) st sd (im i).length 0 ca [] [0, 0, 0, 0]).2.1.length ≤ 6 → mo B J (ex_go (im i) st sd (im i).length 0 ca [] [0, 0, 0, 0]).2.2.1 → mta J (ex_go (im i) st sd (im i).length 0 ca [] [0, 0, 0, 0]).2.2.2 → (∀ j, j < 6 → j ≠ 1 → J j = I j) → me_ag A B → fr_ag o (o + 15) h g → Q (some (.int (ex_ans (ex_go (im i) st sd (im i).length 0 ca [] [0, 0, 0, 0])))) g)
    (k0 : (∀ i : Nat, i < 4 → x = nI i → im i = []) → Q (some (.int (-1))) h) : pm_X xs 4 mM_extract [.ref o, .int x] h Q := by
  have h1 := hb.1
  unfold pm_X
  (iterate 2 (first | refine pm_W.ts rfl rfl ?_ | refine pm_W.tl rfl rfl ?_))
  refine pm_W.callV (d' := 0) (as := [.int x]) rfl rfl rfl rfl (fr_ble rfl) h1 (fr_ble rfl) (ct_M_there hb hm (fun i hi hx hne => ?_) (fun hn => ?_))
  · refine pm_W.ifz rfl (fun _ => ?_) (fun z => absurd (show ¬ (1 : Int32) = 0 by decide) z)
    subst hx
    obtain ⟨g1, g2, cnt, g3, g4⟩ := hm i hi
    have hP := g2 hne
    have hvi := hv i hi
    have kk := k1 i hi rfl hne
    generalize hps : im i = ps at *
    generalize hfin : ex_go ps st sd ps.length 0 ca [] [0, 0, 0, 0] = fin at kk
    have loop : ∀ (r k : Nat) (ca' : dp_K) (ws ta : List Nat) (v4 v5 v6 : Value) (g : pm_H) (B : Nat → List Int32) (J : Nat → Int32), k + r = ps.length → ex_go ps st sd r k ca' ws ta = fin → ws.length = pl_s ps k → mr_R g o B J → mk B (40 * 1) ca' → J 6 = nI ca'.length → ca'.length ≤ 6 → J 1 = nI 0 → mb B 120 (ws.map nI) → mta J ta → ta.length = 4 → (∀ j, j < 6 → j ≠ 1 → J j = I j) → me_ag A B → fr_ag o (o + 15) h g →
        pm_W xs 4 mM_extract 39 [.ref o, .int (nI i), .int (nI ws.length), .int (nI k), v4, v5, v6] [] g Q := by
      intro r
      induction r with
      | zero =>
        intro k ca' ws ta v4 v5 v6 g B J hk hgo hws hB hkc h6' l6' hJ1 hS hta ht4 hJ hme hag
        have ek : k = ps.length := by omega
        have t1 := hB.1
        have hP15 := hP.2.1
        have hwl : ws.length ≤ 117 := by
          rw [hws, ek]
          cases hn : ps.length with
          | zero => exact absurd (List.length_eq_zero_iff.mp hn) hne
          | succ n =>
            show pl_e ps n ≤ 117
            exact (hvi n (by omega)).2.2
        (repeat (first | refine pm_W.ts rfl rfl ?_ | refine pm_W.tl rfl rfl ?_ | refine pm_W.get rfl rfl t1 rfl ?_))
        rw [show Int32.ofInt 1 + nI i = nI (1 + i) from nI_add 1 i]
        refine mr_ld (i := 7) (k := 1 + i) hB rfl rfl rfl rfl (show 1 + i < 7 by omega) ?_
        rw [hme.1 7 (by omega) (by omega) (by omega), hP.1]
        refine pm_W.icmp rfl (fun _ => ?_) (fun z => ?_)
        · (iterate 2 (first | refine pm_W.ts rfl rfl ?_ | refine pm_W.tl rfl rfl ?_))
          refine mr_pt 1 hB rfl rfl rfl rfl (Or.inl rfl) (fun g2 hB2 a2 => ?_)
          (iterate 1 (first | refine pm_W.ts rfl rfl ?_ | refine pm_W.tl rfl rfl ?_))
          have hgo : (none, ca', ws, ta) = fin := hgo
          rw [← hgo] at kk
          refine pm_W.iret rfl rfl (kk g2 B _ hB2 hkc ?_ l6' ⟨fr_up_s, by show ws.length ≤ 120; omega, hS⟩ (fun t ht => ?_) (fun j hj hj1 => ?_) hme (hag.tr a2))
          · rw [fr_up_n (by omega)]; exact h6'
          · rw [fr_up_n (by omega)]; exact hta t ht
          · rw [fr_up_n hj1]; exact hJ j hj hj1
        · have z : ¬ nI ps.length ≤ nI k := z
          rw [nI_leI (by omega) (by omega)] at z
          omega
      | succ r ih =>
        intro k ca' ws ta v4 v5 v6 g B J hk hgo hws hB hkc h6' l6' hJ1 hS hta ht4 hJ hme hag
        have t1 := hB.1
        have hP15 := hP.2.1
        obtain ⟨w1, w2, w3⟩ := hvi k (by omega)
        have exk : ex_n ps k = pl_e ps k - pl_s ps k := rfl
        have hPB : ml B (1 + i) ps := by
          have := hP
          unfold ml mlp at this ⊢
          rw [hme.1 7 (by omega) (by omega) (by omega), hme.1 8 (by omega) (by omega) (by omega), hme.1 9 (by omega) (by omega) (by omega), hme.1 10 (by omega) (by omega) (by omega)]
          exact this
        rw [ex_go] at hgo
        (repeat (first | refine pm_W.ts rfl rfl ?_ | refine pm_W.tl rfl rfl ?_ | refine pm_W.get rfl rfl t1 rfl ?_))
        rw [show Int32.ofInt 1 + nI i = nI (1 + i) from nI_add 1 i]
        refine mr_ld (i := 7) (k := 1 + i) hB rfl rfl rfl rfl (show 1 + i < 7 by omega) ?_
        rw [hPB.1]
        refine pm_W.icmp rfl (fun z => ?_) (fun _ => ?_)
        · have z : nI ps.length ≤ nI k := z
          rw [nI_leI (by omega) (by omega)] at z
          omega
        · (repeat (first | refine pm_W.ts rfl rfl ?_ | refine pm_W.tl rfl rfl ?_))
          show pm_W xs 4 mM_extract _ _ [.int (nI k), .int (nI 1 + nI i), .ref o] g Q
          rw [nI_add]
          refine pm_W.callV (d' := 3) (as := [.int (nI (1 + i)), .int (nI k)]) rfl rfl rfl rfl (fr_ble rfl) t1 (fr_ble rfl) (ct_M_source (ca := ca') (ws := ws) (ta := ta) hB hPB hvi (by omega) hi (me_mk hst l5 hme) (by rw [hJ 5 (by omega) (by omega)]; exact h5) l5 hkc h6' l6' (me_mse hse hme) hsd hws hS hta ht4 (fun ca2 rr ta2 f eo er e4 g2 C K hC c1 c2 c3 c4 c5 c6 c7 c8 c9 a2 => ?_) (fun ta2 eo e4 g2 K hC c1 c2 a2 => ?_))
          · rw [eo] at hgo
            have hgo : ex_go ps st sd r (k + 1) ca2 (ws ++ rr) ta2 = fin := hgo
            have t2 := hC.1
            have hmeC : me_ag B C := me_ag.q c6
            have hmC : (C 9).getD (16 * (1 + i) + k) 0 = nI (ex_n ps k) := by
              rw [c6.1 9 (by omega) (by omega) (by omega)]
              exact (hPB.2.2 k (by omega)).2.1
            have copy : ∀ (q j : Nat) (g3 : pm_H) (E : Nat → List Int32), j + q = ex_n ps k → mr_R g3 o E K → (∀ j, j ≠ 1 → E j = C j) → (∀ t, t < j → (E 1).getD (120 + ws.length + t) 0 = nI (rr.getD t 0)) → (∀ t, t < 120 + ws.length ∨ 120 + ws.length + j ≤ t → (E 1).getD t 0 = (C 1).getD t 0) → fr_ag o (o + 15) h g3 →
                pm_W xs 4 mM_extract 89 [.ref o, .int (nI i), .int (nI ws.length), .int (nI k), .int (nI f), .int (nI (ex_n ps k)), .int (nI j)] [] g3 Q := by
              intro q
              induction q with
              | zero =>
                intro j g3 E hj hE er1 er2 er3 ag3
                have ej : j = ex_n ps k := by omega
                (repeat (first | refine pm_W.ts rfl rfl ?_ | refine pm_W.tl rfl rfl ?_))
                refine pm_W.icmp rfl (fun _ => ?_) (fun z => ?_)
                · have ew : (ws ++ rr).length = ws.length + ex_n ps k := by rw [List.length_append, er]
                  (iterate 3 (first | refine pm_W.ts rfl rfl ?_ | refine pm_W.tl rfl rfl ?_))
                  rw [nI_add, ← ew]
                  (iterate 2 (first | refine pm_W.ts rfl rfl ?_ | refine pm_W.tl rfl rfl ?_))
                  refine pm_W.goto rfl ?_
                  rw [fr_inc]
                  have hmeE : me_ag C E := ⟨fun j a _ _ => er1 j a, fun r t a _ => by rcases a with a | a <;> rw [a, er1 _ (by omega)], fun t a _ => er3 t (by omega)⟩
                  refine ih (k + 1) ca2 (ws ++ rr) ta2 _ _ _ g3 E K (by omega) hgo (by rw [ew]; show _ = pl_e ps k; omega) hE (mk_same c5 (er1 13 (by omega)) (er1 14 (by omega)) (fun t ht => er3 t (by omega))) c2 c3 (by rw [c4 1 (by omega)]; exact hJ1) (fun t ht => ?_) c1 e4 (fun j a b => by rw [c4 j a]; exact hJ j a b) ((hme.tr hmeC).tr hmeE) ag3
                  rw [List.length_map, ew] at ht
                  rw [fr_mapD]
                  by_cases ct : t < ws.length
                  · rw [er3 _ (by omega), c6.2.2 _ (by omega)]
                    have q := hS t (by rw [List.length_map]; exact ct)
                    rw [q, fr_mapD]
                    congr 1
                    rw [List.getD_eq_getElem?_getD, List.getD_eq_getElem?_getD, List.getElem?_append_left ct]
                  · have q := er2 (t - ws.length) (by omega)
                    rw [show 120 + ws.length + (t - ws.length) = 120 + t by omega] at q
                    rw [q]
                    congr 1
                    rw [List.getD_eq_getElem?_getD, List.getD_eq_getElem?_getD, List.getElem?_append_right (by omega)]
                · have z : ¬ nI (ex_n ps k) ≤ nI j := z
                  rw [nI_leI (by omega) (by omega)] at z
                  omega
              | succ q ih2 =>
                intro j g3 E hj hE er1 er2 er3 ag3
                have t3 := hE.1
                have lE : (E 1).length = 1952 := hE.len (i := 1) rfl rfl
                (repeat (first | refine pm_W.ts rfl rfl ?_ | refine pm_W.tl rfl rfl ?_))
                refine pm_W.icmp rfl (fun z => ?_) (fun _ => ?_)
                · have z : nI (ex_n ps k) ≤ nI j := z
                  rw [nI_leI (by omega) (by omega)] at z
                  omega
                · (repeat (first | refine pm_W.ts rfl rfl ?_ | refine pm_W.tl rfl rfl ?_ | refine pm_W.get rfl rfl t3 rfl ?_))
                  show pm_W xs 4 mM_extract _ _ [.int (nI f + nI j), .ref (o + 1), .int (nI 120 + nI ws.length + nI j), .ref (o + 1)] g3 Q
                  rw [nI_add, nI_add, nI_add]
                  refine mr_ld (i := 1) (k := f + j) hE rfl rfl rfl rfl (show f + j < 1952 by omega) ?_
                  rw [er3 (f + j) (by omega), c9 j (by omega)]
                  refine mr_st (i := 1) (k := 120 + ws.length + j) hE rfl rfl rfl rfl (show 120 + ws.length + j < 1952 by omega) (fun g4 hE4 a4 => ?_)
                  (iterate 1 (first | refine pm_W.ts rfl rfl ?_ | refine pm_W.tl rfl rfl ?_))
                  refine pm_W.goto rfl ?_
                  rw [fr_inc]
                  refine ih2 (j + 1) g4 _ (by omega) hE4 (fun t ht => by rw [fr_up_n ht]; exact er1 t ht) (fun t ht => ?_) (fun t ht => by rw [fr_up_s, fr_gn (by omega)]; exact er3 t (by omega)) (ag3.tr a4)
                  rw [fr_up_s]
                  by_cases ct : t = j
                  · rw [ct, fr_gs (by omega)]
                  · rw [fr_gn (by omega)]
                    exact er2 t (by omega)
            (iterate 2 (first | refine pm_W.ts rfl rfl ?_ | refine pm_W.tl rfl rfl ?_))
            refine pm_W.ifz rfl (fun _ => ?_) (fun z => absurd (nI_pos' (by omega)) z)
            (repeat (first | refine pm_W.ts rfl rfl ?_ | refine pm_W.tl rfl rfl ?_ | refine pm_W.get rfl rfl t2 rfl ?_))
            show pm_W xs 4 mM_extract _ _ [.int (nI 16 * (nI 1 + nI i) + nI k), .ref (o + 9)] g2 Q
            rw [nI_add, fr_mul, nI_add]
            refine mr_ld (i := 9) (k := 16 * (1 + i) + k) hC rfl rfl rfl rfl (show 16 * (1 + i) + k < 112 by omega) ?_
            rw [hmC]
            (iterate 3 (first | refine pm_W.ts rfl rfl ?_ | refine pm_W.tl rfl rfl ?_))
            exact copy (ex_n ps k) 0 g2 C (by omega) hC (fun _ _ => rfl) (fun t ht => absurd ht (Nat.not_lt_zero _)) (fun _ _ => rfl) (hag.tr a2)
          · rw [eo] at hgo
            have hgo : (some k, ca', [], ta2) = fin := hgo
            rw [← hgo] at kk
            (iterate 2 (first | refine pm_W.ts rfl rfl ?_ | refine pm_W.tl rfl rfl ?_))
            refine pm_W.ifz rfl (fun z => absurd (show (0 : Int32) ≤ -1 from z) (by decide)) (fun _ => ?_)
            (repeat (first | refine pm_W.ts rfl rfl ?_ | refine pm_W.tl rfl rfl ?_))
            refine pm_W.iret rfl rfl (kk g2 B K hC hkc (by rw [c2 6 (by omega)]; exact h6') l6' ⟨by rw [c2 1 (by omega)]; exact hJ1, Nat.zero_le _, fun t ht => absurd ht (Nat.not_lt_zero _)⟩ c1 (fun j a b => by rw [c2 j (by omega)]; exact hJ j a b) hme (hag.tr a2))
    (iterate 2 (first | refine pm_W.ts rfl rfl ?_ | refine pm_W.tl rfl rfl ?_))
    refine mr_pt 7 hb rfl rfl rfl rfl (Or.inl rfl) (fun y1 hy1 b1 => ?_)
    (iterate 2 (first | refine pm_W.ts rfl rfl ?_ | refine pm_W.tl rfl rfl ?_))
    refine mr_pt 8 hy1 rfl rfl rfl rfl (Or.inl rfl) (fun y2 hy2 b2 => ?_)
    (iterate 2 (first | refine pm_W.ts rfl rfl ?_ | refine pm_W.tl rfl rfl ?_))
    refine mr_pt 9 hy2 rfl rfl rfl rfl (Or.inl rfl) (fun y3 hy3 b3 => ?_)
    (iterate 2 (first | refine pm_W.ts rfl rfl ?_ | refine pm_W.tl rfl rfl ?_))
    refine mr_pt 10 hy3 rfl rfl rfl rfl (Or.inl rfl) (fun y4 hy4 b4 => ?_)
    (iterate 2 (first | refine pm_W.ts rfl rfl ?_ | refine pm_W.tl rfl rfl ?_))
    refine mr_pt 1 hy4 rfl rfl rfl rfl (Or.inl rfl) (fun y5 hy5 b5 => ?_)
    (iterate 4 (first | refine pm_W.ts rfl rfl ?_ | refine pm_W.tl rfl rfl ?_))
    refine loop ps.length 0 ca [] [0, 0, 0, 0] _ _ _ y5 A _ (by omega) hfin rfl hy5 hca ?_ l6 fr_up_s (fun t ht => absurd ht (Nat.not_lt_zero _)) (fun t ht => ?_) rfl (fun j a b => ?_) ⟨fun _ _ _ _ => rfl, fun _ _ _ _ => rfl, fun _ _ _ => rfl⟩ ((((b1.tr b2).tr b3).tr b4).tr b5)
    · rw [fr_up_n (by omega), fr_up_n (by omega), fr_up_n (by omega), fr_up_n (by omega), fr_up_n (by omega)]
      exact h6
    · match t, ht with
      | 0, _ => rfl
      | 1, _ => rfl
      | 2, _ => rfl
      | 3, _ => rfl
      | m + 4, ht => omega
    · rw [fr_up_n b, fr_up_n (by omega), fr_up_n (by omega), fr_up_n (by omega), fr_up_n (by omega)]
  · refine pm_W.ifz rfl (fun z => absurd rfl z) (fun _ => ?_)
    (iterate 1 (first | refine pm_W.ts rfl rfl ?_ | refine pm_W.tl rfl rfl ?_))
    exact pm_W.iret rfl rfl (k0 hn)
end MEXTR
