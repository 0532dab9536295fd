section MSEED
variable {xs : List Int32} {h : pm_H} {o : Nat} {A : Nat → List Int32} {I : Nat → Int32} {T : te_T} {z : cz_N} {sd : Nat → List Int32 × dp_P} {Q : Option Value → pm_H → Prop}
theorem fr_take1 {l : List Int32} {n : Nat} (hn : n < l.length) : l.take (n + 1) = l.take n ++ [l.getD n 0] := by
  rw [List.take_succ, List.getElem?_eq_getElem hn, List.getD_eq_getElem?_getD, List.getElem?_eq_getElem hn]
  rfl
theorem mI_0 {y : Int32} (hI : mI I z) : mI (fr_up I 0 y) z := ⟨by rw [fr_up_n (by omega)]; exact hI.1, by rw [fr_up_n (by omega)]; exact hI.2.1, by rw [fr_up_n (by omega)]; exact hI.2.2⟩
theorem ct_M_seed {x : Int32} (hb : mr_R h o A I) (hm : mt A 0 T) (hV : tV T) (hI : mI I z) (hz : cz_ok z) (hse : mse A sd)
    (k1 : ∀ i : Nat, i < 2 → x = nI i → ∀ (g : pm_H) (B : Nat → List Int32) (y : Int32), mr_R g o B (fr_up I 0 y) → mse B (fr_up sd i (em_out T, dp_cut z (em_out T))) → (∀ j, j ≠ 1 → j ≠ 2 → j ≠ 7 → j ≠ 8 → j ≠ 9 → j ≠ 10 → B j = A j) → (∀ l ps, l ≤ 4 → ml A l ps → ml B l ps) → (∀ l, l ≤ 4 → (B 7).getD l 0 = (A 7).getD l 0) → (∀ j, (120 ≤ j ∧ j < 240) ∨ 480 ≤ j → (B 1).getD j 0 = (A 1).getD j 0) → fr_ag o (o + 15) h g → Q (some (.int 1)) g)
    (k0 : (∀ i : Nat, i < 2 → x ≠ nI i) → Q (some (.int 0)) h) : pm_X xs 4 mM_seed [.ref o, .int x] h Q := by
  have h1 := hb.1
  have go : ∀ i : Nat, i < 2 → x = nI i → pm_W xs 4 mM_seed 11 [.ref o, .int (nI i), pm_none] [] h Q := by
    intro i hi hx
    (repeat (first | refine pm_W.ts rfl rfl ?_ | refine pm_W.tl rfl rfl ?_))
    refine pm_W.callV (d' := 3) (as := [.int (nI 0)]) rfl rfl rfl rfl (fr_ble rfl) h1 (fr_ble rfl) (ct_M_emit hb hm hV (by omega) (fun g1 B1 hB1 hS1 hr1 hq1 hl a1 => ?_))
    have loop : ∀ (r k : Nat) (g : pm_H) (B : Nat → List Int32), k + r = (em_out T).length → mr_R g o B (fr_up I 0 (nI (em_out T).length)) → mb B 0 (em_out T) → mb B (240 + 120 * i) ((em_out T).take k) → (∀ j, j ≠ 1 → B j = A j) → (∀ j, 120 ≤ j → j < 240 + 120 * i ∨ 240 + 120 * i + 120 ≤ j → (B 1).getD j 0 = (A 1).getD j 0) → fr_ag o (o + 15) h g → pm_W xs 4 mM_seed 18 [.ref o, .int (nI i), .int (nI k)] [] g Q := by
      intro r
      induction r with
      | zero =>
        intro k g B hk hB hS hS2 hr hq hag
        have t1 := hB.1
        have ek : k = (em_out T).length := by omega
        (repeat (first | refine pm_W.ts rfl rfl ?_ | refine pm_W.tl rfl rfl ?_ | refine pm_W.get rfl rfl t1 rfl ?_))
        refine pm_W.icmp rfl (fun _ => ?_) (fun y => ?_)
        · (repeat (first | refine pm_W.ts rfl rfl ?_ | refine pm_W.tl rfl rfl ?_ | refine pm_W.get rfl rfl t1 rfl ?_))
          show pm_W xs 4 mM_seed _ _ [.int (nI (em_out T).length), .int (nI i), .ref (o + 2)] g Q
          refine mr_st (i := 2) (k := i) hB rfl rfl rfl rfl (show i < 2 by omega) (fun g2 hB2 a2 => ?_)
          have hA2l : (B 2).length = 2 := hB.len rfl rfl
          generalize hBe : fr_up B 2 ((B 2).set i (nI (em_out T).length)) = B2 at hB2
          have r2 : ∀ j, j ≠ 2 → B2 j = B j := fun j hj => by rw [← hBe, fr_up_n hj]
          have e2 : B2 2 = (B 2).set i (nI (em_out T).length) := by rw [← hBe, fr_up_s]
          have hS3 : mb B2 (240 + 120 * i) (em_out T) := by
            rw [ek, List.take_length] at hS2
            unfold mb
            rw [r2 1 (by omega)]
            exact hS2
          have t2 := hB2.1
          (repeat (first | refine pm_W.ts rfl rfl ?_ | refine pm_W.tl rfl rfl ?_ | refine pm_W.get rfl rfl t2 rfl ?_))
          show pm_W xs 4 mM_seed _ _ [.int (nI 5 + nI i), .int (nI (em_out T).length), .int (nI 240 + nI 120 * nI i), .ref o] g2 Q
          rw [nI_add, fr_mul, nI_add]
          refine pm_W.callV (d' := 2) (as := [.int (nI (240 + 120 * i)), .int (nI (em_out T).length), .int (nI (5 + i))]) rfl rfl rfl rfl (fr_ble rfl) t2 (fr_ble rfl) (ct_M_cut hB2 (mI_0 hI) hz hS3 hl (by omega) (by omega) (fun g3 B3 hB3 c1 c2 c3 a3 => ?_))
          (iterate 1 (first | refine pm_W.ts rfl rfl ?_ | refine pm_W.tl rfl rfl ?_))
          refine pm_W.iret rfl rfl (k1 i hi hx g3 B3 _ hB3 ?_ (fun j n1 n2 n7 n8 n9 n10 => ?_) (fun l ps hl4 q => ?_) (fun l hl4 => ?_) (fun j hj => ?_) ((hag.tr a2).tr a3))
          · intro s hs
            by_cases cs : s = i
            · subst cs
              rw [fr_up_s]
              refine ⟨?_, hl, ?_, c1⟩
              · rw [mc_row c2 (by omega), e2, fr_gs (by omega)]
              · unfold mb
                rw [mc_row c2 (by omega)]
                exact hS3
            · rw [fr_up_n cs]
              obtain ⟨p1, p2, p3, p4⟩ := hse s hs
              refine ⟨?_, p2, ?_, ?_⟩
              · rw [mc_row c2 (by omega), e2, fr_gn (fun z => cs z.symm), hr 2 (by omega)]
                exact p1
              · intro t ht
                rw [mc_row c2 (by omega), r2 1 (by omega), hq _ (by omega) (by omega)]
                exact p3 t ht
              · refine mc_ml c2 c3 (by omega) ?_
                unfold ml mlp at p4 ⊢
                rw [r2 7 (by omega), r2 8 (by omega), r2 9 (by omega), r2 10 (by omega), hr 7 (by omega), hr 8 (by omega), hr 9 (by omega), hr 10 (by omega)]
                exact p4
          · rw [mc_row c2 (by omega), r2 j n2, hr j n1]
          · refine mc_ml c2 c3 (by omega) ?_
            unfold ml mlp at q ⊢
            rw [r2 7 (by omega), r2 8 (by omega), r2 9 (by omega), r2 10 (by omega), hr 7 (by omega), hr 8 (by omega), hr 9 (by omega), hr 10 (by omega)]
            exact q
          · rw [c3 l (by omega), r2 7 (by omega), hr 7 (by omega)]
          · rw [mc_row c2 (by omega), r2 1 (by omega), hq j (by omega) (by omega)]
        · have y : ¬ nI (em_out T).length ≤ nI k := y
          rw [nI_leI (by omega) (by omega)] at y
          omega
      | succ r ih =>
        intro k g B hk hB hS hS2 hr hq hag
        have t1 := hB.1
        have hBl : (B 1).length = 1952 := hB.len rfl rfl
        (repeat (first | refine pm_W.ts rfl rfl ?_ | refine pm_W.tl rfl rfl ?_ | refine pm_W.get rfl rfl t1 rfl ?_))
        refine pm_W.icmp rfl (fun y => ?_) (fun _ => ?_)
        · have y : nI (em_out T).length ≤ nI k := y
          rw [nI_leI (by omega) (by omega)] at y
          omega
        · (repeat (first | refine pm_W.ts rfl rfl ?_ | refine pm_W.tl rfl rfl ?_ | refine pm_W.get rfl rfl t1 rfl ?_))
          show pm_W xs 4 mM_seed _ _ [.int (nI k), .ref (o + 1), .int (nI 240 + nI 120 * nI i + nI k), .ref (o + 1)] g Q
          rw [fr_mul, nI_add, nI_add]
          refine mr_ld (i := 1) (k := k) hB rfl rfl rfl rfl (show k < 1952 by omega) ?_
          have e0 := hS k (by omega)
          rw [Nat.zero_add] at e0
          rw [e0]
          refine mr_st (i := 1) (k := 240 + 120 * i + k) hB rfl rfl rfl rfl (show 240 + 120 * i + k < 1952 by omega) (fun g2 hB2 a2 => ?_)
          (iterate 1 (first | refine pm_W.ts rfl rfl ?_ | refine pm_W.tl rfl rfl ?_))
          refine pm_W.goto rfl ?_
          rw [fr_inc]
          refine ih (k + 1) g2 _ (by omega) hB2 (fun t ht => ?_) ?_ (fun j hj => by rw [fr_up_n hj]; exact hr j hj) (fun j hj1 hj2 => by rw [fr_up_s, fr_gn (by omega)]; exact hq j hj1 hj2) (hag.tr a2)
          · rw [fr_up_s, fr_gn (by omega)]
            exact hS t ht
          · have tl : ((em_out T).take k).length = k := by rw [List.length_take]; omega
            rw [fr_take1 (by omega)]
            exact mb_app hS2 (by rw [tl]; omega) (by rw [fr_up_s, tl])
    (iterate 2 (first | refine pm_W.ts rfl rfl ?_ | refine pm_W.tl rfl rfl ?_))
    exact loop (em_out T).length 0 g1 B1 (by omega) hB1 hS1 (fun k hk => absurd hk (Nat.not_lt_zero _)) hr1 (fun j hj _ => hq1 j hj) a1
  unfold pm_X
  (iterate 1 (first | refine pm_W.ts rfl rfl ?_ | refine pm_W.tl rfl rfl ?_))
  refine pm_W.ifz rfl (fun c => ?_) (fun c => ?_)
  · have c : x = nI 0 := c
    have := go 0 (by omega) c
    rw [← c] at this
    exact this
  · have c : ¬ x = nI 0 := c
    (repeat (first | refine pm_W.ts rfl rfl ?_ | refine pm_W.tl rfl rfl ?_))
    refine pm_W.icmp rfl (fun d => ?_) (fun d => ?_)
    · have d : x = nI 1 := d
      have := go 1 (by omega) d
      rw [← d] at this
      exact this
    · have d : ¬ x = nI 1 := d
      (iterate 1 (first | refine pm_W.ts rfl rfl ?_ | refine pm_W.tl rfl rfl ?_))
      refine pm_W.iret rfl rfl (k0 (fun i hi => ?_))
      match i, hi with
      | 0, _ => exact c
      | 1, _ => exact d
      | m + 2, hi => omega
end MSEED
