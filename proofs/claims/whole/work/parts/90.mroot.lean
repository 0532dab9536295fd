section MROOT
variable {xs : List Int32} {h : pm_H} {o : Nat} {A : Nat → List Int32} {I : Nat → Int32} {im : Nat → dp_P} {Q : Option Value → pm_H → Prop}
theorem ct_M_root {x : Int32} (hb : mr_R h o A I) (hm : mi A im) (k1 : ∀ i : Nat, i < 4 → x = nI i → im i ≠ [] → ∀ (g : pm_H) (B : Nat → List Int32), mr_R g o B I → (∀ j, j ≠ 12 → B j = A j) → fr_ag o (o + 15) h g → Q (some (.int (rt_root 15 ((im i).map (fun q => q.2))))) g) (k0 : (∀ i : Nat, i < 4 → x = nI i → im i = []) → Q (some (.int 0)) h) : pm_X xs 1 mM_root [.ref o, .int x] h Q := by
  have h1 := hb.1
  unfold pm_X
  (iterate 2 (first | refine pm_W.ts rfl rfl ?_ | refine pm_W.tl rfl rfl ?_))
  refine pm_W.callV (d' := 0) (as := [.int x]) rfl rfl rfl rfl (fr_ble rfl) h1 (fr_ble rfl) (ct_M_there hb hm (fun i hi hx hne => ?_) (fun hn => ?_))
  · refine pm_W.ifz rfl (fun _ => ?_) (fun z => absurd (show ¬ (1 : Int32) = 0 by decide) z)
    subst hx
    obtain ⟨g1, g2, cnt, g3, g4⟩ := hm i hi
    obtain ⟨l1, l2, l3⟩ := g2 hne
    have hpos : 0 < (im i).length := List.length_pos_iff.mpr hne
    have outer : ∀ (f : Nat) (l : List Int32) (g : pm_H) (B : Nat → List Int32) (v3 v4 v5 : Value), l.length ≤ f + 1 → 0 < l.length → l.length ≤ 15 → mr_R g o B I → (∀ j, j ≠ 12 → B j = A j) → fr_ag o (o + 15) h g → (∀ t, t < l.length → (B 12).getD t 0 = l.getD t 0) → rt_root f l = rt_root 15 ((im i).map (fun q => q.2)) → pm_W xs 1 mM_root 51 [.ref o, .int (nI i), .int (nI l.length), v3, v4, v5] [] g Q := by
      intro f
      induction f with
      | zero =>
        intro l g B v3 v4 v5 hf h0 hl hB hr hag hs he
        have t1 := hB.1
        (repeat (first | refine pm_W.ts rfl rfl ?_ | refine pm_W.tl rfl rfl ?_))
        refine pm_W.icmp rfl (fun c => ?_) (fun c => ?_)
        · (repeat (first | refine pm_W.ts rfl rfl ?_ | refine pm_W.tl rfl rfl ?_ | refine pm_W.get rfl rfl t1 rfl ?_))
          refine mr_ld (i := 12) (k := 0) hB rfl rfl rfl rfl (show 0 < 16 by omega) ?_
          refine pm_W.iret rfl rfl ?_
          rw [hs 0 h0, show l.getD 0 0 = rt_root 0 l from rfl, he]
          exact k1 i hi rfl hne g B hB hr hag
        · have c : ¬ nI l.length ≤ nI 1 := c
          rw [nI_leI (by omega) (by omega)] at c
          omega
      | succ f ih =>
        intro l g B v3 v4 v5 hf h0 hl hB hr hag hs he
        have t1 := hB.1
        have inner : ∀ (r j : Nat) (g : pm_H) (B : Nat → List Int32) (v4 v5 : Value), 2 * j + r = l.length + 1 → 1 < l.length → mr_R g o B I → (∀ j, j ≠ 12 → B j = A j) → fr_ag o (o + 15) h g → rt_S l (B 12) j → pm_W xs 1 mM_root 58 [.ref o, .int (nI i), .int (nI l.length), .int (nI (2 * j)), v4, v5] [] g Q := by
          intro r
          induction r using Nat.strongRecOn with
          | ind r ih2 =>
            intro j g B v4 v5 hj hl1 hB hr hag hS
            have t1 := hB.1
            have e3 : nI (2 * j) + Int32.ofInt 2 = nI (2 * (j + 1)) := nI_add (2 * j) 2
            have e2 : nI (2 * j) + Int32.ofInt 1 = nI (2 * j + 1) := fr_inc _
            have e1 : nI (2 * j) / Int32.ofInt 2 = nI j := by
              have := fr_div (a := 2 * j) (b := 2) (by omega) (by omega)
              rw [show 2 * j / 2 = j by omega] at this
              exact this
            have hlen : (B 12).length = 16 := hB.len rfl rfl
            (repeat (first | refine pm_W.ts rfl rfl ?_ | refine pm_W.tl rfl rfl ?_))
            refine pm_W.icmp rfl (fun c => ?_) (fun c => ?_)
            · have c : nI l.length ≤ nI (2 * j) := c
              rw [nI_leI (by omega) (by omega)] at c
              have e5 : nI l.length + Int32.ofInt 1 = nI (l.length + 1) := fr_inc _
              have e4 : nI (l.length + 1) / Int32.ofInt 2 = nI (rt_up l).length := by
                rw [rt_up_len]
                exact fr_div (b := 2) (by omega) (by omega)
              have hlu := rt_up_len (l := l)
              (iterate 3 (first | refine pm_W.ts rfl rfl ?_ | refine pm_W.tl rfl rfl ?_))
              rw [e5]
              (iterate 1 (first | refine pm_W.ts rfl rfl ?_ | refine pm_W.tl rfl rfl ?_))
              refine pm_W.idiv rfl (by decide) ?_
              rw [e4]
              (iterate 1 (first | refine pm_W.ts rfl rfl ?_ | refine pm_W.tl rfl rfl ?_))
              refine pm_W.goto rfl ?_
              refine ih (rt_up l) g B _ v4 v5 (by omega) (by omega) (by omega) hB hr hag (fun t ht => ?_) ?_
              · rw [rt_up_at (by omega)]
                exact hS.1 t (by omega)
              · rw [← he, show rt_root (f + 1) l = rt_root f (rt_up l) from by rw [rt_root, if_pos (by omega)]]
            · have c : ¬ nI l.length ≤ nI (2 * j) := c
              rw [nI_leI (by omega) (by omega)] at c
              have fin : ∀ (x w4 w5 : Int32), x = (if 2 * j + 1 < l.length then rt_j ((B 12).getD (2 * j) 0) ((B 12).getD (2 * j + 1) 0) else (B 12).getD (2 * j) 0) → pm_W xs 1 mM_root 125 [.ref o, .int (nI i), .int (nI l.length), .int (nI (2 * j)), .int w4, .int w5] [.int x, .int (nI j), .ref (o + 12)] g Q := by
                intro x w4 w5 hx
                refine mr_st (i := 12) hB rfl rfl rfl rfl (show j < 16 by omega) (fun g2 hC a2 => ?_)
                (iterate 1 (first | refine pm_W.ts rfl rfl ?_ | refine pm_W.tl rfl rfl ?_))
                refine pm_W.goto rfl ?_
                rw [e3]
                refine ih2 (r - 2) (by omega) (j + 1) g2 _ _ _ (by omega) hl1 hC (fun t ht => by rw [fr_up_n ht]; exact hr t ht) (hag.tr a2) ?_
                rw [fr_up_s, hx]
                exact rt_S1 hS (by omega) (by omega)
              (repeat (first | refine pm_W.ts rfl rfl ?_ | refine pm_W.tl rfl rfl ?_ | refine pm_W.get rfl rfl t1 rfl ?_))
              refine mr_ld (i := 12) (k := 2 * j) hB rfl rfl rfl rfl (show 2 * j < 16 by omega) ?_
              (repeat (first | refine pm_W.ts rfl rfl ?_ | refine pm_W.tl rfl rfl ?_))
              rw [e2]
              refine pm_W.icmp rfl (fun c2 => ?_) (fun c2 => ?_)
              · have c2 : nI l.length ≤ nI (2 * j + 1) := c2
                rw [nI_leI (by omega) (by omega)] at c2
                (iterate 6 (first | refine pm_W.ts rfl rfl ?_ | refine pm_W.tl rfl rfl ?_ | refine pm_W.get rfl rfl t1 rfl ?_))
                refine pm_W.idiv rfl (by decide) ?_
                rw [e1]
                (repeat (first | refine pm_W.ts rfl rfl ?_ | refine pm_W.tl rfl rfl ?_))
                rw [e2]
                refine pm_W.icmp rfl (fun _ => ?_) (fun c3 => ?_)
                · (iterate 1 (first | refine pm_W.ts rfl rfl ?_ | refine pm_W.tl rfl rfl ?_))
                  exact fin _ _ _ (by rw [if_neg (by omega)])
                · have c3 : ¬ nI l.length ≤ nI (2 * j + 1) := c3
                  rw [nI_leI (by omega) (by omega)] at c3
                  omega
              · have c2 : ¬ nI l.length ≤ nI (2 * j + 1) := c2
                rw [nI_leI (by omega) (by omega)] at c2
                (repeat (first | refine pm_W.ts rfl rfl ?_ | refine pm_W.tl rfl rfl ?_ | refine pm_W.get rfl rfl t1 rfl ?_))
                rw [e2]
                refine mr_ld (i := 12) (k := 2 * j + 1) hB rfl rfl rfl rfl (show 2 * j + 1 < 16 by omega) ?_
                refine pm_W.goto rfl ?_
                (iterate 5 (first | refine pm_W.ts rfl rfl ?_ | refine pm_W.tl rfl rfl ?_ | refine pm_W.get rfl rfl t1 rfl ?_))
                refine pm_W.idiv rfl (by decide) ?_
                rw [e1]
                (repeat (first | refine pm_W.ts rfl rfl ?_ | refine pm_W.tl rfl rfl ?_))
                rw [e2]
                refine pm_W.icmp rfl (fun c3 => ?_) (fun _ => ?_)
                · have c3 : nI l.length ≤ nI (2 * j + 1) := c3
                  rw [nI_leI (by omega) (by omega)] at c3
                  omega
                · (repeat (first | refine pm_W.ts rfl rfl ?_ | refine pm_W.tl rfl rfl ?_))
                  refine pm_W.goto rfl ?_
                  exact fin _ _ _ (by rw [if_pos (by omega)]; rfl)
        (repeat (first | refine pm_W.ts rfl rfl ?_ | refine pm_W.tl rfl rfl ?_))
        refine pm_W.icmp rfl (fun c => ?_) (fun c => ?_)
        · have c : nI l.length ≤ nI 1 := c
          rw [nI_leI (by omega) (by omega)] at c
          (repeat (first | refine pm_W.ts rfl rfl ?_ | refine pm_W.tl rfl rfl ?_ | refine pm_W.get rfl rfl t1 rfl ?_))
          refine mr_ld (i := 12) (k := 0) hB rfl rfl rfl rfl (show 0 < 16 by omega) ?_
          refine pm_W.iret rfl rfl ?_
          rw [hs 0 h0, show l.getD 0 0 = rt_root (f + 1) l from by rw [rt_root, if_neg (by omega)], he]
          exact k1 i hi rfl hne g B hB hr hag
        · have c : ¬ nI l.length ≤ nI 1 := c
          rw [nI_leI (by omega) (by omega)] at c
          (iterate 2 (first | refine pm_W.ts rfl rfl ?_ | refine pm_W.tl rfl rfl ?_))
          exact inner (l.length + 1) 0 g B v4 v5 (by omega) (by omega) hB hr hag (rt_S0 hs)
    have copy : ∀ (r k : Nat) (g : pm_H) (B : Nat → List Int32), k + r = (im i).length → mr_R g o B I → (∀ j, j ≠ 12 → B j = A j) → fr_ag o (o + 15) h g → (∀ t, t < k → (B 12).getD t 0 = pl_i (im i) t) → pm_W xs 1 mM_root 21 [.ref o, .int (nI i), .int (nI (im i).length), .int (nI k), pm_none, pm_none] [] g Q := by
      intro r
      induction r with
      | zero =>
        intro k g B hk hB hr hag hs
        (repeat (first | refine pm_W.ts rfl rfl ?_ | refine pm_W.tl rfl rfl ?_))
        refine pm_W.icmp rfl (fun _ => ?_) (fun z => ?_)
        · have el : ((im i).map (fun q => q.2)).length = (im i).length := List.length_map _
          rw [← el]
          refine outer 15 ((im i).map (fun q => q.2)) g B _ _ _ (by omega) (by omega) (by omega) hB hr hag (fun t ht => ?_) rfl
          rw [hs t (by omega)]
          rw [el] at ht
          simp [pl_i, ht]
        · have z : ¬ nI (im i).length ≤ nI k := z
          rw [nI_leI (by omega) (by omega)] at z
          omega
      | succ r ih =>
        intro k g B hk hB hr hag hs
        have t1 := hB.1
        have hlen : (B 12).length = 16 := hB.len rfl rfl
        have ex : nI 16 * (nI 1 + nI i) + nI k = nI (16 * (1 + i) + k) := by rw [nI_add, fr_mul, nI_add]
        (repeat (first | refine pm_W.ts rfl rfl ?_ | refine pm_W.tl rfl rfl ?_))
        refine pm_W.icmp rfl (fun z => ?_) (fun _ => ?_)
        · have z : nI (im i).length ≤ nI k := z
          rw [nI_leI (by omega) (by omega)] at z
          omega
        · (repeat (first | refine pm_W.ts rfl rfl ?_ | refine pm_W.tl rfl rfl ?_ | refine pm_W.get rfl rfl t1 rfl ?_))
          show pm_W xs 1 mM_root _ _ [.int (nI 16 * (nI 1 + nI i) + nI k), .ref (o + 10), .int (nI k), .ref (o + 12)] g Q
          rw [ex]
          refine mr_ld (i := 10) hB rfl rfl rfl rfl (show 16 * (1 + i) + k < 112 by omega) ?_
          rw [hr 10 (by omega), (l3 k (by omega)).2.2]
          refine mr_st (i := 12) hB rfl rfl rfl rfl (show k < 16 by omega) (fun g2 hC a2 => ?_)
          (iterate 1 (first | refine pm_W.ts rfl rfl ?_ | refine pm_W.tl rfl rfl ?_))
          refine pm_W.goto rfl ?_
          rw [fr_inc]
          refine ih (k + 1) g2 _ (by omega) hC (fun t ht => by rw [fr_up_n ht]; exact hr t ht) (hag.tr a2) (fun t ht => ?_)
          rw [fr_up_s, fr_getD_set (by omega)]
          by_cases ct : t = k
          · rw [if_pos ct, ct]
          · rw [if_neg ct]
            exact hs t (by omega)
    (repeat (first | refine pm_W.ts rfl rfl ?_ | refine pm_W.tl rfl rfl ?_ | refine pm_W.get rfl rfl h1 rfl ?_))
    rw [show Int32.ofInt 1 + nI i = nI (1 + i) from nI_add 1 i]
    refine mr_ld (i := 7) hb rfl rfl rfl rfl (show 1 + i < 7 by omega) ?_
    rw [l1]
    (iterate 3 (first | refine pm_W.ts rfl rfl ?_ | refine pm_W.tl rfl rfl ?_))
    exact copy (im i).length 0 h A (by omega) hb (fun _ _ => rfl) fr_ag.rf (fun t ht => absurd ht (Nat.not_lt_zero _))
  · refine pm_W.ifz rfl (fun z => absurd rfl z) (fun _ => ?_)
    (iterate 1 (first | refine pm_W.ts rfl rfl ?_ | refine pm_W.tl rfl rfl ?_))
    exact pm_W.iret rfl rfl (k0 hn)
end MROOT
