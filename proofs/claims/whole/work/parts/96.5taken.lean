section MTAKEN
variable {xs : List Int32} {h : pm_H} {o : Nat} {A : Nat → List Int32} {I : Nat → Int32} {T : te_T} {Q : Option Value → pm_H → Prop}
def tk_R (A B : Nat → List Int32) (e j : Nat) : Prop := (∀ i, i ≠ 3 → i ≠ 4 → i ≠ 5 → i ≠ 6 → B i = A i) ∧ (∀ r t, 3 ≤ r → r ≤ 5 → t < e → (B r).getD t 0 = (A r).getD (10 + t) 0) ∧ (∀ r t, 3 ≤ r → r ≤ 5 → 10 ≤ t → (B r).getD t 0 = (A r).getD t 0) ∧ (∀ t, t < j → (B 6).getD t 0 = (A 6).getD (160 + t) 0) ∧ ∀ t, 160 ≤ t → (B 6).getD t 0 = (A 6).getD t 0
theorem ct_M_taken {c : Int32} (hb : mr_R h o A I) (hm : mt A 10 T) (hV : tV T) (k : ∀ (g : pm_H) (B : Nat → List Int32), mr_R g o B I → mt B 0 T → (∀ i, i ≠ 3 → i ≠ 4 → i ≠ 5 → i ≠ 6 → B i = A i) → fr_ag o (o + 15) h g → Q (some (.int c)) g) : pm_X xs 0 mM_taken [.ref o, .int c] h Q := by
  have loop : ∀ (r e : Nat) (v3 : Value) (g : pm_H) (B : Nat → List Int32), e + r = 10 → mr_R g o B I → tk_R A B e (16 * e) → fr_ag o (o + 15) h g → pm_W xs 0 mM_taken 2 [.ref o, .int c, .int (nI e), v3] [] g Q := by
    intro r
    induction r with
    | zero =>
      intro e v3 g B he hB hR hag
      have e10 : e = 10 := by omega
      subst e10
      obtain ⟨b1, b2, b3, b4, b5⟩ := hR
      (repeat (first | refine pm_W.ts rfl rfl ?_ | refine pm_W.tl rfl rfl ?_))
      refine pm_W.icmp rfl (fun _ => ?_) (fun z => ?_)
      · (iterate 1 (first | refine pm_W.ts rfl rfl ?_ | refine pm_W.tl rfl rfl ?_))
        refine pm_W.iret rfl rfl (k g B hB (fun e he => ?_) b1 hag)
        obtain ⟨m3, m4⟩ := hm e he
        rw [show 0 + e = e by omega, b2 3 e (by omega) (by omega) he]
        refine ⟨m3, fun h0 => ?_⟩
        obtain ⟨q4, q5, q6⟩ := m4 h0
        have l16 := (hV.1 e he h0).2.2.1
        rw [b2 4 e (by omega) (by omega) he, b2 5 e (by omega) (by omega) he]
        refine ⟨q4, q5, fun t ht => ?_⟩
        rw [b4 _ (by omega), show 160 + (16 * e + t) = 16 * (10 + e) + t by omega]
        exact q6 t ht
      · have z : ¬ nI 10 ≤ nI 10 := z
        rw [nI_leI (by omega) (by omega)] at z
        omega
    | succ r ih =>
      intro e v3 g B he hB hR hag
      obtain ⟨b1, b2, b3, b4, b5⟩ := hR
      have t1 := hB.1
      have m3 : (B 3).length = 20 := hB.len (i := 3) rfl rfl
      have m4 : (B 4).length = 20 := hB.len (i := 4) rfl rfl
      have m5 : (B 5).length = 20 := hB.len (i := 5) rfl rfl
      (repeat (first | refine pm_W.ts rfl rfl ?_ | refine pm_W.tl rfl rfl ?_))
      refine pm_W.icmp rfl (fun z => ?_) (fun _ => ?_)
      · have z : nI 10 ≤ nI e := z
        rw [nI_leI (by omega) (by omega)] at z
        omega
      · (repeat (first | refine pm_W.ts rfl rfl ?_ | refine pm_W.tl rfl rfl ?_ | refine pm_W.get rfl rfl t1 rfl ?_))
        show pm_W xs 0 mM_taken _ _ [.int (nI 10 + nI e), .ref (o + 3), .int (nI e), .ref (o + 3)] g Q
        rw [nI_add]
        refine mr_ld (i := 3) (k := 10 + e) hB rfl rfl rfl rfl (show 10 + e < 20 by omega) ?_
        refine mr_st (i := 3) (k := e) hB rfl rfl rfl rfl (show e < 20 by omega) (fun g1 hB1 a1 => ?_)
        have t2 := hB1.1
        (repeat (first | refine pm_W.ts rfl rfl ?_ | refine pm_W.tl rfl rfl ?_ | refine pm_W.get rfl rfl t2 rfl ?_))
        show pm_W xs 0 mM_taken _ _ [.int (nI 10 + nI e), .ref (o + 4), .int (nI e), .ref (o + 4)] g1 Q
        rw [nI_add]
        refine mr_ld (i := 4) (k := 10 + e) hB1 rfl rfl rfl rfl (show 10 + e < 20 by omega) ?_
        refine mr_st (i := 4) (k := e) hB1 rfl rfl rfl rfl (show e < 20 by omega) (fun g2 hB2 a2 => ?_)
        rw [fr_up_n (show 4 ≠ 3 by omega)] at hB2
        have t3 := hB2.1
        (repeat (first | refine pm_W.ts rfl rfl ?_ | refine pm_W.tl rfl rfl ?_ | refine pm_W.get rfl rfl t3 rfl ?_))
        show pm_W xs 0 mM_taken _ _ [.int (nI 10 + nI e), .ref (o + 5), .int (nI e), .ref (o + 5)] g2 Q
        rw [nI_add]
        refine mr_ld (i := 5) (k := 10 + e) hB2 rfl rfl rfl rfl (show 10 + e < 20 by omega) ?_
        refine mr_st (i := 5) (k := e) hB2 rfl rfl rfl rfl (show e < 20 by omega) (fun g3 hB3 a3 => ?_)
        rw [fr_up_n (show 5 ≠ 4 by omega), fr_up_n (show 5 ≠ 3 by omega)] at hB3
        have c3 : fr_up (fr_up (fr_up B 3 ((B 3).set e ((B 3).getD (10 + e) 0))) 4 ((B 4).set e ((B 4).getD (10 + e) 0))) 5 ((B 5).set e ((B 5).getD (10 + e) 0)) 3 = (B 3).set e ((B 3).getD (10 + e) 0) := by rw [fr_up_n (by omega), fr_up_n (by omega), fr_up_s]
        have c4 : fr_up (fr_up (fr_up B 3 ((B 3).set e ((B 3).getD (10 + e) 0))) 4 ((B 4).set e ((B 4).getD (10 + e) 0))) 5 ((B 5).set e ((B 5).getD (10 + e) 0)) 4 = (B 4).set e ((B 4).getD (10 + e) 0) := by rw [fr_up_n (by omega), fr_up_s]
        have c5 : fr_up (fr_up (fr_up B 3 ((B 3).set e ((B 3).getD (10 + e) 0))) 4 ((B 4).set e ((B 4).getD (10 + e) 0))) 5 ((B 5).set e ((B 5).getD (10 + e) 0)) 5 = (B 5).set e ((B 5).getD (10 + e) 0) := by rw [fr_up_s]
        have co : ∀ j, j ≠ 3 → j ≠ 4 → j ≠ 5 → fr_up (fr_up (fr_up B 3 ((B 3).set e ((B 3).getD (10 + e) 0))) 4 ((B 4).set e ((B 4).getD (10 + e) 0))) 5 ((B 5).set e ((B 5).getD (10 + e) 0)) j = B j := fun j n3 n4 n5 => by rw [fr_up_n n5, fr_up_n n4, fr_up_n n3]
        generalize fr_up (fr_up (fr_up B 3 ((B 3).set e ((B 3).getD (10 + e) 0))) 4 ((B 4).set e ((B 4).getD (10 + e) 0))) 5 ((B 5).set e ((B 5).getD (10 + e) 0)) = C at hB3 c3 c4 c5 co
        have hC : tk_R A C (e + 1) (16 * e) := by
          refine ⟨fun i n3 n4 n5 n6 => by rw [co i n3 n4 n5, b1 i n3 n4 n5 n6], fun r t r1 r2 ht => ?_, fun r t r1 r2 ht => ?_, fun t ht => by rw [co 6 (by omega) (by omega) (by omega)]; exact b4 t ht, fun t ht => by rw [co 6 (by omega) (by omega) (by omega)]; exact b5 t ht⟩
          · have hr : r = 3 ∨ r = 4 ∨ r = 5 := by omega
            by_cases ct : t = e
            · subst ct
              rcases hr with q | q | q
              · rw [q, c3, fr_gs (by omega)]; exact b3 3 _ (by omega) (by omega) (by omega)
              · rw [q, c4, fr_gs (by omega)]; exact b3 4 _ (by omega) (by omega) (by omega)
              · rw [q, c5, fr_gs (by omega)]; exact b3 5 _ (by omega) (by omega) (by omega)
            · rcases hr with q | q | q
              · rw [q, c3, fr_gn (by omega)]; exact b2 3 t (by omega) (by omega) (by omega)
              · rw [q, c4, fr_gn (by omega)]; exact b2 4 t (by omega) (by omega) (by omega)
              · rw [q, c5, fr_gn (by omega)]; exact b2 5 t (by omega) (by omega) (by omega)
          · have hr : r = 3 ∨ r = 4 ∨ r = 5 := by omega
            rcases hr with q | q | q
            · rw [q, c3, fr_gn (by omega)]; exact b3 3 t (by omega) (by omega) ht
            · rw [q, c4, fr_gn (by omega)]; exact b3 4 t (by omega) (by omega) ht
            · rw [q, c5, fr_gn (by omega)]; exact b3 5 t (by omega) (by omega) ht
        have inner : ∀ (q j : Nat) (g : pm_H) (B : Nat → List Int32), j + q = 16 → mr_R g o B I → tk_R A B (e + 1) (16 * e + j) → fr_ag o (o + 15) h g → pm_W xs 0 mM_taken 55 [.ref o, .int c, .int (nI e), .int (nI j)] [] g Q := by
          intro q
          induction q with
          | zero =>
            intro j g B hj hB hR hag
            have e16 : j = 16 := by omega
            subst e16
            (repeat (first | refine pm_W.ts rfl rfl ?_ | refine pm_W.tl rfl rfl ?_))
            refine pm_W.icmp rfl (fun _ => ?_) (fun z => ?_)
            · (iterate 1 (first | refine pm_W.ts rfl rfl ?_ | refine pm_W.tl rfl rfl ?_))
              refine pm_W.goto rfl ?_
              rw [fr_inc]
              exact ih (e + 1) _ g B (by omega) hB (by rw [show 16 * (e + 1) = 16 * e + 16 by omega]; exact hR) hag
            · have z : ¬ nI 16 ≤ nI 16 := z
              rw [nI_leI (by omega) (by omega)] at z
              omega
          | succ q ih2 =>
            intro j g B hj hB hR hag
            obtain ⟨b1, b2, b3, b4, b5⟩ := hR
            have t1 := hB.1
            have m6 : (B 6).length = 320 := hB.len (i := 6) rfl rfl
            (repeat (first | refine pm_W.ts rfl rfl ?_ | refine pm_W.tl rfl rfl ?_))
            refine pm_W.icmp rfl (fun z => ?_) (fun _ => ?_)
            · have z : nI 16 ≤ nI j := z
              rw [nI_leI (by omega) (by omega)] at z
              omega
            · (repeat (first | refine pm_W.ts rfl rfl ?_ | refine pm_W.tl rfl rfl ?_ | refine pm_W.get rfl rfl t1 rfl ?_))
              show pm_W xs 0 mM_taken _ _ [.int (nI 160 + nI 16 * nI e + nI j), .ref (o + 6), .int (nI 16 * nI e + nI j), .ref (o + 6)] g Q
              rw [fr_mul, nI_add, nI_add, nI_add]
              refine mr_ld (i := 6) (k := 160 + 16 * e + j) hB rfl rfl rfl rfl (show 160 + 16 * e + j < 320 by omega) ?_
              refine mr_st (i := 6) (k := 16 * e + j) hB rfl rfl rfl rfl (show 16 * e + j < 320 by omega) (fun g2 hB2 a2 => ?_)
              (iterate 1 (first | refine pm_W.ts rfl rfl ?_ | refine pm_W.tl rfl rfl ?_))
              refine pm_W.goto rfl ?_
              rw [fr_inc]
              refine ih2 (j + 1) g2 _ (by omega) hB2 ⟨fun i n3 n4 n5 n6 => by rw [fr_up_n n6]; exact b1 i n3 n4 n5 n6, fun r t r1 r2 ht => by rw [fr_up_n (by omega)]; exact b2 r t r1 r2 ht, fun r t r1 r2 ht => by rw [fr_up_n (by omega)]; exact b3 r t r1 r2 ht, fun t ht => ?_, fun t ht => by rw [fr_up_s, fr_gn (by omega)]; exact b5 t ht⟩ (hag.tr a2)
              rw [fr_up_s]
              by_cases ct : t = 16 * e + j
              · rw [ct, fr_gs (by omega), b5 _ (by omega), Nat.add_assoc]
              · rw [fr_gn (by omega)]
                exact b4 t (by omega)
        (iterate 2 (first | refine pm_W.ts rfl rfl ?_ | refine pm_W.tl rfl rfl ?_))
        exact inner 16 0 g3 C (by omega) hB3 hC (((hag.tr a1).tr a2).tr a3)
  unfold pm_X
  (iterate 2 (first | refine pm_W.ts rfl rfl ?_ | refine pm_W.tl rfl rfl ?_))
  exact loop 10 0 _ h A (by omega) hb ⟨fun _ _ _ _ _ => rfl, fun _ t _ _ ht => absurd ht (Nat.not_lt_zero _), fun _ _ _ _ _ => rfl, fun t ht => absurd ht (Nat.not_lt_zero _), fun _ _ => rfl⟩ fr_ag.rf
end MTAKEN
